/-! the fleet at an hour; convoy: equal answers -/
theorem z_shl {m : Nat} (h : m < 2 ^ 31) : lN m <<< ((32 : Int32).toInt64 &&& 63) = lN (m * 4294967296) := by
  apply Int64.toBitVec_inj.mp
  rw [Int64.toBitVec_shiftLeft]
  have e : (((32 : Int32).toInt64 &&& 63).toBitVec).smod 64 = BitVec.ofNat 64 32 := by decide
  rw [e]
  show BitVec.ofNat 64 m <<< BitVec.ofNat 64 32 = BitVec.ofNat 64 (m * 4294967296)
  apply BitVec.eq_of_toNat_eq
  rw [BitVec.shiftLeft_eq', BitVec.toNat_shiftLeft, BitVec.toNat_ofNat, BitVec.toNat_ofNat, BitVec.toNat_ofNat, Nat.shiftLeft_eq, Nat.mod_eq_of_lt (show m < 2 ^ 64 by omega), show 2 ^ (32 % 2 ^ 64) = 4294967296 by decide]
theorem z_shr {n : Nat} (h : n < 2 ^ 63) : lN n >>> ((32 : Int32).toInt64 &&& 63) = lN (n / 4294967296) := by
  apply Int64.toInt_inj.mp
  have e : (lN n >>> ((32 : Int32).toInt64 &&& 63)).toInt = (lN n).toInt >>> 32 := by
    show ((lN n).toBitVec.sshiftRight (((32 : Int32).toInt64 &&& 63).toBitVec.smod 64).toNat).toInt = _
    rw [show (((32 : Int32).toInt64 &&& 63).toBitVec.smod 64).toNat = 32 by decide, BitVec.toInt_sshiftRight]
    rfl
  have e1 : (lN n).toInt = (n : Int) := lg_ofNat_toInt (by omega)
  have e2 : (lN (n / 4294967296)).toInt = ((n / 4294967296 : Nat) : Int) := lg_ofNat_toInt (by omega)
  rw [e, e1, e2, Int.shiftRight_eq_div_pow]
  rfl
def zpk (M W : Nat) : Int64 := lN (M * 4294967296 + W)
theorem z_hi {M W : Nat} (hM : M < 2 ^ 31) (hW : W < 2 ^ 31) : (zpk M W >>> ((32 : Int32).toInt64 &&& 63)).toInt32 = nI M := by
  unfold zpk
  rw [z_shr (by omega), lN_i, show (M * 4294967296 + W) / 4294967296 = M by omega]
theorem z_lo {M W : Nat} : (zpk M W).toInt32 = nI W := by
  unfold zpk
  rw [lN_i, ← nI_add, ← z_mul, show nI 4294967296 = 0 by decide, Int32.mul_zero, Int32.zero_add]
theorem z_pk {M W : Nat} (hM : M < 2 ^ 31) (hW : W < 2 ^ 31) : ((nI M).toInt64 <<< ((32 : Int32).toInt64 &&& 63)) + (nI W).toInt64 = zpk M W := by
  rw [nI_l hM, nI_l hW, z_shl hM, lN_add]
  rfl
theorem z_pka (M W M' W' : Nat) : zpk M W + zpk M' W' = zpk (M + M') (W + W') := by
  unfold zpk
  rw [lN_add, show M * 4294967296 + W + (M' * 4294967296 + W') = (M + M') * 4294967296 + (W + W') by omega]
def zmo1 (σ : zST) (i : Nat) : Bool := decide (zH (σ.1 2 0) (nI i) ∧ σ.1 3 i = 0)
def zml (σ : zST) : Nat → List Nat
  | 0 => []
  | i + 1 => zml σ i ++ (if zmo1 σ i = true then [i] else [])
theorem zml_lt {σ : zST} : ∀ i, (zml σ i).length ≤ i ∧ ∀ a, a ∈ zml σ i → a < i := by
  intro i
  induction i with
  | zero => exact ⟨Nat.le_refl _, fun a h => by simp [zml] at h⟩
  | succ i ih =>
    unfold zml
    refine ⟨?_, fun a h => ?_⟩
    · rw [List.length_append]
      split
      · show _ + 1 ≤ _; omega
      · show _ + 0 ≤ _; omega
    · rcases List.mem_append.mp h with q | q
      · have := ih.2 a q
        omega
      · split at q
        · rw [List.mem_singleton] at q; omega
        · simp at q
/-- what ship a gives by side s at the hour: mean, worst -/
def zvm (σ : zST) (hr : Int32) (a s : Nat) : Nat := (qM σ 2 a (nI s) hr).toNatClampNeg
def zvx (σ : zST) (hr : Int32) (a s : Nat) : Nat := (qX σ 2 a (nI s) hr).toNatClampNeg
section S
variable {σ σ0 : zST} {P : Int32 → Prop} {Q : zST → Prop} {R : Int32 → zST → Prop} {a1 a2 a3 hr : Int32} {a : Nat} {v : Int32} {l : List Nat}
theorem zcl_n {x : Int32} {m : Nat} (h0 : 0 ≤ x.toInt) (h1 : x.toInt ≤ m) : x = nI x.toNatClampNeg ∧ x.toNatClampNeg ≤ m := by
  obtain ⟨n, hn, rfl, -⟩ := zN (h := m) h0 h1
  have := (fb_rng (nI n)).2
  rcases Nat.lt_or_ge n (2 ^ 31) with q | q
  · rw [nI_clamp q]
    exact ⟨rfl, hn⟩
  · have e := (zN (x := nI n) (h := m) h0 h1)
    obtain ⟨k, hk, e1, e2⟩ := e
    have hk31 : k < 2 ^ 31 := by omega
    rw [e1, nI_clamp hk31]
    exact ⟨rfl, hk⟩
theorem zv_b (hI : IB σ) (h0 : 0 ≤ hr.toInt) {s : Nat} (ha : a < 6) : (qM σ 2 a (nI s) hr = nI (zvm σ hr a s) ∧ zvm σ hr a s ≤ 360000) ∧ qX σ 2 a (nI s) hr = nI (zvx σ hr a s) ∧ zvx σ hr a s ≤ 36000 := by
  have b1 := qM_b (sd := nI s) hI ha h0
  have b2 := qX_b (sd := nI s) (hr := hr) hI ha
  exact ⟨zcl_n b1.1 (by omega), zcl_n b2.1 (by omega)⟩
theorem q_fr (h : ∀ a k, a ≤ 17 → σ.1 a k = σ0.1 a k) (k : Nat) (s : Int32) : qM σ 2 k s hr = qM σ0 2 k s hr ∧ qX σ 2 k s hr = qX σ0 2 k s hr := by
  simp only [qM, qX, qW, qL, qF, qT, zdg, zmo]
  simp only [h 2 _ (by omega), h (2 + 1) _ (by omega), h (2 + 2) _ (by omega), h (2 + 3) _ (by omega), h (2 + 4) _ (by omega), h (2 + 5) _ (by omega), h (2 + 6) _ (by omega)]
  exact ⟨rfl, rfl⟩
theorem i_moored (h1 : 0 ≤ v.toInt → v.toInt ≤ 5 → zH (σ.1 2 0) v → σ.1 3 v.toNatClampNeg = 0 → P 1) (h0 : ¬ (0 ≤ v.toInt ∧ v.toInt ≤ 5 ∧ zH (σ.1 2 0) v ∧ σ.1 3 v.toNatClampNeg = 0) → P 0) : wp_X6_moored 2 v σ P := by
  refine i_has rfl (fun x y z => ⟨by rw [if_neg (by decide)]; exact ⟨zv x (by omega), trivial⟩, ?_⟩) (fun q => ⟨by rw [if_pos rfl]; trivial, ?_⟩)
  · rw [if_neg (by decide)]
    intro z4 hz
    exact zbit hz (fun c => h1 x y z c) (fun c => h0 (fun u => c u.2.2.2))
  · rw [if_pos rfl]
    rintro z4 rfl
    exact ⟨zB0, h0 (fun u => q ⟨u.1, u.2.1, u.2.2.1⟩)⟩
theorem i_harbour (hI : IB σ) (h1 : 0 ≤ v.toInt → v.toInt ≤ 5 → zH (σ.1 2 0) v → σ.1 3 v.toNatClampNeg = 0 → P 1) (h0 : ¬ (0 ≤ v.toInt ∧ v.toInt ≤ 5 ∧ zH (σ.1 2 0) v ∧ σ.1 3 v.toNatClampNeg = 0) → P 0) : wp_X9_isInHarbour v σ P := by
  have e0 := b_ships hI
  refine i_isShip e0.1.symm (fun x y z => ⟨by rw [if_neg (by decide)]; exact ⟨zv x (by omega), trivial⟩, ?_⟩) (fun q => ⟨by rw [if_pos rfl]; trivial, ?_⟩)
  · have e1 := b_where hI (k := v.toNatClampNeg) (zcl x (by omega))
    rw [if_neg (by decide), ← e1.1]
    intro z4 hz
    exact zbit hz (fun c => h1 x y z c) (fun c => h0 (fun u => c u.2.2.2))
  · rw [if_pos rfl]
    rintro z4 rfl
    exact ⟨zB0, h0 (fun u => q ⟨u.1, u.2.1, u.2.2.1⟩)⟩
/-- the fleet has gathered the ships of l -/
def zFl (σ0 : zST) (hr : Int32) (l : List Nat) (σ : zST) : Prop := zF σ0 σ l.length ∧ ∀ k, k < l.length → σ.1 64 k = nI (l.getD k 0) ∧ ∀ s, s < 3 → σ.2 65 (k * 3 + s) = zpk (zvm σ0 hr (l.getD k 0) s) (zvx σ0 hr (l.getD k 0) s)
def zFm (σ0 : zST) (hr : Int32) (l : List Nat) (a t : Nat) (σ : zST) : Prop := zFl σ0 hr l σ ∧ σ.1 64 l.length = nI a ∧ ∀ s, s < t → σ.2 65 (l.length * 3 + s) = zpk (zvm σ0 hr a s) (zvx σ0 hr a s)
theorem wL_at (σ : zST) (a k : Nat) (v : Int64) (b j : Nat) : (wL σ a k v).2 b j = if b = a ∧ j = k then v else σ.2 b j := rfl
theorem i_gathL34 (hI : IB σ0) (hl : l.length < 6) (ha : a < 6) (h0 : 0 ≤ hr.toInt) (h : ∀ σ', zFm σ0 hr l a 3 σ' → Q σ') : ∀ n i, n + i = 3 → ∀ σ, zFm σ0 hr l a i σ → wp_X2_gather_L34 2 hr (nI a) Q (n + 1) (nI i) σ := by
  intro n
  induction n with
  | zero =>
    intro i hi σ hF
    unfold wp_X2_gather_L34
    rw [if_pos (by rw [show i = 3 by omega]; decide)]
    rw [show i = 3 by omega] at hF
    exact h _ hF
  | succ n ih =>
    intro i hi σ hF
    unfold wp_X2_gather_L34
    rw [if_neg (by rw [Int32.le_iff_toInt_le, nI_toInt (by omega)]; show ¬ (3 : Int) ≤ i; omega)]
    have hd := b_digits hI
    have hG := hF.1.1
    have e7 : σ.1 2 7 = σ0.1 2 7 := hG.1 2 7 (by omega) (by omega)
    have hv : vp_in (nI a) 6 := vp_in_nI ha (by omega)
    have qf := q_fr (hr := hr) (fun x k hx => hG.1 x k (by omega) (by omega)) a (nI i)
    have hb := zv_b (s := i) hI h0 ha
    refine i_meanBy hv h0 (by rw [e7]; exact hd.2.1) (by rw [e7]; exact hd.2.2) ?_
    rintro _ rfl
    refine i_worstBy hv h0 (by rw [e7]; exact hd.2.1) (by rw [e7]; exact hd.2.2) ?_
    rw [nI_clamp (by omega), qf.1, qf.2, hb.1.1, hb.2.1, z_pk (by omega) (by omega), nI_1, hG.2, z_mul3, nI_add, nI_clamp (by omega)]
    refine ⟨vp_in_nI (by omega) (by omega), ih (i + 1) (by omega) _ ⟨⟨hG, fun k hk => ⟨(hF.1.2 k hk).1, fun s hs => ?_⟩⟩, hF.2.1, fun s hs => ?_⟩⟩
    · rw [wL_at, if_neg (by omega)]
      exact (hF.1.2 k hk).2 s hs
    · rw [wL_at]
      by_cases e : s = i
      · rw [if_pos ⟨rfl, by omega⟩, e]
      · rw [if_neg (by omega)]
        exact hF.2.2 s (by omega)
theorem z_getD1 {l : List Nat} {a k : Nat} (h : k < l.length) : (l ++ [a]).getD k 0 = l.getD k 0 := by
  rw [List.getD_eq_getElem?_getD, List.getD_eq_getElem?_getD, List.getElem?_append_left h]
theorem z_getD2 {l : List Nat} {a : Nat} : (l ++ [a]).getD l.length 0 = a := by
  rw [List.getD_eq_getElem?_getD, List.getElem?_append_right (Nat.le_refl _), Nat.sub_self]
  rfl
theorem i_gathL7 (hI : IB σ0) (h0 : 0 ≤ hr.toInt) (h : ∀ σ', zFl σ0 hr (zml σ0 6) σ' → Q σ') : ∀ n i, n + i = 6 → ∀ σ, zFl σ0 hr (zml σ0 i) σ → wp_X2_gather_L7 2 hr Q (n + 1) (nI i) σ := by
  intro n
  induction n with
  | zero =>
    intro i hi σ hF
    unfold wp_X2_gather_L7
    rw [if_pos (by rw [show i = 6 by omega]; decide)]
    rw [show i = 6 by omega] at hF
    exact h _ hF
  | succ n ih =>
    intro i hi σ hF
    unfold wp_X2_gather_L7
    rw [if_neg (by rw [Int32.le_iff_toInt_le, nI_toInt (by omega)]; show ¬ (6 : Int) ≤ i; omega)]
    rw [nI_1]
    have hlen := (zml_lt (σ := σ0) i).1
    have ez : zml σ0 (i + 1) = zml σ0 i ++ (if zmo1 σ0 i = true then [i] else []) := rfl
    have en := nI_toInt (n := i) (by omega)
    have e2 : σ.1 2 0 = σ0.1 2 0 := hF.1.1 2 0 (by omega) (by omega)
    have e3 : σ.1 3 i = σ0.1 3 i := hF.1.1 3 i (by omega) (by omega)
    refine i_moored (fun x y q1 q2 => ?_) (fun q => ?_)
    · rw [nI_clamp (by omega), e3] at q2
      rw [e2] at q1
      rw [if_pos (show zmo1 σ0 i = true from decide_eq_true ⟨q1, q2⟩)] at ez
      refine zi1 ?_
      rw [hF.1.2, nI_clamp (by omega)]
      refine ⟨vp_in_nI (by omega) (by omega), ⟨4, i_gathL34 (l := zml σ0 i) (a := i) hI (by omega) (by omega) h0 (fun σ' hF' => ?_) 3 0 rfl _ ?_⟩⟩
      · obtain ⟨⟨f1, f2⟩, f3, f4⟩ := hF'
        refine ih (i + 1) (by omega) _ ?_
        rw [ez]
        refine ⟨⟨fun a k n1 n2 => ?_, ?_⟩, fun k hk => ?_⟩
        · rw [wI_at, if_neg (by omega)]; exact f1.1 a k n1 n2
        · rw [wI_at, if_pos ⟨rfl, rfl⟩, f1.2, nI_1, List.length_append]; rfl
        · rw [List.length_append] at hk
          have hk : k < (zml σ0 i).length + 1 := hk
          rw [wI_at, if_neg (by omega)]
          rcases Nat.lt_or_ge k (zml σ0 i).length with q | q
          · rw [z_getD1 q]
            exact f2 k q
          · obtain rfl : k = (zml σ0 i).length := by omega
            rw [z_getD2]
            exact ⟨f3, f4⟩
      · refine ⟨⟨⟨fun a k n1 n2 => ?_, ?_⟩, fun k hk => ?_⟩, ?_, fun s hs => by omega⟩
        · rw [wI_at, if_neg (by omega)]; exact hF.1.1 a k n1 n2
        · rw [wI_at, if_neg (by omega)]; exact hF.1.2
        · rw [wI_at, if_neg (by omega)]
          exact hF.2 k hk
        · rw [wI_at, if_pos ⟨rfl, rfl⟩]
    · rw [if_neg (fun z => ?_), List.append_nil] at ez
      · rw [← ez] at hF
        exact zi0 (ih (i + 1) (by omega) _ hF)
      · have := of_decide_eq_true z
        refine q ⟨by omega, by omega, ?_, ?_⟩
        · rw [e2]; exact this.1
        · rw [nI_clamp (by omega), e3]; exact this.2
theorem i_gather (hI : IB σ) (h0 : 0 ≤ hr.toInt) (h : ∀ σ', zFl σ hr (zml σ 6) σ' → Q σ') : wp_X2_gather 2 hr σ Q := by
  refine ⟨7, i_gathL7 hI h0 h 6 0 rfl _ ⟨⟨fun a k n1 n2 => ?_, ?_⟩, fun k hk => by simp [zml] at hk⟩⟩
  · rw [wI_at, if_neg (by omega)]
  · rw [wI_at, if_pos ⟨rfl, rfl⟩]; rfl
/-- the sum of the means of a list by side s -/
def zsm (σ : zST) (hr : Int32) (s : Nat) : List Nat → Nat
  | [] => 0
  | a :: l => zvm σ hr a s + zsm σ hr s l
theorem zsm_app {s : Nat} : ∀ l a, zsm σ hr s (l ++ [a]) = zsm σ hr s l + zvm σ hr a s := by
  intro l
  induction l with
  | nil => intro a; show zvm σ hr a s + 0 = 0 + _; omega
  | cons b l ih =>
    intro a
    show zvm σ hr b s + zsm σ hr s (l ++ [a]) = zvm σ hr b s + zsm σ hr s l + _
    rw [ih]
    omega
theorem zsm_b {s : Nat} (hI : IB σ) (h0 : 0 ≤ hr.toInt) : ∀ l : List Nat, (∀ a, a ∈ l → a < 6) → zsm σ hr s l ≤ 360000 * l.length := by
  intro l
  induction l with
  | nil => intro _; exact Nat.le_refl _
  | cons b l ih =>
    intro h
    have := (zv_b (s := s) hI h0 (h b List.mem_cons_self)).1.2
    have := ih (fun a ha => h a (List.mem_cons_of_mem _ ha))
    show zvm σ hr b s + zsm σ hr s l ≤ 360000 * (l.length + 1)
    omega
theorem i_mallL {s : Nat} (hs : s < 3) (hI : IB σ0) (h0 : 0 ≤ hr.toInt) (hl : l.length ≤ 6) (hm : ∀ a, a ∈ l → a < 6) (hF : zFl σ0 hr l σ) : ∀ n i, n + i = l.length → P (nI (zsm σ0 hr s l)) → wp_X2_meanOfAllBy_L4 (nI s) σ P (n + 1) (nI (zsm σ0 hr s (l.take i))) (nI i) := by
  intro n
  induction n with
  | zero =>
    intro i hi h
    unfold wp_X2_meanOfAllBy_L4
    rw [if_pos (by rw [hF.1.2]; exact nI_le (by omega) (by omega)), List.take_of_length_le (by omega)]
    exact h
  | succ n ih =>
    intro i hi h
    unfold wp_X2_meanOfAllBy_L4
    have hlt : i < l.length := by omega
    have eg : l.getD i 0 = l[i] := by rw [List.getD_eq_getElem?_getD, List.getElem?_eq_getElem hlt]; rfl
    have ha : l.getD i 0 < 6 := by rw [eg]; exact hm _ (List.getElem_mem hlt)
    have hb := zv_b (s := s) hI h0 ha
    rw [hF.1.2, if_neg (nI_ge (by omega) (by omega)), nI_1, z_mul3, nI_add, nI_clamp (by omega), (hF.2 i hlt).2 s hs]
    refine ⟨vp_in_nI (by omega) (by omega), ?_⟩
    show ∀ x5 : Int32, x5 = _ + (zpk _ _ >>> ((32 : Int32).toInt64 &&& 63)).toInt32 → _
    rw [z_hi (by omega) (by omega), nI_add, ← zsm_app, eg, List.take_append_getElem hlt]
    rintro _ rfl
    exact ih (i + 1) (by omega) h
theorem i_mall {s : Nat} (hs : s < 3) (hI : IB σ0) (h0 : 0 ≤ hr.toInt) (hl : l.length ≤ 6) (hm : ∀ a, a ∈ l → a < 6) (hF : zFl σ0 hr l σ) (h : P (nI (zsm σ0 hr s l))) : wp_X2_meanOfAllBy (nI s) σ P :=
  ⟨l.length + 1, i_mallL hs hI h0 hl hm hF l.length 0 rfl h⟩
/-- the side with the least sum, the first of equals -/
def zbs (f : Nat → Nat) : Nat := if f 0 ≤ f 1 then (if f 0 ≤ f 2 then 0 else 2) else (if f 1 ≤ f 2 then 1 else 2)
theorem zbs_lt (f : Nat → Nat) : zbs f < 3 := by
  unfold zbs
  (repeat' split) <;> omega
theorem i_comm (hI : IB σ0) (h0 : 0 ≤ hr.toInt) (hl : l.length ≤ 6) (hm : ∀ a, a ∈ l → a < 6) (hF : zFl σ0 hr l σ) (h : P (nI (zbs (fun s => zsm σ0 hr s l)))) : wp_X2_commonSide σ P := by
  have hb : ∀ s, zsm σ0 hr s l < 2 ^ 31 := fun s => by
    have := zsm_b (s := s) hI h0 l hm
    omega
  have go : ∀ s, s < 3 → ∀ {A : Int32 → Prop}, A (nI (zsm σ0 hr s l)) → wp_X2_meanOfAllBy (nI s) σ A := fun s hs A hA => i_mall hs hI h0 hl hm hF hA
  have st : ∀ {N s t : Nat}, s < 3 → t < 3 → (zsm σ0 hr s l ≤ zsm σ0 hr t l → wp_X2_commonSide_L4 σ P N (nI s) (nI (t + 1))) → (¬ zsm σ0 hr s l ≤ zsm σ0 hr t l → wp_X2_commonSide_L4 σ P N (nI t) (nI (t + 1))) → wp_X2_commonSide_L4 σ P (N + 1) (nI s) (nI t) := by
    intro N s i hs ht g1 g2
    unfold wp_X2_commonSide_L4
    rw [if_neg (by rw [Int32.le_iff_toInt_le, nI_toInt (by omega)]; show ¬ (3 : Int) ≤ i; omega)]
    rw [nI_1]
    refine go i ht ?_
    refine go s hs ?_
    by_cases q : zsm σ0 hr s l ≤ zsm σ0 hr i l
    · rw [if_pos (nI_le q (hb i))]
      exact g1 q
    · rw [if_neg (nI_ge (by omega) (hb s))]
      exact g2 q
  have en : ∀ s, P (nI s) → wp_X2_commonSide_L4 σ P 1 (nI s) (nI 3) := by
    intro s hs
    unfold wp_X2_commonSide_L4
    rw [if_pos (by decide)]
    exact hs
  unfold zbs at h
  refine ⟨3, st (N := 2) (s := 0) (t := 1) (by omega) (by omega) (fun q => ?_) (fun q => ?_)⟩
  · rw [if_pos q] at h
    refine st (N := 1) (by omega) (by omega) (fun q2 => ?_) (fun q2 => ?_)
    · rw [if_pos q2] at h
      exact en _ h
    · rw [if_neg q2] at h
      exact en _ h
  · rw [if_neg q] at h
    refine st (N := 1) (by omega) (by omega) (fun q2 => ?_) (fun q2 => ?_)
    · rw [if_pos q2] at h
      exact en _ h
    · rw [if_neg q2] at h
      exact en _ h
theorem i_con41 {s : Nat} {v2 v3 v4 : Int32} (hI : IB σ) (h0 : 0 ≤ hr.toInt) (h : P (nI (zsm σ hr s (zml σ 6)))) : ∀ n i, n + i = 6 → wp_X9_convoy_L41 hr v2 v3 v4 (nI s) σ P (n + 1) (nI (zsm σ hr s (zml σ i))) (nI i) := by
  intro n
  induction n with
  | zero =>
    intro i hi
    unfold wp_X9_convoy_L41
    rw [if_pos (by rw [show i = 6 by omega]; decide)]
    rw [show i = 6 by omega]
    exact h
  | succ n ih =>
    intro i hi
    unfold wp_X9_convoy_L41
    rw [if_neg (by rw [Int32.le_iff_toInt_le, nI_toInt (by omega)]; show ¬ (6 : Int) ≤ i; omega)]
    rw [nI_1]
    have ez : zml σ (i + 1) = zml σ i ++ (if zmo1 σ i = true then [i] else []) := rfl
    have en := nI_toInt (n := i) (by omega)
    have ihn := ih (i + 1) (by omega)
    refine i_harbour hI (fun x y q1 q2 => zi1 ?_) (fun q => zi0 ?_)
    · rw [nI_clamp (by omega)] at q2
      rw [if_pos (show zmo1 σ i = true from decide_eq_true ⟨q1, q2⟩)] at ez
      refine i_meanOf hI x y h0 ?_
      have hb := zv_b (s := s) hI h0 (a := i) (by omega)
      rw [nI_clamp (by omega), hb.1.1, nI_add, ← zsm_app, ← ez]
      rintro _ rfl
      exact ihn
    · rw [if_neg (fun z => ?_), List.append_nil] at ez
      · rw [ez] at ihn
        rw [Int32.add_zero]
        rintro _ rfl
        exact ihn
      · have := of_decide_eq_true z
        refine q ⟨by omega, by omega, this.1, ?_⟩
        rw [nI_clamp (by omega)]; exact this.2
theorem s_convoy (h : Inv σ) {K : Int32 → Int32 → zST → Prop} (hk : ∀ r σ', Inv σ' → K r r σ') : wp_X8_convoy a1 a2 σ (fun r σ1 => wp_X9_convoy a1 a2 σ1 (fun r' => K r r' σ1)) := by
  unfold wp_X8_convoy
  refine t_isHour8 (fun g0 g1 => ?_) (fun q => ?_)
  · refine t_within (a := 0) (b := 1) rfl rfl (fun c0 c1 => ?_) (fun q => ?_)
    · refine i_gather h.1 g0 (fun σ1 hF => ?_)
      have hlt := zml_lt (σ := σ) 6
      have hi : Inv σ1 := zF_inv h hF.1
      have fr : ∀ a k, a ≤ 17 → σ1.1 a k = σ.1 a k := fun a k ha => hF.1.1 a k (by omega) (by omega)
      have em : ∀ i, zml σ1 i = zml σ i := by
        intro i
        induction i with
        | zero => rfl
        | succ i ih =>
          unfold zml
          rw [ih]
          unfold zmo1
          rw [fr 2 0 (by omega), fr 3 i (by omega)]
      have es : ∀ s l, zsm σ1 a1 s l = zsm σ a1 s l := by
        intro s l
        induction l with
        | nil => rfl
        | cons b l ih =>
          unfold zsm
          rw [ih]
          unfold zvm
          rw [(q_fr (hr := a1) fr b (nI s)).1]
      have hb : ∀ s, zsm σ a1 s (zml σ 6) < 2 ^ 30 := fun s => by
        have := zsm_b (s := s) h.1 g0 (zml σ 6) hlt.2
        omega
      have ref : ∀ A : Int32 → Prop, A (if a2 = 0 then nI (zbs (fun s => zsm σ a1 s (zml σ 6))) else nI (zsm σ a1 (zbs (fun s => zsm σ a1 s (zml σ 6))) (zml σ 6))) → wp_X9_convoy a1 a2 σ1 A := by
        intro A hA
        unfold wp_X9_convoy
        refine t_isHour (fun _ _ => ?_) (fun q => by omega)
        refine t_in (a := 0) (b := 1) rfl rfl (fun _ _ => ?_) (fun q => by omega)
        have st : ∀ {N i : Nat} {x y : Int32}, i < 3 → (y ≤ nI (zsm σ a1 i (zml σ 6)) → wp_X9_convoy_L29 a1 a2 σ1 A N x y (nI (i + 1))) → (¬ y ≤ nI (zsm σ a1 i (zml σ 6)) → wp_X9_convoy_L29 a1 a2 σ1 A N (nI i) (nI (zsm σ a1 i (zml σ 6))) (nI (i + 1))) → wp_X9_convoy_L29 a1 a2 σ1 A (N + 1) x y (nI i) := by
          intro N i x y hi3 g1 g2
          unfold wp_X9_convoy_L29
          rw [if_neg (by rw [Int32.le_iff_toInt_le, nI_toInt (by omega)]; show ¬ (3 : Int) ≤ i; omega)]
          rw [nI_1]
          refine ⟨7, i_con41 (s := i) hi.1 g0 ?_ 6 0 rfl⟩
          rw [em, es]
          rintro _ rfl _ rfl
          by_cases q : y ≤ nI (zsm σ a1 i (zml σ 6))
          · rw [if_pos q, if_pos q]; exact g1 q
          · rw [if_neg q, if_neg q]; exact g2 q
        have en : ∀ s, A (if a2 = 0 then nI s else nI (zsm σ a1 s (zml σ 6))) → wp_X9_convoy_L29 a1 a2 σ1 A 1 (nI s) (nI (zsm σ a1 s (zml σ 6))) (nI 3) := by
          intro s hs
          unfold wp_X9_convoy_L29
          rw [if_pos (by decide)]
          rintro _ rfl
          exact hs
        unfold zbs at hA
        refine ⟨4, st (N := 3) (i := 0) (by omega) (fun q => ?_) (fun _ => ?_)⟩
        · rw [Int32.le_iff_toInt_le, nI_toInt (Nat.lt_trans (hb 0) (by decide))] at q
          have q : (1000000000 : Int) ≤ _ := q
          have := zsm_b (s := 0) h.1 g0 (zml σ 6) hlt.2
          omega
        refine st (N := 2) (i := 1) (by omega) (fun q => ?_) (fun q => ?_)
        · rw [nI_leI (by have := hb 0; omega) (by have := hb 1; omega)] at q
          rw [if_pos q] at hA
          refine st (N := 1) (i := 2) (by omega) (fun q2 => ?_) (fun q2 => ?_)
          · rw [nI_leI (by have := hb 0; omega) (by have := hb 2; omega)] at q2
            rw [if_pos q2] at hA
            exact en 0 hA
          · rw [nI_leI (by have := hb 0; omega) (by have := hb 2; omega)] at q2
            rw [if_neg q2] at hA
            exact en 2 hA
        · rw [nI_leI (by have := hb 0; omega) (by have := hb 1; omega)] at q
          rw [if_neg q] at hA
          refine st (N := 1) (i := 2) (by omega) (fun q2 => ?_) (fun q2 => ?_)
          · rw [nI_leI (by have := hb 1; omega) (by have := hb 2; omega)] at q2
            rw [if_pos q2] at hA
            exact en 1 hA
          · rw [nI_leI (by have := hb 1; omega) (by have := hb 2; omega)] at q2
            rw [if_neg q2] at hA
            exact en 2 hA
      refine i_comm h.1 g0 hlt.1 hlt.2 hF ?_
      by_cases e : a2 = 0
      · rw [if_pos e]
        refine ref _ ?_
        rw [if_pos e]
        exact hk _ _ hi
      · rw [if_neg e]
        refine i_mall (zbs_lt _) h.1 g0 hlt.1 hlt.2 hF ?_
        refine ref _ ?_
        rw [if_neg e]
        exact hk _ _ hi
    · unfold wp_X9_convoy
      refine t_isHour (fun _ _ => ?_) (fun _ => hk _ _ h)
      exact t_in (a := 0) (b := 1) rfl rfl (fun _ _ => by omega) (fun _ => hk _ _ h)
  · unfold wp_X9_convoy
    exact t_isHour (fun _ _ => by omega) (fun _ => hk _ _ h)
end S
