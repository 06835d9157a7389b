/-! bound: the reference's half -/
def zmr (σ : zST) : Nat → List Nat
  | 0 => []
  | n + 1 => (if zmo1 σ (5 - n) = true then [5 - n] else []) ++ zmr σ n
theorem zmr_ml {σ : zST} : ∀ n, n ≤ 6 → zml σ (6 - n) ++ zmr σ n = zml σ 6 := by
  intro n
  induction n with
  | zero => intro _; exact List.append_nil _
  | succ n ih =>
    intro hn
    rw [← ih (by omega)]
    show zml σ (6 - (n + 1)) ++ ((if zmo1 σ (5 - n) = true then [5 - n] else []) ++ zmr σ n) = _
    rw [show 6 - n = (5 - n) + 1 by omega, show 6 - (n + 1) = 5 - n by omega, ← List.append_assoc]
    rfl
theorem zmr_lt {σ : zST} : ∀ n, n ≤ 6 → (zmr σ n).length ≤ n ∧ ∀ a, a ∈ zmr σ n → 6 - n ≤ a ∧ a < 6 := by
  intro n
  induction n with
  | zero => intro _; exact ⟨Nat.le_refl _, fun a h => by simp [zmr] at h⟩
  | succ n ih =>
    intro hn
    have := ih (by omega)
    unfold zmr
    refine ⟨?_, fun a h => ?_⟩
    · rw [List.length_append]
      split
      · show 1 + _ ≤ _; omega
      · show 0 + _ ≤ _; omega
    · rcases List.mem_append.mp h with q | q
      · split at q
        · rw [List.mem_singleton] at q; omega
        · simp at q
      · have := this.2 a q
        omega
section S
variable {σ σ0 : zST} {P : Int32 → Prop} {Q : zST → Prop} {R : Int32 → zST → Prop} {a1 a2 a3 hr : Int32} {a m : Nat} {v : Int32} {l : List Nat}
def zV (σ0 : zST) (hr : Int32) (l : List Nat) (σ : zST) (x : Nat) : Prop := σ.1 82 x = nI (zC (zvm σ0 hr) l x) ∧ σ.1 83 x = nI (zC (zvx σ0 hr) l x)
def zLy (σ0 : zST) (hr : Int32) (l : List Nat) (σ : zST) : Prop := zR σ0 σ (3 ^ l.length) ∧ ∀ x, x < 3 ^ l.length → zV σ0 hr l σ x
theorem zR_q (hF : zR σ0 σ m) (k : Nat) (s : Int32) : qM σ 2 k s hr = qM σ0 2 k s hr ∧ qX σ 2 k s hr = qX σ0 2 k s hr := q_fr (fun x y hx => hF.1 x y (by omega) (by omega) (by omega) (by omega)) k s
theorem i_lay42 {t T : Nat} (hI : IB σ0) (h0 : 0 ≤ hr.toInt) (ha : a < 6) (hl : l.length ≤ 5) (hm : 3 ^ l.length = m) (hT : (t = 0 ∧ T = 0) ∨ (t = 1 ∧ T = m) ∨ (t = 2 ∧ T = 2 * m))
    (h : ∀ σ', zR σ0 σ' m → (∀ x, x < m → t ≠ 0 → zV σ0 hr l σ' x) → (∀ x, T ≤ x → x < 3 * m → zV σ0 hr (a :: l) σ' x) → Q σ') :
    ∀ n i, n + i = m → ∀ σ, zR σ0 σ m → (∀ x, x < m → (t = 0 → i ≤ x) → zV σ0 hr l σ x) → (∀ x, T ≤ x → (x < T + i ∨ T + m ≤ x) → x < 3 * m → zV σ0 hr (a :: l) σ x) → wp_X9_layFleet_L42 hr (nI a) (nI t) Q (n + 1) (nI i) σ := by
  have p3 := (z_3le l.length (by omega)).2.2 hl
  have en := nI_toInt (n := a) (by omega)
  have eT : t * m = T := by
    rcases hT with q | q | q
    · rw [q.1, q.2]; omega
    · rw [q.1, q.2]; omega
    · rw [q.1, q.2]
  intro n
  induction n with
  | zero =>
    intro i hi σ hF ho hn
    unfold wp_X9_layFleet_L42
    rw [if_pos (by rw [hF.2]; exact nI_le (by omega) (by omega))]
    exact h _ hF (fun x hx ht => ho x hx (fun z => absurd z ht)) (fun x h1 h2 => hn x h1 (by omega) h2)
  | succ n ih =>
    intro i hi σ hF ho hn
    unfold wp_X9_layFleet_L42
    have hv : vp_in (nI i) 729 := vp_in_nI (by omega) (by omega)
    have hw : vp_in (nI (T + i)) 729 := vp_in_nI (by omega) (by omega)
    have hb := zv_b (s := t) hI h0 ha
    have oi := ho i (by omega) (fun _ => Nat.le_refl _)
    rw [hF.2, if_neg (nI_ge (by omega) (by omega)), z_mul, nI_add, nI_1, eT]
    refine ⟨hv, ?_⟩
    refine i_meanOf (zR_IB hI hF) (by omega) (by omega) h0 ?_
    refine ⟨hw, ?_⟩
    rw [nI_clamp (show a < 2 ^ 31 by omega), nI_clamp (show i < 2 ^ 31 by omega), nI_clamp (show T + i < 2 ^ 31 by omega), (zR_q hF a (nI t)).1, hb.1.1, oi.1, nI_add]
    intro σ11 e11
    have hF2 : zR σ0 σ11 m := by rw [e11]; exact zR_w hF (by omega)
    refine ⟨hv, ?_⟩
    refine i_worstOf (zR_IB hI hF2) (by omega) (by omega) h0 ?_
    rw [hF2.2, z_mul, nI_add, eT, nI_clamp (show a < 2 ^ 31 by omega), nI_clamp (show T + i < 2 ^ 31 by omega), (zR_q hF2 a (nI t)).2, hb.2.1]
    have e83 : σ11.1 83 i = nI (zC (zvx σ0 hr) l i) := by rw [e11, wI_at, if_neg (by omega)]; exact oi.2
    rw [e83, nI_add]
    have hf : ∀ x y, (wI σ11 83 (T + i) (nI (zC (zvx σ0 hr) l i + zvx σ0 hr a t))).1 x y = if x = 83 ∧ y = T + i then nI (zC (zvx σ0 hr) l i + zvx σ0 hr a t) else if x = 82 ∧ y = T + i then nI (zC (zvm σ0 hr) l i + zvm σ0 hr a t) else σ.1 x y := fun x y => by rw [wI_at, e11, wI_at]
    refine ⟨hw, ih (i + 1) (by omega) _ (zR_w hF2 (by omega)) (fun x hx ht => ?_) (fun x h1 h2 h3 => ?_)⟩
    · have := ho x hx (fun z => by have := ht z; omega)
      refine ⟨?_, ?_⟩
      · rw [hf, if_neg (by omega), if_neg (by omega)]; exact this.1
      · rw [hf, if_neg (by omega), if_neg (by omega)]; exact this.2
    · by_cases e : x = T + i
      · have d1 : x / m = t := by
          rw [e, ← eT, Nat.mul_comm, Nat.mul_add_div (by omega), Nat.div_eq_of_lt (by omega)]
          omega
        have d2 : x % m = i := by
          rw [e, ← eT, Nat.mul_comm, Nat.mul_add_mod, Nat.mod_eq_of_lt (by omega)]
        have c1 : ∀ f : Nat → Nat → Nat, zC f (a :: l) x = zC f l i + f a t := by
          intro f
          show f a (x / 3 ^ l.length) + zC f l (x % 3 ^ l.length) = _
          rw [hm, d1, d2]
          omega
        refine ⟨?_, ?_⟩
        · rw [hf, if_neg (by omega), if_pos ⟨rfl, e⟩, c1]
        · rw [hf, if_pos ⟨rfl, e⟩, c1]
      · have := hn x h1 (by omega) h3
        refine ⟨?_, ?_⟩
        · rw [hf, if_neg (by omega), if_neg (by omega)]; exact this.1
        · rw [hf, if_neg (by omega), if_neg (by omega)]; exact this.2
theorem i_lay35 (hI : IB σ0) (h0 : 0 ≤ hr.toInt) (ha : a < 6) (hl : l.length ≤ 5) (hm : 3 ^ l.length = m) (h : ∀ σ', zR σ0 σ' m → (∀ x, x < 3 * m → zV σ0 hr (a :: l) σ' x) → Q σ') (hL : zLy σ0 hr l σ) : ∃ M, wp_X9_layFleet_L35 hr (nI a) Q M 2 σ := by
  have hF : zR σ0 σ m := by rw [← hm]; exact hL.1
  have ho : ∀ x, x < m → zV σ0 hr l σ x := by rw [← hm]; exact hL.2
  refine ⟨4, ?_⟩
  unfold wp_X9_layFleet_L35
  rw [if_neg (by decide)]
  refine ⟨m + 1, i_lay42 (t := 2) (T := 2 * m) hI h0 ha hl hm (by omega) (fun σ1 f1 o1 n1 => ?_) m 0 (by omega) σ hF (fun x hx _ => ho x hx) (fun x h1 h2 h3 => by omega)⟩
  show wp_X9_layFleet_L35 hr (nI a) Q 3 1 σ1
  unfold wp_X9_layFleet_L35
  rw [if_neg (by decide)]
  refine ⟨m + 1, i_lay42 (t := 1) (T := m) hI h0 ha hl hm (by omega) (fun σ2 f2 o2 n2 => ?_) m 0 (by omega) σ1 f1 (fun x hx _ => o1 x hx (by omega)) (fun x h1 h2 h3 => n1 x (by omega) h3)⟩
  show wp_X9_layFleet_L35 hr (nI a) Q 2 0 σ2
  unfold wp_X9_layFleet_L35
  rw [if_neg (by decide)]
  refine ⟨m + 1, i_lay42 (t := 0) (T := 0) hI h0 ha hl hm (by omega) (fun σ3 f3 o3 n3 => ?_) m 0 (by omega) σ2 f2 (fun x hx _ => o2 x hx (by omega)) (fun x h1 h2 h3 => n2 x (by omega) h3)⟩
  show wp_X9_layFleet_L35 hr (nI a) Q 1 (-1) σ3
  unfold wp_X9_layFleet_L35
  rw [if_pos (by decide)]
  exact h σ3 f3 (fun x hx => n3 x (by omega) hx)
theorem zmo1_fr (hF : zR σ0 σ m) (i : Nat) : zmo1 σ i = zmo1 σ0 i := by
  unfold zmo1
  rw [hF.1 2 0 (by omega) (by omega) (by omega) (by omega), hF.1 3 i (by omega) (by omega) (by omega) (by omega)]
theorem i_harb (hI : IB σ) {k : Nat} (hk : k < 6) (h1 : zmo1 σ k = true → P 1) (h0 : ¬ zmo1 σ k = true → P 0) : wp_X9_isInHarbour (nI k) σ P := by
  have en := nI_toInt (n := k) (by omega)
  refine i_harbour hI (fun _ _ q1 q2 => h1 ?_) (fun q => h0 (fun z => ?_))
  · rw [nI_clamp (by omega)] at q2
    exact decide_eq_true ⟨q1, q2⟩
  · have := of_decide_eq_true z
    refine q ⟨by omega, by omega, this.1, ?_⟩
    rw [nI_clamp (by omega)]; exact this.2
theorem i_lay21 (hI : IB σ0) (h0 : 0 ≤ hr.toInt) (h : ∀ σ', zLy σ0 hr (zmr σ0 6) σ' → Q σ') : ∀ k n, k + n = 6 → ∀ σ, zLy σ0 hr (zmr σ0 n) σ → wp_X9_layFleet_L21 hr Q (k + 1) (nI k - 1) σ := by
  intro k
  induction k with
  | zero =>
    intro n hn σ hL
    unfold wp_X9_layFleet_L21
    rw [if_pos z_dn0]
    rw [show n = 6 by omega] at hL
    exact h _ hL
  | succ k ih =>
    intro n hn σ hL
    unfold wp_X9_layFleet_L21
    rw [nI_pred, if_neg (nI_pos (by omega)), z_dn]
    have hlen := (zmr_lt (σ := σ0) n (by omega)).1
    have ez : zmr σ0 (n + 1) = (if zmo1 σ0 (5 - n) = true then [5 - n] else []) ++ zmr σ0 n := rfl
    rw [show 5 - n = k by omega] at ez
    refine i_harb (zR_IB hI hL.1) (by omega) (fun q => zi1 ?_) (fun q => zi0 ?_)
    · rw [zmo1_fr hL.1] at q
      rw [if_pos q] at ez
      refine i_lay35 (l := zmr σ0 n) (a := k) hI h0 (by omega) (by omega) rfl (fun σ' f1 f2 => ?_) hL
      refine ih (n + 1) (by omega) _ ?_
      rw [ez]
      have hp : 3 ^ ([k] ++ zmr σ0 n).length = 3 ^ (zmr σ0 n).length * 3 := by
        show 3 ^ ((zmr σ0 n).length + 1) = _
        rw [Nat.pow_succ]
      refine ⟨⟨fun a k n1 n2 n3 n4 => ?_, ?_⟩, fun x hx => ?_⟩
      · rw [wI_at, if_neg n1]; exact f1.1 a k n1 n2 n3 n4
      · rw [wI_at, if_pos ⟨rfl, rfl⟩, f1.2, z_mul3, hp]
      · have := f2 x (by omega)
        refine ⟨?_, ?_⟩
        · rw [wI_at, if_neg (by omega)]; exact this.1
        · rw [wI_at, if_neg (by omega)]; exact this.2
    · rw [zmo1_fr hL.1] at q
      rw [if_neg q] at ez
      have ez : zmr σ0 (n + 1) = zmr σ0 n := ez
      exact ih (n + 1) (by omega) _ (by rw [ez]; exact hL)
theorem i_lay (hI : IB σ) (h0 : 0 ≤ hr.toInt) (h : ∀ σ', zLy σ hr (zml σ 6) σ' → Q σ') : wp_X9_layFleet hr σ Q := by
  have e : zmr σ 6 = zml σ 6 := by
    have := zmr_ml (σ := σ) 6 (by omega)
    exact this
  refine ⟨7, i_lay21 hI h0 (fun σ' hL => h σ' (by rw [← e]; exact hL)) 6 0 rfl _ ⟨zR_w (zR_w ⟨fun a k n1 n2 n3 n4 => ?_, ?_⟩ (by omega)) (by omega), fun x hx => ?_⟩⟩
  · rw [wI_at, if_neg n1]
  · rw [wI_at, if_pos ⟨rfl, rfl⟩]; rfl
  · have hx : x < 1 := hx
    obtain rfl : x = 0 := by omega
    exact ⟨rfl, rfl⟩
theorem i_behL {p : Nat} (hI : IB σ) (h : P (nI (3 ^ (zmr σ (5 - p)).length))) : ∀ n i, n + i = 6 → ∀ c, c + (zmr σ n).length = (zmr σ (5 - p)).length → c ≤ 6 → wp_X9_behindIt_L6 σ P (n + 1) (nI (3 ^ c)) (nI i) := by
  intro n
  induction n with
  | zero =>
    intro i hi c hc _
    unfold wp_X9_behindIt_L6
    rw [if_pos (by rw [show i = 6 by omega]; decide)]
    have hc : c + 0 = _ := hc
    rw [show c = (zmr σ (5 - p)).length by omega]
    exact h
  | succ n ih =>
    intro i hi c hc h6
    unfold wp_X9_behindIt_L6
    rw [if_neg (by rw [Int32.le_iff_toInt_le, nI_toInt (by omega)]; show ¬ (6 : Int) ≤ i; omega)]
    rw [nI_1]
    have ez : zmr σ (n + 1) = (if zmo1 σ (5 - n) = true then [5 - n] else []) ++ zmr σ n := rfl
    rw [show 5 - n = i by omega] at ez
    have hl := (zmr_lt (σ := σ) (5 - p) (by omega)).1
    refine i_harb hI (by omega) (fun q => ?_) (fun q => ?_)
    · rw [if_pos q] at ez
      rw [ez, List.length_append] at hc
      have hc : c + (1 + (zmr σ n).length) = _ := hc
      rintro _ rfl _ rfl
      rw [if_neg (by decide), z_mul3, ← Nat.pow_succ]
      exact ih (i + 1) (by omega) (c + 1) (by omega) (by omega)
    · rw [if_neg q] at ez
      rw [ez] at hc
      have hc : c + (zmr σ n).length = _ := hc
      rintro _ rfl _ rfl
      rw [if_pos rfl, show nI (3 ^ c) * 1 = nI (3 ^ c) from Int32.mul_one _]
      exact ih (i + 1) (by omega) c hc h6
theorem i_beh {p : Nat} (hI : IB σ) (hp : p < 6) (h : P (nI (3 ^ (zmr σ (5 - p)).length))) : wp_X9_behindIt (nI p) σ P := by
  unfold wp_X9_behindIt
  rw [nI_1]
  rintro _ rfl
  exact ⟨5 - p + 1, i_behL hI h (5 - p) (p + 1) (by omega) 0 (by omega) (by omega)⟩
/-- the side of ship p in the choice x -/
theorem i_sideL {p : Nat} (hp : p < 6) (hF : zFl σ0 hr l σ) (hl : l.length ≤ 6) {l1 l2 : List Nat} (e : l = l1 ++ p :: l2) (h2 : ∀ b, b ∈ l2 → b ≠ p ∧ b < 6) : ∀ t x, t ≤ l2.length → x < 729 → P (nI (x / 3 ^ t % 3)) → wp_X2_sideInChoice_L10 (nI p) σ P (l1.length + 1 + t + 1) (nI x) (nI (l1.length + 1 + t) - 1) := by
  have hlen : l.length = l1.length + (l2.length + 1) := by rw [e, List.length_append]; rfl
  intro t
  induction t with
  | zero =>
    intro x ht hx h
    unfold wp_X2_sideInChoice_L10
    have eg : l.getD l1.length 0 = p := by
      rw [e, List.getD_eq_getElem?_getD, List.getElem?_append_right (Nat.le_refl _), Nat.sub_self]
      rfl
    rw [show l1.length + 1 + 0 = l1.length + 1 by omega, nI_pred, if_neg (nI_pos (by omega)), nI_clamp (by omega), (hF.2 l1.length (by omega)).1, eg, if_pos rfl]
    refine ⟨vp_in_nI (by omega) (by omega), ?_⟩
    have e3 : nI x - nI x / 3 * 3 = nI (x % 3) := pk_rem (d := 3) (by omega) (by omega) (by omega)
    rw [e3]
    rw [Nat.pow_zero, Nat.div_one] at h
    exact h
  | succ t ih =>
    intro x ht hx h
    unfold wp_X2_sideInChoice_L10
    have hb : l.getD (l1.length + 1 + t) 0 ∈ l2 := by
      rw [e, List.getD_eq_getElem?_getD, List.getElem?_append_right (by omega), show l1.length + 1 + t - l1.length = t + 1 by omega, List.getElem?_cons_succ, List.getElem?_eq_getElem (by omega)]
      exact List.getElem_mem _
    have hn := h2 _ hb
    rw [show l1.length + 1 + (t + 1) = l1.length + 1 + t + 1 by omega, nI_pred, if_neg (nI_pos (by omega)), nI_clamp (by omega), (hF.2 (l1.length + 1 + t) (by omega)).1, if_neg (by rw [nI_eq (by omega) (by omega)]; exact hn.1), z_dn]
    refine ⟨vp_in_nI (by omega) (by omega), ?_⟩
    have e3 : nI x / 3 = nI (x / 3) := pk_div (d := 3) (by omega) (by omega) (by omega)
    rw [e3]
    rintro _ rfl
    refine ih (x / 3) (by omega) (by omega) ?_
    rw [Nat.div_div_eq_div_mul, Nat.mul_comm, ← Nat.pow_succ]
    exact h
theorem zml_fr (h : ∀ a k, a ≤ 17 → σ.1 a k = σ0.1 a k) : ∀ i, zml σ i = zml σ0 i := by
  intro i
  induction i with
  | zero => rfl
  | succ i ih =>
    unfold zml
    rw [ih]
    unfold zmo1
    rw [h 2 0 (by omega), h 3 i (by omega)]
theorem zmr_fr (h : ∀ a k, a ≤ 17 → σ.1 a k = σ0.1 a k) : ∀ i, zmr σ i = zmr σ0 i := by
  intro i
  induction i with
  | zero => rfl
  | succ i ih =>
    unfold zmr
    rw [ih]
    unfold zmo1
    rw [h 2 0 (by omega), h 3 _ (by omega)]
theorem zC_fr {f g : Nat → Nat → Nat} (h : ∀ a s, f a s = g a s) : ∀ l x, zC f l x = zC g l x := by
  intro l
  induction l with
  | nil => intro x; rfl
  | cons b l ih =>
    intro x
    unfold zC
    rw [h, ih]
theorem s_bound (h : Inv σ) {K : Int32 → Int32 → zST → Prop} (hk : ∀ r σ', Inv σ' → K r r σ') : wp_X8_bound a1 a2 a3 σ (fun r σ1 => wp_X9_bound a1 a2 a3 σ1 (fun r' σ2 => K r r' σ2)) := by
  have hI := h.1
  have hlt := zml_lt (σ := σ) 6
  have main : 0 ≤ a1.toInt → a1.toInt ≤ 999 → 0 ≤ a2.toInt → a2.toInt ≤ 99999 → (a3 = -1 ∨ ∃ p, p < 6 ∧ a3 = nI p ∧ zmo1 σ p = true) → wp_X2_gather 2 a1 σ (fun σ9 => wp_X2_leastWithin a2 σ9 (fun r10 σ11 => (if r10 = (-6 : Int32) then wp_X9_bound a1 a2 a3 σ11 (fun r' σ2 => K (-6) r' σ2) else (if a3 = (-1 : Int32) then wp_X2_meanOfChoice r10 σ11 (fun r16 => wp_X9_bound a1 a2 a3 σ11 (fun r' σ2 => K r16 r' σ2)) else wp_X2_sideInChoice r10 a3 σ11 (fun r14 => wp_X9_bound a1 a2 a3 σ11 (fun r' σ2 => K r14 r' σ2)))))) := by
    intro g0 g1 b0 b1 hp
    refine i_gather hI g0 (fun σ1 hF1 => ?_)
    refine i_spread hlt.1 hF1 (fun σ2 hC => ?_)
    have fr : ∀ a k, a ≤ 17 → σ2.1 a k = σ.1 a k := fun a k ha => hC.1.1.1 a k (by omega) (by omega)
    have hi2 : Inv σ2 := zF_inv h hC.1.1
    have p3 := z_3le (zml σ 6).length hlt.1
    have bM : ∀ x, zC (zvm σ a1) (zml σ 6) x < 2 ^ 31 := fun x => by
      have := zC_b (f := zvm σ a1) (B := 360000) (zml σ 6) (fun a ha s => (zv_b (s := s) hI g0 (hlt.2 a ha)).1.2) x
      omega
    have bX : ∀ x, zC (zvx σ a1) (zml σ 6) x < 2 ^ 31 := fun x => by
      have := zC_b (f := zvx σ a1) (B := 36000) (zml σ 6) (fun a ha s => (zv_b (s := s) hI g0 (hlt.2 a ha)).2.2) x
      omega
    have hq : ∀ x, x < 3 ^ (zml σ 6).length → σ2.2 66 x = zpk (zC (zvm σ a1) (zml σ 6) x) (zC (zvx σ a1) (zml σ 6) x) := fun x hx => by
      have := hC.2 x hx
      rw [List.take_length] at this
      exact this
    refine ⟨3 ^ (zml σ 6).length + 1, i_leastL (fM := zC (zvm σ a1) (zml σ 6)) (fX := zC (zvx σ a1) (zml σ 6)) p3.2.1 (fun x hx => ⟨hq x hx, bM x, bX x⟩) (3 ^ (zml σ 6).length) 0 rfl (-6) (Or.inl rfl) ?_⟩
    have hr := zsc_b (fM := zC (zvm σ a1) (zml σ 6)) (fX := zC (zvx σ a1) (zml σ 6)) (p := a2) (3 ^ (zml σ 6).length) 0 (-6) (by omega) (Or.inl rfl)
    have ref : ∀ A : Int32 → zST → Prop, (∀ σ3, Inv σ3 → (if zsc (zC (zvm σ a1) (zml σ 6)) (zC (zvx σ a1) (zml σ 6)) a2 (3 ^ (zml σ 6).length) (-6) 0 = -6 then A (-6) σ3 else ∀ k, k < 3 ^ (zml σ 6).length → zsc (zC (zvm σ a1) (zml σ 6)) (zC (zvx σ a1) (zml σ 6)) a2 (3 ^ (zml σ 6).length) (-6) 0 = nI k → (a3 = -1 → A (nI (zC (zvm σ a1) (zml σ 6) k)) σ3) ∧ ∀ p, p < 6 → a3 = nI p → zmo1 σ p = true → A (nI (k / 3 ^ (zmr σ (5 - p)).length % 3)) σ3)) → wp_X9_bound a1 a2 a3 σ2 A := by
      intro A hA
      have core : wp_X9_layFleet a1 σ2 (fun σ9 => ∃ M30 : Nat, wp_X9_bound_L49 a2 a3 (fun w4 σ => (if (0) ≤ w4 then (if a3 = (-1 : Int32) then vp_in w4 729 ∧ A (σ.1 82 w4.toNatClampNeg) σ else wp_X9_behindIt a3 σ (fun r26 => ¬ r26 = 0 ∧ A ((w4 / r26) - (w4 / r26) / (3 : Int32) * (3 : Int32)) σ)) else A (-6 : Int32) σ)) M30 (-6 : Int32) (0 : Int32) σ9) := by
        refine i_lay hi2.1 g0 (fun σ3 hL => ?_)
        have hi3 : Inv σ3 := zR_inv hi2 hL.1
        have fr3 : ∀ a k, a ≤ 17 → σ3.1 a k = σ.1 a k := fun a k ha => by rw [hL.1.1 a k (by omega) (by omega) (by omega) (by omega), fr a k ha]
        have e1 : zml σ2 6 = zml σ 6 := zml_fr fr 6
        have hL1 := hL.1
        have hL2 := hL.2
        rw [e1] at hL1 hL2
        have em : ∀ x, zC (zvm σ2 a1) (zml σ 6) x = zC (zvm σ a1) (zml σ 6) x := zC_fr (fun b s => by unfold zvm; rw [(q_fr (hr := a1) fr b (nI s)).1]) _
        have ex : ∀ x, zC (zvx σ2 a1) (zml σ 6) x = zC (zvx σ a1) (zml σ 6) x := zC_fr (fun b s => by unfold zvx; rw [(q_fr (hr := a1) fr b (nI s)).2]) _
        have hq3 : ∀ x, x < 3 ^ (zml σ 6).length → σ3.1 82 x = nI (zC (zvm σ a1) (zml σ 6) x) ∧ σ3.1 83 x = nI (zC (zvx σ a1) (zml σ 6) x) := fun x hx => by
          have := hL2 x hx
          unfold zV at this
          rw [em, ex] at this
          exact this
        refine ⟨3 ^ (zml σ 6).length + 1, i_bou49 (fM := zC (zvm σ a1) (zml σ 6)) (fX := zC (zvx σ a1) (zml σ 6)) p3.2.1 hL1.2 hq3 (3 ^ (zml σ 6).length) 0 rfl (-6) (Or.inl rfl) ?_⟩
        have hA3 := hA σ3 hi3
        generalize zsc (zC (zvm σ a1) (zml σ 6)) (zC (zvx σ a1) (zml σ 6)) a2 (3 ^ (zml σ 6).length) (-6) 0 = r at hr hA3 ⊢
        rcases hr with rfl | ⟨k, hk', rfl⟩
        · rw [if_pos rfl] at hA3
          rw [if_neg (by decide)]
          exact hA3
        · have e6 : ¬ nI k = -6 := fun z => by
            have := congrArg Int32.toInt z
            rw [nI_toInt (by omega)] at this
            have : (k : Int) = -6 := this
            omega
          rw [if_neg e6] at hA3
          have hA4 := hA3 k (by omega) rfl
          rw [if_pos (nI_pos' (by omega))]
          rcases hp with e | ⟨p, hp6, e, hmo⟩
          · rw [if_pos e, nI_clamp (by omega), (hq3 k (by omega)).1]
            exact ⟨vp_in_nI (by omega) (by omega), hA4.1 e⟩
          · have em1 : ¬ a3 = -1 := fun z => by
              rw [e] at z
              have := congrArg Int32.toInt z
              rw [nI_toInt (by omega)] at this
              have : (p : Int) = -1 := this
              omega
            rw [if_neg em1, e]
            refine i_beh hi3.1 hp6 ?_
            rw [zmr_fr fr3]
            have hl2 := (zmr_lt (σ := σ) (5 - p) (by omega)).1
            have pz := z_3le (zmr σ (5 - p)).length (by omega)
            have d1 : nI k / nI (3 ^ (zmr σ (5 - p)).length) = nI (k / 3 ^ (zmr σ (5 - p)).length) := pk_div (by omega) (by omega) (by omega)
            have d2 : k / 3 ^ (zmr σ (5 - p)).length ≤ k := Nat.div_le_self _ _
            have d3 : nI (k / 3 ^ (zmr σ (5 - p)).length) - nI (k / 3 ^ (zmr σ (5 - p)).length) / 3 * 3 = nI (k / 3 ^ (zmr σ (5 - p)).length % 3) := pk_rem (d := 3) (by omega) (by omega) (by omega)
            rw [d1, d3]
            exact ⟨nI_ne0 (by omega) (by omega), hA4.2 p hp6 e hmo⟩
      unfold wp_X9_bound
      by_cases e : a3 = -1
      · rw [if_pos e]
        refine t_isHour (fun _ _ => ?_) (fun q => by omega)
        refine t_in (a := 0) (b := 99999) rfl rfl (fun _ _ => ?_) (fun q => by omega)
        exact core
      · rw [if_neg e]
        obtain ⟨p, hp6, e', hmo⟩ := hp.resolve_left e
        have hmo2 : zmo1 σ2 p = true := by
          unfold zmo1
          rw [fr 2 0 (by omega), fr 3 p (by omega)]
          exact hmo
        have hh : ∀ B : Int32 → Prop, B 1 → wp_X9_isInHarbour a3 σ2 B := fun B hB => by rw [e']; exact i_harb hi2.1 hp6 (fun _ => hB) (fun q => absurd hmo2 q)
        refine hh _ (zi1 ?_)
        refine t_isHour (fun _ _ => ?_) (fun q => by omega)
        refine t_in (a := 0) (b := 99999) rfl rfl (fun _ _ => ?_) (fun q => by omega)
        exact core
    generalize zsc (zC (zvm σ a1) (zml σ 6)) (zC (zvx σ a1) (zml σ 6)) a2 (3 ^ (zml σ 6).length) (-6) 0 = r at hr ref ⊢
    rcases hr with rfl | ⟨k, hk', rfl⟩
    · rw [if_pos rfl]
      refine ref _ (fun σ3 h3 => ?_)
      rw [if_pos rfl]
      exact hk _ _ h3
    · have hk' : k < 3 ^ (zml σ 6).length := by omega
      have e6 : ¬ nI k = -6 := fun z => by
        have := congrArg Int32.toInt z
        rw [nI_toInt (by omega)] at this
        have : (k : Int) = -6 := this
        omega
      rw [if_neg e6]
      have back : ∀ k', nI k = nI k' → k' < 3 ^ (zml σ 6).length → k' = k := fun k' e he => ((nI_eq (by omega) (by omega)).mp e).symm
      rcases hp with e | ⟨p, hp6, e, hmo⟩
      · rw [if_pos e]
        have en := nI_toInt (n := k) (by omega)
        refine t_within (a := 0) (b := 728) rfl rfl (fun _ _ => ?_) (fun q => by omega)
        refine ⟨vp_in_nI (by omega) (by omega), ?_⟩
        rw [nI_clamp (by omega), hq k hk']
        show wp_X9_bound a1 a2 a3 σ2 (fun r' σ2 => K (zpk _ _ >>> ((32 : Int32).toInt64 &&& 63)).toInt32 r' σ2)
        rw [z_hi (bM k) (bX k)]
        refine ref _ (fun σ3 h3 => ?_)
        rw [if_neg e6]
        intro k' hk2 ek
        obtain rfl := back k' ek hk2
        refine ⟨fun _ => hk _ _ h3, fun p hp6 ep _ => ?_⟩
        rw [e] at ep
        have := congrArg Int32.toInt ep
        rw [nI_toInt (by omega)] at this
        have : (-1 : Int) = p := this
        omega
      · have em1 : ¬ a3 = -1 := fun z => by
          rw [e] at z
          have := congrArg Int32.toInt z
          rw [nI_toInt (by omega)] at this
          have : (p : Int) = -1 := this
          omega
        rw [if_neg em1]
        have el : zml σ 6 = zml σ p ++ p :: zmr σ (5 - p) := by
          rw [← zmr_ml (σ := σ) (6 - p) (by omega), show 6 - (6 - p) = p by omega, show 6 - p = (5 - p) + 1 by omega]
          show zml σ p ++ ((if zmo1 σ (5 - (5 - p)) = true then [5 - (5 - p)] else []) ++ zmr σ (5 - p)) = _
          rw [show 5 - (5 - p) = p by omega, if_pos hmo]
          rfl
        have hl2 := zmr_lt (σ := σ) (5 - p) (by omega)
        have hlen : (zml σ 6).length = (zml σ p).length + 1 + (zmr σ (5 - p)).length := by
          rw [el, List.length_append, List.length_cons]
          omega
        unfold wp_X2_sideInChoice
        rw [hC.1.1.2, hlen]
        rintro _ rfl
        refine ⟨(zml σ p).length + 1 + (zmr σ (5 - p)).length + 1, ?_⟩
        have side : ∀ B : Int32 → Prop, B (nI (k / 3 ^ (zmr σ (5 - p)).length % 3)) → wp_X2_sideInChoice_L10 (nI p) σ2 B ((zml σ p).length + 1 + (zmr σ (5 - p)).length + 1) (nI k) (nI ((zml σ p).length + 1 + (zmr σ (5 - p)).length) - 1) := fun B hB => i_sideL hp6 hC.1 hlt.1 el (fun b hb => by have := hl2.2 b hb; omega) _ k (Nat.le_refl _) (by omega) hB
        have side3 : ∀ B : Int32 → Prop, B (nI (k / 3 ^ (zmr σ (5 - p)).length % 3)) → wp_X2_sideInChoice_L10 a3 σ2 B ((zml σ p).length + 1 + (zmr σ (5 - p)).length + 1) (nI k) (nI ((zml σ p).length + 1 + (zmr σ (5 - p)).length) - 1) := fun B hB => by rw [e]; exact side B hB
        refine side3 _ ?_
        refine ref _ (fun σ3 h3 => ?_)
        rw [if_neg e6]
        intro k' hk2 ek
        obtain rfl := back k' ek hk2
        refine ⟨fun z => absurd z em1, fun p' hp' ep _ => ?_⟩
        rw [e, nI_eq (by omega) (by omega)] at ep
        subst ep
        exact hk _ _ h3
  unfold wp_X8_bound
  by_cases e : a3 = -1
  · rw [if_pos e]
    refine t_isHour8 (fun g0 g1 => ?_) (fun q => ?_)
    · refine t_within (a := 0) (b := 99999) rfl rfl (fun b0 b1 => ?_) (fun q => ?_)
      · exact main g0 g1 b0 b1 (Or.inl e)
      · show wp_X9_bound a1 a2 a3 σ (fun r2 σ2 => K _ r2 σ2)
        unfold wp_X9_bound
        rw [if_pos e]
        refine t_isHour (fun _ _ => ?_) (fun _ => hk _ _ h)
        exact t_in (a := 0) (b := 99999) rfl rfl (fun _ _ => by omega) (fun _ => hk _ _ h)
    · show wp_X9_bound a1 a2 a3 σ (fun r2 σ2 => K _ r2 σ2)
      unfold wp_X9_bound
      rw [if_pos e]
      exact t_isHour (fun _ _ => by omega) (fun _ => hk _ _ h)
  · rw [if_neg e]
    refine i_moored (fun x y q1 q2 => zi1 ?_) (fun q => zi0 ?_)
    · obtain ⟨p, hp6, ep, -⟩ := zN (h := 5) x (by omega)
      have hmo : zmo1 σ p = true := by
        rw [ep, nI_clamp (by omega)] at q2
        rw [ep] at q1
        exact decide_eq_true ⟨q1, q2⟩
      have hh : ∀ B : Int32 → Prop, B 1 → wp_X9_isInHarbour a3 σ B := fun B hB => by rw [ep]; exact i_harb hI (by omega) (fun _ => hB) (fun q => absurd hmo q)
      refine t_isHour8 (fun g0 g1 => ?_) (fun q => ?_)
      · refine t_within (a := 0) (b := 99999) rfl rfl (fun b0 b1 => ?_) (fun q => ?_)
        · exact main g0 g1 b0 b1 (Or.inr ⟨p, by omega, ep, hmo⟩)
        · show wp_X9_bound a1 a2 a3 σ (fun r2 σ2 => K _ r2 σ2)
          unfold wp_X9_bound
          rw [if_neg e]
          refine hh _ (zi1 ?_)
          refine t_isHour (fun _ _ => ?_) (fun _ => hk _ _ h)
          exact t_in (a := 0) (b := 99999) rfl rfl (fun _ _ => by omega) (fun _ => hk _ _ h)
      · show wp_X9_bound a1 a2 a3 σ (fun r2 σ2 => K _ r2 σ2)
        unfold wp_X9_bound
        rw [if_neg e]
        refine hh _ (zi1 ?_)
        exact t_isHour (fun _ _ => by omega) (fun _ => hk _ _ h)
    · show wp_X9_bound a1 a2 a3 σ (fun r2 σ2 => K _ r2 σ2)
      unfold wp_X9_bound
      rw [if_neg e]
      exact i_harbour hI (fun x y z u => absurd ⟨x, y, z, u⟩ q) (fun _ => zi0 (hk _ _ h))
end S
