/-- the kiln -/
theorem bm32 {x : Int} (h1 : -2147483648 ≤ x) (h2 : x < 2147483648) : x.bmod (2 ^ 32) = x := by
  rw [Int.bmod_def]; split <;> omega
theorem i32_add {a b : Int32} (h1 : -2147483648 ≤ a.toInt + b.toInt) (h2 : a.toInt + b.toInt < 2147483648) : (a + b).toInt = a.toInt + b.toInt := by
  rw [Int32.toInt_add, bm32 h1 h2]
theorem i32_sub {a b : Int32} (h1 : -2147483648 ≤ a.toInt - b.toInt) (h2 : a.toInt - b.toInt < 2147483648) : (a - b).toInt = a.toInt - b.toInt := by
  rw [Int32.toInt_sub, bm32 h1 h2]
theorem td10 (x : Int) : x.tdiv 10 = if 0 ≤ x then x / 10 else -((-x) / 10) := by
  by_cases h : 0 ≤ x
  · rw [if_pos h, Int.tdiv_eq_ediv_of_nonneg h]
  · rw [if_neg h]
    have : x = -(-x) := by omega
    rw [this, Int.neg_tdiv, Int.tdiv_eq_ediv_of_nonneg (by omega)]
    simp
theorem i32_d10 {a : Int32} (h1 : -2000000000 ≤ a.toInt) (h2 : a.toInt ≤ 2000000000) : (a / 10).toInt = if 0 ≤ a.toInt then a.toInt / 10 else -((-a.toInt) / 10) := by
  rw [Int32.toInt_div, show (10 : Int32).toInt = 10 from rfl, td10]
  split <;> exact bm32 (by omega) (by omega)
def ht_r (g l : Nat → Nat) (w : Nat) (H : Nat → Nat) (p : Nat) : Nat := H p + g p * w - H p * l p / 1000
def ht_s (R : Nat → Nat) (p : Nat) : Int32 := (if p = 0 then 0 else nI (R (p - 1)) - nI (R p)) + (if p = 11 then 0 else nI (R (p + 1)) - nI (R p))
def ht_v (R : Nat → Nat) (p : Nat) : Int32 := nI (R p) + ht_s R p / 10
theorem ht_v_nat {R : Nat → Nat} {B : Nat} (hB : B ≤ 200000) (h : ∀ p, p < 12 → R p ≤ B) {p : Nat} (hp : p < 12) : ∃ n, n ≤ B ∧ ht_v R p = nI n := by
  have e0 : (0 : Int32).toInt = 0 := rfl
  have hb := h p hp
  have tp : (nI (R p)).toInt = (R p : Int) := nI_toInt (by omega)
  have s1 : ∃ x : Int, (if p = 0 then (0 : Int32) else nI (R (p - 1)) - nI (R p)).toInt = x ∧ -(R p : Int) ≤ x ∧ x ≤ B - R p := by
    by_cases e : p = 0
    · exact ⟨0, by rw [if_pos e, e0], by omega, by omega⟩
    · have h1 := h (p - 1) (by omega)
      have t1 : (nI (R (p - 1))).toInt = (R (p - 1) : Int) := nI_toInt (by omega)
      exact ⟨R (p - 1) - R p, by rw [if_neg e, i32_sub (by omega) (by omega), t1, tp], by omega, by omega⟩
  have s2 : ∃ x : Int, (if p = 11 then (0 : Int32) else nI (R (p + 1)) - nI (R p)).toInt = x ∧ -(R p : Int) ≤ x ∧ x ≤ B - R p := by
    by_cases e : p = 11
    · exact ⟨0, by rw [if_pos e, e0], by omega, by omega⟩
    · have h1 := h (p + 1) (by omega)
      have t1 : (nI (R (p + 1))).toInt = (R (p + 1) : Int) := nI_toInt (by omega)
      exact ⟨R (p + 1) - R p, by rw [if_neg e, i32_sub (by omega) (by omega), t1, tp], by omega, by omega⟩
  obtain ⟨x, e1, b1, b2⟩ := s1
  obtain ⟨y, e2, c1, c2⟩ := s2
  have es : (ht_s R p).toInt = x + y := by unfold ht_s; rw [i32_add (by rw [e1, e2]; omega) (by rw [e1, e2]; omega), e1, e2]
  have ed := i32_d10 (a := ht_s R p) (by omega) (by omega)
  have ev : (ht_v R p).toInt = R p + (ht_s R p / 10).toInt := by
    unfold ht_v
    rw [i32_add (by rw [tp, ed]; split <;> omega) (by rw [tp, ed]; split <;> omega), tp]
  rw [ed, es] at ev
  have r1 : 0 ≤ (ht_v R p).toInt ∧ (ht_v R p).toInt ≤ B := by rw [ev]; split <;> omega
  obtain ⟨n, hn, en⟩ := nI_of2 (x := ht_v R p) (M := nI B) (n := B) (nI_toInt (by omega)) (by rw [Int32.lt_iff_toInt_lt, e0]; omega) (by rw [Int32.le_iff_toInt_le, nI_toInt (by omega)]; exact r1.2)
  exact ⟨n, hn, en⟩
theorem ht_r_le {g l H : Nat → Nat} {w p B : Nat} (hg : g p ≤ 40) (hw : w ≤ 50) (hH : H p ≤ B) : ht_r g l w H p ≤ B + 2000 := by
  have : g p * w ≤ 40 * 50 := Nat.mul_le_mul hg hw
  unfold ht_r
  omega
theorem ht_r_i {g l H : Nat → Nat} {w p : Nat} (hg : g p ≤ 40) (hw : w ≤ 50) (hl : l p ≤ 200) (hH : H p ≤ 200000) : nI (H p) + nI (g p) * nI w - nI (H p) * nI (l p) / 1000 = nI (ht_r g l w H p) ∧ nI (H p) + nI (g p) * nI w - ((nI (H p)).toInt64 * (nI (l p)).toInt64 / 1000).toInt32 = nI (ht_r g l w H p) := by
  have h1 : g p * w ≤ 40 * 50 := Nat.mul_le_mul hg hw
  have h2 : H p * l p ≤ H p * 200 := Nat.mul_le_mul_left _ hl
  have h3 : H p * l p / 1000 ≤ H p := by omega
  constructor
  · rw [pk_mul, pk_mul, nI_add, show (1000 : Int32) = nI 1000 from rfl, pk_div (by omega) (by decide) (by decide), pk_sub (by omega)]; rfl
  · rw [nI_l (by omega), nI_l (by omega), lN_mul, show (1000 : Int64) = lN 1000 from rfl, pk_lDiv (by omega) (by decide) (by decide), lN_i, pk_mul, nI_add, pk_sub (by omega)]; rfl
/-- the class: raise all places, then let them even out -/
theorem hC_a {σ0 : St} {g l H : Nat → Nat} {w : Nat} (hw : w ≤ 50) (ht : ∀ p, p < 12 → σ0 16 (2 * p) = nI (g p) ∧ g p ≤ 40 ∧ σ0 16 (2 * p + 1) = nI (l p) ∧ l p ≤ 200 ∧ σ0 18 p = nI (H p) ∧ H p ≤ 200000) : ∀ m j n σ, j + m = 12 → m < n → Off [19] σ0 σ → (∀ p, p < j → σ 19 p = nI (ht_r g l w H p)) → ∃ σ', fX1_heatHour_b2 n (nI w) (nI j) σ = fX1_heatHour_b55 FU 0 σ' ∧ Off [19] σ0 σ' ∧ ∀ p, p < 12 → σ' 19 p = nI (ht_r g l w H p) := by
  intro m
  induction m with
  | zero =>
    intro j n σ hj hn ho hv
    obtain ⟨n, rfl⟩ : ∃ q, n = q + 1 := ⟨n - 1, by omega⟩
    have e : j = 12 := by omega
    subst e
    rw [fX1_heatHour_b2, if_pos (by decide)]
    exact ⟨σ, rfl, ho, hv⟩
  | succ m ih =>
    intro j n σ hj hn ho hv
    obtain ⟨n, rfl⟩ : ∃ q, n = q + 1 := ⟨n - 1, by omega⟩
    have hj12 : j < 12 := by omega
    obtain ⟨q1, q2, q3, q4, q5, q6⟩ := ht j hj12
    have t0 : fX1_trait (nI j) 0 σ = some (nI (g j), σ) := by
      unfold fX1_trait
      rw [rd_e (j := 2 * j) (by rw [show (2 : Int32) = nI 2 from rfl, pk_mul, show (0 : Int32) = nI 0 from rfl, nI_add, Nat.mul_comm, Nat.add_zero]) (by omega) (by decide), ho 16 (by decide), q1]
    have t1 : fX1_trait (nI j) 1 σ = some (nI (l j), σ) := by
      unfold fX1_trait
      rw [rd_e (j := 2 * j + 1) (by rw [show (2 : Int32) = nI 2 from rfl, pk_mul, show (1 : Int32) = nI 1 from rfl, nI_add, Nat.mul_comm]) (by omega) (by decide), ho 16 (by decide), q3]
    have e18 : σ 18 j = nI (H j) := by rw [ho 18 (by decide)]; exact q5
    have nle : ¬ (12 : Int32) ≤ nI j := nI_ge (b := 12) (by omega) (by decide)
    rw [fX1_heatHour_b2, if_neg nle, rd_nI hj12 (by decide), cal_e t0, rd_nI hj12 (by decide), cal_e t1, wr_nI hj12 (by decide), e18, (ht_r_i q2 hw q4 q6).1, nI_1]
    refine ih (j + 1) n _ (by omega) (by omega) (ho.up (by decide) _ _) (fun p hp => ?_)
    rw [up2_if]
    by_cases e : p = j
    · subst e; rw [if_pos rfl]
    · rw [if_neg e]; exact hv p (by omega)
theorem besideC {σ : St} {R : Nat → Nat} (hR : ∀ p, p < 12 → σ 19 p = nI (R p)) {p : Nat} (hp : p < 12) : fX1_besideAbove (nI p) σ = some (ht_s R p, σ) := by
  unfold fX1_besideAbove fX1_besideAbove_b24 ht_s
  by_cases e0 : p = 0
  · subst e0
    rw [if_pos (by decide), if_neg (by decide), nI_1, rd_nI (show 0 + 1 < 12 by decide) (by decide), rd_nI (show 0 < 12 by decide) (by decide), lt_e, hR (0 + 1) (by decide), hR 0 (by decide)]
    rfl
  · rw [if_neg (nI_nle (by omega) (by omega)), if_neg e0, rd_e (j := p - 1) (by rw [show (1 : Int32) = nI 1 from rfl, pk_sub (by omega)]) (by omega) (by decide), rd_nI hp (by decide), lt_e, hR p hp, hR (p - 1) (by omega), Int32.zero_add]
    by_cases e1 : p = 11
    · subst e1
      rw [if_pos (by decide), if_pos rfl, Int32.add_zero]
    · rw [if_neg (show ¬ (11 : Int32) ≤ nI p from nI_ge (b := 11) (by omega) (by decide)), if_neg e1, nI_1, rd_nI (show p + 1 < 12 by omega) (by decide), rd_nI hp (by decide), lt_e, hR (p + 1) (by omega), hR p hp]
theorem hC_b {σ0 : St} {R : Nat → Nat} {K : Nat → Int32} (hR : ∀ p, p < 12 → σ0 19 p = nI (R p) ∧ σ0 20 p = K p) : ∀ m j n σ, j + m = 12 → m < n → Off [18, 20] σ0 σ → (∀ p, p < 12 → (p < j → σ 18 p = ht_v R p) ∧ σ 20 p = if p < j then (if K p < ht_v R p then ht_v R p else K p) else K p) → ∃ σ', fX1_heatHour_b55 n (nI j) σ = some (0, σ') ∧ Off [18, 20] σ0 σ' ∧ ∀ p, p < 12 → σ' 18 p = ht_v R p ∧ σ' 20 p = if K p < ht_v R p then ht_v R p else K p := by
  intro m
  induction m with
  | zero =>
    intro j n σ hj hn ho hv
    obtain ⟨n, rfl⟩ : ∃ q, n = q + 1 := ⟨n - 1, by omega⟩
    have e : j = 12 := by omega
    subst e
    rw [fX1_heatHour_b55, if_pos (by decide)]
    refine ⟨σ, rfl, ho, fun p hp => ⟨(hv p hp).1 hp, ?_⟩⟩
    have := (hv p hp).2
    rw [if_pos hp] at this
    exact this
  | succ m ih =>
    intro j n σ hj hn ho hv
    obtain ⟨n, rfl⟩ : ∃ q, n = q + 1 := ⟨n - 1, by omega⟩
    have hj12 : j < 12 := by omega
    have nle : ¬ (12 : Int32) ≤ nI j := nI_ge (b := 12) (by omega) (by decide)
    have e19 : ∀ p, p < 12 → σ 19 p = nI (R p) := fun p hp => by rw [ho 19 (by decide)]; exact (hR p hp).1
    have e20 : σ 20 j = K j := by have := (hv j hj12).2; rw [if_neg (by omega)] at this; exact this
    rw [fX1_heatHour_b55, if_neg nle, rd_nI hj12 (by decide), cal_e (besideC e19 hj12), wr_nI hj12 (by decide), rd_nI hj12 (by decide), rd_nI hj12 (by decide), wr_nI hj12 (by decide), up2_s, up2_c _ _ _ _ _ (show (20 : Nat) ≠ 18 by decide), e19 j hj12, e20, nI_1]
    show ∃ σ', fX1_heatHour_b55 n (nI (j + 1)) (up2 (up2 σ 18 j (ht_v R j)) 20 j (if K j < ht_v R j then ht_v R j else K j)) = some (0, σ') ∧ _
    refine ih (j + 1) n _ (by omega) (by omega) ((ho.up (by decide) _ _).up (by decide) _ _) (fun p hp => ?_)
    rw [up2_if, up2_c _ _ _ _ _ (show (18 : Nat) ≠ 20 by decide), up2_if, up2_c _ _ _ _ _ (show (20 : Nat) ≠ 18 by decide)]
    by_cases e : p = j
    · subst e; rw [if_pos rfl, if_pos rfl, if_pos (show p < p + 1 by omega)]; exact ⟨fun _ => rfl, rfl⟩
    · rw [if_neg e, if_neg e]
      refine ⟨fun h => (hv p hp).1 (by omega), ?_⟩
      rw [(hv p hp).2]
      by_cases q : p < j
      · rw [if_pos q, if_pos (show p < j + 1 by omega)]
      · rw [if_neg q, if_neg (show ¬ p < j + 1 by omega)]
/-- the reference: the same -/
theorem hM_a {τ0 : St} {g l H : Nat → Nat} {w h : Nat} (hw : w ≤ 50) (hh : h < 48) (hwd : τ0 16 h = nI w) (ht : ∀ p, p < 12 → τ0 13 p = nI (g p) ∧ g p ≤ 40 ∧ τ0 14 p = nI (l p) ∧ l p ≤ 200 ∧ τ0 17 p = nI (H p) ∧ H p ≤ 200000) (k30 : Int32 → Int32 → St → Option (Int32 × St)) (x1 : Int32) : ∀ m j n τ, j + m = 12 → m < n → Off [18] τ0 τ → (∀ p, p < j → τ 18 p = nI (ht_r g l w H p)) → ∃ τ', fX11_burns_b37 k30 n x1 (nI h) (nI j) τ = fX11_burns_b98 k30 FU x1 (nI h) 0 τ' ∧ Off [18] τ0 τ' ∧ ∀ p, p < 12 → τ' 18 p = nI (ht_r g l w H p) := by
  intro m
  induction m with
  | zero =>
    intro j n τ hj hn ho hv
    obtain ⟨n, rfl⟩ : ∃ q, n = q + 1 := ⟨n - 1, by omega⟩
    have e : j = 12 := by omega
    subst e
    rw [fX11_burns_b37, if_pos (by decide)]
    exact ⟨τ, rfl, ho, hv⟩
  | succ m ih =>
    intro j n τ hj hn ho hv
    obtain ⟨n, rfl⟩ : ∃ q, n = q + 1 := ⟨n - 1, by omega⟩
    have hj12 : j < 12 := by omega
    obtain ⟨q1, q2, q3, q4, q5, q6⟩ := ht j hj12
    have nle : ¬ (12 : Int32) ≤ nI j := nI_ge (b := 12) (by omega) (by decide)
    have e17 : τ 17 j = nI (H j) := by rw [ho 17 (by decide)]; exact q5
    have e13 : τ 13 j = nI (g j) := by rw [ho 13 (by decide)]; exact q1
    have e14 : τ 14 j = nI (l j) := by rw [ho 14 (by decide)]; exact q3
    have e16 : τ 16 h = nI w := by rw [ho 16 (by decide)]; exact hwd
    rw [fX11_burns_b37, if_neg nle, rd_nI hj12 (by decide), rd_nI hj12 (by decide), rd_nI hh (by decide), rd_nI hj12 (by decide), rd_nI hj12 (by decide), wr_nI hj12 (by decide), e17, e13, e14, e16, (ht_r_i q2 hw q4 q6).2, nI_1]
    refine ih (j + 1) n _ (by omega) (by omega) (ho.up (by decide) _ _) (fun p hp => ?_)
    rw [up2_if]
    by_cases e : p = j
    · subst e; rw [if_pos rfl]
    · rw [if_neg e]; exact hv p (by omega)
theorem hM_b {τ0 : St} {R : Nat → Nat} {K : Nat → Int32} {h : Nat} (hh : h < 48) (hR : ∀ p, p < 12 → τ0 18 p = nI (R p) ∧ τ0 19 p = K p) (k30 : Int32 → Int32 → St → Option (Int32 × St)) (x1 : Int32) : ∀ m j n τ, j + m = 12 → m < n → Off [17, 19] τ0 τ → (∀ p, p < 12 → (p < j → τ 17 p = ht_v R p) ∧ τ 19 p = if p < j then (if h = 0 then ht_v R p else if K p < ht_v R p then ht_v R p else K p) else K p) → ∃ τ', fX11_burns_b98 k30 n x1 (nI h) (nI j) τ = k30 x1 (nI h + 1) τ' ∧ Off [17, 19] τ0 τ' ∧ ∀ p, p < 12 → τ' 17 p = ht_v R p ∧ τ' 19 p = if h = 0 then ht_v R p else if K p < ht_v R p then ht_v R p else K p := by
  intro m
  induction m with
  | zero =>
    intro j n τ hj hn ho hv
    obtain ⟨n, rfl⟩ : ∃ q, n = q + 1 := ⟨n - 1, by omega⟩
    have e : j = 12 := by omega
    subst e
    rw [fX11_burns_b98, if_pos (by decide)]
    refine ⟨τ, rfl, ho, fun p hp => ⟨(hv p hp).1 hp, ?_⟩⟩
    have := (hv p hp).2
    rw [if_pos hp] at this
    exact this
  | succ m ih =>
    intro j n τ hj hn ho hv
    obtain ⟨n, rfl⟩ : ∃ q, n = q + 1 := ⟨n - 1, by omega⟩
    have hj12 : j < 12 := by omega
    have nle : ¬ (12 : Int32) ≤ nI j := nI_ge (b := 12) (by omega) (by decide)
    have e18 : ∀ p, p < 12 → τ 18 p = nI (R p) := fun p hp => by rw [ho 18 (by decide)]; exact (hR p hp).1
    have e19 : τ 19 j = K j := by have := (hv j hj12).2; rw [if_neg (by omega)] at this; exact this
    -- what stands at 154
    have b154 : ∀ (s0 s1 : Int32), s0 + s1 = ht_s R j → ∃ τ', fX11_burns_b154 k30 (fun a0 a1 a2 u => fX11_burns_b98 k30 n a0 a1 a2 u) x1 (nI h) (nI j) s0 s1 τ = k30 x1 (nI h + 1) τ' ∧ Off [17, 19] τ0 τ' ∧ ∀ p, p < 12 → τ' 17 p = ht_v R p ∧ τ' 19 p = if h = 0 then ht_v R p else if K p < ht_v R p then ht_v R p else K p := by
      intro s0 s1 hs
      unfold fX11_burns_b154
      rw [rd_nI hj12 (by decide), wr_nI hj12 (by decide), hs, e18 j hj12]
      have nx : ∀ v, (v = if h = 0 then ht_v R j else if K j < ht_v R j then ht_v R j else K j) → ∃ τ', fX11_burns_b98 k30 n x1 (nI h) (nI (j + 1)) (up2 (up2 τ 17 j (ht_v R j)) 19 j v) = k30 x1 (nI h + 1) τ' ∧ Off [17, 19] τ0 τ' ∧ ∀ p, p < 12 → τ' 17 p = ht_v R p ∧ τ' 19 p = if h = 0 then ht_v R p else if K p < ht_v R p then ht_v R p else K p := by
        intro v ev
        refine ih (j + 1) n _ (by omega) (by omega) ((ho.up (by decide) _ _).up (by decide) _ _) (fun p hp => ?_)
        rw [up2_if, up2_c _ _ _ _ _ (show (17 : Nat) ≠ 19 by decide), up2_if, up2_c _ _ _ _ _ (show (19 : Nat) ≠ 17 by decide)]
        by_cases e : p = j
        · subst e; rw [if_pos rfl, if_pos rfl, if_pos (show p < p + 1 by omega)]; exact ⟨fun _ => rfl, ev⟩
        · rw [if_neg e, if_neg e]
          refine ⟨fun h => (hv p hp).1 (by omega), ?_⟩
          rw [(hv p hp).2]
          by_cases q : p < j
          · rw [if_pos q, if_pos (show p < j + 1 by omega)]
          · rw [if_neg q, if_neg (show ¬ p < j + 1 by omega)]
      by_cases h0 : h = 0
      · subst h0
        rw [if_pos (show nI 0 = 0 from rfl), rd_nI hj12 (by decide), wr_nI hj12 (by decide), up2_s, nI_1]
        exact nx _ (by rw [if_pos rfl]; rfl)
      · rw [if_neg (nI_ne0 (by omega) (by omega)), rd_nI hj12 (by decide), rd_nI hj12 (by decide), wr_nI hj12 (by decide), up2_s, up2_c _ _ _ _ _ (show (19 : Nat) ≠ 17 by decide), e19, nI_1]
        exact nx _ (by rw [if_neg h0]; rfl)
    have b127 : ∀ (s0 : Int32), (s0 = if j = 0 then 0 else nI (R (j - 1)) - nI (R j)) → ∃ τ', fX11_burns_b127 k30 (fun a0 a1 a2 u => fX11_burns_b98 k30 n a0 a1 a2 u) x1 (nI h) (nI j) s0 τ = k30 x1 (nI h + 1) τ' ∧ Off [17, 19] τ0 τ' ∧ ∀ p, p < 12 → τ' 17 p = ht_v R p ∧ τ' 19 p = if h = 0 then ht_v R p else if K p < ht_v R p then ht_v R p else K p := by
      intro s0 hs
      unfold fX11_burns_b127
      rw [nI_1]
      by_cases e : j = 11
      · subst e
        rw [if_pos (by decide)]
        exact b154 _ _ (by unfold ht_s; rw [hs, if_pos (show (11 : Nat) = 11 from rfl)])
      · rw [if_neg (show ¬ (12 : Int32) ≤ nI (j + 1) from nI_ge (b := 12) (by omega) (by decide)), rd_nI (show j + 1 < 12 by omega) (by decide), rd_nI hj12 (by decide), e18 (j + 1) (by omega), e18 j hj12]
        exact b154 _ _ (by unfold ht_s; rw [hs, if_neg e])
    rw [fX11_burns_b98, if_neg nle]
    by_cases e0 : j = 0
    · subst e0
      rw [if_pos (by decide)]
      exact b127 _ (by rw [if_pos rfl])
    · rw [if_neg (nI_nle (by omega) (by omega)), rd_e (j := j - 1) (by rw [show (1 : Int32) = nI 1 from rfl, pk_sub (by omega)]) (by omega) (by decide), rd_nI hj12 (by decide), e18 (j - 1) (by omega), e18 j hj12]
      exact b127 _ (by rw [if_neg e0])

/-- the hours, one by one, on both sides -/
theorem hrs_w {σ0 τ0 : St} {g l wd : Nat → Nat} {N : Nat} (hN : N ≤ 48) (ht : ∀ p, p < 12 → σ0 16 (2 * p) = nI (g p) ∧ g p ≤ 40 ∧ σ0 16 (2 * p + 1) = nI (l p) ∧ l p ≤ 200 ∧ τ0 13 p = nI (g p) ∧ τ0 14 p = nI (l p)) (hw : ∀ j, j < 48 → σ0 21 j = nI (wd j) ∧ τ0 16 j = nI (wd j) ∧ wd j ≤ 50) :
    ∀ m h n n' σ τ (H K : Nat → Nat), h + m = N → m < n → m < n' → Off [18, 19, 20] σ0 σ → Off [17, 18, 19] τ0 τ → (∀ p, p < 12 → σ 18 p = nI (H p) ∧ τ 17 p = nI (H p) ∧ H p ≤ 2000 * h ∧ σ 20 p = nI (K p) ∧ τ 19 p = nI (K p) ∧ K p ≤ 2000 * h) →
      ∃ (σ' τ' : St) (H' K' : Nat → Nat), fX1_heatUp_b30 n (nI N) (nI h) σ = some (0, σ') ∧ fX11_burns_b30 n' (nI N) (nI h) τ = some (0, τ') ∧ Off [18, 19, 20] σ0 σ' ∧ Off [17, 18, 19] τ0 τ' ∧ ∀ p, p < 12 → σ' 18 p = nI (H' p) ∧ τ' 17 p = nI (H' p) ∧ H' p ≤ 96000 ∧ σ' 20 p = nI (K' p) ∧ τ' 19 p = nI (K' p) ∧ K' p ≤ 96000 := by
  intro m
  induction m with
  | zero =>
    intro h n n' σ τ H K hh hn hn' ho ho' hv
    obtain ⟨n, rfl⟩ : ∃ q, n = q + 1 := ⟨n - 1, by omega⟩
    obtain ⟨n', rfl⟩ : ∃ q, n' = q + 1 := ⟨n' - 1, by omega⟩
    rw [fX1_heatUp_b30, fX11_burns_b30, if_pos (nI_le (by omega) (by omega)), if_pos (nI_le (by omega) (by omega))]
    exact ⟨σ, τ, H, K, rfl, rfl, ho, ho', fun p hp => by obtain ⟨a, b, c, d, e, f⟩ := hv p hp; exact ⟨a, b, by omega, d, e, by omega⟩⟩
  | succ m ih =>
    intro h n n' σ τ H K hh hn hn' ho ho' hv
    obtain ⟨n, rfl⟩ : ∃ q, n = q + 1 := ⟨n - 1, by omega⟩
    obtain ⟨n', rfl⟩ : ∃ q, n' = q + 1 := ⟨n' - 1, by omega⟩
    have h48 : h < 48 := by omega
    obtain ⟨w1, w2, w3⟩ := hw h h48
    have e21 : σ 21 h = nI (wd h) := by rw [ho 21 (by decide)]; exact w1
    have e16 : τ 16 h = nI (wd h) := by rw [ho' 16 (by decide)]; exact w2
    obtain ⟨σ1, a1, a2, a3⟩ := hC_a (σ0 := σ) (g := g) (l := l) (H := H) (w := wd h) w3 (fun p hp => by
      obtain ⟨q1, q2, q3, q4, q5, q6⟩ := ht p hp
      obtain ⟨r1, r2, r3, r4⟩ := hv p hp
      refine ⟨?_, q2, ?_, q4, r1, by omega⟩
      · rw [ho 16 (by decide)]; exact q1
      · rw [ho 16 (by decide)]; exact q3) 12 0 FU σ (by omega) (fu_lt (by decide)) (Off.rf _ _) (fun p hp => absurd hp (by omega))
    have Rle : ∀ p, p < 12 → ht_r g l (wd h) H p ≤ 2000 * (h + 1) := fun p hp => by
      have := ht_r_le (g := g) (l := l) (H := H) (w := wd h) (p := p) (B := 2000 * h) (ht p hp).2.1 w3 (hv p hp).2.2.1
      omega
    obtain ⟨σ2, b1, b2, b3⟩ := hC_b (σ0 := σ1) (R := ht_r g l (wd h) H) (K := fun p => nI (K p)) (fun p hp => ⟨a3 p hp, by rw [a2 20 (by decide)]; exact (hv p hp).2.2.2.1⟩) 12 0 FU σ1 (by omega) (fu_lt (by decide)) (Off.rf _ _) (fun p hp => ⟨fun q => absurd q (by omega), by rw [if_neg (by omega), a2 20 (by decide)]; exact (hv p hp).2.2.2.1⟩)
    obtain ⟨τ1, c1, c2, c3⟩ := hM_a (τ0 := τ) (g := g) (l := l) (H := H) (w := wd h) (h := h) w3 h48 e16 (fun p hp => by
      obtain ⟨q1, q2, q3, q4, q5, q6⟩ := ht p hp
      obtain ⟨r1, r2, r3, r4⟩ := hv p hp
      refine ⟨?_, q2, ?_, q4, r2, by omega⟩
      · rw [ho' 13 (by decide)]; exact q5
      · rw [ho' 14 (by decide)]; exact q6) (fun a0 a1 u => fX11_burns_b30 n' a0 a1 u) (nI N) 12 0 FU τ (by omega) (fu_lt (by decide)) (Off.rf _ _) (fun p hp => absurd hp (by omega))
    obtain ⟨τ2, d1, d2, d3⟩ := hM_b (τ0 := τ1) (R := ht_r g l (wd h) H) (K := fun p => nI (K p)) (h := h) h48 (fun p hp => ⟨c3 p hp, by rw [c2 19 (by decide)]; exact (hv p hp).2.2.2.2.1⟩) (fun a0 a1 u => fX11_burns_b30 n' a0 a1 u) (nI N) 12 0 FU τ1 (by omega) (fu_lt (by decide)) (Off.rf _ _) (fun p hp => ⟨fun q => absurd q (by omega), by rw [if_neg (by omega), c2 19 (by decide)]; exact (hv p hp).2.2.2.2.1⟩)
    have nv : ∀ p, p < 12 → ∃ x, x ≤ 2000 * (h + 1) ∧ ht_v (ht_r g l (wd h) H) p = nI x := fun p hp => ht_v_nat (by omega) Rle hp
    have step : ∀ p, p < 12 → σ2 18 p = nI ((ht_v (ht_r g l (wd h) H) p).toNatClampNeg) ∧ τ2 17 p = nI ((ht_v (ht_r g l (wd h) H) p).toNatClampNeg) ∧ (ht_v (ht_r g l (wd h) H) p).toNatClampNeg ≤ 2000 * (h + 1) ∧ σ2 20 p = nI (max (K p) (ht_v (ht_r g l (wd h) H) p).toNatClampNeg) ∧ τ2 19 p = nI (max (K p) (ht_v (ht_r g l (wd h) H) p).toNatClampNeg) ∧ max (K p) (ht_v (ht_r g l (wd h) H) p).toNatClampNeg ≤ 2000 * (h + 1) := by
      intro p hp
      obtain ⟨x, hx, ex⟩ := nv p hp
      have hK := (hv p hp).2.2.2.2.2
      have cl : (ht_v (ht_r g l (wd h) H) p).toNatClampNeg = x := by rw [ex, nI_clamp (by omega)]
      have mx : (if nI (K p) < nI x then nI x else nI (K p)) = nI (max (K p) x) := by
        by_cases q : K p < x
        · rw [if_pos (nI_lt q (by omega)), Nat.max_eq_right (by omega)]
        · rw [if_neg (nI_nlt (by omega) (by omega)), Nat.max_eq_left (by omega)]
      rw [cl]
      refine ⟨(b3 p hp).1.trans ex, (d3 p hp).1.trans ex, hx, ?_, ?_, Nat.max_le.mpr ⟨by omega, hx⟩⟩
      · rw [(b3 p hp).2, ex, mx]
      · rw [(d3 p hp).2, ex]
        by_cases q : h = 0
        · subst q
          have k0 : K p = 0 := by omega
          rw [if_pos rfl, k0, Nat.zero_max]
        · rw [if_neg q, mx]
    have nle : ¬ nI N ≤ nI h := nI_ge (by omega) (by omega)
    obtain ⟨σ3, τ3, H', K', f1, f2, f3, f4, f5⟩ := ih (h + 1) n n' σ2 τ2 _ _ (by omega) (by omega) (by omega) (ho.tr ((a2.mono (by decide)).tr (b2.mono (by decide)))) (ho'.tr ((c2.mono (by decide)).tr (d2.mono (by decide)))) step
    refine ⟨σ3, τ3, H', K', ?_, ?_, f3, f4, f5⟩
    · rw [fX1_heatUp_b30, if_neg nle, rd_nI h48 (by decide), e21, nI_1]
      exact (cal_e (show fX1_heatHour (nI (wd h)) σ = some (0, σ2) from a1.trans b1)).trans f1
    · rw [fX11_burns_b30, if_neg nle]
      rw [nI_1] at d1
      exact c1.trans (d1.trans f2)
theorem hrs0C {σ0 : St} (x1 : Int32) : ∀ m j n σ, j + m = 12 → m < n → Off [18, 20] σ0 σ → (∀ p, p < j → σ 18 p = nI 0 ∧ σ 20 p = nI 0) → ∃ σ', fX1_heatUp_b2 n x1 (nI j) σ = fX1_heatUp_b30 FU x1 0 σ' ∧ Off [18, 20] σ0 σ' ∧ ∀ p, p < 12 → σ' 18 p = nI 0 ∧ σ' 20 p = nI 0 := by
  intro m
  induction m with
  | zero =>
    intro j n σ hj hn ho hv
    obtain ⟨n, rfl⟩ : ∃ q, n = q + 1 := ⟨n - 1, by omega⟩
    have e : j = 12 := by omega
    subst e
    rw [fX1_heatUp_b2, if_pos (by decide)]
    exact ⟨σ, rfl, ho, hv⟩
  | succ m ih =>
    intro j n σ hj hn ho hv
    obtain ⟨n, rfl⟩ : ∃ q, n = q + 1 := ⟨n - 1, by omega⟩
    have hj12 : j < 12 := by omega
    have nle : ¬ (12 : Int32) ≤ nI j := nI_ge (b := 12) (by omega) (by decide)
    rw [fX1_heatUp_b2, if_neg nle, wr_nI hj12 (by decide), wr_nI hj12 (by decide), nI_1]
    refine ih (j + 1) n _ (by omega) (by omega) ((ho.up (by decide) _ _).up (by decide) _ _) (fun p hp => ?_)
    rw [up2_if, up2_c _ _ _ _ _ (show (18 : Nat) ≠ 20 by decide), up2_if, up2_c _ _ _ _ _ (show (20 : Nat) ≠ 18 by decide)]
    by_cases e : p = j
    · rw [if_pos e, if_pos e]; exact ⟨rfl, rfl⟩
    · rw [if_neg e, if_neg e]; exact hv p (by omega)
theorem hrs0M {τ0 : St} (x1 : Int32) : ∀ m j n τ, j + m = 12 → m < n → Off [17, 19] τ0 τ → (∀ p, p < j → τ 17 p = nI 0 ∧ τ 19 p = nI 0) → ∃ τ', fX11_burns_b2 n x1 (nI j) τ = fX11_burns_b30 FU x1 0 τ' ∧ Off [17, 19] τ0 τ' ∧ ∀ p, p < 12 → τ' 17 p = nI 0 ∧ τ' 19 p = nI 0 := by
  intro m
  induction m with
  | zero =>
    intro j n τ hj hn ho hv
    obtain ⟨n, rfl⟩ : ∃ q, n = q + 1 := ⟨n - 1, by omega⟩
    have e : j = 12 := by omega
    subst e
    rw [fX11_burns_b2, if_pos (by decide)]
    exact ⟨τ, rfl, ho, hv⟩
  | succ m ih =>
    intro j n τ hj hn ho hv
    obtain ⟨n, rfl⟩ : ∃ q, n = q + 1 := ⟨n - 1, by omega⟩
    have hj12 : j < 12 := by omega
    have nle : ¬ (12 : Int32) ≤ nI j := nI_ge (b := 12) (by omega) (by decide)
    rw [fX11_burns_b2, if_neg nle, wr_nI hj12 (by decide), wr_nI hj12 (by decide), nI_1]
    refine ih (j + 1) n _ (by omega) (by omega) ((ho.up (by decide) _ _).up (by decide) _ _) (fun p hp => ?_)
    rw [up2_if, up2_c _ _ _ _ _ (show (17 : Nat) ≠ 19 by decide), up2_if, up2_c _ _ _ _ _ (show (19 : Nat) ≠ 17 by decide)]
    by_cases e : p = j
    · rw [if_pos e, if_pos e]; exact ⟨rfl, rfl⟩
    · rw [if_neg e, if_neg e]; exact hv p (by omega)
/-- the fire of the first N hours, on both sides -/
theorem burn_sim {dn nb np hh nw nj ns nt nd : Nat} {σ τ : St} (hP : InvP dn nb np hh nw nj ns nt nd σ τ) {N : Nat} (hN : N ≤ hh) : ∃ (σ' τ' : St) (H K : Nat → Nat), fX1_heatUp (nI N) σ = some (0, σ') ∧ fX11_burns (nI N) τ = some (0, τ') ∧ Off [18, 19, 20] σ σ' ∧ Off [17, 18, 19] τ τ' ∧ ∀ p, p < 12 → σ' 18 p = nI (H p) ∧ τ' 17 p = nI (H p) ∧ H p ≤ 96000 ∧ σ' 20 p = nI (K p) ∧ τ' 19 p = nI (K p) ∧ K p ≤ 96000 := by
  obtain ⟨g1, g2, g3, g4, g5, g6, g7, ⟨w1, w2, w3, w4, w5⟩, g9, g10, g11, g12, g13⟩ := hP
  obtain ⟨σ1, a1, a2, a3⟩ := hrs0C (σ0 := σ) (nI N) 12 0 FU σ (by omega) (fu_lt (by decide)) (Off.rf _ _) (fun p hp => absurd hp (by omega))
  obtain ⟨τ1, b1, b2, b3⟩ := hrs0M (τ0 := τ) (nI N) 12 0 FU τ (by omega) (fu_lt (by decide)) (Off.rf _ _) (fun p hp => absurd hp (by omega))
  obtain ⟨σ2, τ2, H, K, c1, c2, c3, c4, c5⟩ := hrs_w (σ0 := σ) (τ0 := τ) (g := fun p => (τ 13 p).toNatClampNeg) (l := fun p => (τ 14 p).toNatClampNeg) (wd := fun j => (σ 21 j).toNatClampNeg) (N := N) (by omega) (fun p hp => by
      obtain ⟨q1, q2, ⟨x, hx, ex⟩, y, hy, ey⟩ := g6 p hp
      have c1 : (τ 13 p).toNatClampNeg = x := by rw [ex, nI_clamp (by omega)]
      have c2 : (τ 14 p).toNatClampNeg = y := by rw [ey, nI_clamp (by omega)]
      simp only [c1, c2]
      exact ⟨q1.trans ex, hx, q2.trans ey, hy, ex, ey⟩) (fun j hj => by
      obtain ⟨q1, x, hx, ex⟩ := w5 j hj
      have c1 : (σ 21 j).toNatClampNeg = x := by rw [ex, nI_clamp (by omega)]
      simp only [c1]
      exact ⟨ex, q1.symm.trans ex, hx⟩) N 0 FU FU σ1 τ1 (fun _ => 0) (fun _ => 0) (by omega) (fu_lt (by omega)) (fu_lt (by omega)) (a2.mono (by decide)) (b2.mono (by decide)) (fun p hp => ⟨(a3 p hp).1, (b3 p hp).1, by omega, (a3 p hp).2, (b3 p hp).2, by omega⟩)
  exact ⟨σ2, τ2, H, K, a1.trans c1, b1.trans c2, c3, c4, c5⟩
theorem sim_peak {σ τ : St} (hI : Inv σ τ) (x1 : Int32) : ∃ (r : Int32) (σ1 τ1 : St), fX10_peak x1 σ = some (r, σ1) ∧ fX11_peak x1 τ = some (r, τ1) ∧ Inv σ1 τ1 := by
  unfold fX10_peak fX11_peak
  by_cases h1 : x1 < 0 ∨ (12 : Int32) ≤ x1
  · rw [wi_f h1, is_f h1]
    exact fin1 hI
  rw [wi_t h1, is_t h1]
  obtain ⟨p, hp, rfl⟩ := ix_of (N := 12) rfl (by decide) h1
  obtain ⟨dn, nb, np, hh, nw, nj, ns, nt, nd, gg⟩ := id hI
  have g8 := gg.2.2.2.2.2.2.2.1
  obtain ⟨σ', τ', H, K, a1, a2, a3, a4, a5⟩ := burn_sim gg (Nat.le_refl hh)
  refine ⟨nI (K p), σ', τ', ?_, ?_, hI.scr (a3.mono (by decide)) (a4.mono (by decide))⟩
  · rw [g8.2.1, cal_e a1, rd_nI hp (by decide)]; exact sp_e (a5 p hp).2.2.2.1
  · rw [g8.2.2.1, cal_e a2, rd_nI hp (by decide)]; exact sp_e (a5 p hp).2.2.2.2.1
theorem sim_heat {σ τ : St} (hI : Inv σ τ) (x1 x2 : Int32) : ∃ (r : Int32) (σ1 τ1 : St), fX10_heat x1 x2 σ = some (r, σ1) ∧ fX11_heat x1 x2 τ = some (r, τ1) ∧ Inv σ1 τ1 := by
  unfold fX10_heat fX11_heat
  by_cases h1 : x1 < 0 ∨ (12 : Int32) ≤ x1
  · rw [wi_f h1, is_f h1]
    unfold fX11_heat_b22
    rw [if_neg (by decide)]
    exact fin1 hI
  rw [wi_t h1, is_t h1, cal_e (wrong_v _ _ _ _)]
  obtain ⟨p, hp, rfl⟩ := ix_of (N := 12) rfl (by decide) h1
  obtain ⟨dn, nb, np, hh, nw, nj, ns, nt, nd, gg⟩ := id hI
  have g8 := gg.2.2.2.2.2.2.2.1
  rw [show τ 0 19 = σ 15 6 from g8.2.2.1.trans g8.2.1.symm]
  by_cases h2 : (0 : Int32) ≤ x2
  · rw [if_pos h2, if_pos h2]
    by_cases h3 : x2 ≤ σ 15 6
    · rw [if_pos h3, if_pos h3]
      unfold fX11_heat_b22
      rw [if_pos rfl]
      rw [g8.2.1] at h3
      have h48 := g8.1
      obtain ⟨N, hN, rfl⟩ := nI_of2 (x := x2) (M := nI hh) (n := hh) (nI_toInt (by omega)) (i32_nlt.mpr h2) h3
      obtain ⟨σ', τ', H, K, a1, a2, a3, a4, a5⟩ := burn_sim gg hN
      refine ⟨nI (H p), σ', τ', ?_, ?_, hI.scr (a3.mono (by decide)) (a4.mono (by decide))⟩
      · rw [cal_e a1, rd_nI hp (by decide)]; exact sp_e (a5 p hp).1
      · rw [cal_e a2, rd_nI hp (by decide)]; exact sp_e (a5 p hp).2.1
    · rw [if_neg h3, if_neg h3]
      unfold fX11_heat_b22
      rw [if_neg (by decide)]
      exact fin6 hI
  · rw [if_neg h2, if_neg h2]
    unfold fX11_heat_b22
    rw [if_neg (by decide)]
    exact fin4 hI
