/-- the row of parts -/
def od (w : Nat) : Nat → Nat → Nat
  | 0, j => if j = 0 then 1048576 else 0
  | m + 1, j => (od w m j * (1024 - w) + (if j = 0 then 0 else od w m (j - 1) * w)) / 1024
theorem od_le {w : Nat} (hw : w ≤ 1024) : ∀ m j, od w m j ≤ 1048576
  | 0, j => by unfold od; split <;> omega
  | m + 1, j => by
    unfold od
    have h1 : od w m j * (1024 - w) ≤ 1048576 * (1024 - w) := Nat.mul_le_mul_right _ (od_le hw m j)
    by_cases e : j = 0
    · rw [if_pos e]; omega
    · rw [if_neg e]
      have h2 : od w m (j - 1) * w ≤ 1048576 * w := Nat.mul_le_mul_right _ (od_le hw m (j - 1))
      omega
theorem od_0 {w : Nat} : ∀ m j, m < j → od w m j = 0
  | 0, j, h => by unfold od; rw [if_neg (by omega)]
  | m + 1, j, h => by
    unfold od
    rw [od_0 m j (by omega), if_neg (by omega), od_0 m (j - 1) (by omega)]
    simp
theorem od_i {w m j : Nat} (hw : w ≤ 1024) (hj : 0 < j) : (nI (od w m j) * nI (1024 - w) + nI (od w m (j - 1)) * nI w) / 1024 = nI (od w (m + 1) j) := by
  have h1 : od w m j * (1024 - w) ≤ 1048576 * (1024 - w) := Nat.mul_le_mul_right _ (od_le hw m j)
  have h2 : od w m (j - 1) * w ≤ 1048576 * w := Nat.mul_le_mul_right _ (od_le hw m (j - 1))
  rw [pk_mul, pk_mul, nI_add, show (1024 : Int32) = nI 1024 from rfl, pk_div (by omega) (by decide) (by decide), od, if_neg (by omega)]
theorem od_i0 {w m : Nat} (hw : w ≤ 1024) : nI (od w m 0) * nI (1024 - w) / 1024 = nI (od w (m + 1) 0) := by
  have h1 : od w m 0 * (1024 - w) ≤ 1048576 * (1024 - w) := Nat.mul_le_mul_right _ (od_le hw m 0)
  rw [pk_mul, show (1024 : Int32) = nI 1024 from rfl, pk_div (by omega) (by decide) (by decide), od, if_pos rfl, Nat.add_zero]
theorem od_l {w m j : Nat} (hw : w ≤ 1024) : (((nI (od w m j)).toInt64 * (nI (1024 - w)).toInt64 + (if j = 0 then (0 : Int64) else (nI (od w m (j - 1))).toInt64 * (nI w).toInt64)) / 1024).toInt32 = nI (od w (m + 1) j) := by
  have h0 := od_le hw m j
  have h0' := od_le hw m (j - 1)
  have h1 : od w m j * (1024 - w) ≤ 1048576 * (1024 - w) := Nat.mul_le_mul_right _ h0
  have h2 : od w m (j - 1) * w ≤ 1048576 * w := Nat.mul_le_mul_right _ h0'
  rw [nI_l (by omega), nI_l (by omega), nI_l (by omega), nI_l (by omega), lN_mul, lN_mul, od]
  by_cases e : j = 0
  · rw [if_pos e, if_pos e, show (0 : Int64) = lN 0 from rfl, lN_add, show (1024 : Int64) = lN 1024 from rfl, pk_lDiv (by omega) (by decide) (by decide), lN_i]
  · rw [if_neg e, if_neg e, lN_add, show (1024 : Int64) = lN 1024 from rfl, pk_lDiv (by omega) (by decide) (by decide), lN_i]
/-- the beginning -/
theorem begC {σ0 : St} (w : Nat) : ∀ m j n σ, j + m = 201 → m < n → Off [46] σ0 σ → (∀ i, i < j → σ 46 i = nI 0) → ∃ σ', fX4_begin_b2 n (nI j) σ = some (0, σ') ∧ Off [46] σ0 σ' ∧ ∀ i, i ≤ 200 → σ' 46 i = nI (od w 0 i) := by
  intro m
  induction m with
  | zero =>
    intro j n σ hj hn ho hv
    obtain ⟨n, rfl⟩ : ∃ q, n = q + 1 := ⟨n - 1, by omega⟩
    have lt1 : (200 : Int32) < nI j := nI_lt (a := 200) (by omega) (by omega)
    rw [fX4_begin_b2, if_pos lt1, show (0 : Int32) = nI 0 from rfl, wr_nI (by decide) (by decide)]
    refine ⟨_, rfl, ho.up (by decide) _ _, fun i hi => ?_⟩
    rw [up2_if, od]
    by_cases e : i = 0
    · rw [if_pos e, if_pos e]; rfl
    · rw [if_neg e, if_neg e]; exact hv i (by omega)
  | succ m ih =>
    intro j n σ hj hn ho hv
    obtain ⟨n, rfl⟩ : ∃ q, n = q + 1 := ⟨n - 1, by omega⟩
    have lt1 : ¬ (200 : Int32) < nI j := nI_nlt (b := j) (a := 200) (by omega) (by decide)
    rw [fX4_begin_b2, if_neg lt1, wr_nI (show j < 201 by omega) (by decide), nI_1]
    refine ih (j + 1) n _ (by omega) (by omega) (ho.up (by decide) _ _) (fun i hi => ?_)
    rw [up2_if]
    by_cases e : i = j
    · rw [if_pos e]; rfl
    · rw [if_neg e]; exact hv i (by omega)
theorem begM {τ0 : St} (w : Nat) : ∀ m j n τ, j + m = 202 → m < n → Off [33] τ0 τ → (∀ i, i < j → τ 33 i = nI 0) → ∃ τ', fX11_begins_b2 n (nI j) τ = some (0, τ') ∧ Off [33] τ0 τ' ∧ ∀ i, i ≤ 201 → τ' 33 i = nI (od w 0 i) := by
  intro m
  induction m with
  | zero =>
    intro j n τ hj hn ho hv
    obtain ⟨n, rfl⟩ : ∃ q, n = q + 1 := ⟨n - 1, by omega⟩
    have lt1 : (202 : Int32) ≤ nI j := nI_le (a := 202) (by omega) (by omega)
    rw [fX11_begins_b2, if_pos lt1, show (0 : Int32) = nI 0 from rfl, wr_nI (by decide) (by decide)]
    refine ⟨_, rfl, ho.up (by decide) _ _, fun i hi => ?_⟩
    rw [up2_if, od]
    by_cases e : i = 0
    · rw [if_pos e, if_pos e]; rfl
    · rw [if_neg e, if_neg e]; exact hv i (by omega)
  | succ m ih =>
    intro j n τ hj hn ho hv
    obtain ⟨n, rfl⟩ : ∃ q, n = q + 1 := ⟨n - 1, by omega⟩
    have lt1 : ¬ (202 : Int32) ≤ nI j := nI_ge (b := 202) (by omega) (by decide)
    rw [fX11_begins_b2, if_neg lt1, wr_nI (show j < 202 by omega) (by decide), nI_1]
    refine ih (j + 1) n _ (by omega) (by omega) (ho.up (by decide) _ _) (fun i hi => ?_)
    rw [up2_if]
    by_cases e : i = j
    · rw [if_pos e]; rfl
    · rw [if_neg e]; exact hv i (by omega)
/-- one more piece -/
theorem oneC_w {σ0 : St} {w m : Nat} (hw : w ≤ 1024) : ∀ j n σ, j ≤ 200 → j < n → Off [46] σ0 σ → (∀ i, i ≤ 200 → σ 46 i = nI (if j < i then od w (m + 1) i else od w m i)) → ∃ σ', fX4_makeOneMore_b9 n (nI w) (nI (1024 - w)) (nI j) σ = some (0, σ') ∧ Off [46] σ0 σ' ∧ ∀ i, i ≤ 200 → σ' 46 i = nI (od w (m + 1) i) := by
  intro j
  induction j with
  | zero =>
    intro n σ hj hn ho hv
    obtain ⟨n, rfl⟩ : ∃ q, n = q + 1 := ⟨n - 1, by omega⟩
    have e0 : σ 46 0 = nI (od w m 0) := by have := hv 0 (by omega); rw [if_neg (by omega)] at this; exact this
    rw [fX4_makeOneMore_b9, if_pos (by decide), show (0 : Int32) = nI 0 from rfl, rd_nI (by decide) (by decide), wr_nI (by decide) (by decide), e0, od_i0 hw]
    refine ⟨_, rfl, ho.up (by decide) _ _, fun i hi => ?_⟩
    rw [up2_if]
    by_cases e : i = 0
    · rw [if_pos e, e]
    · rw [if_neg e, hv i hi, if_pos (by omega)]
  | succ j ih =>
    intro n σ hj hn ho hv
    obtain ⟨n, rfl⟩ : ∃ q, n = q + 1 := ⟨n - 1, by omega⟩
    have nlt : ¬ nI (j + 1) < 1 := nI_nlt (b := 1) (by omega) (by omega)
    have e1 : nI (j + 1) - 1 = nI j := nI_pred j
    have v1 : σ 46 (j + 1) = nI (od w m (j + 1)) := by have := hv (j + 1) (by omega); rw [if_neg (by omega)] at this; exact this
    have v0 : σ 46 j = nI (od w m (j + 1 - 1)) := by have := hv j (by omega); rw [if_neg (by omega)] at this; exact this
    rw [fX4_makeOneMore_b9, if_neg nlt, rd_nI (show j + 1 < 201 by omega) (by decide), rd_e e1 (show j < 201 by omega) (by decide), wr_nI (show j + 1 < 201 by omega) (by decide), v1, v0, od_i hw (by omega), pk_m1]
    refine ih n _ (by omega) (by omega) (ho.up (by decide) _ _) (fun i hi => ?_)
    rw [up2_if]
    by_cases e : i = j + 1
    · rw [if_pos e, if_pos (by omega), e]
    · rw [if_neg e, hv i hi]
      by_cases q : j + 1 < i
      · rw [if_pos q, if_pos (by omega)]
      · rw [if_neg q, if_neg (by omega)]
theorem oneC_v {σ : St} {w m : Nat} (hw : w ≤ 1024) (hm : m + 1 ≤ 200) (hv : ∀ i, i ≤ 200 → σ 46 i = nI (od w m i)) : ∃ σ', fX4_makeOneMore (nI (m + 1)) (nI w) σ = some (0, σ') ∧ Off [46] σ σ' ∧ ∀ i, i ≤ 200 → σ' 46 i = nI (od w (m + 1) i) := by
  unfold fX4_makeOneMore
  rw [show (1024 : Int32) - nI w = nI (1024 - w) from pk_sub (a := 1024) hw]
  refine oneC_w hw (m + 1) FU σ hm (fu_lt (by omega)) (Off.rf _ _) (fun i hi => ?_)
  by_cases q : m + 1 < i
  · rw [if_pos q, hv i hi, od_0 m i (by omega), od_0 (m + 1) i q]
  · rw [if_neg q]; exact hv i hi
theorem oneM_w {τ0 : St} {w m : Nat} (hw : w ≤ 1024) : ∀ c n τ, c ≤ 202 → c < n → Off [33] τ0 τ → (∀ i, i ≤ 201 → τ 33 i = nI (if c ≤ i then od w (m + 1) i else od w m i)) → ∃ τ', fX11_oneMore_b4 n (nI w) (if c = 0 then -1 else nI (c - 1)) τ = some (0, τ') ∧ Off [33] τ0 τ' ∧ ∀ i, i ≤ 201 → τ' 33 i = nI (od w (m + 1) i) := by
  intro c
  induction c with
  | zero =>
    intro n τ hc hn ho hv
    obtain ⟨n, rfl⟩ : ∃ q, n = q + 1 := ⟨n - 1, by omega⟩
    rw [if_pos rfl, fX11_oneMore_b4, if_pos (by decide)]
    refine ⟨τ, rfl, ho, fun i hi => ?_⟩
    rw [hv i hi, if_pos (by omega)]
  | succ c ih =>
    intro n τ hc hn ho hv
    obtain ⟨n, rfl⟩ : ∃ q, n = q + 1 := ⟨n - 1, by omega⟩
    have h202 : c < 202 := by omega
    have v1 : τ 33 c = nI (od w m c) := by have := hv c (by omega); rw [if_neg (by omega)] at this; exact this
    have nxt : nI c + (-1) = (if c = 0 then -1 else nI (c - 1)) := by
      by_cases e : c = 0
      · subst e; rfl
      · rw [if_neg e]
        obtain ⟨d, rfl⟩ : ∃ d, c = d + 1 := ⟨c - 1, by omega⟩
        exact pk_m1 d
    have b42 : ∀ s1 : Int64, (s1 = if c = 0 then (0 : Int64) else (nI (od w m (c - 1))).toInt64 * (nI w).toInt64) → ∃ τ', fX11_oneMore_b42 (fun a0 a1 u => fX11_oneMore_b4 n a0 a1 u) (nI w) (nI c) ((nI (od w m c)).toInt64 * (nI (1024 - w)).toInt64) s1 τ = some (0, τ') ∧ Off [33] τ0 τ' ∧ ∀ i, i ≤ 201 → τ' 33 i = nI (od w (m + 1) i) := by
      intro s1 hs
      unfold fX11_oneMore_b42
      rw [wr_nI h202 (by decide), hs, od_l hw, nxt]
      refine ih n _ (by omega) (by omega) (ho.up (by decide) _ _) (fun i hi => ?_)
      rw [up2_if]
      by_cases e : i = c
      · rw [if_pos e, if_pos (by omega), e]
      · rw [if_neg e, hv i hi]
        by_cases q : c + 1 ≤ i
        · rw [if_pos q, if_pos (by omega)]
        · rw [if_neg q, if_neg (by omega)]
    rw [if_neg (by omega), show c + 1 - 1 = c by omega, fX11_oneMore_b4, if_neg (nI_pos (by omega)), rd_nI h202 (by decide), v1, show (1024 : Int32) - nI w = nI (1024 - w) from pk_sub (a := 1024) hw]
    by_cases e : c = 0
    · subst e
      rw [if_pos (by decide)]
      exact b42 0 (by rw [if_pos rfl])
    · have v0 : τ 33 (c - 1) = nI (od w m (c - 1)) := by have := hv (c - 1) (by omega); rw [if_neg (by omega)] at this; exact this
      rw [if_neg (nI_nle (by omega) (by omega)), rd_e (j := c - 1) (by rw [show (1 : Int32) = nI 1 from rfl, pk_sub (by omega)]) (by omega) (by decide), v0]
      exact b42 _ (by rw [if_neg e])
theorem oneM_v {τ : St} {w m : Nat} (hw : w ≤ 1024) (hv : ∀ i, i ≤ 201 → τ 33 i = nI (od w m i)) : ∃ τ', fX11_oneMore (nI w) τ = some (0, τ') ∧ Off [33] τ τ' ∧ ∀ i, i ≤ 201 → τ' 33 i = nI (od w (m + 1) i) := by
  obtain ⟨τ', a1, a2⟩ := oneM_w (τ0 := τ) (m := m) hw 202 FU τ (by omega) (fu_lt (by decide)) (Off.rf _ _) (fun i hi => by rw [if_neg (by omega)]; exact hv i hi)
  exact ⟨τ', a1, a2⟩
/-- k or more -/
theorem orM_tail {τ : St} {w m : Nat} (hv : ∀ i, i ≤ 201 → τ 33 i = nI (od w m i)) (a : Int32) : ∀ q j n, j + q = 202 → q < n → m < j → fX11_orMore_b4 n a (nI j) τ = some (a, τ) := by
  intro q
  induction q with
  | zero =>
    intro j n hj hn hm
    obtain ⟨n, rfl⟩ : ∃ q, n = q + 1 := ⟨n - 1, by omega⟩
    have le : (202 : Int32) ≤ nI j := nI_le (a := 202) (by omega) (by omega)
    rw [fX11_orMore_b4, if_pos le]
  | succ q ih =>
    intro j n hj hn hm
    obtain ⟨n, rfl⟩ : ∃ q, n = q + 1 := ⟨n - 1, by omega⟩
    have le : ¬ (202 : Int32) ≤ nI j := nI_ge (b := 202) (by omega) (by decide)
    rw [fX11_orMore_b4, if_neg le, rd_nI (show j < 202 by omega) (by decide), hv j (by omega), od_0 m j hm, show nI 0 = (0 : Int32) from rfl, Int32.add_zero, nI_1]
    exact ih (j + 1) n (by omega) (by omega) (by omega)
theorem or_w {σ τ : St} {w m : Nat} (hm : m ≤ 200) (hv : ∀ i, i ≤ 201 → τ 33 i = nI (od w m i)) (hc : ∀ i, i ≤ 200 → σ 46 i = nI (od w m i)) : ∀ q j n n' (a : Int32), j + q = m + 1 → q < n → 202 < n' + j → ∃ r, fX4_orMore_b5 n (nI m) a (nI j) σ = some (r, σ) ∧ fX11_orMore_b4 n' a (nI j) τ = some (r, τ) := by
  intro q
  induction q with
  | zero =>
    intro j n n' a hj hn hn'
    obtain ⟨n, rfl⟩ : ∃ q, n = q + 1 := ⟨n - 1, by omega⟩
    have lt1 : nI m < nI j := nI_lt (by omega) (by omega)
    refine ⟨a, ?_, orM_tail hv a (202 - j) j n' (by omega) (by omega) (by omega)⟩
    rw [fX4_orMore_b5, if_pos lt1]
  | succ q ih =>
    intro j n n' a hj hn hn'
    obtain ⟨n, rfl⟩ : ∃ q, n = q + 1 := ⟨n - 1, by omega⟩
    obtain ⟨n', rfl⟩ : ∃ q, n' = q + 1 := ⟨n' - 1, by omega⟩
    have lt1 : ¬ nI m < nI j := nI_nlt (by omega) (by omega)
    have le : ¬ (202 : Int32) ≤ nI j := nI_ge (b := 202) (by omega) (by decide)
    rw [fX4_orMore_b5, fX11_orMore_b4, if_neg lt1, if_neg le, rd_nI (show j < 201 by omega) (by decide), rd_nI (show j < 202 by omega) (by decide), hc j (by omega), hv j (by omega), nI_1]
    exact ih (j + 1) n n' _ (by omega) (by omega) (by omega)
theorem or_v {σ τ : St} {w m k : Nat} (hm : m ≤ 200) (hk : k ≤ 200) (hv : ∀ i, i ≤ 201 → τ 33 i = nI (od w m i)) (hc : ∀ i, i ≤ 200 → σ 46 i = nI (od w m i)) : ∃ r, fX4_orMore (nI k) (nI m) σ = some (r, σ) ∧ fX11_orMore (nI k) τ = some (r, τ) := by
  unfold fX4_orMore fX11_orMore
  rcases Nat.lt_or_ge (m + 1) k with h | h
  · refine ⟨0, ?_, orM_tail hv 0 (202 - k) k FU (by omega) (fu_lt (by omega)) (by omega)⟩
    show fX4_orMore_b5 (9999 + 1) (nI m) 0 (nI k) σ = _
    rw [fX4_orMore_b5, if_pos (nI_lt (by omega) (by omega))]
  · exact or_w hm hv hc (m + 1 - k) k FU FU 0 (by omega) (fu_lt (by omega)) (by have : FU = 10000 := rfl; omega)
/-- chance -/
theorem chance_w {σ0 τ0 : St} {w N k : Nat} (hw : w ≤ 1024) (hN : N ≤ 200) (hk : k ≤ 200) : ∀ q m n n' σ τ, m + q = N → q < n → q < n' → Off [46] σ0 σ → Off [33] τ0 τ → (∀ i, i ≤ 201 → τ 33 i = nI (od w m i)) → (∀ i, i ≤ 200 → σ 46 i = nI (od w m i)) → ∃ (r : Int32) (σ' τ' : St), fX4_ofWhole_b7 n (nI N) (nI k) (nI w) (nI (m + 1)) σ = some (r, σ') ∧ fX11_chance_b54 n' (nI N) (nI k) (nI w) (nI m) τ = some (r, τ') ∧ Off [46] σ0 σ' ∧ Off [33] τ0 τ' := by
  intro q
  induction q with
  | zero =>
    intro m n n' σ τ hm hn hn' ho ho' hv hc
    obtain ⟨n, rfl⟩ : ∃ q, n = q + 1 := ⟨n - 1, by omega⟩
    obtain ⟨n', rfl⟩ : ∃ q, n' = q + 1 := ⟨n' - 1, by omega⟩
    have e : m = N := by omega
    subst e
    obtain ⟨r, a1, a2⟩ := or_v (σ := σ) (τ := τ) (w := w) (m := m) (k := k) hN hk hv hc
    refine ⟨r, σ, τ, ?_, ?_, ho, ho'⟩
    · rw [fX4_ofWhole_b7, if_pos (nI_lt (by omega) (by omega)), cal_e a1]
    · rw [fX11_chance_b54, if_pos (nI_le (by omega) (by omega)), cal_e a2]
  | succ q ih =>
    intro m n n' σ τ hm hn hn' ho ho' hv hc
    obtain ⟨n, rfl⟩ : ∃ q, n = q + 1 := ⟨n - 1, by omega⟩
    obtain ⟨n', rfl⟩ : ∃ q, n' = q + 1 := ⟨n' - 1, by omega⟩
    obtain ⟨σ', a1, a2, a3⟩ := oneC_v (σ := σ) (w := w) (m := m) hw (by omega) hc
    obtain ⟨τ', b1, b2, b3⟩ := oneM_v (τ := τ) (w := w) (m := m) hw hv
    rw [fX4_ofWhole_b7, fX11_chance_b54, if_neg (nI_nlt (by omega) (by omega)), if_neg (nI_ge (by omega) (by omega)), cal_e a1, cal_e b1, nI_1, nI_1]
    exact ih (m + 1) n n' σ' τ' (by omega) (by omega) (by omega) (ho.tr a2) (ho'.tr b2) b3 a3
theorem beg_v (w : Nat) (σ τ : St) : ∃ σ' τ', fX4_begin σ = some (0, σ') ∧ fX11_begins τ = some (0, τ') ∧ Off [46] σ σ' ∧ Off [33] τ τ' ∧ (∀ i, i ≤ 201 → τ' 33 i = nI (od w 0 i)) ∧ ∀ i, i ≤ 200 → σ' 46 i = nI (od w 0 i) := by
  obtain ⟨σ', a1, a2, a3⟩ := begC (σ0 := σ) w 201 0 FU σ (by omega) (fu_lt (by decide)) (Off.rf _ _) (fun i hi => absurd hi (by omega))
  obtain ⟨τ', b1, b2, b3⟩ := begM (τ0 := τ) w 202 0 FU τ (by omega) (fu_lt (by decide)) (Off.rf _ _) (fun i hi => absurd hi (by omega))
  exact ⟨σ', τ', a1, b1, a2, b2, b3, a3⟩
theorem sim_chance {σ τ : St} (hI : Inv σ τ) (x1 x2 x3 : Int32) : ∃ (r : Int32) (σ1 τ1 : St), fX10_chance x1 x2 x3 σ = some (r, σ1) ∧ fX11_chance x1 x2 x3 τ = some (r, τ1) ∧ Inv σ1 τ1 := by
  unfold fX10_chance fX11_chance fX10_chance_b12 fX10_chance_b40 fX11_chance_b12 fX11_chance_b40
  by_cases h1 : x1 < 0
  · rw [if_pos h1, if_pos h1]; exact fin4 hI
  rw [if_neg h1, if_neg h1]
  by_cases h2 : x2 < 0
  · rw [if_pos h2, if_pos h2]; exact fin4 hI
  rw [if_neg h2, if_neg h2]
  by_cases h3 : (0 : Int32) ≤ x3
  · rw [if_pos h3, if_pos h3]
    by_cases h4 : (200 : Int32) < x1
    · rw [if_pos h4, if_pos h4]; exact fin6 hI
    rw [if_neg h4, if_neg h4]
    by_cases h5 : (200 : Int32) < x2
    · rw [if_pos h5, if_pos h5]; exact fin6 hI
    rw [if_neg h5, if_neg h5]
    by_cases h6 : x3 ≤ 1024
    · rw [if_pos h6, if_pos h6]
      obtain ⟨N, hN, rfl⟩ := nI_of2 (x := x1) (M := 200) (n := 200) rfl h1 (i32_nlt.mp h4)
      obtain ⟨k, hk, rfl⟩ := nI_of2 (x := x2) (M := 200) (n := 200) rfl h2 (i32_nlt.mp h5)
      obtain ⟨w, hw, rfl⟩ := nI_of2 (x := x3) (M := 1024) (n := 1024) rfl (i32_nlt.mpr h3) h6
      obtain ⟨σ', τ', a1, a2, a3, a4, a5, a6⟩ := beg_v w σ τ
      obtain ⟨r, σ2, τ2, b1, b2, b3, b4⟩ := chance_w (σ0 := σ) (τ0 := τ) (w := w) (N := N) (k := k) hw hN hk N 0 FU FU σ' τ' (by omega) (fu_lt (by omega)) (fu_lt (by omega)) a3 a4 a5 a6
      refine ⟨r, σ2, τ2, ?_, ?_, hI.scr (b3.mono (by decide)) (b4.mono (by decide))⟩
      · unfold fX4_ofWhole
        exact cal_e ((cal_e a1).trans b1)
      · exact (cal_e a2).trans b2
    · rw [if_neg h6, if_neg h6]; exact fin6 hI
  · rw [if_neg h3, if_neg h3]; exact fin4 hI
/-- make -/
theorem make_w {σ0 τ0 : St} {w k : Nat} (hw : w ≤ 1024) (hk : k ≤ 200) (x : Int32) : ∀ q m n n' σ τ, m + q = 200 → q < n → q < n' → Off [46] σ0 σ → Off [33] τ0 τ → (∀ i, i ≤ 201 → τ 33 i = nI (od w m i)) → (∀ i, i ≤ 200 → σ 46 i = nI (od w m i)) → ∃ (r : Int32) (σ' τ' : St), fX4_fewestFor_b19 n (nI k) (nI w) x (nI (m + 1)) σ = some (r, σ') ∧ cal (fX11_oneMore (nI w) τ) (fun _ σ5 => fX11_make_b53 n' (nI k) (nI w) x (nI m + 1) σ5) = some (r, τ') ∧ Off [46] σ0 σ' ∧ Off [33] τ0 τ' := by
  intro q
  induction q with
  | zero =>
    intro m n n' σ τ hm hn hn' ho ho' hv hc
    obtain ⟨n, rfl⟩ : ∃ q, n = q + 1 := ⟨n - 1, by omega⟩
    obtain ⟨n', rfl⟩ : ∃ q, n' = q + 1 := ⟨n' - 1, by omega⟩
    obtain ⟨τ', b1, b2, b3⟩ := oneM_v (τ := τ) (w := w) (m := m) hw hv
    have l1 : (200 : Int32) < nI (m + 1) := nI_lt (a := 200) (by omega) (by omega)
    refine ⟨-9, σ, τ', ?_, ?_, ho, ho'.tr b2⟩
    · rw [fX4_fewestFor_b19, if_pos l1]
    · rw [cal_e b1, nI_1, fX11_make_b53, if_pos l1]
  | succ q ih =>
    intro m n n' σ τ hm hn hn' ho ho' hv hc
    obtain ⟨n, rfl⟩ : ∃ q, n = q + 1 := ⟨n - 1, by omega⟩
    obtain ⟨n', rfl⟩ : ∃ q, n' = q + 1 := ⟨n' - 1, by omega⟩
    obtain ⟨σ', a1, a2, a3⟩ := oneC_v (σ := σ) (w := w) (m := m) hw (by omega) hc
    obtain ⟨τ', b1, b2, b3⟩ := oneM_v (τ := τ) (w := w) (m := m) hw hv
    obtain ⟨r, c1, c2⟩ := or_v (σ := σ') (τ := τ') (w := w) (m := m + 1) (k := k) (by omega) hk b3 a3
    have l1 : ¬ (200 : Int32) < nI (m + 1) := nI_nlt (b := m + 1) (a := 200) (by omega) (by decide)
    rw [fX4_fewestFor_b19, if_neg l1, cal_e a1, cal_e c1, cal_e b1, nI_1 m, fX11_make_b53, if_neg l1, cal_e c2]
    by_cases e : r < x
    · have z := ih (m + 1) n n' σ' τ' (by omega) (by omega) (by omega) (ho.tr a2) (ho'.tr b2) b3 a3
      rw [← nI_1 (m + 1)] at z
      rw [if_pos e, if_pos e]
      exact z
    · rw [if_neg e, if_neg e]
      exact ⟨_, σ', τ', rfl, rfl, ho.tr a2, ho'.tr b2⟩
theorem sim_make {σ τ : St} (hI : Inv σ τ) (x1 x2 x3 : Int32) : ∃ (r : Int32) (σ1 τ1 : St), fX10_make x1 x2 x3 σ = some (r, σ1) ∧ fX11_make x1 x2 x3 τ = some (r, τ1) ∧ Inv σ1 τ1 := by
  unfold fX10_make fX11_make fX10_make_b12 fX10_make_b40 fX11_make_b12 fX11_make_b39
  by_cases h1 : x1 < 0
  · rw [if_pos h1, if_pos h1]; exact fin4 hI
  rw [if_neg h1, if_neg h1]
  by_cases h2 : x2 < 0
  · rw [if_pos h2, if_pos h2]; exact fin4 hI
  rw [if_neg h2, if_neg h2]
  by_cases h3 : (0 : Int32) ≤ x3
  · rw [if_pos h3, if_pos h3]
    by_cases h4 : (200 : Int32) < x1
    · rw [if_pos h4, if_pos h4]; exact fin6 hI
    rw [if_neg h4, if_neg h4]
    by_cases h5 : (1024 : Int32) < x2
    · rw [if_pos h5, if_pos h5]; exact fin6 hI
    rw [if_neg h5, if_neg h5]
    by_cases h6 : x3 ≤ 1048576
    · rw [if_pos h6, if_pos h6]
      obtain ⟨k, hk, rfl⟩ := nI_of2 (x := x1) (M := 200) (n := 200) rfl h1 (i32_nlt.mp h4)
      obtain ⟨w, hw, rfl⟩ := nI_of2 (x := x2) (M := 1024) (n := 1024) rfl h2 (i32_nlt.mp h5)
      obtain ⟨σ', τ', a1, a2, a3, a4, a5, a6⟩ := beg_v w σ τ
      obtain ⟨r, c1, c2⟩ := or_v (σ := σ') (τ := τ') (w := w) (m := 0) (k := k) (by omega) hk a5 a6
      unfold fX4_fewestFor
      have hb : fX11_make_b53 FU (nI k) (nI w) x3 0 τ' = if r < x3 then cal (fX11_oneMore (nI w) τ') (fun _ σ5 => fX11_make_b53 9999 (nI k) (nI w) x3 (0 + 1) σ5) else some (0, τ') := by
        show fX11_make_b53 (9999 + 1) (nI k) (nI w) x3 0 τ' = _
        rw [fX11_make_b53, if_neg (by decide), cal_e c2]
      rw [cal_e a1, cal_e (show fX4_orMore (nI k) 0 σ' = some (r, σ') from c1), cal_e a2, hb]
      by_cases e : r < x3
      · rw [if_pos e, if_pos e]
        obtain ⟨r2, σ2, τ2, b1, b2, b3, b4⟩ := make_w (σ0 := σ) (τ0 := τ) (w := w) (k := k) hw hk x3 200 0 FU 9999 σ' τ' (by omega) (fu_lt (by decide)) (by omega) a3 a4 a5 a6
        exact ⟨r2, σ2, τ2, cal_e b1, b2, hI.scr (b3.mono (by decide)) (b4.mono (by decide))⟩
      · rw [if_neg e, if_neg e]
        exact ⟨0, σ', τ', cal_e rfl, rfl, hI.scr (a3.mono (by decide)) (a4.mono (by decide))⟩
    · rw [if_neg h6, if_neg h6]; exact fin6 hI
  · rw [if_neg h3, if_neg h3]; exact fin4 hI
