/-- fires, fireHeat -/
def gm (fn : Nat → Nat) (m : Nat) : Nat → Nat
  | 0 => 0
  | k + 1 => if m.testBit k = true then (if gm fn m k < fn k then fn k else gm fn m k) else gm fn m k
theorem gm_le {fn : Nat → Nat} {m : Nat} : ∀ k, k ≤ 12 → (∀ c, c < 12 → fn c ≤ 1000) → gm fn m k ≤ 1000 := by
  intro k
  induction k with
  | zero => intro _ _; exact Nat.zero_le _
  | succ k ih =>
    intro hk hf
    have h1 := ih (by omega) hf
    have h2 := hf k (by omega)
    rw [gm]
    split
    · split <;> omega
    · exact h1
theorem gm_ge {fn : Nat → Nat} {m c : Nat} : ∀ k, c < k → m.testBit c = true → fn c ≤ gm fn m k := by
  intro k
  induction k with
  | zero => intro h; omega
  | succ k ih =>
    intro hk hb
    rw [gm]
    by_cases e : c = k
    · subst e
      rw [if_pos hb]
      split <;> omega
    · have h1 := ih (by omega) hb
      split
      · split <;> omega
      · exact h1
theorem gm_at {fn : Nat → Nat} {m : Nat} : ∀ k, (∃ c, c < k ∧ m.testBit c = true) → ∃ c, c < k ∧ m.testBit c = true ∧ fn c = gm fn m k := by
  intro k
  induction k with
  | zero => rintro ⟨c, h, _⟩; omega
  | succ k ih =>
    rintro ⟨c, hc, hb⟩
    rw [gm]
    by_cases e : ∃ c, c < k ∧ m.testBit c = true
    · obtain ⟨d, d1, d2, d3⟩ := ih e
      by_cases hk : m.testBit k = true
      · rw [if_pos hk]
        by_cases hl : gm fn m k < fn k
        · rw [if_pos hl]; exact ⟨k, by omega, hk, rfl⟩
        · rw [if_neg hl]; exact ⟨d, by omega, d2, d3⟩
      · rw [if_neg hk]; exact ⟨d, by omega, d2, d3⟩
    · have e2 : c = k := by
        rcases Nat.lt_or_ge c k with q | q
        · exact absurd ⟨c, q, hb⟩ e
        · omega
      subst e2
      rw [if_pos hb]
      have hz : ∀ j, j ≤ c → gm fn m j = 0 := by
        intro j
        induction j with
        | zero => intro _; rfl
        | succ j ihj =>
          intro hj
          rw [gm, if_neg (fun q => e ⟨j, by omega, q⟩)]
          exact ihj (by omega)
      rw [hz c (Nat.le_refl _)]
      refine ⟨c, by omega, hb, ?_⟩
      split <;> omega
theorem gr_c {σ : St} {fn : Nat → Nat} (hf : ∀ c, c < 12 → σ 32 c = nI (fn c) ∧ fn c ≤ 1000) {m : Nat} (hm : m < 4096) : ∀ q c n, c + q = 12 → q < n → fX5_greatestFrom_b4 n (nI m) (nI (gm fn m c)) (nI c) σ = some (nI (gm fn m 12), σ) := by
  intro q
  induction q with
  | zero =>
    intro c n hc hn
    obtain ⟨n, rfl⟩ : ∃ q, n = q + 1 := ⟨n - 1, by omega⟩
    obtain rfl : c = 12 := by omega
    rw [fX5_greatestFrom_b4, if_pos (show (12 : Int32) ≤ nI 12 from nI_le (a := 12) (Nat.le_refl 12) (by decide))]
  | succ q ih =>
    intro c n hc hn
    obtain ⟨n, rfl⟩ : ∃ q, n = q + 1 := ⟨n - 1, by omega⟩
    have l1 : ¬ (12 : Int32) ≤ nI c := nI_ge (b := 12) (by omega) (by decide)
    have z := ih (c + 1) n (by omega) (by omega)
    rw [fX5_greatestFrom_b4, if_neg l1]
    rw [gm] at z
    by_cases hb : m.testBit c = true
    · rw [if_pos hb] at z
      rw [if_neg (fun e => by rw [(bt_has (by omega) (by omega)).mp e] at hb; cases hb), rd_nI (by omega) (by decide), (hf c (by omega)).1, lt_e, nI_1]
      have h1 := (hf c (by omega)).2
      have h2 := gm_le (fn := fn) (m := m) c (by omega) (fun c hc => (hf c hc).2)
      by_cases hl : gm fn m c < fn c
      · rw [if_pos hl] at z
        rw [if_pos (nI_lt hl (by omega))]; exact z
      · rw [if_neg hl] at z
        rw [if_neg (nI_nlt (by omega) (by omega))]; exact z
    · rw [if_neg hb] at z
      rw [if_pos ((bt_has (by omega) (by omega)).mpr (Bool.not_eq_true _ ▸ hb)), nI_1]; exact z
theorem gr_m {τ : St} {fn : Nat → Nat} (k4 : Int32 → Int32 → St → Option (Int32 × St)) (x3 : Int32) (hf : ∀ c, c < 12 → τ 24 c = nI (fn c) ∧ fn c ≤ 1000) {m : Nat} (hm : m < 4096) : ∀ q c n v, c + q = 12 → q < n → ((∃ d, d < c ∧ m.testBit d = true) ∧ v = nI (gm fn m c) ∨ (¬ ∃ d, d < c ∧ m.testBit d = true) ∧ v = -1 ∧ gm fn m c = 0) → (∃ d, d < 12 ∧ m.testBit d = true) → fX11_firesOf_b14 k4 n (nI m) x3 v (nI c) τ = fX11_firesOf_b54 k4 FU (nI m) x3 (nI (gm fn m 12)) 0 τ := by
  intro q
  induction q with
  | zero =>
    intro c n v hc hn hv he
    obtain ⟨n, rfl⟩ : ∃ q, n = q + 1 := ⟨n - 1, by omega⟩
    obtain rfl : c = 12 := by omega
    rw [fX11_firesOf_b14, if_pos (show (12 : Int32) ≤ nI 12 from nI_le (a := 12) (Nat.le_refl 12) (by decide))]
    rcases hv with ⟨_, h⟩ | ⟨h, _⟩
    · rw [h]
    · exact absurd he h
  | succ q ih =>
    intro c n v hc hn hv he
    obtain ⟨n, rfl⟩ : ∃ q, n = q + 1 := ⟨n - 1, by omega⟩
    have l1 : ¬ (12 : Int32) ≤ nI c := nI_ge (b := 12) (by omega) (by decide)
    rw [fX11_firesOf_b14, if_neg l1]
    by_cases hb : m.testBit c = true
    · rw [if_pos ((bt_hm (by omega) (by omega)).mpr hb), rd_nI (by omega) (by decide), (hf c (by omega)).1, lt_e, nI_1]
      have h1 := (hf c (by omega)).2
      have h2 := gm_le (fn := fn) (m := m) c (by omega) (fun c hc => (hf c hc).2)
      refine ih (c + 1) n _ (by omega) (by omega) (Or.inl ⟨⟨c, by omega, hb⟩, ?_⟩) he
      rw [gm, if_pos hb]
      rcases hv with ⟨_, h⟩ | ⟨_, h, h0⟩
      · rw [h]
        by_cases hl : gm fn m c < fn c
        · rw [if_pos hl, if_pos (nI_lt hl (by omega))]
        · rw [if_neg hl, if_neg (nI_nlt (by omega) (by omega))]
      · rw [h, h0]
        have l2 : (-1 : Int32) < nI (fn c) := by
          rw [Int32.lt_iff_toInt_lt, nI_toInt (by omega), show (-1 : Int32).toInt = -1 from rfl]; omega
        rw [if_pos l2]
        by_cases hl : 0 < fn c
        · rw [if_pos hl]
        · rw [if_neg hl, show fn c = 0 by omega]
    · rw [if_neg (fun e => hb ((bt_hm (by omega) (by omega)).mp e)), nI_1]
      refine ih (c + 1) n _ (by omega) (by omega) ?_ he
      rw [gm, if_neg hb]
      have hx : (∃ d, d < c + 1 ∧ m.testBit d = true) ↔ ∃ d, d < c ∧ m.testBit d = true := by
        constructor
        · rintro ⟨d, d1, d2⟩
          refine ⟨d, ?_, d2⟩
          rcases Nat.lt_or_ge d c with q | q
          · exact q
          · obtain rfl : d = c := by omega
            exact absurd d2 hb
        · rintro ⟨d, d1, d2⟩; exact ⟨d, by omega, d2⟩
      rw [hx]; exact hv
theorem rm_w {σ τ : St} {fn tn : Nat → Nat} (k4 : Int32 → Int32 → St → Option (Int32 × St)) (x3 : Int32) (hf : ∀ c, c < 12 → σ 32 c = nI (fn c) ∧ fn c ≤ 1000) (ht : ∀ c, c < 12 → σ 33 c = nI (tn c) ∧ τ 25 c = nI (tn c) ∧ tn c ≤ 1000) {H : Nat} (hH : H ≤ 1000) : ∀ q c n n' m, c + q = 12 → q < n → q < n' → m < 4096 → (∀ d, d < 12 → m.testBit d = true → fn d ≤ H) → ∃ M, fX5_stillUnfixed_b5 n (nI H) (nI m) (nI c) σ = some (nI M, σ) ∧ fX11_firesOf_b54 k4 n' (nI m) x3 (nI H) (nI c) τ = wr τ 26 12 x3 (nI H) (fun σ1 => k4 (nI M) (x3 + 1) σ1) ∧ M ≤ m ∧ (∀ i, i < 12 → M.testBit i = true → m.testBit i = true) ∧ ∀ i, c ≤ i → i < 12 → fn i ≤ H → H ≤ tn i → M.testBit i = false := by
  intro q
  induction q with
  | zero =>
    intro c n n' m hc hn hn' hm hd
    obtain ⟨n, rfl⟩ : ∃ q, n = q + 1 := ⟨n - 1, by omega⟩
    obtain ⟨n', rfl⟩ : ∃ q, n' = q + 1 := ⟨n' - 1, by omega⟩
    obtain rfl : c = 12 := by omega
    have l1 : (12 : Int32) ≤ nI 12 := nI_le (a := 12) (Nat.le_refl 12) (by decide)
    refine ⟨m, ?_, ?_, Nat.le_refl _, fun _ _ h => h, fun i h1 h2 => by omega⟩
    · rw [fX5_stillUnfixed_b5, if_pos l1]
    · rw [fX11_firesOf_b54, if_pos l1]
  | succ q ih =>
    intro c n n' m hc hn hn' hm hd
    obtain ⟨n, rfl⟩ : ∃ q, n = q + 1 := ⟨n - 1, by omega⟩
    obtain ⟨n', rfl⟩ : ∃ q, n' = q + 1 := ⟨n' - 1, by omega⟩
    have l1 : ¬ (12 : Int32) ≤ nI c := nI_ge (b := 12) (by omega) (by decide)
    have f1 := hf c (by omega)
    have t1 := ht c (by omega)
    rw [fX5_stillUnfixed_b5, if_neg l1, rd_nI (by omega) (by decide), f1.1, fX11_firesOf_b54, if_neg l1, rd_nI (by omega) (by decide), t1.1, rd_nI (by omega) (by decide), t1.2.1, lt_e, lt_e, nI_1, bt_clr (by omega)]
    have zk := ih (c + 1) n n' m (by omega) (by omega) (by omega) hm hd
    by_cases hb : m.testBit c = true
    · have h1 := hd c (by omega) hb
      rw [if_neg (nI_nlt h1 (by omega)), if_pos ((bt_hm (by omega) (by omega)).mpr hb)]
      by_cases hl : tn c < H
      · rw [if_pos (nI_lt hl (by omega)), if_pos (nI_lt hl (by omega))]
        obtain ⟨M, z1, z2, z3, z4, z5⟩ := zk
        refine ⟨M, z1, z2, z3, z4, ?_⟩
        intro i i1 i2 i3 i4
        by_cases e : i = c
        · subst e; omega
        · exact z5 i (by omega) i2 i3 i4
      · rw [if_neg (nI_nlt (by omega) (by omega)), if_neg (nI_nlt (by omega) (by omega))]
        have hcb : ∀ i, i < 12 → (clr m c).testBit i = true → m.testBit i = true := by
          intro i hi h
          rw [clr_bit (by omega) (by omega)] at h
          simp at h
          exact h.1
        obtain ⟨M, z1, z2, z3, z4, z5⟩ := ih (c + 1) n n' (clr m c) (by omega) (by omega) (by omega) (Nat.lt_of_le_of_lt (clr_le m c) hm) (fun d h1 h2 => hd d h1 (hcb d h1 h2))
        refine ⟨M, z1, z2, Nat.le_trans z3 (clr_le m c), fun i hi h => hcb i hi (z4 i hi h), ?_⟩
        intro i i1 i2 i3 i4
        by_cases e : i = c
        · subst e
          cases hM : M.testBit i
          · rfl
          · have := z4 i i2 hM
            rw [clr_bit (by omega) (by omega)] at this
            simp at this
        · exact z5 i (by omega) i2 i3 i4
    · have hb' : m.testBit c = false := Bool.not_eq_true _ ▸ hb
      rw [clr_no (by omega) (by omega) hb', if_neg (fun e => hb ((bt_hm (by omega) (by omega)).mp e))]
      obtain ⟨M, z1, z2, z3, z4, z5⟩ := zk
      refine ⟨M, ?_, z2, z3, z4, ?_⟩
      · split
        · exact z1
        · split
          · exact z1
          · exact z1
      · intro i i1 i2 i3 i4
        by_cases e : i = c
        · subst e
          cases hM : M.testBit i
          · rfl
          · rw [z4 i i2 hM] at hb'; cases hb'
        · exact z5 i (by omega) i2 i3 i4
