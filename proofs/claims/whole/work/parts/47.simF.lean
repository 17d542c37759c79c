/-- count -/
theorem count_w {σ τ : St} {np : Nat} (c : σ 7 7 = nI np) (c' : τ 0 18 = nI np) (h80 : np ≤ 80) (e1 : ∀ k, k < np → σ 11 k = τ 9 k) (x : Int32) : ∀ m j n n' (a : Int32), j + m = np → m < n → m < n' → ∃ r, fX6_inState_b4 n (x - 3) a (nI j) σ = some (r, σ) ∧ fX11_count_b125 n' x a (nI j) τ = some (r, τ) := by
  intro m
  induction m with
  | zero =>
    intro j n n' a hj hn hn'
    obtain ⟨n, rfl⟩ : ∃ q, n = q + 1 := ⟨n - 1, by omega⟩
    obtain ⟨n', rfl⟩ : ∃ q, n' = q + 1 := ⟨n' - 1, by omega⟩
    have l1 : σ 7 7 ≤ nI j := by rw [c]; exact nI_le (by omega) (by omega)
    have l2 : τ 0 18 ≤ nI j := by rw [c']; exact nI_le (by omega) (by omega)
    rw [fX6_inState_b4, fX11_count_b125, if_pos l1, if_pos l2]
    exact ⟨a, rfl, rfl⟩
  | succ m ih =>
    intro j n n' a hj hn hn'
    obtain ⟨n, rfl⟩ : ∃ q, n = q + 1 := ⟨n - 1, by omega⟩
    obtain ⟨n', rfl⟩ : ∃ q, n' = q + 1 := ⟨n' - 1, by omega⟩
    have l1 : ¬ σ 7 7 ≤ nI j := by rw [c]; exact nI_ge (by omega) (by omega)
    have l2 : ¬ τ 0 18 ≤ nI j := by rw [c']; exact nI_ge (by omega) (by omega)
    rw [fX6_inState_b4, fX11_count_b125, if_neg l1, if_neg l2, rd_nI (show j < 80 by omega) (by decide), rd_nI (show j < 80 by omega) (by decide), ← e1 j (by omega), nI_1, Int32.add_zero]
    by_cases e : σ 11 j = x - 3
    · rw [if_pos e, if_pos e]; exact ih (j + 1) n n' (a + 1) (by omega) (by omega) (by omega)
    · rw [if_neg e, if_neg e]; exact ih (j + 1) n n' a (by omega) (by omega) (by omega)
theorem i32_sub20 (x : Int32) : (x - 20).toInt = x.toInt - 20 ∨ (x - 20).toInt = x.toInt - 20 + 4294967296 ∧ x.toInt < -2147483628 := by
  have h := Int32.toInt_sub x 20
  have h0 : (20 : Int32).toInt = 20 := rfl
  have h1 := Int32.le_toInt x
  have h2 := Int32.toInt_lt x
  rw [h0, Int.bmod_def] at h
  split at h <;> omega
theorem sim_count {σ τ : St} (hI : Inv σ τ) (x1 : Int32) : ∃ (r : Int32) (σ1 τ1 : St), fX10_count x1 σ = some (r, σ1) ∧ fX11_count x1 τ = some (r, τ1) ∧ Inv σ1 τ1 := by
  obtain ⟨dn, nb, np, hh, nw, nj, ns, nt, nd, g1, g2, g3, ⟨b1, b2, b3, b4⟩, ⟨p1, p2, p3, p4, p5⟩, g6, g7, ⟨w1, w2, w3, w4, w5⟩, g9, g10, g11, g12, g13⟩ := id hI
  have eq_of : ∀ (k : Int32), x1.toInt = k.toInt → x1 = k := fun k h => Int32.toInt_inj.mp h
  have v0 : (0 : Int32).toInt = 0 := rfl
  have v1 : (1 : Int32).toInt = 1 := rfl
  have v2 : (2 : Int32).toInt = 2 := rfl
  have v3 : (3 : Int32).toInt = 3 := rfl
  have v7 : (7 : Int32).toInt = 7 := rfl
  have v8 : (8 : Int32).toInt = 8 := rfl
  have v9 : (9 : Int32).toInt = 9 := rfl
  have v10 : (10 : Int32).toInt = 10 := rfl
  have v11 : (11 : Int32).toInt = 11 := rfl
  have v16 : (16 : Int32).toInt = 16 := rfl
  have v17 : (17 : Int32).toInt = 17 := rfl
  have v20 : (20 : Int32).toInt = 20 := rfl
  have l3 : x1 < 3 ↔ x1.toInt < 3 := by rw [Int32.lt_iff_toInt_lt, v3]
  have l7 : (7 : Int32) < x1 ↔ 7 < x1.toInt := by rw [Int32.lt_iff_toInt_lt, v7]
  have l11 : x1 < 11 ↔ x1.toInt < 11 := by rw [Int32.lt_iff_toInt_lt, v11]
  have l16 : (16 : Int32) < x1 ↔ 16 < x1.toInt := by rw [Int32.lt_iff_toInt_lt, v16]
  have l10 : x1 ≤ 10 ↔ x1.toInt ≤ 10 := by rw [Int32.le_iff_toInt_le, v10]
  have l17 : (17 : Int32) ≤ x1 ↔ 17 ≤ x1.toInt := by rw [Int32.le_iff_toInt_le, v17]
  have l20 : x1 < 20 ↔ x1.toInt < 20 := by rw [Int32.lt_iff_toInt_lt, v20]
  unfold fX10_count fX11_count
  by_cases hA : 11 ≤ x1.toInt ∧ x1.toInt ≤ 16
  · rw [if_neg (by rw [l3]; omega), if_pos (by rw [l7]; omega), if_neg (by rw [l10]; omega), if_neg (by rw [l17]; omega)]
    unfold fX10_count_b22
    rw [if_neg (by rw [l11]; omega), if_neg (by rw [l16]; omega)]
    obtain ⟨v, hv, rfl⟩ := nI_of2 (x := x1) (M := 16) (n := 16) rfl (by rw [Int32.lt_iff_toInt_lt, v0]; omega) (by rw [Int32.le_iff_toInt_le, v16]; omega)
    have hv2 : 11 ≤ v := by rw [nI_toInt (by omega)] at hA; omega
    rw [rd_e (j := v - 11) (by rw [show (11 : Int32) = nI 11 from rfl, pk_sub hv2]) (by omega) (by decide), rd_e (j := v - 10) (by rw [show (10 : Int32) = nI 10 from rfl, pk_sub (by omega)]) (by omega) (by decide)]
    refine ⟨_, σ, τ, rfl, sp_e ?_, hI⟩
    rw [g1 (v - 11) (by omega), show v - 11 + 1 = v - 10 by omega]
  by_cases hB : 3 ≤ x1.toInt ∧ x1.toInt ≤ 7
  · rw [if_neg (by rw [l3]; omega), if_neg (by rw [l7]; omega), if_pos (by rw [l10]; omega)]
    unfold fX11_count_b22 fX6_inState
    obtain ⟨r, c1, c2⟩ := count_w p2 p3 p1 (fun k hk => (p5 k hk).2.2.2.1) x1 np 0 FU FU 0 (by omega) (fu_lt (by omega)) (fu_lt (by omega))
    have h20 := i32_sub20 x1
    rw [is_f (Or.inl (by rw [Int32.lt_iff_toInt_lt, v0]; omega)), if_neg (fun e => by rw [e, v0] at hB; omega), if_neg (fun e => by rw [e, v1] at hB; omega), if_neg (fun e => by rw [e, v2] at hB; omega)]
    have chain : ∀ {A B : Option (Int32 × St)}, (if x1 = 3 then A else if x1 = 4 then A else if x1 = 5 then A else if x1 = 6 then A else if x1 = 7 then A else B) = A := by
      intro A B
      rcases (show x1.toInt = 3 ∨ x1.toInt = 4 ∨ x1.toInt = 5 ∨ x1.toInt = 6 ∨ x1.toInt = 7 by omega) with h | h | h | h | h
      · rw [if_pos (eq_of 3 h)]
      · rw [eq_of 4 h]; rfl
      · rw [eq_of 5 h]; rfl
      · rw [eq_of 6 h]; rfl
      · rw [eq_of 7 h]; rfl
    rw [chain]
    exact ⟨r, σ, τ, cal_e c1, c2, hI⟩
  have hC : (if x1 < 3 then fX10_count_b22 x1 σ else if (7 : Int32) < x1 then fX10_count_b22 x1 σ else cal (fX6_inState (x1 - 3) σ) (fun v8 σ7 => some (v8, σ7))) = fX10_count_b44 x1 σ := by
    have h22 : fX10_count_b22 x1 σ = fX10_count_b44 x1 σ := by
      unfold fX10_count_b22
      by_cases e : x1 < 11
      · rw [if_pos e]
      · rw [if_neg e]
        rw [l11] at e
        rw [if_pos (by rw [l16]; omega)]
    by_cases e : x1 < 3
    · rw [if_pos e, h22]
    · rw [if_neg e]
      rw [l3] at e
      rw [if_pos (by rw [l7]; omega), h22]
  have hM : (if x1 ≤ 10 then fX11_count_b22 x1 τ else if (17 : Int32) ≤ x1 then fX11_count_b22 x1 τ else rd τ 1 7 (x1 - 10) (fun v6 => some (v6, τ))) = fX11_count_b22 x1 τ := by
    by_cases e : x1 ≤ 10
    · rw [if_pos e]
    · rw [if_neg e]
      rw [l10] at e
      rw [if_pos (by rw [l17]; omega)]
  rw [hC, hM]
  unfold fX10_count_b44 fX11_count_b22
  have hcb : τ 0 17 = σ 2 4 := b3.trans b2.symm
  have hbt : (σ 2 4).toInt = nb := by rw [b2]; exact nI_toInt (by omega)
  by_cases hD : 20 ≤ x1.toInt
  · rw [if_neg (by rw [l20]; omega)]
    by_cases e : (x1 - 20) < 0 ∨ σ 2 4 ≤ (x1 - 20)
    · rw [wi_f e, is_f (by rw [hcb]; exact e)]
      refine ⟨-9, σ, τ, rfl, ?_, hI⟩
      rw [if_neg (fun e => by rw [e, v0] at hD; omega), if_neg (fun e => by rw [e, v1] at hD; omega), if_neg (fun e => by rw [e, v2] at hD; omega), if_neg (fun e => by rw [e] at hD; exact absurd hD (by decide)), if_neg (fun e => by rw [e] at hD; exact absurd hD (by decide)), if_neg (fun e => by rw [e] at hD; exact absurd hD (by decide)), if_neg (fun e => by rw [e] at hD; exact absurd hD (by decide)), if_neg (fun e => by rw [e] at hD; exact absurd hD (by decide)), if_neg (fun e => by rw [e] at hD; exact absurd hD (by decide)), if_neg (fun e => by rw [e] at hD; exact absurd hD (by decide)), if_neg (fun e => by rw [e] at hD; exact absurd hD (by decide))]
    · rw [wi_t e, is_t (by rw [hcb]; exact e)]
      obtain ⟨b, hb, eb⟩ := ix_of b2 (by omega) e
      rw [rd_e eb (show b < 20 by omega) (by decide), rd_e eb (show b < 20 by omega) (by decide)]
      exact ⟨_, σ, τ, rfl, sp_e (b4 b (by omega)).2.2.1.symm, hI⟩
  · have h20 := i32_sub20 x1
    have hx1 := Int32.le_toInt x1
    rw [if_pos (by rw [l20]; omega), is_f (by
      rcases h20 with h | ⟨h, h'⟩
      · exact Or.inl (by rw [Int32.lt_iff_toInt_lt, v0]; omega)
      · exact Or.inr (by rw [Int32.le_iff_toInt_le, hcb, hbt]; omega))]
    have n3 : ¬ x1 = 3 := fun e => by rw [e] at hB; exact hB (by decide)
    have n4 : ¬ x1 = 4 := fun e => by rw [e] at hB; exact hB (by decide)
    have n5 : ¬ x1 = 5 := fun e => by rw [e] at hB; exact hB (by decide)
    have n6 : ¬ x1 = 6 := fun e => by rw [e] at hB; exact hB (by decide)
    have n7 : ¬ x1 = 7 := fun e => by rw [e] at hB; exact hB (by decide)
    rw [if_neg n3, if_neg n4, if_neg n5, if_neg n6, if_neg n7, if_neg n3, if_neg n4, if_neg n5, if_neg n6, if_neg n7]
    by_cases c0 : x1 = 0
    · rw [if_pos c0, if_pos c0]; exact ⟨_, σ, τ, rfl, sp_e (g2.2.2.trans g2.2.1.symm), hI⟩
    rw [if_neg c0, if_neg c0]
    by_cases c1 : x1 = 1
    · rw [if_pos c1, if_pos c1]; exact ⟨_, σ, τ, rfl, sp_e hcb, hI⟩
    rw [if_neg c1, if_neg c1]
    by_cases c2 : x1 = 2
    · rw [if_pos c2, if_pos c2]; exact ⟨_, σ, τ, rfl, sp_e (p3.trans p2.symm), hI⟩
    rw [if_neg c2, if_neg c2]
    by_cases c8 : x1 = 8
    · rw [if_pos c8, if_pos c8]; exact ⟨_, σ, τ, rfl, sp_e (w3.trans w2.symm), hI⟩
    rw [if_neg c8, if_neg c8]
    by_cases c9 : x1 = 9
    · rw [if_pos c9, if_pos c9]; exact ⟨_, σ, τ, rfl, sp_e w4.symm, hI⟩
    rw [if_neg c9, if_neg c9]
    by_cases c10 : x1 = 10
    · rw [if_pos c10, if_pos c10]; exact ⟨_, σ, τ, rfl, sp_e (g12.2.2.2.2.2.1.trans g12.2.2.2.2.1.symm), hI⟩
    rw [if_neg c10, if_neg c10]
    exact ⟨_, σ, τ, rfl, rfl, hI⟩
