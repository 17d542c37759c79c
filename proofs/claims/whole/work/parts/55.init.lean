/-- the constructors -/
theorem in_X0 : ∀ q c n (σ : St), c + q = 24 → q < n → ∃ σ' : St, fX0_init_b43 n (nI c) σ = some (0, σ') ∧ Off [1] σ σ' ∧ (∀ j, j < c → σ' 1 j = σ 1 j) ∧ ∀ j, c ≤ j → j < 24 → σ' 1 j = pw_FT (j % 4) := by
  intro q
  induction q with
  | zero =>
    intro c n σ hc hn
    obtain ⟨n, rfl⟩ : ∃ q, n = q + 1 := ⟨n - 1, by omega⟩
    have l1 : (24 : Int32) ≤ nI c := nI_le (a := 24) (by omega) (by omega)
    exact ⟨σ, by rw [fX0_init_b43, if_pos l1], Off.rf _ _, fun _ _ => rfl, fun j h1 h2 => by omega⟩
  | succ q ih =>
    intro c n σ hc hn
    obtain ⟨n, rfl⟩ : ∃ q, n = q + 1 := ⟨n - 1, by omega⟩
    have l1 : ¬ (24 : Int32) ≤ nI c := nI_ge (b := 24) (by omega) (by decide)
    have e1 : nI c - nI c / 4 * 4 = nI (c % 4) := by
      rw [show (4 : Int32) = nI 4 from rfl, pk_div (by omega) (by decide) (by decide), pk_mul, pk_sub (by omega)]
      exact congrArg nI (by omega)
    obtain ⟨σ', a1, a2, a3, a4⟩ := ih (c + 1) n (up2 σ 1 c (pw_FT (c % 4))) (by omega) (by omega)
    refine ⟨σ', ?_, ((Off.rf [1] σ).up (by decide) _ _).tr a2, ?_, ?_⟩
    · rw [fX0_init_b43, if_neg l1, e1, tb_nI (by omega) (by decide), wr_nI (by omega) (by decide), nI_1]; exact a1
    · intro j hj; rw [a3 j (by omega), up2_i _ _ _ _ _ (by omega)]
    · intro j h1 h2
      by_cases e : j = c
      · subst e; rw [a3 j (by omega), up2_s]
      · exact a4 j (by omega) h2
theorem in_X1b : ∀ q c n (σ : St), c + q = 12 → q < n → ∃ σ' : St, fX1_init_b91 n (nI c) σ = some (0, σ') ∧ Off [2] σ σ' ∧ (∀ j, j < c → σ' 2 j = σ 2 j) ∧ ∀ j, c ≤ j → j < 12 → σ' 2 j = -9 := by
  intro q
  induction q with
  | zero =>
    intro c n σ hc hn
    obtain ⟨n, rfl⟩ : ∃ q, n = q + 1 := ⟨n - 1, by omega⟩
    have l1 : (12 : Int32) ≤ nI c := nI_le (a := 12) (by omega) (by omega)
    exact ⟨σ, by rw [fX1_init_b91, if_pos l1], Off.rf _ _, fun _ _ => rfl, fun j h1 h2 => by omega⟩
  | succ q ih =>
    intro c n σ hc hn
    obtain ⟨n, rfl⟩ : ∃ q, n = q + 1 := ⟨n - 1, by omega⟩
    have l1 : ¬ (12 : Int32) ≤ nI c := nI_ge (b := 12) (by omega) (by decide)
    obtain ⟨σ', a1, a2, a3, a4⟩ := ih (c + 1) n (up2 σ 2 c (-9)) (by omega) (by omega)
    refine ⟨σ', ?_, ((Off.rf [2] σ).up (by decide) _ _).tr a2, ?_, ?_⟩
    · rw [fX1_init_b91, if_neg l1, wr_nI (by omega) (by decide), nI_1]; exact a1
    · intro j hj; rw [a3 j (by omega), up2_i _ _ _ _ _ (by omega)]
    · intro j h1 h2
      by_cases e : j = c
      · subst e; rw [a3 j (by omega), up2_s]
      · exact a4 j (by omega) h2
theorem in_X1 : ∀ q c n (σ : St), c + q = 24 → q < n → ∃ σ' : St, fX1_init_b64 n (nI c) σ = some (0, σ') ∧ Off [1, 2] σ σ' ∧ (∀ j, j < c → σ' 1 j = σ 1 j) ∧ (∀ j, c ≤ j → j < 24 → σ' 1 j = pw_FP (j % 2)) ∧ ∀ j, j < 12 → σ' 2 j = -9 := by
  intro q
  induction q with
  | zero =>
    intro c n σ hc hn
    obtain ⟨n, rfl⟩ : ∃ q, n = q + 1 := ⟨n - 1, by omega⟩
    have l1 : (24 : Int32) ≤ nI c := nI_le (a := 24) (by omega) (by omega)
    obtain ⟨σ', b1, b2, _, b4⟩ := in_X1b 12 0 FU σ rfl (fu_lt (by omega))
    refine ⟨σ', ?_, b2.mono (by decide), fun j _ => ?_, fun j h1 h2 => by omega, fun j hj => b4 j (Nat.zero_le _) hj⟩
    · rw [fX1_init_b64, if_pos l1]; exact b1
    · rw [b2 1 (by decide)]
  | succ q ih =>
    intro c n σ hc hn
    obtain ⟨n, rfl⟩ : ∃ q, n = q + 1 := ⟨n - 1, by omega⟩
    have l1 : ¬ (24 : Int32) ≤ nI c := nI_ge (b := 24) (by omega) (by decide)
    have e1 : nI c - nI c / 2 * 2 = nI (c % 2) := by
      rw [show (2 : Int32) = nI 2 from rfl, pk_div (by omega) (by decide) (by decide), pk_mul, pk_sub (by omega)]
      exact congrArg nI (by omega)
    obtain ⟨σ', a1, a2, a3, a4, a5⟩ := ih (c + 1) n (up2 σ 1 c (pw_FP (c % 2))) (by omega) (by omega)
    refine ⟨σ', ?_, ((Off.rf [1, 2] σ).up (by decide) _ _).tr a2, ?_, ?_, a5⟩
    · rw [fX1_init_b64, if_neg l1, e1, tb_nI (by omega) (by decide), wr_nI (by omega) (by decide), nI_1]; exact a1
    · intro j hj; rw [a3 j (by omega), up2_i _ _ _ _ _ (by omega)]
    · intro j h1 h2
      by_cases e : j = c
      · subst e; rw [a3 j (by omega), up2_s]
      · exact a4 j (by omega) h2
theorem in_X9 : ∀ q c n (σ : St), c + q = 3 → q < n → ∃ σ' : St, fX9_init_b59 n (nI c) σ = some (0, σ') ∧ Off [1] σ σ' ∧ (∀ j, j < c → σ' 1 j = σ 1 j) ∧ ∀ j, c ≤ j → j < 3 → σ' 1 j = 1 := by
  intro q
  induction q with
  | zero =>
    intro c n σ hc hn
    obtain ⟨n, rfl⟩ : ∃ q, n = q + 1 := ⟨n - 1, by omega⟩
    have l1 : (3 : Int32) ≤ nI c := nI_le (a := 3) (by omega) (by omega)
    exact ⟨σ, by rw [fX9_init_b59, if_pos l1], Off.rf _ _, fun _ _ => rfl, fun j h1 h2 => by omega⟩
  | succ q ih =>
    intro c n σ hc hn
    obtain ⟨n, rfl⟩ : ∃ q, n = q + 1 := ⟨n - 1, by omega⟩
    have l1 : ¬ (3 : Int32) ≤ nI c := nI_ge (b := 3) (by omega) (by decide)
    obtain ⟨σ', a1, a2, a3, a4⟩ := ih (c + 1) n (up2 σ 1 c 1) (by omega) (by omega)
    refine ⟨σ', ?_, ((Off.rf [1] σ).up (by decide) _ _).tr a2, ?_, ?_⟩
    · rw [fX9_init_b59, if_neg l1, wr_nI (by omega) (by decide), nI_1]; exact a1
    · intro j hj; rw [a3 j (by omega), up2_i _ _ _ _ _ (by omega)]
    · intro j h1 h2
      by_cases e : j = c
      · subst e; rw [a3 j (by omega), up2_s]
      · exact a4 j (by omega) h2
theorem in_M3 : ∀ q c n (σ : St), c + q = 3 → q < n → ∃ σ' : St, fX11_init_b457 n (nI c) σ = some (0, σ') ∧ Off [27] σ σ' ∧ (∀ j, j < c → σ' 27 j = σ 27 j) ∧ ∀ j, c ≤ j → j < 3 → σ' 27 j = 1 := by
  intro q
  induction q with
  | zero =>
    intro c n σ hc hn
    obtain ⟨n, rfl⟩ : ∃ q, n = q + 1 := ⟨n - 1, by omega⟩
    have l1 : (3 : Int32) ≤ nI c := nI_le (a := 3) (by omega) (by omega)
    exact ⟨σ, by rw [fX11_init_b457, if_pos l1], Off.rf _ _, fun _ _ => rfl, fun j h1 h2 => by omega⟩
  | succ q ih =>
    intro c n σ hc hn
    obtain ⟨n, rfl⟩ : ∃ q, n = q + 1 := ⟨n - 1, by omega⟩
    have l1 : ¬ (3 : Int32) ≤ nI c := nI_ge (b := 3) (by omega) (by decide)
    obtain ⟨σ', a1, a2, a3, a4⟩ := ih (c + 1) n (up2 σ 27 c 1) (by omega) (by omega)
    refine ⟨σ', ?_, ((Off.rf [27] σ).up (by decide) _ _).tr a2, ?_, ?_⟩
    · rw [fX11_init_b457, if_neg l1, wr_nI (by omega) (by decide), nI_1]; exact a1
    · intro j hj; rw [a3 j (by omega), up2_i _ _ _ _ _ (by omega)]
    · intro j h1 h2
      by_cases e : j = c
      · subst e; rw [a3 j (by omega), up2_s]
      · exact a4 j (by omega) h2
theorem in_M2 : ∀ q c n (σ : St), c + q = 12 → q < n → (∀ j, j < c → σ 13 j = 10 ∧ σ 14 j = 20 ∧ σ 15 j = -9) → ∃ σ' : St, fX11_init_b419 n (nI c) σ = some (0, σ') ∧ Off [13, 14, 15, 27] σ σ' ∧ (∀ j, j < 12 → σ' 13 j = 10 ∧ σ' 14 j = 20 ∧ σ' 15 j = -9) ∧ ∀ j, j < 3 → σ' 27 j = 1 := by
  intro q
  induction q with
  | zero =>
    intro c n σ hc hn hv
    obtain ⟨n, rfl⟩ : ∃ q, n = q + 1 := ⟨n - 1, by omega⟩
    have l1 : (12 : Int32) ≤ nI c := nI_le (a := 12) (by omega) (by omega)
    obtain ⟨σ', b1, b2, _, b4⟩ := in_M3 3 0 FU σ rfl (fu_lt (by omega))
    refine ⟨σ', ?_, b2.mono (by decide), fun j hj => ?_, fun j hj => b4 j (Nat.zero_le _) hj⟩
    · rw [fX11_init_b419, if_pos l1]; exact b1
    · rw [b2 13 (by decide), b2 14 (by decide), b2 15 (by decide)]; exact hv j (by omega)
  | succ q ih =>
    intro c n σ hc hn hv
    obtain ⟨n, rfl⟩ : ∃ q, n = q + 1 := ⟨n - 1, by omega⟩
    have l1 : ¬ (12 : Int32) ≤ nI c := nI_ge (b := 12) (by omega) (by decide)
    obtain ⟨σ', a1, a2, a3, a4⟩ := ih (c + 1) n (up2 (up2 (up2 σ 13 c 10) 14 c 20) 15 c (-9)) (by omega) (by omega) (fun j hj => by
      show upd (σ 13) c 10 j = 10 ∧ upd (σ 14) c 20 j = 20 ∧ upd (σ 15) c (-9) j = -9
      by_cases e : j = c
      · subst e; rw [upd_s, upd_s, upd_s]; exact ⟨rfl, rfl, rfl⟩
      · rw [upd_n _ _ e, upd_n _ _ e, upd_n _ _ e]; exact hv j (by omega))
    refine ⟨σ', ?_, ((((Off.rf [13, 14, 15, 27] σ).up (by decide) _ _).up (by decide) _ _).up (by decide) _ _).tr a2, a3, a4⟩
    rw [fX11_init_b419, if_neg l1, wr_nI (by omega) (by decide), wr_nI (by omega) (by decide), wr_nI (by omega) (by decide), nI_1]; exact a1
theorem in_M1 : ∀ q c n (σ : St), c + q = 6 → q < n → (∀ j, j < 4 * c → σ 2 j = pw_FT (j % 4)) → ∃ σ' : St, fX11_init_b357 n (nI c) σ = some (0, σ') ∧ Off [2, 13, 14, 15, 27] σ σ' ∧ (∀ j, j < 24 → σ' 2 j = pw_FT (j % 4)) ∧ (∀ j, j < 12 → σ' 13 j = 10 ∧ σ' 14 j = 20 ∧ σ' 15 j = -9) ∧ ∀ j, j < 3 → σ' 27 j = 1 := by
  intro q
  induction q with
  | zero =>
    intro c n σ hc hn hv
    obtain ⟨n, rfl⟩ : ∃ q, n = q + 1 := ⟨n - 1, by omega⟩
    have l1 : (6 : Int32) ≤ nI c := nI_le (a := 6) (by omega) (by omega)
    obtain ⟨σ', b1, b2, b3, b4⟩ := in_M2 12 0 FU σ rfl (fu_lt (by omega)) (fun j h => by omega)
    refine ⟨σ', ?_, b2.mono (by decide), fun j hj => ?_, b3, b4⟩
    · rw [fX11_init_b357, if_pos l1]; exact b1
    · rw [b2 2 (by decide)]; exact hv j (by omega)
  | succ q ih =>
    intro c n σ hc hn hv
    obtain ⟨n, rfl⟩ : ∃ q, n = q + 1 := ⟨n - 1, by omega⟩
    have l1 : ¬ (6 : Int32) ≤ nI c := nI_ge (b := 6) (by omega) (by decide)
    have e0 : (4 : Int32) * nI c = nI (4 * c) := pk_mul 4 c
    have e1 : (4 : Int32) * nI c + 1 = nI (4 * c + 1) := by rw [e0]; exact nI_add _ 1
    have e2 : (4 : Int32) * nI c + 2 = nI (4 * c + 2) := by rw [e0]; exact nI_add _ 2
    have e3 : (4 : Int32) * nI c + 3 = nI (4 * c + 3) := by rw [e0]; exact nI_add _ 3
    obtain ⟨σ', a1, a2, a3, a4⟩ := ih (c + 1) n (up2 (up2 (up2 (up2 σ 2 (4 * c) 30) 2 (4 * c + 1) 120) 2 (4 * c + 2) 1200) 2 (4 * c + 3) 1400) (by omega) (by omega) (fun j hj => by
      rcases (show j < 4 * c ∨ j = 4 * c ∨ j = 4 * c + 1 ∨ j = 4 * c + 2 ∨ j = 4 * c + 3 by omega) with e | e | e | e | e
      · rw [up2_i _ _ _ _ _ (by omega), up2_i _ _ _ _ _ (by omega), up2_i _ _ _ _ _ (by omega), up2_i _ _ _ _ _ (by omega)]; exact hv j e
      · rw [up2_i _ _ _ _ _ (by omega), up2_i _ _ _ _ _ (by omega), up2_i _ _ _ _ _ (by omega), e, up2_s, show 4 * c % 4 = 0 by omega]; rfl
      · rw [up2_i _ _ _ _ _ (by omega), up2_i _ _ _ _ _ (by omega), e, up2_s, show (4 * c + 1) % 4 = 1 by omega]; rfl
      · rw [up2_i _ _ _ _ _ (by omega), e, up2_s, show (4 * c + 2) % 4 = 2 by omega]; rfl
      · rw [e, up2_s, show (4 * c + 3) % 4 = 3 by omega]; rfl)
    refine ⟨σ', ?_, (((((Off.rf [2, 13, 14, 15, 27] σ).up (by decide) _ _).up (by decide) _ _).up (by decide) _ _).up (by decide) _ _).tr a2, a3, a4⟩
    rw [fX11_init_b357, if_neg l1, wr_e e0 (by omega) (by decide), wr_e e1 (by omega) (by decide), wr_e e2 (by omega) (by decide), wr_e e3 (by omega) (by decide), nI_1]; exact a1
theorem sim_init : ∃ (zX0 zX6 zX1 zX8 zX5 zX9 zX3 zX4 zX7 zX2 z zM : Int32 × St), fX0_init_b36 (fun _ _ => 0) = some zX0 ∧ fX6_init_b60 (fun _ _ => 0) = some zX6 ∧ fX1_init_b52 (fun _ _ => 0) = some zX1 ∧ fX8_init_b68 (fun _ _ => 0) = some zX8 ∧ fX5_init_b28 (fun _ _ => 0) = some zX5 ∧ fX9_init_b42 (fun _ _ => 0) = some zX9 ∧ fX3_init_b28 (fun _ _ => 0) = some zX3 ∧ fX4_init_b13 (fun _ _ => 0) = some zX4 ∧ fX7_init_b66 (fun _ _ => 0) = some zX7 ∧ fX2_init_b28 (fun _ _ => 0) = some zX2 ∧ fX10_init_b122 (pw_s0 zX0 zX6 zX1 zX8 zX5 zX9 zX3 zX4 zX7 zX2) = some z ∧ fX11_init_b355 (fun _ _ => 0) = some zM ∧ Inv z.2 zM.2 := by
  obtain ⟨s0, a1, a2, _, a4⟩ := in_X0 24 0 FU (up2 (fun _ _ => 0) 0 4 0) rfl (fu_lt (by omega))
  obtain ⟨s1, b1, b2, _, b4, b5⟩ := in_X1 24 0 FU (up2 (up2 (fun _ _ => 0) 0 6 0) 0 7 0) rfl (fu_lt (by omega))
  obtain ⟨s9, c1, c2, _, c4⟩ := in_X9 3 0 FU (up2 (up2 (up2 (fun _ _ => 0) 0 5 0) 0 6 0) 0 7 1) rfl (fu_lt (by omega))
  obtain ⟨t, d1, d2, d3, d4, d5⟩ := in_M1 6 0 FU (fun _ _ => 0) rfl (fu_lt (by omega)) (fun j h => by omega)
  have a1' : fX0_init_b36 (fun _ _ => 0) = some (0, s0) := by
    unfold fX0_init_b36
    rw [pf_e]; exact a1
  have b1' : fX1_init_b52 (fun _ _ => 0) = some (0, s1) := by
    unfold fX1_init_b52
    rw [pf_e, pf_e]; exact b1
  have c1' : fX9_init_b42 (fun _ _ => 0) = some (0, s9) := by
    unfold fX9_init_b42
    rw [pf_e, pf_e, pf_e]; exact c1
  have d1' : fX11_init_b355 (fun _ _ => 0) = some (0, t) := by
    unfold fX11_init_b355
    exact d1
  have tz : ∀ k, k ∉ [2, 13, 14, 15, 27] → t k = fun _ => 0 := fun k h => d2 k h
  have s00 : s0 0 = upd (fun _ => 0) 4 0 := a2 0 (by decide)
  have s10 : s1 0 = upd (upd (fun _ => 0) 6 0) 7 0 := b2 0 (by decide)
  have s90 : s9 0 = upd (upd (upd (fun _ => 0) 5 0) 6 0) 7 1 := c2 0 (by decide)
  refine ⟨(0, s0), (0, up2 (fun _ _ => 0) 0 7 0), (0, s1), (0, up2 (fun _ _ => 0) 0 8 0), (0, fun _ _ => 0), (0, s9), (0, up2 (up2 (up2 (fun _ _ => 0) 0 3 0) 0 4 0) 0 5 0), (0, fun _ _ => 0), (0, up2 (up2 (up2 (fun _ _ => 0) 0 8 0) 0 9 0) 0 10 (-9)), (0, up2 (fun _ _ => 0) 0 3 0), (0, up2 (pw_s0 (0, s0) (0, up2 (fun _ _ => 0) 0 7 0) (0, s1) (0, up2 (fun _ _ => 0) 0 8 0) (0, fun _ _ => 0) (0, s9) (0, up2 (up2 (up2 (fun _ _ => 0) 0 3 0) 0 4 0) 0 5 0) (0, fun _ _ => 0) (0, up2 (up2 (up2 (fun _ _ => 0) 0 8 0) 0 9 0) 0 10 (-9)) (0, up2 (fun _ _ => 0) 0 3 0)) 0 11 0), (0, t), a1', rfl, b1', rfl, rfl, c1', rfl, rfl, rfl, rfl, rfl, d1', 0, 0, 0, 0, 0, 0, 0, 0, 0, ?_, ?_, ?_, ?_, ?_, ?_, ?_, ?_, ?_, ?_, ?_, ?_, ?_⟩
  · intro k hk
    show (0 : Int32) = t 1 (k + 1)
    rw [tz 1 (by decide)]
  · refine ⟨by omega, rfl, ?_⟩
    show t 0 16 = nI 0
    rw [tz 0 (by decide)]; rfl
  · intro j hj
    show s0 1 j = t 2 j ∧ ∃ n, n ≤ 2000 ∧ s0 1 j = nI n
    rw [a4 j (Nat.zero_le _) hj, d3 j hj]
    refine ⟨rfl, ?_⟩
    rcases (show j % 4 = 0 ∨ j % 4 = 1 ∨ j % 4 = 2 ∨ j % 4 = 3 by omega) with e | e | e | e
    · rw [e]; exact ⟨30, by omega, rfl⟩
    · rw [e]; exact ⟨120, by omega, rfl⟩
    · rw [e]; exact ⟨1200, by omega, rfl⟩
    · rw [e]; exact ⟨1400, by omega, rfl⟩
  · show gBt 0 (s0 0 4) (t 0 17) (s0 2) (t 3) (s0 3) (t 4) (s0 4) (t 5)
    rw [s00, tz 0 (by decide), show s0 2 = fun _ => 0 from a2 2 (by decide), show s0 3 = fun _ => 0 from a2 3 (by decide), show s0 4 = fun _ => 0 from a2 4 (by decide), tz 3 (by decide), tz 4 (by decide), tz 5 (by decide)]
    exact ⟨by omega, rfl, rfl, fun j _ => ⟨rfl, ⟨0, by omega, rfl⟩, rfl, rfl⟩⟩
  · refine ⟨by omega, rfl, ?_, ?_, fun k hk => by omega⟩
    · show t 0 18 = nI 0
      rw [tz 0 (by decide)]; rfl
    · intro k _
      show t 9 k = 0
      rw [tz 9 (by decide)]
  · intro p hp
    show s1 1 (2 * p) = t 13 p ∧ s1 1 (2 * p + 1) = t 14 p ∧ (∃ n, n ≤ 40 ∧ t 13 p = nI n) ∧ ∃ n, n ≤ 200 ∧ t 14 p = nI n
    rw [b4 (2 * p) (Nat.zero_le _) (by omega), b4 (2 * p + 1) (Nat.zero_le _) (by omega), (d4 p hp).1, (d4 p hp).2.1, show 2 * p % 2 = 0 by omega, show (2 * p + 1) % 2 = 1 by omega]
    exact ⟨rfl, rfl, ⟨10, by omega, rfl⟩, ⟨20, by omega, rfl⟩⟩
  · intro p hp
    show s1 2 p = t 15 p ∧ (s1 2 p = -9 ∨ ∃ k, k < 0 ∧ s1 2 p = nI k)
    rw [b5 p hp, (d4 p hp).2.2]
    exact ⟨rfl, Or.inl rfl⟩
  · show gWd 0 (s1 0 6) (t 0 19) (s1 0 7) (t 0 20) (s1 6) (t 16)
    rw [s10, tz 0 (by decide), show s1 6 = fun _ => 0 from b2 6 (by decide), tz 16 (by decide)]
    exact ⟨by omega, rfl, rfl, rfl, fun j _ => ⟨rfl, 0, by omega, rfl⟩⟩
  · refine ⟨by omega, rfl, ?_, fun _ => 0, fun _ => 0, fun _ => 0, fun j h => by omega, fun j h => by omega, fun i j h => by omega, fun i j _ h => by omega⟩
    show t 0 21 = nI 0
    rw [tz 0 (by decide)]; rfl
  · intro c hc
    show (0 : Int32) = t 24 c ∧ (0 : Int32) = t 25 c ∧ ∃ f t, f ≤ t ∧ t ≤ 1000 ∧ (0 : Int32) = nI f ∧ (0 : Int32) = nI t
    rw [tz 24 (by decide), tz 25 (by decide)]
    exact ⟨rfl, rfl, 0, 0, by omega, by omega, rfl, rfl⟩
  · show gWk 0 (s9 0 5) (t 0 22) (s9 1) (t 27) (s9 2) (t 28) (s9 0 7) (s9 0 6) (s9 4)
    rw [s90, tz 0 (by decide)]
    refine ⟨by omega, rfl, rfl, fun _ => 1, fun _ => 1, fun p hp => ⟨c4 p (Nat.zero_le _) hp, d5 p hp, Nat.le_refl 1, show (1 : Nat) ≤ 20 by omega⟩, fun j h => by omega, Or.inr ⟨rfl, 0, ⟨by decide, fun c h => by omega, fun c _ => Nat.le_refl _⟩, rfl, fun j h => by omega⟩⟩
  · refine ⟨by omega, rfl, ?_, by omega, rfl, ?_, fun _ => 0, fun _ => 0, fun _ => 0, fun _ => 0, fun _ => 0, fun _ => 0, fun k h => by omega, fun i j h => by omega, fun i j _ h => by omega, fun k h => by omega, fun i j _ h => by omega⟩
    · show t 0 24 = nI 0
      rw [tz 0 (by decide)]; rfl
    · show t 0 23 = nI 0
      rw [tz 0 (by decide)]; rfl
  · refine ⟨by omega, rfl, ?_, fun d h => by omega⟩
    show t 0 25 = nI 0
    rw [tz 0 (by decide)]; rfl
