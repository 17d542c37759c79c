theorem bcn_pos {m c k : Nat} (hc : c < k) (h : m.testBit c = true) : 0 < bcn m k :=
  Nat.lt_of_le_of_lt (Nat.zero_le _) (bcn_lt (m' := 0) k (fun i _ h => by rw [Nat.zero_testBit] at h; cases h) hc h (Nat.zero_testBit c))
theorem plan_w {σ0 τ0 : St} {fn tn : Nat → Nat} (hf : ∀ c, c < 12 → σ0 32 c = nI (fn c) ∧ τ0 24 c = nI (fn c) ∧ σ0 33 c = nI (tn c) ∧ τ0 25 c = nI (tn c) ∧ fn c ≤ tn c ∧ tn c ≤ 1000) : ∀ q k n n' m (σ τ : St), bcn m 12 ≤ q → k + q ≤ 12 → q < n → q < n' → m < 4096 → Off [34] σ0 σ → Off [26] τ0 τ → (∀ i, i < k → σ 34 i = τ 26 i) → ∃ (K : Nat) (σ' τ' : St), fX5_plan_b7 n (nI m) (nI k) (nI k) σ = some (nI K, σ') ∧ fX11_firesOf_b4 n' (nI m) (nI k) τ = some (nI K, τ') ∧ Off [34] σ0 σ' ∧ Off [26] τ0 τ' ∧ K ≤ 12 ∧ ∀ i, i < K → σ' 34 i = τ' 26 i := by
  intro q
  induction q with
  | zero =>
    intro k n n' m σ τ hq hk hn hn' hm ho ho' he
    obtain ⟨n, rfl⟩ : ∃ q, n = q + 1 := ⟨n - 1, by omega⟩
    obtain ⟨n', rfl⟩ : ∃ q, n' = q + 1 := ⟨n' - 1, by omega⟩
    have m0 : m = 0 := by
      rcases Nat.eq_zero_or_pos m with h | h
      · exact h
      · obtain ⟨c, hc, hb⟩ := bt_ex (n := 12) (by omega) hm
        have := bcn_pos hc hb
        omega
    subst m0
    refine ⟨k, σ, τ, ?_, ?_, ho, ho', by omega, he⟩
    · rw [fX5_plan_b7, if_pos (show nI 0 = 0 from rfl)]
      split <;> rfl
    · rw [fX11_firesOf_b4, if_pos (show nI 0 = 0 from rfl)]
  | succ q ih =>
    intro k n n' m σ τ hq hk hn hn' hm ho ho' he
    obtain ⟨n, rfl⟩ : ∃ q, n = q + 1 := ⟨n - 1, by omega⟩
    obtain ⟨n', rfl⟩ : ∃ q, n' = q + 1 := ⟨n' - 1, by omega⟩
    by_cases m0 : m = 0
    · subst m0
      refine ⟨k, σ, τ, ?_, ?_, ho, ho', by omega, he⟩
      · rw [fX5_plan_b7, if_pos (show nI 0 = 0 from rfl)]
        split <;> rfl
      · rw [fX11_firesOf_b4, if_pos (show nI 0 = 0 from rfl)]
    have l1 : ¬ (12 : Int32) ≤ nI k := nI_ge (b := 12) (by omega) (by decide)
    have l2 : ¬ nI m = 0 := fun e => m0 ((nI_eq (b := 0) (by omega) (by decide)).mp e)
    have hex := bt_ex (n := 12) m0 hm
    have s32 : σ 32 = σ0 32 := ho 32 (by decide)
    have s33 : σ 33 = σ0 33 := ho 33 (by decide)
    have t24 : τ 24 = τ0 24 := ho' 24 (by decide)
    have t25 : τ 25 = τ0 25 := ho' 25 (by decide)
    have f1 : ∀ c, c < 12 → σ 32 c = nI (fn c) ∧ fn c ≤ 1000 := fun c hc => ⟨by rw [s32]; exact (hf c hc).1, by have := hf c hc; omega⟩
    have f2 : ∀ c, c < 12 → τ 24 c = nI (fn c) ∧ fn c ≤ 1000 := fun c hc => ⟨by rw [t24]; exact (hf c hc).2.1, by have := hf c hc; omega⟩
    have hH := gm_le (fn := fn) (m := m) 12 (Nat.le_refl _) (fun c hc => (f1 c hc).2)
    have a1 : fX5_greatestFrom (nI m) σ = some (nI (gm fn m 12), σ) := gr_c f1 hm 12 0 FU rfl (fu_lt (by omega))
    have a2 := gr_m (fun a0 a1 u => fX11_firesOf_b4 n' a0 a1 u) (nI k) f2 hm 12 0 FU (-1) rfl (fu_lt (by omega)) (Or.inr ⟨fun ⟨d, hd, _⟩ => by omega, rfl, rfl⟩) hex
    obtain ⟨M, b1, b2, b3, b4, b5⟩ := rm_w (σ := up2 σ 34 k (nI (gm fn m 12))) (τ := τ) (fn := fn) (tn := tn) (fun a0 a1 u => fX11_firesOf_b4 n' a0 a1 u) (nI k) (fun c hc => f1 c hc) (fun c hc => ⟨by show σ 33 c = _; rw [s33]; exact (hf c hc).2.2.1, by rw [t25]; exact (hf c hc).2.2.2.1, (hf c hc).2.2.2.2.2⟩) hH 12 0 FU FU m rfl (fu_lt (by omega)) (fu_lt (by omega)) hm (fun d h1 h2 => gm_ge 12 h1 h2)
    obtain ⟨c, c1, c2, c3⟩ := gm_at (fn := fn) (m := m) 12 hex
    have c4 := b5 c (Nat.zero_le _) c1 (by omega) (by have := hf c c1; omega)
    have c5 := bcn_lt 12 b4 c1 c2 c4
    have b1' : fX5_stillUnfixed (nI m) (nI (gm fn m 12)) (up2 σ 34 k (nI (gm fn m 12))) = some (nI M, up2 σ 34 k (nI (gm fn m 12))) := b1
    rw [fX5_plan_b7, if_neg l1, if_neg l2, cal_e a1, wr_nI (by omega) (by decide), cal_e b1', fX11_firesOf_b4, if_neg l2, nI_1]
    have a3 : fX11_firesOf_b14 (fun a0 a1 u => fX11_firesOf_b4 n' a0 a1 u) FU (nI m) (nI k) (-1) 0 τ = fX11_firesOf_b4 n' (nI M) (nI (k + 1)) (up2 τ 26 k (nI (gm fn m 12))) := by
      refine a2.trans (b2.trans ?_)
      rw [wr_nI (by omega) (by decide), nI_1]
    rw [a3]
    refine ih (k + 1) n n' M _ _ (by omega) (by omega) (by omega) (by omega) (by omega) (ho.up (by decide) _ _) (ho'.up (by decide) _ _) ?_
    intro i hi
    by_cases e : i = k
    · subst e; rw [up2_s, up2_s]
    · rw [up2_i _ _ _ _ _ e, up2_i _ _ _ _ _ e]; exact he i (by omega)
theorem plan_v {σ τ : St} (hI : Inv σ τ) {m : Nat} (hm : m < 4096) : ∃ (K : Nat) (σ' τ' : St), fX5_plan (nI m) σ = some (nI K, σ') ∧ fX11_firesOf (nI m) τ = some (nI K, τ') ∧ Inv σ' τ' ∧ K ≤ 12 ∧ ∀ i, i < K → σ' 34 i = τ' 26 i := by
  obtain ⟨dn, nb, np, hh, nw, nj, ns, nt, nd, g1, g2, g3, g4, g5, g6, g7, g8, g9, g10, g11, g12, g13⟩ := id hI
  have hv : ∀ {x : Int32} {n : Nat}, x = nI n → n ≤ 1000 → x = nI x.toInt.toNat ∧ x.toInt.toNat = n := by
    intro x n e h
    have : x.toInt.toNat = n := by rw [e, nI_toInt (by omega)]; rfl
    exact ⟨by rw [this]; exact e, this⟩
  obtain ⟨K, σ', τ', a1, a2, a3, a4, a5, a6⟩ := plan_w (σ0 := σ) (τ0 := τ) (fn := fun c => (σ 32 c).toInt.toNat) (tn := fun c => (σ 33 c).toInt.toNat) (fun c hc => by
    obtain ⟨p1, p2, f, t, q1, q2, q3, q4⟩ := g10 c hc
    have v1 := hv q3 (by omega)
    have v2 := hv q4 q2
    refine ⟨v1.1, p1.symm.trans v1.1, v2.1, p2.symm.trans v2.1, ?_, ?_⟩
    · show (σ 32 c).toInt.toNat ≤ (σ 33 c).toInt.toNat
      rw [v1.2, v2.2]; exact q1
    · show (σ 33 c).toInt.toNat ≤ 1000
      rw [v2.2]; exact q2) 12 0 FU FU m σ τ (bcn_le m 12) (by omega) (fu_lt (by omega)) (fu_lt (by omega)) hm (Off.rf _ _) (Off.rf _ _) (fun i h => by omega)
  exact ⟨K, σ', τ', a1, a2, hI.scr (a3.mono (by decide)) (a4.mono (by decide)), a5, a6⟩
theorem cs_v (x : Int32) (σ : St) : fX10_isColourSet x σ = some (if (x &&& (-4096)) = 0 then 1 else 0, σ) := by
  unfold fX10_isColourSet
  by_cases h : (x &&& (-4096)) = 0
  · rw [if_pos h, if_pos h]; rfl
  · rw [if_neg h, if_neg h]; rfl
theorem cs_n {x : Int32} (h : ¬ (x &&& (-4096)) = 0) : x < 0 ∨ ¬ x < 0 ∧ ¬ x < 4096 := by
  by_cases h1 : x < 0
  · exact Or.inl h1
  · refine Or.inr ⟨h1, fun h2 => h ((bt_set x).mpr ?_)⟩
    obtain ⟨j, hj, e⟩ := nI_of2 (x := x) (M := 4096) (n := 4096) rfl h1 (by rw [Int32.le_iff_toInt_le]; rw [Int32.lt_iff_toInt_lt] at h2; omega)
    refine ⟨j, ?_, e⟩
    rw [e, show (4096 : Int32) = nI 4096 from rfl, nI_ltI (by omega) (by decide)] at h2
    exact h2
theorem sim_fires {σ τ : St} (hI : Inv σ τ) (x1 : Int32) : ∃ (r : Int32) (σ1 τ1 : St), fX10_fires x1 σ = some (r, σ1) ∧ fX11_fires x1 τ = some (r, τ1) ∧ Inv σ1 τ1 := by
  unfold fX10_fires fX11_fires
  rw [cal_e (cs_v x1 σ)]
  by_cases h : (x1 &&& (-4096)) = 0
  · rw [if_pos h]
    obtain ⟨m, hm, rfl⟩ := (bt_set x1).mp h
    obtain ⟨K, σ', τ', a1, a2, a3, a4, a5⟩ := plan_v hI hm
    rw [if_neg (show ¬ (1 : Int32) = 0 by decide), if_neg (nI_pos (by omega)), if_pos (show nI m < 4096 from nI_lt (b := 4096) hm (by decide)), cal_e a1, cal_e a2]
    exact ⟨_, σ', τ', rfl, rfl, a3⟩
  · rw [if_neg h, if_pos rfl]
    rcases cs_n h with h1 | ⟨h1, h2⟩
    · rw [if_pos h1]; exact fin1 hI
    · rw [if_neg h1, if_neg h2]; exact fin1 hI
theorem sim_fireHeat {σ τ : St} (hI : Inv σ τ) (x1 x2 : Int32) : ∃ (r : Int32) (σ1 τ1 : St), fX10_fireHeat x1 x2 σ = some (r, σ1) ∧ fX11_fireHeat x1 x2 τ = some (r, τ1) ∧ Inv σ1 τ1 := by
  unfold fX10_fireHeat fX11_fireHeat fX11_fireHeat_b23
  rw [cal_e (cs_v x1 σ)]
  by_cases h : (x1 &&& (-4096)) = 0
  · rw [if_pos h]
    obtain ⟨m, hm, rfl⟩ := (bt_set x1).mp h
    obtain ⟨K, σ', τ', a1, a2, a3, a4, a5⟩ := plan_v hI hm
    rw [if_neg (show ¬ (1 : Int32) = 0 by decide), if_neg (nI_pos (by omega)), if_neg (show ¬ (4096 : Int32) ≤ nI m from nI_ge (b := 4096) hm (by decide)), cal_e a1, cal_e a2]
    by_cases h1 : x2 < 0 ∨ nI K ≤ x2
    · rw [wi_f h1, is_f h1]; exact fin1 a3
    · rw [wi_t h1, is_t h1]
      obtain ⟨i, hi, rfl⟩ := ix_of rfl (by omega) h1
      rw [rd_nI (by omega) (by decide), rd_nI (by omega) (by decide), a5 i hi]
      exact ⟨_, σ', τ', rfl, rfl, a3⟩
  · rw [if_neg h, if_pos rfl]
    rcases cs_n h with h1 | ⟨h1, h2⟩
    · rw [if_pos h1]; exact fin1 hI
    · rw [if_neg h1, if_pos (i32_nlt.mp h2)]; exact fin1 hI
