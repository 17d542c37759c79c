def cnd (σ : St) (x : Int32) : Nat → Prop := fun k => σ 9 k = x ∧ (σ 11 k = 1 ∨ σ 11 k = 2)
theorem fs_v {σ : St} {k : Nat} (hk : k < 80) : fX6_isForSale (nI k) σ = some (if σ 11 k = 1 ∨ σ 11 k = 2 then 1 else 0, σ) := by
  unfold fX6_isForSale
  rw [rd_nI hk (by decide), rd_nI hk (by decide)]
  by_cases h1 : σ 11 k = 1
  · rw [if_pos h1, if_pos (Or.inl h1)]; rfl
  · rw [if_neg h1]
    by_cases h2 : σ 11 k = 2
    · rw [if_pos h2, if_pos (Or.inr h2)]; rfl
    · rw [if_neg h2, if_neg (fun h => h.elim h1 h2)]; rfl
theorem ga_w {σ0 : St} {x : Int32} {np : Nat} {wh : Nat → Nat} (hnp : np ≤ 80) (h7 : σ0 7 7 = nI np) (hw : ∀ k, k < np → cnd σ0 x k → σ0 14 k = nI (wh k) ∧ wh k ≤ 100) : ∀ q c n (σ : St) m (r : Nat → Nat), c + q = np → q < n → Off [41, 42, 43] σ0 σ → σ 41 3 = nI m → (∀ t, t < m → σ 42 t = nI (r t) ∧ σ 43 t = nI (wh (r t))) → rowI (cnd σ0 x) wh c m r → ∃ (m' : Nat) (r' : Nat → Nat) (σ' : St), fX3_gather_b7 n x (nI c) σ = some (0, σ') ∧ Off [41, 42, 43] σ0 σ' ∧ σ' 41 3 = nI m' ∧ (∀ t, t < m' → σ' 42 t = nI (r' t) ∧ σ' 43 t = nI (wh (r' t))) ∧ rowI (cnd σ0 x) wh np m' r' := by
  intro q
  induction q with
  | zero =>
    intro c n σ m r hc hn ho h3 hr hI
    obtain ⟨n, rfl⟩ : ∃ q, n = q + 1 := ⟨n - 1, by omega⟩
    obtain rfl : c = np := by omega
    refine ⟨m, r, σ, ?_, ho, h3, hr, hI⟩
    rw [fX3_gather_b7, ho 7 (by decide), h7, if_pos (nI_le (Nat.le_refl _) (by omega))]
  | succ q ih =>
    intro c n σ m r hc hn ho h3 hr hI
    obtain ⟨n, rfl⟩ : ∃ q, n = q + 1 := ⟨n - 1, by omega⟩
    have l1 : ¬ nI np ≤ nI c := nI_ge (by omega) (by omega)
    have e9 : σ 9 = σ0 9 := ho 9 (by decide)
    have e11 : σ 11 = σ0 11 := ho 11 (by decide)
    have e14 : σ 14 = σ0 14 := ho 14 (by decide)
    rw [fX3_gather_b7, ho 7 (by decide), h7, if_neg l1, rd_nI (by omega) (by decide), e9, nI_1]
    by_cases c1 : σ0 9 c = x
    · rw [if_pos c1, cal_e (fs_v (by omega)), e11]
      by_cases c2 : σ0 11 c = 1 ∨ σ0 11 c = 2
      · rw [if_pos c2, if_neg (show ¬ (1 : Int32) = 0 by decide), rd_nI (by omega) (by decide), e14, (hw c (by omega) ⟨c1, c2⟩).1]
        have hmc := hI.le (fun k hk hk' => (hw k (by omega) hk').2)
        obtain ⟨y, σ1, z1, z2, z3, z4, z5, z6, z7⟩ := ins_w (r := r) (wh := wh) (m := m) (k := c) (by omega) (hw c (by omega) ⟨c1, c2⟩).2 (fun t ht => (hw _ (by have := (hI.1 t ht).1; omega) (hI.1 t ht).2).2) m FU σ (Nat.le_refl _) (fu_lt (by omega)) h3 hr (fun t h1 h2 => by omega)
        have z1' : fX3_insert (nI c) (nI (wh c)) σ = some (0, σ1) := by
          unfold fX3_insert
          rw [h3]; exact z1
        rw [cal_e z1']
        exact ih (c + 1) n σ1 (m + 1) (ri r y c) (by omega) (by omega) (ho.tr z2) z3 z7 (hI.ins ⟨c1, c2⟩ z4 z5 z6)
      · rw [if_neg c2, if_pos rfl]
        exact ih (c + 1) n σ m r (by omega) (by omega) ho h3 hr (hI.skip (fun h => c2 h.2))
    · rw [if_neg c1]
      exact ih (c + 1) n σ m r (by omega) (by omega) ho h3 hr (hI.skip (fun h => c1 h.1))
