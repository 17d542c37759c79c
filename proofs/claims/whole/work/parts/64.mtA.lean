/-- Matching: the row of candidates -/
def ri (r : Nat → Nat) (y k : Nat) : Nat → Nat := fun t => if t < y then r t else if t = y then k else r (t - 1)
theorem ins_end {r wh : Nat → Nat} {m k x : Nat} (hm : m < 80) (σ : St) (hx : x ≤ m) (h3 : σ 41 3 = nI m) (hlo : ∀ t, t < x → σ 42 t = nI (r t) ∧ σ 43 t = nI (wh (r t))) (hhi : ∀ t, x ≤ t → t < m → σ 42 (t + 1) = nI (r t) ∧ σ 43 (t + 1) = nI (wh (r t)) ∧ wh (r t) < wh k) : ∃ σ' : St, fX3_insert_b55 (nI k) (nI (wh k)) (nI x) σ = some (0, σ') ∧ Off [41, 42, 43] σ σ' ∧ σ' 41 3 = nI (m + 1) ∧ ∀ t, t < m + 1 → σ' 42 t = nI (ri r x k t) ∧ σ' 43 t = nI (wh (ri r x k t)) := by
  refine ⟨up2 (up2 (up2 σ 42 x (nI k)) 43 x (nI (wh k))) 41 3 (σ 41 3 + 1), ?_, (((Off.rf _ _).up (by decide) _ _).up (by decide) _ _).up (by decide) _ _, ?_, ?_⟩
  · unfold fX3_insert_b55
    rw [wr_nI (by omega) (by decide), wr_nI (by omega) (by decide), pf_e]
    rfl
  · rw [up2_s, h3, nI_1]
  · intro t ht
    show upd (σ 42) x (nI k) t = _ ∧ upd (σ 43) x (nI (wh k)) t = _
    unfold ri
    by_cases e1 : t < x
    · rw [upd_n _ _ (by omega), upd_n _ _ (by omega), if_pos e1]; exact hlo t e1
    · by_cases e2 : t = x
      · subst e2; rw [upd_s, upd_s, if_neg e1, if_pos rfl]; exact ⟨rfl, rfl⟩
      · rw [upd_n _ _ e2, upd_n _ _ e2, if_neg e1, if_neg e2]
        have h := hhi (t - 1) (by omega) (by omega)
        rw [show t - 1 + 1 = t by omega] at h
        exact ⟨h.1, h.2.1⟩
theorem ins_w {r wh : Nat → Nat} {m k : Nat} (hm : m < 80) (hk : wh k ≤ 100) (hw : ∀ t, t < m → wh (r t) ≤ 100) : ∀ x n (σ : St), x ≤ m → x < n → σ 41 3 = nI m → (∀ t, t < x → σ 42 t = nI (r t) ∧ σ 43 t = nI (wh (r t))) → (∀ t, x ≤ t → t < m → σ 42 (t + 1) = nI (r t) ∧ σ 43 (t + 1) = nI (wh (r t)) ∧ wh (r t) < wh k) → ∃ (y : Nat) (σ' : St), fX3_insert_b5 n (nI k) (nI (wh k)) (nI x) σ = some (0, σ') ∧ Off [41, 42, 43] σ σ' ∧ σ' 41 3 = nI (m + 1) ∧ y ≤ m ∧ (y = 0 ∨ wh k ≤ wh (r (y - 1))) ∧ (∀ t, y ≤ t → t < m → wh (r t) < wh k) ∧ ∀ t, t < m + 1 → σ' 42 t = nI (ri r y k t) ∧ σ' 43 t = nI (wh (ri r y k t)) := by
  intro x
  induction x with
  | zero =>
    intro n σ hx hn h3 hlo hhi
    obtain ⟨n, rfl⟩ : ∃ q, n = q + 1 := ⟨n - 1, by omega⟩
    obtain ⟨σ', a1, a2, a3, a4⟩ := ins_end hm σ hx h3 hlo hhi
    refine ⟨0, σ', ?_, a2, a3, hx, Or.inl rfl, fun t h1 h2 => (hhi t h1 h2).2.2, a4⟩
    rw [fX3_insert_b5, if_pos (show nI 0 ≤ 0 from nI_le (b := 0) (Nat.le_refl _) (by decide))]
    exact a1
  | succ x ih =>
    intro n σ hx hn h3 hlo hhi
    obtain ⟨n, rfl⟩ : ∃ q, n = q + 1 := ⟨n - 1, by omega⟩
    have l1 : ¬ nI (x + 1) ≤ 0 := nI_nle (by omega) (by omega)
    have e1 : nI (x + 1) - 1 = nI x := by
      rw [show (1 : Int32) = nI 1 from rfl, pk_sub (by omega)]; rfl
    have e2 : nI (x + 1) + (-1) = nI x := by rw [sb_m1 (by omega)]; rfl
    have hx0 := hlo x (by omega)
    have hwx := hw x (by omega)
    rw [fX3_insert_b5, if_neg l1, e1, rd_nI (by omega) (by decide), hx0.2]
    by_cases c : wh k ≤ wh (r x)
    · rw [if_pos (nI_le c (by omega))]
      obtain ⟨σ', a1, a2, a3, a4⟩ := ins_end hm σ hx h3 hlo hhi
      exact ⟨x + 1, σ', a1, a2, a3, hx, Or.inr c, fun t h1 h2 => (hhi t h1 h2).2.2, a4⟩
    · rw [if_neg (nI_ge (by omega) (by omega)), rd_nI (by omega) (by decide), hx0.1, wr_nI (by omega) (by decide), rd_nI (by omega) (by decide), wr_nI (by omega) (by decide), e2]
      have e43 : up2 σ 42 (x + 1) (nI (r x)) 43 x = nI (wh (r x)) := hx0.2
      rw [e43]
      obtain ⟨y, σ', z1, z2, z3⟩ := ih n (up2 (up2 σ 42 (x + 1) (nI (r x))) 43 (x + 1) (nI (wh (r x)))) (by omega) (by omega) h3 (fun t ht => by
        show upd (σ 42) (x + 1) _ t = _ ∧ upd (σ 43) (x + 1) _ t = _
        rw [upd_n _ _ (by omega), upd_n _ _ (by omega)]; exact hlo t (by omega)) (fun t h1 h2 => by
        show upd (σ 42) (x + 1) _ (t + 1) = _ ∧ upd (σ 43) (x + 1) _ (t + 1) = _ ∧ _
        by_cases e : t = x
        · subst e; rw [upd_s, upd_s]; exact ⟨rfl, rfl, by omega⟩
        · rw [upd_n _ _ (by omega), upd_n _ _ (by omega)]; exact hhi t (by omega) h2)
      exact ⟨y, σ', z1, (((Off.rf [41, 42, 43] σ).up (by decide) _ _).up (by decide) _ _).tr z2, z3⟩
