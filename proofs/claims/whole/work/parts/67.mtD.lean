theorem tk_w {r wh : Nat → Nat} {m s i0 : Nat} (hm : m ≤ 80) (hs : s ≤ 12) (h0 : i0 + s ≤ m) : ∀ q c n (σ : St), c + q = s → q < n → σ 41 4 = nI i0 → (∀ t, t < m → σ 42 t = nI (r t) ∧ σ 43 t = nI (wh (r t))) → (∀ t, t < c → σ 44 t = nI (r (i0 + t))) → ∃ σ' : St, fX3_take_b2 n (nI s) (nI c) σ = some (0, σ') ∧ Off [41, 44] σ σ' ∧ σ' 41 = upd (σ 41) 5 (nI s) ∧ ∀ t, t < s → σ' 44 t = nI (r (i0 + t)) := by
  intro q
  induction q with
  | zero =>
    intro c n σ hc hn h4 hr hv
    obtain ⟨n, rfl⟩ : ∃ q, n = q + 1 := ⟨n - 1, by omega⟩
    obtain rfl : c = s := by omega
    refine ⟨up2 σ 41 5 (nI c), ?_, (Off.rf _ _).up (by decide) _ _, rfl, hv⟩
    rw [fX3_take_b2, if_pos (nI_le (Nat.le_refl _) (by omega)), pf_e]
  | succ q ih =>
    intro c n σ hc hn h4 hr hv
    obtain ⟨n, rfl⟩ : ∃ q, n = q + 1 := ⟨n - 1, by omega⟩
    have l1 : ¬ nI s ≤ nI c := nI_ge (by omega) (by omega)
    obtain ⟨σ', z1, z2, z3, z4⟩ := ih (c + 1) n (up2 σ 44 c (nI (r (i0 + c)))) (by omega) (by omega) h4 hr (fun t ht => by
      show upd (σ 44) c _ t = _
      by_cases e : t = c
      · subst e; rw [upd_s]
      · rw [upd_n _ _ e]; exact hv t (by omega))
    refine ⟨σ', ?_, ((Off.rf [41, 44] σ).up (by decide) _ _).tr z2, z3, z4⟩
    rw [fX3_take_b2, if_neg l1, h4, nI_add, rd_nI (by omega) (by decide), (hr (i0 + c) (by omega)).1, wr_nI (by omega) (by decide), nI_1]
    exact z1
def vld (r wh : Nat → Nat) (m s d i : Nat) : Prop := i + s ≤ m ∧ wh (r i) ≤ wh (r (i + s - 1)) + d
theorem fd_w {r wh : Nat → Nat} {m s d : Nat} (hm : m ≤ 80) (hs1 : 1 ≤ s) (hs : s ≤ 12) (hd : d ≤ 100) (hw : ∀ t, t < m → wh (r t) ≤ 100) (hso : ∀ a b, a ≤ b → b < m → wh (r b) ≤ wh (r a)) : ∀ q i n (σ : St), i + q = m + 1 → q < n → σ 41 3 = nI m → (∀ t, t < m → σ 42 t = nI (r t) ∧ σ 43 t = nI (wh (r t))) → (∀ i', i' < i → ¬ vld r wh m s d i') → (fX3_find_b15 n (nI s) (nI d) (nI i) σ = some (0, σ) ∧ ∀ i', ¬ vld r wh m s d i') ∨ ∃ (i0 : Nat) (σ' : St), fX3_find_b15 n (nI s) (nI d) (nI i) σ = some (1, σ') ∧ vld r wh m s d i0 ∧ (∀ i', i' < i0 → ¬ vld r wh m s d i') ∧ Off [41, 44] σ σ' ∧ σ' 41 3 = nI m ∧ σ' 41 4 = nI i0 ∧ σ' 41 5 = nI s ∧ ∀ t, t < s → σ' 44 t = nI (r (i0 + t)) := by
  intro q
  induction q with
  | zero =>
    intro i n σ hi hn h3 hr hno
    obtain ⟨n, rfl⟩ : ∃ q, n = q + 1 := ⟨n - 1, by omega⟩
    refine Or.inl ⟨?_, fun i' h => ?_⟩
    · rw [fX3_find_b15, h3, nI_add, if_pos (nI_lt (by omega) (by omega))]; rfl
    · exact hno i' (by have := h.1; omega) h
  | succ q ih =>
    intro i n σ hi hn h3 hr hno
    obtain ⟨n, rfl⟩ : ∃ q, n = q + 1 := ⟨n - 1, by omega⟩
    by_cases c1 : m < i + s
    · refine Or.inl ⟨?_, fun i' h => ?_⟩
      · rw [fX3_find_b15, h3, nI_add, if_pos (nI_lt c1 (by omega))]; rfl
      · exact hno i' (by have := h.1; omega) h
    · have e1 : nI (i + s) - 1 = nI (i + s - 1) := by rw [show (1 : Int32) = nI 1 from rfl, pk_sub (by omega)]
      have s1 := hso i (i + s - 1) (by omega) (by omega)
      have w1 := hw i (by omega)
      rw [fX3_find_b15, h3, nI_add, if_neg (nI_nlt (by omega) (by omega)), rd_nI (by omega) (by decide), e1, rd_nI (by omega) (by decide), (hr i (by omega)).2, (hr (i + s - 1) (by omega)).2, pk_sub s1, nI_1]
      by_cases c2 : d < wh (r i) - wh (r (i + s - 1))
      · rw [if_pos (nI_lt c2 (by omega))]
        refine ih (i + 1) n σ (by omega) (by omega) h3 hr (fun i' hi' h => ?_)
        by_cases e : i' = i
        · subst e; have := h.2; omega
        · exact hno i' (by omega) h
      · rw [if_neg (nI_nlt (by omega) (by omega)), pf_e]
        obtain ⟨σ', z1, z2, z3, z4⟩ := tk_w (r := r) (wh := wh) (m := m) (s := s) (i0 := i) hm hs (by omega) s 0 FU (up2 σ 41 4 (nI i)) (by omega) (fu_lt (by omega)) (up2_s _ _ _ _) hr (fun t h => by omega)
        have z1' : fX3_take (nI s) (up2 σ 41 4 (nI i)) = some (0, σ') := z1
        rw [cal_e z1']
        refine Or.inr ⟨i, σ', rfl, ⟨by omega, by omega⟩, hno, ((Off.rf [41, 44] σ).up (by decide) _ _).tr z2, ?_, ?_, ?_, z4⟩
        · rw [z3, upd_n _ _ (by decide), up2_i _ _ _ _ _ (by decide)]; exact h3
        · rw [z3, upd_n _ _ (by decide), up2_s]
        · rw [z3, upd_s]
