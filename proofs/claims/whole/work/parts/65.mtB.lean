def rowI (cand : Nat → Prop) (wh : Nat → Nat) (c m : Nat) (r : Nat → Nat) : Prop := (∀ t, t < m → r t < c ∧ cand (r t)) ∧ (∀ k, k < c → cand k → ∃ t, t < m ∧ r t = k) ∧ ∀ s t, s < t → t < m → wh (r t) < wh (r s) ∨ (wh (r s) = wh (r t) ∧ r s < r t)
theorem rowI.skip {cand : Nat → Prop} {wh : Nat → Nat} {c m : Nat} {r : Nat → Nat} (h : rowI cand wh c m r) (hc : ¬ cand c) : rowI cand wh (c + 1) m r := by
  refine ⟨fun t ht => ⟨by have := (h.1 t ht).1; omega, (h.1 t ht).2⟩, fun k hk hk' => ?_, h.2.2⟩
  by_cases e : k = c
  · subst e; exact absurd hk' hc
  · exact h.2.1 k (by omega) hk'
theorem rowI.ins {cand : Nat → Prop} {wh : Nat → Nat} {c m y : Nat} {r : Nat → Nat} (h : rowI cand wh c m r) (hc : cand c) (hy : y ≤ m) (h1 : y = 0 ∨ wh c ≤ wh (r (y - 1))) (h2 : ∀ t, y ≤ t → t < m → wh (r t) < wh c) : rowI cand wh (c + 1) (m + 1) (ri r y c) := by
  have v1 : ∀ t, t < y → ri r y c t = r t := fun t ht => by unfold ri; rw [if_pos ht]
  have v2 : ri r y c y = c := by unfold ri; rw [if_neg (by omega), if_pos rfl]
  have v3 : ∀ t, y < t → ri r y c t = r (t - 1) := fun t ht => by unfold ri; rw [if_neg (by omega), if_neg (by omega)]
  have h0 : ∀ s, s < y → wh c ≤ wh (r s) := fun s hs => by
    rcases h1 with e | e
    · omega
    · by_cases e2 : s = y - 1
      · rw [e2]; exact e
      · have := h.2.2 s (y - 1) (by omega) (by omega); omega
  refine ⟨fun t ht => ?_, fun k hk hk' => ?_, fun s t hst ht => ?_⟩
  · rcases (show t < y ∨ t = y ∨ y < t by omega) with e | e | e
    · rw [v1 t e]; have := h.1 t (by omega); exact ⟨by omega, this.2⟩
    · rw [e, v2]; exact ⟨by omega, hc⟩
    · rw [v3 t e]; have := h.1 (t - 1) (by omega); exact ⟨by omega, this.2⟩
  · by_cases e : k = c
    · exact ⟨y, by omega, by rw [v2, e]⟩
    · obtain ⟨t, t1, t2⟩ := h.2.1 k (by omega) hk'
      rcases Nat.lt_or_ge t y with q | q
      · exact ⟨t, by omega, by rw [v1 t q]; exact t2⟩
      · exact ⟨t + 1, by omega, by rw [v3 (t + 1) (by omega)]; exact t2⟩
  · rcases (show t < y ∨ t = y ∨ y < t by omega) with e | e | e
    · rw [v1 t e, v1 s (by omega)]; exact h.2.2 s t hst (by omega)
    · rw [e, v2, v1 s (by omega)]
      have := h0 s (by omega)
      have := (h.1 s (by omega)).1
      omega
    · rw [v3 t e]
      rcases (show s < y ∨ s = y ∨ y < s by omega) with e' | e' | e'
      · rw [v1 s e']; exact h.2.2 s (t - 1) (by omega) (by omega)
      · rw [e', v2]; exact Or.inl (h2 (t - 1) (by omega) (by omega))
      · rw [v3 s e']; exact h.2.2 (s - 1) (t - 1) (by omega) (by omega)
theorem rowI.le {cand : Nat → Prop} {wh : Nat → Nat} {c : Nat} : ∀ {m : Nat} {r : Nat → Nat}, rowI cand wh c m r → (∀ k, k < c → cand k → wh k ≤ 100) → m ≤ c := by
  induction c with
  | zero =>
    intro m r h _
    rcases Nat.eq_zero_or_pos m with e | e
    · omega
    · have := (h.1 0 e).1; omega
  | succ c ih =>
    intro m r h hw
    by_cases e : ∃ y, y < m ∧ r y = c
    · obtain ⟨y, y1, y2⟩ := e
      have := ih (m := m - 1) (r := fun t => if t < y then r t else r (t + 1)) ⟨fun t ht => ?_, fun k hk hk' => ?_, fun s t hst ht => ?_⟩ (fun k hk => hw k (by omega))
      · omega
      · show (if t < y then r t else r (t + 1)) < c ∧ cand (if t < y then r t else r (t + 1))
        split
        · have a := h.1 t (by omega)
          have b := h.2.2 t y (by omega) (by omega)
          refine ⟨?_, a.2⟩
          have : r t ≠ c := fun q => by rw [q, y2] at b; omega
          omega
        · have a := h.1 (t + 1) (by omega)
          have b := h.2.2 y (t + 1) (by omega) (by omega)
          refine ⟨?_, a.2⟩
          have : r (t + 1) ≠ c := fun q => by rw [q, y2] at b; omega
          omega
      · obtain ⟨t, t1, t2⟩ := h.2.1 k (by omega) hk'
        have ne : t ≠ y := fun q => by rw [q] at t2; omega
        rcases Nat.lt_or_ge t y with q | q
        · exact ⟨t, by omega, by show (if t < y then r t else r (t + 1)) = k; rw [if_pos q]; exact t2⟩
        · exact ⟨t - 1, by omega, by show (if t - 1 < y then r (t - 1) else r (t - 1 + 1)) = k; rw [if_neg (by omega), show t - 1 + 1 = t by omega]; exact t2⟩
      · show wh (if t < y then r t else r (t + 1)) < wh (if s < y then r s else r (s + 1)) ∨ wh (if s < y then r s else r (s + 1)) = wh (if t < y then r t else r (t + 1)) ∧ (if s < y then r s else r (s + 1)) < (if t < y then r t else r (t + 1))
        split
        · rw [if_pos (by omega)]; exact h.2.2 s t hst (by omega)
        · split
          · exact h.2.2 s (t + 1) (by omega) (by omega)
          · exact h.2.2 (s + 1) (t + 1) (by omega) (by omega)
    · have := ih (m := m) (r := r) ⟨fun t ht => ⟨by
        have a := (h.1 t ht).1
        have : r t ≠ c := fun q => e ⟨t, ht, q⟩
        omega, (h.1 t ht).2⟩, fun k hk hk' => h.2.1 k (by omega) hk', h.2.2⟩ (fun k hk => hw k (by omega))
      omega
