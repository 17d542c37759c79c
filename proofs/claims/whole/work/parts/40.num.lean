/-! ===== PURE: numbers and single steps ===== -/
theorem rd_nI {α : Type} {σ : St} {k n j : Nat} {F : Int32 → Option α} (h : j < n) (hn : n < 2 ^ 31) : rd σ k n (nI j) F = F (σ k j) := by
  unfold rd; rw [if_neg (nI_in h hn), nI_clamp (by omega)]
theorem wr_nI {α : Type} {σ : St} {k n j : Nat} {v : Int32} {F : St → Option α} (h : j < n) (hn : n < 2 ^ 31) : wr σ k n (nI j) v F = F (up2 σ k j v) := by
  unfold wr; rw [if_neg (nI_in h hn), nI_clamp (by omega)]
theorem wb_nI {α : Type} {σ : St} {k n j : Nat} {v : Int32} {F : St → Option α} (h : j < n) (hn : n < 2 ^ 31) : wb σ k n (nI j) v F = F (up2 σ k j (vp_nar .boolean v)) := by
  unfold wb; rw [if_neg (nI_in h hn), nI_clamp (by omega)]
theorem tb_nI {α : Type} {f : Nat → Int32} {n j : Nat} {F : Int32 → Option α} (h : j < n) (hn : n < 2 ^ 31) : tb f n (nI j) F = F (f j) := by
  unfold tb; rw [if_neg (nI_in h hn), nI_clamp (by omega)]
theorem rd_e {α : Type} {σ : St} {k n j : Nat} {i : Int32} {F : Int32 → Option α} (e : i = nI j) (h : j < n) (hn : n < 2 ^ 31) : rd σ k n i F = F (σ k j) := by rw [e]; exact rd_nI h hn
theorem wr_e {α : Type} {σ : St} {k n j : Nat} {i v : Int32} {F : St → Option α} (e : i = nI j) (h : j < n) (hn : n < 2 ^ 31) : wr σ k n i v F = F (up2 σ k j v) := by rw [e]; exact wr_nI h hn
theorem pf_e {α : Type} (σ : St) (k j : Nat) (v : Int32) (F : St → Option α) : pf σ k j v F = F (up2 σ k j v) := rfl
theorem lt_e {β α : Type} (v : β) (F : β → Option α) : lt v F = F v := rfl
theorem zr0 (σ : St) : zr 0 σ = some (0, σ) := rfl
theorem zr1 (σ : St) : zr 1 σ = some (1, σ) := rfl
theorem cal_e {α : Type} {X : Option (Int32 × St)} {r : Int32} {σ : St} {F : Int32 → St → Option α} (h : X = some (r, σ)) : cal X F = F r σ := by rw [h]; rfl
theorem up2_s (σ : St) (c j : Nat) (v : Int32) : up2 σ c j v c j = v := by simp [up2, va_up, upd]
theorem up2_i (σ : St) (c j i : Nat) (v : Int32) (h : i ≠ j) : up2 σ c j v c i = σ c i := by simp [up2, va_up, upd, h]
theorem up2_c (σ : St) (c j d : Nat) (v : Int32) (h : d ≠ c) : up2 σ c j v d = σ d := by simp [up2, va_up, h]
theorem up2_if (σ : St) (c j i : Nat) (v : Int32) : up2 σ c j v c i = if i = j then v else σ c i := by simp [up2, va_up, upd]
/-- an index that passed its test -/
theorem ix_of {x n : Int32} {N : Nat} (hn : n = nI N) (hN : N < 2 ^ 31) (h : ¬ (x < 0 ∨ n ≤ x)) : ∃ j : Nat, j < N ∧ x = nI j := by
  rcases pk_ix x hN with q | q | q
  · exact absurd (Or.inl q) h
  · exact absurd (Or.inr (by rw [hn]; exact q)) h
  · exact q
theorem ix_in {j N : Nat} (h : j < N) (hN : N < 2 ^ 31) : ¬ (nI j < 0 ∨ nI N ≤ nI j) := by
  intro q
  rcases q with q | q
  · exact nI_pos (by omega) q
  · exact nI_ge h hN q
/-- 'within' of the class, 'isIn' of the reference, with the branch behind -/
theorem wi_v (x n : Int32) (σ : St) : fX10_within x n σ = some (if x < 0 ∨ n ≤ x then 0 else 1, σ) := by
  unfold fX10_within
  by_cases h1 : x < 0
  · simp [h1, zr]
  · by_cases h2 : n ≤ x
    · simp [h1, h2, zr]
    · simp [h1, h2, zr]
theorem is_v (x n : Int32) (σ : St) : fX11_isIn x n σ = some (if x < 0 ∨ n ≤ x then 0 else 1, σ) := by
  unfold fX11_isIn
  by_cases h1 : x < 0
  · simp [h1, zr]
  · by_cases h2 : n ≤ x
    · simp [h1, h2, zr]
    · simp [h1, h2, zr]
theorem wi_f {α : Type} {x n : Int32} {σ : St} {A B : St → Option α} (h : x < 0 ∨ n ≤ x) : cal (fX10_within x n σ) (fun v s => if v = 0 then A s else B s) = A σ := by
  rw [cal_e (wi_v x n σ), if_pos h, if_pos rfl]
theorem wi_t {α : Type} {x n : Int32} {σ : St} {A B : St → Option α} (h : ¬ (x < 0 ∨ n ≤ x)) : cal (fX10_within x n σ) (fun v s => if v = 0 then A s else B s) = B σ := by
  rw [cal_e (wi_v x n σ), if_neg h, if_neg (by decide)]
theorem is_f {α : Type} {x n : Int32} {σ : St} {A B : St → Option α} (h : x < 0 ∨ n ≤ x) : cal (fX11_isIn x n σ) (fun v s => if v = 0 then A s else B s) = A σ := by
  rw [cal_e (is_v x n σ), if_pos h, if_pos rfl]
theorem is_t {α : Type} {x n : Int32} {σ : St} {A B : St → Option α} (h : ¬ (x < 0 ∨ n ≤ x)) : cal (fX11_isIn x n σ) (fun v s => if v = 0 then A s else B s) = B σ := by
  rw [cal_e (is_v x n σ), if_neg h, if_neg (by decide)]
theorem wrong_v (x a b : Int32) (σ : St) : fX11_wrong x a b σ = some (if a ≤ x then (if x ≤ b then 0 else (-6)) else (-4), σ) := by
  unfold fX11_wrong
  by_cases h1 : a ≤ x
  · by_cases h2 : x ≤ b
    · simp [h1, h2]
    · simp [h1, h2]
  · simp [h1]
theorem i32_nle {a b : Int32} : ¬ a ≤ b ↔ b < a := by rw [Int32.le_iff_toInt_le, Int32.lt_iff_toInt_lt]; omega
theorem i32_nlt {a b : Int32} : ¬ a < b ↔ b ≤ a := by rw [Int32.le_iff_toInt_le, Int32.lt_iff_toInt_lt]; omega
/-- refusals -/
theorem rfC1 (σ : St) : fX10_refuse (-1) σ = some (-1, up2 σ 1 0 (σ 1 0 + 1)) := rfl
theorem rfC2 (σ : St) : fX10_refuse (-2) σ = some (-2, up2 σ 1 1 (σ 1 1 + 1)) := rfl
theorem rfC3 (σ : St) : fX10_refuse (-3) σ = some (-3, up2 σ 1 2 (σ 1 2 + 1)) := rfl
theorem rfC4 (σ : St) : fX10_refuse (-4) σ = some (-4, up2 σ 1 3 (σ 1 3 + 1)) := rfl
theorem rfC6 (σ : St) : fX10_refuse (-6) σ = some (-6, up2 σ 1 5 (σ 1 5 + 1)) := rfl
theorem rfM1 (σ : St) : fX11_refuse (-1) σ = some (-1, up2 σ 1 1 (σ 1 1 + 1)) := rfl
theorem rfM2 (σ : St) : fX11_refuse (-2) σ = some (-2, up2 σ 1 2 (σ 1 2 + 1)) := rfl
theorem rfM3 (σ : St) : fX11_refuse (-3) σ = some (-3, up2 σ 1 3 (σ 1 3 + 1)) := rfl
theorem rfM4 (σ : St) : fX11_refuse (-4) σ = some (-4, up2 σ 1 4 (σ 1 4 + 1)) := rfl
theorem rfM6 (σ : St) : fX11_refuse (-6) σ = some (-6, up2 σ 1 6 (σ 1 6 + 1)) := rfl
