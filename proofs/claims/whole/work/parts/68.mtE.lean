/-- what a window lacks; the class's count of it -/
def lck (r wh : Nat → Nat) (i : Nat) : Nat → Nat
  | 0 => 0
  | n + 1 => lck r wh i n + (100 - wh (r (i + n)))
theorem lck_le (r wh : Nat → Nat) (i : Nat) : ∀ n, lck r wh i n ≤ 100 * n := by
  intro n
  induction n with
  | zero => exact Nat.le_refl _
  | succ n ih => rw [lck]; omega
theorem la_w {r wh : Nat → Nat} {m s i0 : Nat} {σ : St} (hm : m ≤ 80) (hs : s ≤ 12) (h0 : i0 + s ≤ m) (hw : ∀ t, t < m → wh (r t) ≤ 100) (h4 : σ 41 4 = nI i0) (h5 : σ 41 5 = nI s) (hr : ∀ t, t < m → σ 43 t = nI (wh (r t))) : ∀ q c n, c + q = s → q < n → fX3_lacking_b4 n (nI (lck r wh i0 c)) (nI c) σ = some (nI (lck r wh i0 s), σ) := by
  intro q
  induction q with
  | zero =>
    intro c n hc hn
    obtain ⟨n, rfl⟩ : ∃ q, n = q + 1 := ⟨n - 1, by omega⟩
    obtain rfl : c = s := by omega
    rw [fX3_lacking_b4, h5, if_pos (nI_le (Nat.le_refl _) (by omega))]
  | succ q ih =>
    intro c n hc hn
    obtain ⟨n, rfl⟩ : ∃ q, n = q + 1 := ⟨n - 1, by omega⟩
    have l1 : ¬ nI s ≤ nI c := nI_ge (by omega) (by omega)
    have w1 := hw (i0 + c) (by omega)
    have z := ih (c + 1) n (by omega) (by omega)
    rw [lck] at z
    rw [fX3_lacking_b4, h5, if_neg l1, h4, nI_add, rd_nI (by omega) (by decide), hr (i0 + c) (by omega), show (100 : Int32) = nI 100 from rfl, pk_sub w1, nI_add, lt_e, nI_1]
    exact z
theorem lacking_v {r wh : Nat → Nat} {m s i0 : Nat} {σ : St} (hm : m ≤ 80) (hs : s ≤ 12) (h0 : i0 + s ≤ m) (hw : ∀ t, t < m → wh (r t) ≤ 100) (h4 : σ 41 4 = nI i0) (h5 : σ 41 5 = nI s) (hr : ∀ t, t < m → σ 43 t = nI (wh (r t))) : fX3_lacking σ = some (nI (lck r wh i0 s), σ) := by
  unfold fX3_lacking
  exact la_w hm hs h0 hw h4 h5 hr s 0 FU (by omega) (fu_lt (by omega))
