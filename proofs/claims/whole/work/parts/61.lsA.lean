/-- the shares: the reference's enumeration -/
theorem nz_nI {α : Type} {a : Nat} {F : Option α} (h0 : 0 < a) (h : a < 2 ^ 31) : nz (nI a) F = F := by
  unfold nz
  rw [if_neg (show ¬ nI a = 0 from fun q => by have := (nI_eq (b := 0) h (by decide)).mp q; omega)]
theorem mx_nI {a b : Nat} (ha : a < 2 ^ 31) (hb : b < 2 ^ 31) : (if nI a < nI b then nI b else nI a) = nI (max a b) := by
  rcases Nat.lt_or_ge a b with h | h
  · rw [if_pos (nI_lt h hb), Nat.max_eq_right (by omega)]
  · rw [if_neg (nI_nlt h ha), Nat.max_eq_left h]
/-- what the workshop's data are -/
def wkD (nj : Nat) (sn ln : Nat → Nat) : Prop := nj ≤ 8 ∧ (∀ p, p < 3 → 1 ≤ sn p ∧ sn p ≤ 20) ∧ ∀ j, j < nj → 1 ≤ ln j ∧ ln j ≤ 500
def wkM (nj : Nat) (sn ln : Nat → Nat) (τ : St) : Prop := τ 0 22 = nI nj ∧ (∀ p, p < 3 → τ 27 p = nI (sn p)) ∧ ∀ j, j < nj → τ 28 j = nI (ln j)
theorem wkM.off {nj : Nat} {sn ln : Nat → Nat} {τ τ' : St} (h : wkM nj sn ln τ) (o : Off [29, 30] τ τ') : wkM nj sn ln τ' := by
  unfold wkM at h ⊢
  rw [o 0 (by decide), o 27 (by decide), o 28 (by decide)]
  exact h
theorem wk_pow {nj : Nat} (h : nj ≤ 8) : 3 ^ nj ≤ 6561 := Nat.le_trans (Nat.pow_le_pow_right (by decide) h) (by decide)
theorem wk_p3 {nj j : Nat} (h : j < nj) : 3 ^ (nj - j) / 3 = 3 ^ (nj - 1 - j) := by
  rw [show nj - j = (nj - 1 - j) + 1 by omega, Nat.pow_succ, Nat.mul_div_cancel _ (by decide)]
theorem wk_dg_lt (nj code j : Nat) : wk_dg nj code j < 3 := Nat.mod_lt _ (by decide)
theorem wk_days_le {nj : Nat} {sn ln : Nat → Nat} (h : wkD nj sn ln) {j p : Nat} (hj : j < nj) (hp : p < 3) : wk_days sn ln j p ≤ 500 := by
  have h1 := h.2.1 p hp
  have h2 := h.2.2 j hj
  have h3 : ln j * 1 ≤ ln j * sn p := Nat.mul_le_mul_left _ h1.1
  have h4 : (ln j + 1) * sn p = ln j * sn p + sn p := Nat.succ_mul _ _
  have h5 : ln j + sn p - 1 < (ln j + 1) * sn p := by rw [h4]; omega
  have h6 : (ln j + sn p - 1) / sn p < ln j + 1 := (Nat.div_lt_iff_lt_mul (by omega)).mpr h5
  unfold wk_days
  omega
theorem wk_sum_le {nj : Nat} {sn ln : Nat → Nat} (h : wkD nj sn ln) (a : Nat → Nat) {p : Nat} (hp : p < 3) : ∀ n, n ≤ nj → wk_sum sn ln a p n ≤ 500 * n := by
  intro n
  induction n with
  | zero => intro _; exact Nat.le_refl _
  | succ n ih =>
    intro hn
    have h1 := ih (by omega)
    have h2 := wk_days_le h (j := n) (by omega) hp
    rw [wk_sum]
    split <;> omega
theorem wk_bound {nj : Nat} {sn ln : Nat → Nat} (h : wkD nj sn ln) (a : Nat → Nat) {p n : Nat} (hp : p < 3) (hn : n ≤ nj) : wk_sum sn ln a p n ≤ 4000 := by
  have h1 := wk_sum_le h a hp n hn
  have h2 := h.1
  omega
theorem wk_dgI {nj code j : Nat} (h8 : nj ≤ 8) (hc : code < 3 ^ nj) (hj : j < nj) : nI code / (nI (3 ^ (nj - j)) / 3) - nI code / (nI (3 ^ (nj - j)) / 3) / 3 * 3 = nI (wk_dg nj code j) := by
  have h1 := wk_pow h8
  have h2 := wk_pow (show nj - j ≤ 8 by omega)
  have h3 := wk_pow (show nj - 1 - j ≤ 8 by omega)
  have h4 : 0 < 3 ^ (nj - 1 - j) := Nat.pow_pos (by decide)
  have h5 := Nat.div_le_self code (3 ^ (nj - 1 - j))
  rw [show (3 : Int32) = nI 3 from rfl, pk_div (by omega) (by decide) (by decide), wk_p3 hj, pk_div (by omega) h4 (by omega), pk_div (by omega) (by decide) (by decide), pk_mul, pk_sub (Nat.div_mul_le_self _ _)]
  unfold wk_dg
  exact congrArg nI (by omega)
theorem ls_fill {nj : Nat} {sn ln : Nat → Nat} (hD : wkD nj sn ln) (k26 : Int32 → Int32 → Int32 → St → Option (Int32 × St)) (x1 x2 : Int32) {code : Nat} (hc : code < 3 ^ nj) : ∀ q j n (τ : St), j + q = nj → q < n → wkM nj sn ln τ → (∀ i, i < j → τ 29 i = nI (wk_dg nj code i)) → ∃ τ' : St, fX11_leastOf_b172 k26 n x1 x2 (nI code) (nI (3 ^ (nj - j))) (nI j) τ = k26 x1 x2 (nI (code + 1)) τ' ∧ Off [29, 30] τ τ' ∧ ∀ i, i < nj → τ' 29 i = nI (wk_dg nj code i) := by
  have h8 := hD.1
  intro q
  induction q with
  | zero =>
    intro j n τ hj hn hM hv
    obtain ⟨n, rfl⟩ : ∃ q, n = q + 1 := ⟨n - 1, by omega⟩
    obtain rfl : j = nj := by omega
    refine ⟨τ, ?_, Off.rf _ _, hv⟩
    rw [fX11_leastOf_b172, hM.1, if_pos (nI_le (Nat.le_refl _) (by omega)), nI_1]
  | succ q ih =>
    intro j n τ hj hn hM hv
    obtain ⟨n, rfl⟩ : ∃ q, n = q + 1 := ⟨n - 1, by omega⟩
    have l1 : ¬ nI nj ≤ nI j := nI_ge (by omega) (by omega)
    have h2 := wk_pow (show nj - j ≤ 8 by omega)
    have h3 := wk_pow (show nj - 1 - j ≤ 8 by omega)
    have h4 : 0 < 3 ^ (nj - 1 - j) := Nat.pow_pos (by decide)
    have e3 : nI (3 ^ (nj - j)) / 3 = nI (3 ^ (nj - (j + 1))) := by
      rw [show (3 : Int32) = nI 3 from rfl, pk_div (by omega) (by decide) (by decide), wk_p3 (by omega), show nj - (j + 1) = nj - 1 - j by omega]
    rw [fX11_leastOf_b172, hM.1, if_neg l1, wk_dgI h8 hc (by omega), e3, nz_nI (by rw [show nj - (j + 1) = nj - 1 - j by omega]; exact h4) (by rw [show nj - (j + 1) = nj - 1 - j by omega]; omega), wr_nI (by omega) (by decide), nI_1]
    have o1 : Off [29, 30] τ (up2 τ 29 j (nI (wk_dg nj code j))) := (Off.rf _ _).up (by decide) _ _
    obtain ⟨τ', z1, z2, z3⟩ := ih (j + 1) n (up2 τ 29 j (nI (wk_dg nj code j))) (by omega) (by omega) (hM.off o1) (fun i hi => by
      by_cases e : i = j
      · subst e; rw [up2_s]
      · rw [up2_i _ _ _ _ _ e]; exact hv i (by omega))
    exact ⟨τ', z1, o1.tr z2, z3⟩
theorem ls_sum {nj : Nat} {sn ln : Nat → Nat} (hD : wkD nj sn ln) (k26 : Int32 → Int32 → Int32 → St → Option (Int32 × St)) (x1 x2 : Int32) {code : Nat} (hc : code < 3 ^ nj) : ∀ q j n (τ : St), j + q = nj → q < n → wkM nj sn ln τ → (∀ p, p < 3 → τ 30 p = nI (wk_sum sn ln (wk_dg nj code) p j)) → ∃ τ' : St, fX11_leastOf_b60 k26 n x1 x2 (nI code) (nI (3 ^ (nj - j))) (nI j) τ = (if x2 < 0 then fX11_leastOf_b172 k26 FU x1 (nI (wk_cost sn ln nj (wk_dg nj code))) (nI code) x1 0 τ' else if nI (wk_cost sn ln nj (wk_dg nj code)) < x2 then fX11_leastOf_b172 k26 FU x1 (nI (wk_cost sn ln nj (wk_dg nj code))) (nI code) x1 0 τ' else k26 x1 x2 (nI (code + 1)) τ') ∧ Off [30] τ τ' := by
  have h8 := hD.1
  intro q
  induction q with
  | zero =>
    intro j n τ hj hn hM hv
    obtain ⟨n, rfl⟩ : ∃ q, n = q + 1 := ⟨n - 1, by omega⟩
    obtain rfl : j = nj := by omega
    have m0 := wk_bound hD (wk_dg j code) (p := 0) (n := j) (by omega) (Nat.le_refl _)
    have m1 := wk_bound hD (wk_dg j code) (p := 1) (n := j) (by omega) (Nat.le_refl _)
    have m2 := wk_bound hD (wk_dg j code) (p := 2) (n := j) (by omega) (Nat.le_refl _)
    refine ⟨τ, ?_, Off.rf _ _⟩
    rw [fX11_leastOf_b60, hM.1, if_pos (nI_le (Nat.le_refl _) (by omega)), rd_e (show (0 : Int32) = nI 0 from rfl) (show 0 < 3 by decide) (by decide), rd_e (show (1 : Int32) = nI 1 from rfl) (show 1 < 3 by decide) (by decide), rd_e (show (2 : Int32) = nI 2 from rfl) (show 2 < 3 by decide) (by decide), hv 0 (by omega), hv 1 (by omega), hv 2 (by omega), mx_nI (by omega) (by omega), mx_nI (by omega) (by omega), lt_e, nI_1]
    rfl
  | succ q ih =>
    intro j n τ hj hn hM hv
    obtain ⟨n, rfl⟩ : ∃ q, n = q + 1 := ⟨n - 1, by omega⟩
    have l1 : ¬ nI nj ≤ nI j := nI_ge (by omega) (by omega)
    have h2 := wk_pow (show nj - j ≤ 8 by omega)
    have h3 := wk_pow (show nj - 1 - j ≤ 8 by omega)
    have h4 : 0 < 3 ^ (nj - 1 - j) := Nat.pow_pos (by decide)
    have e3 : nI (3 ^ (nj - j)) / 3 = nI (3 ^ (nj - (j + 1))) := by
      rw [show (3 : Int32) = nI 3 from rfl, pk_div (by omega) (by decide) (by decide), wk_p3 (by omega), show nj - (j + 1) = nj - 1 - j by omega]
    have hp := wk_dg_lt nj code j
    have hs := hD.2.1 _ hp
    have hl := hD.2.2 j (by omega)
    have ed : ((nI (ln j) + nI (sn (wk_dg nj code j))) - 1) / nI (sn (wk_dg nj code j)) = nI (wk_days sn ln j (wk_dg nj code j)) := by
      rw [nI_add, show (1 : Int32) = nI 1 from rfl, pk_sub (by omega), pk_div (by omega) (by omega) (by omega)]
      rfl
    rw [fX11_leastOf_b60, hM.1, if_neg l1, wk_dgI h8 hc (by omega), e3, nz_nI (by rw [show nj - (j + 1) = nj - 1 - j by omega]; exact h4) (by rw [show nj - (j + 1) = nj - 1 - j by omega]; omega), lt_e, rd_nI (by omega) (by decide), rd_nI (by omega) (by decide), rd_nI (by omega) (by decide), rd_nI (by omega) (by decide), hM.2.1 _ hp, hM.2.2 j (by omega), nz_nI (by omega) (by omega), wr_nI (by omega) (by decide), ed, hv _ hp, nI_add, nI_1]
    have o1 : Off [30] τ (up2 τ 30 (wk_dg nj code j) (nI (wk_sum sn ln (wk_dg nj code) (wk_dg nj code j) j + wk_days sn ln j (wk_dg nj code j)))) := (Off.rf _ _).up (by decide) _ _
    obtain ⟨τ', z1, z2⟩ := ih (j + 1) n _ (by omega) (by omega) (hM.off (o1.mono (by decide))) (fun p hp' => by
      rw [wk_sum]
      by_cases e : p = wk_dg nj code j
      · rw [e, up2_s, if_pos rfl]
      · rw [up2_i _ _ _ _ _ e, if_neg (fun q => e q.symm), Nat.add_zero]; exact hv p hp')
    exact ⟨τ', z1, o1.tr z2⟩
theorem ls_clr (k26 : Int32 → Int32 → Int32 → St → Option (Int32 × St)) (x1 x2 x3 : Int32) : ∀ q c n (τ : St), c + q = 3 → q < n → (∀ p, p < c → τ 30 p = 0) → ∃ τ' : St, fX11_leastOf_b34 k26 n x1 x2 x3 (nI c) τ = fX11_leastOf_b60 k26 FU x1 x2 x3 x1 0 τ' ∧ Off [30] τ τ' ∧ ∀ p, p < 3 → τ' 30 p = 0 := by
  intro q
  induction q with
  | zero =>
    intro c n τ hc hn hv
    obtain ⟨n, rfl⟩ : ∃ q, n = q + 1 := ⟨n - 1, by omega⟩
    obtain rfl : c = 3 := by omega
    refine ⟨τ, ?_, Off.rf _ _, hv⟩
    rw [fX11_leastOf_b34, if_pos (show (3 : Int32) ≤ nI 3 from nI_le (a := 3) (Nat.le_refl _) (by omega))]
  | succ q ih =>
    intro c n τ hc hn hv
    obtain ⟨n, rfl⟩ : ∃ q, n = q + 1 := ⟨n - 1, by omega⟩
    have l1 : ¬ (3 : Int32) ≤ nI c := nI_ge (b := 3) (by omega) (by decide)
    rw [fX11_leastOf_b34, if_neg l1, wr_nI (by omega) (by decide), nI_1]
    obtain ⟨τ', z1, z2, z3⟩ := ih (c + 1) n (up2 τ 30 c 0) (by omega) (by omega) (fun p hp => by
      by_cases e : p = c
      · subst e; rw [up2_s]
      · rw [up2_i _ _ _ _ _ e]; exact hv p (by omega))
    exact ⟨τ', z1, ((Off.rf [30] τ).up (by decide) _ _).tr z2, z3⟩
theorem ls_main {nj : Nat} {sn ln : Nat → Nat} (hD : wkD nj sn ln) : ∀ q code n (τ : St) (x2 : Int32), code + q = 3 ^ nj → q < n → wkM nj sn ln τ → ((x2 = -1 ∧ code = 0) ∨ ∃ b, b < code ∧ x2 = nI (wk_cost sn ln nj (wk_dg nj b)) ∧ (∀ c, c < b → wk_cost sn ln nj (wk_dg nj b) < wk_cost sn ln nj (wk_dg nj c)) ∧ (∀ c, c < code → wk_cost sn ln nj (wk_dg nj b) ≤ wk_cost sn ln nj (wk_dg nj c)) ∧ ∀ j, j < nj → τ 29 j = nI (wk_dg nj b j)) → ∃ (b : Nat) (τ' : St), fX11_leastOf_b26 n (nI (3 ^ nj)) x2 (nI code) τ = some (nI (wk_cost sn ln nj (wk_dg nj b)), τ') ∧ Off [29, 30] τ τ' ∧ wk_best sn ln nj b ∧ ∀ j, j < nj → τ' 29 j = nI (wk_dg nj b j) := by
  have h8 := hD.1
  have h3 := wk_pow h8
  have h0 : 0 < 3 ^ nj := Nat.pow_pos (by decide)
  have hcost : ∀ c, wk_cost sn ln nj (wk_dg nj c) ≤ 4000 := fun c => by
    have m0 := wk_bound hD (wk_dg nj c) (p := 0) (n := nj) (by omega) (Nat.le_refl _)
    have m1 := wk_bound hD (wk_dg nj c) (p := 1) (n := nj) (by omega) (Nat.le_refl _)
    have m2 := wk_bound hD (wk_dg nj c) (p := 2) (n := nj) (by omega) (Nat.le_refl _)
    unfold wk_cost
    omega
  intro q
  induction q with
  | zero =>
    intro code n τ x2 hq hn hM hs
    obtain ⟨n, rfl⟩ : ∃ q, n = q + 1 := ⟨n - 1, by omega⟩
    obtain rfl : code = 3 ^ nj := by omega
    rcases hs with ⟨_, h⟩ | ⟨b, b1, b2, b3, b4, b5⟩
    · omega
    · refine ⟨b, τ, ?_, Off.rf _ _, ⟨b1, b3, b4⟩, b5⟩
      rw [fX11_leastOf_b26, if_pos (nI_le (Nat.le_refl _) (by omega)), b2]
  | succ q ih =>
    intro code n τ x2 hq hn hM hs
    obtain ⟨n, rfl⟩ : ∃ q, n = q + 1 := ⟨n - 1, by omega⟩
    have l1 : ¬ nI (3 ^ nj) ≤ nI code := nI_ge (by omega) (by omega)
    obtain ⟨τ1, a1, a2, a3⟩ := ls_clr (fun a0 a1 a2 u => fX11_leastOf_b26 n a0 a1 a2 u) (nI (3 ^ nj)) x2 (nI code) 3 0 FU τ rfl (fu_lt (by omega)) (fun p h => by omega)
    obtain ⟨τ2, c1, c2⟩ := ls_sum hD (fun a0 a1 a2 u => fX11_leastOf_b26 n a0 a1 a2 u) (nI (3 ^ nj)) x2 (code := code) (by omega) nj 0 FU τ1 (by omega) (fu_lt (by omega)) (hM.off (a2.mono (by decide))) (fun p hp => a3 p hp)
    have o2 : Off [29, 30] τ τ2 := (a2.tr c2).mono (by decide)
    have c0 := hcost code
    rw [fX11_leastOf_b26, if_neg l1]
    have go : fX11_leastOf_b34 (fun a0 a1 a2 u => fX11_leastOf_b26 n a0 a1 a2 u) FU (nI (3 ^ nj)) x2 (nI code) 0 τ = _ := a1.trans c1
    rw [go]
    have take : (∀ c, c < code → wk_cost sn ln nj (wk_dg nj code) < wk_cost sn ln nj (wk_dg nj c)) → ∃ (b : Nat) (τ' : St), fX11_leastOf_b172 (fun a0 a1 a2 u => fX11_leastOf_b26 n a0 a1 a2 u) FU (nI (3 ^ nj)) (nI (wk_cost sn ln nj (wk_dg nj code))) (nI code) (nI (3 ^ nj)) 0 τ2 = some (nI (wk_cost sn ln nj (wk_dg nj b)), τ') ∧ Off [29, 30] τ τ' ∧ wk_best sn ln nj b ∧ ∀ j, j < nj → τ' 29 j = nI (wk_dg nj b j) := by
      intro hlt
      obtain ⟨τ3, d1, d2, d3⟩ := ls_fill hD (fun a0 a1 a2 u => fX11_leastOf_b26 n a0 a1 a2 u) (nI (3 ^ nj)) (nI (wk_cost sn ln nj (wk_dg nj code))) (code := code) (by omega) nj 0 FU τ2 (by omega) (fu_lt (by omega)) (hM.off o2) (fun i h => by omega)
      obtain ⟨b, τ', z1, z2, z3⟩ := ih (code + 1) n τ3 (nI (wk_cost sn ln nj (wk_dg nj code))) (by omega) (by omega) (hM.off (o2.tr d2)) (Or.inr ⟨code, by omega, rfl, hlt, fun c hc => by
        by_cases e : c = code
        · rw [e]; exact Nat.le_refl _
        · exact Nat.le_of_lt (hlt c (by omega)), d3⟩)
      exact ⟨b, τ', d1.trans z1, (o2.tr d2).tr z2, z3⟩
    rcases hs with ⟨e1, e2⟩ | ⟨b, b1, b2, b3, b4, b5⟩
    · rw [if_pos (show x2 < 0 by rw [e1]; decide)]
      exact take (fun c hc => by omega)
    · have cb := hcost b
      rw [b2, if_neg (nI_pos (by omega))]
      by_cases e : wk_cost sn ln nj (wk_dg nj code) < wk_cost sn ln nj (wk_dg nj b)
      · rw [if_pos (nI_lt e (by omega))]
        exact take (fun c hc => Nat.lt_of_lt_of_le e (b4 c hc))
      · rw [if_neg (nI_nlt (by omega) (by omega))]
        obtain ⟨b', τ', z1, z2, z3⟩ := ih (code + 1) n τ2 (nI (wk_cost sn ln nj (wk_dg nj b))) (by omega) (by omega) (hM.off o2) (Or.inr ⟨b, by omega, rfl, b3, fun c hc => by
          by_cases e : c = code
          · rw [e]; omega
          · exact b4 c (by omega), fun j hj => by rw [(a2.tr c2) 29 (by decide)]; exact b5 j hj⟩)
        exact ⟨b', τ', z1, o2.tr z2, z3⟩
theorem ls_tot {nj : Nat} (h8 : nj ≤ 8) : ∀ q c n (τ : St), c + q = nj → q < n → τ 0 22 = nI nj → fX11_leastOf_b4 n (nI (3 ^ c)) (nI c) τ = fX11_leastOf_b26 FU (nI (3 ^ nj)) (-1) 0 τ := by
  intro q
  induction q with
  | zero =>
    intro c n τ hc hn hM
    obtain ⟨n, rfl⟩ : ∃ q, n = q + 1 := ⟨n - 1, by omega⟩
    obtain rfl : c = nj := by omega
    rw [fX11_leastOf_b4, hM, if_pos (nI_le (Nat.le_refl _) (by omega))]
  | succ q ih =>
    intro c n τ hc hn hM
    obtain ⟨n, rfl⟩ : ∃ q, n = q + 1 := ⟨n - 1, by omega⟩
    have l1 : ¬ nI nj ≤ nI c := nI_ge (by omega) (by omega)
    rw [fX11_leastOf_b4, hM, if_neg l1, show (3 : Int32) = nI 3 from rfl, pk_mul, ← Nat.pow_succ, nI_1]
    exact ih (c + 1) n τ (by omega) (by omega) hM
theorem leastOf_v {nj : Nat} {sn ln : Nat → Nat} (hD : wkD nj sn ln) {τ : St} (hM : wkM nj sn ln τ) : ∃ (b : Nat) (τ' : St), fX11_leastOf τ = some (nI (wk_cost sn ln nj (wk_dg nj b)), τ') ∧ Off [29, 30] τ τ' ∧ wk_best sn ln nj b ∧ ∀ j, j < nj → τ' 29 j = nI (wk_dg nj b j) := by
  have h8 := hD.1
  have h3 := wk_pow h8
  obtain ⟨b, τ', z1, z2, z3⟩ := ls_main hD (3 ^ nj) 0 FU τ (-1) (by omega) (fu_lt (by omega)) hM (Or.inl ⟨rfl, rfl⟩)
  refine ⟨b, τ', ?_, z2, z3⟩
  unfold fX11_leastOf
  exact (ls_tot h8 nj 0 FU τ (by omega) (fu_lt (by omega)) hM.1).trans z1
