/-! ===== Stacking: the reference's finds ===== -/
def stM (fm w : Nat → Nat) (nw : Nat) (τ0 : St) : Prop := nw ≤ 8 ∧ τ0 0 21 = nI nw ∧ (∀ j, j < nw → τ0 21 j = nI (w j) ∧ w j ≤ 999) ∧ ∀ τ : St, Off [22, 23] τ0 τ → ∀ i p S, i < nw → p < 12 → S < 4096 → fX11_mayLie (nI i) (nI p) (nI S) τ = some (if st_ok fm i S p = true then 1 else 0, τ)
def TB (fm w : Nat → Nat) (nw i : Nat) (f : Nat → Int32) : Prop := ∀ j, i ≤ j → j ≤ nw → ∀ S, S < 4096 → f (4096 * j + S) = nI (st_mo fm w nw (nw - j) S)
theorem ix_mul (i S : Nat) : (4096 : Int32) * nI i + nI S = nI (4096 * i + S) := by
  rw [show (4096 : Int32) = nI 4096 from rfl, pk_mul, nI_add]
theorem fd_a {fm w : Nat → Nat} {nw : Nat} {τ0 : St} (hM : stM fm w nw τ0) : ∀ q S n (τ : St), S + q = 4096 → q < n → Off [22, 23] τ0 τ → (∀ S', S' < S → τ 22 (4096 * nw + S') = 0) → ∃ τ' : St, fX11_finds_b14 n 4096 (nI S) τ = fX11_finds_b46 FU 4096 (nI nw - 1) τ' ∧ Off [22, 23] τ0 τ' ∧ TB fm w nw nw (τ' 22) := by
  obtain ⟨d1, d2, d3, d4⟩ := hM
  intro q
  induction q with
  | zero =>
    intro S n τ hS hn ho hv
    obtain ⟨n, rfl⟩ : ∃ q, n = q + 1 := ⟨n - 1, by omega⟩
    obtain rfl : S = 4096 := by omega
    refine ⟨τ, ?_, ho, fun j h1 h2 S' hS' => ?_⟩
    · rw [fX11_finds_b14, if_pos (show (4096 : Int32) ≤ nI 4096 from nI_le (Nat.le_refl 4096) (by decide)), ho 0 (by decide), d2]
    · obtain rfl : j = nw := by omega
      rw [hv S' hS', show j - j = 0 by omega]; rfl
  | succ q ih =>
    intro S n τ hS hn ho hv
    obtain ⟨n, rfl⟩ : ∃ q, n = q + 1 := ⟨n - 1, by omega⟩
    have l1 : ¬ (4096 : Int32) ≤ nI S := by
      rw [show (4096 : Int32) = nI 4096 from rfl]; exact nI_ge (by omega) (by decide)
    rw [fX11_finds_b14, if_neg l1, ho 0 (by decide), d2, ix_mul, wr_nI (by omega) (by decide), nI_1]
    refine ih (S + 1) n _ (by omega) (by omega) (ho.up (by decide) _ _) (fun S' hS' => ?_)
    rw [up2_if]
    by_cases e : 4096 * nw + S' = 4096 * nw + S
    · rw [if_pos e]
    · rw [if_neg e]; exact hv S' (by omega)
def st_f (fm w : Nat → Nat) (nw k S : Nat) : Nat → Nat := fun p => if st_ok fm k S p = true then w k + st_mo fm w nw (nw - (k + 1)) (S ||| 2 ^ p) else 0
theorem st_f_mo (fm w : Nat → Nat) {nw k : Nat} (hk : k < nw) (S : Nat) : st_mx (st_f fm w nw k S) (st_mo fm w nw (nw - (k + 1)) S) 12 = st_mo fm w nw (nw - k) S := by
  have e1 : nw - k = nw - (k + 1) + 1 := by omega
  have e2 : nw - (nw - (k + 1) + 1) = k := by omega
  rw [e1, st_mo, e2]; rfl
theorem fd_b {fm w : Nat → Nat} {nw k S : Nat} {τ0 τ : St} (hM : stM fm w nw τ0) (hk : k < nw) (hS : S < 4096) (ho : Off [22, 23] τ0 τ) (hT : TB fm w nw (k + 1) (τ 22)) (k46 : Int32 → Int32 → St → Option (Int32 × St)) (k52 : Int32 → Int32 → Int32 → St → Option (Int32 × St)) : ∀ q p n, p + q = 12 → q < n → fX11_finds_b74 k46 k52 n 4096 (nI k) (nI S) (nI (st_mx (st_f fm w nw k S) (st_mo fm w nw (nw - (k + 1)) S) p)) (nI p) τ = k52 4096 (nI k) (nI (S + 1)) (up2 τ 22 (4096 * k + S) (nI (st_mo fm w nw (nw - k) S))) := by
  obtain ⟨d1, d2, d3, d4⟩ := hM
  have hw : ∀ j, j < nw → w j ≤ 999 := fun j hj => (d3 j hj).2
  intro q
  induction q with
  | zero =>
    intro p n hp hn
    obtain ⟨n, rfl⟩ : ∃ q, n = q + 1 := ⟨n - 1, by omega⟩
    obtain rfl : p = 12 := by omega
    rw [fX11_finds_b74, if_pos (show (12 : Int32) ≤ nI 12 from nI_le (Nat.le_refl 12) (by decide)), ix_mul, wr_nI (by omega) (by decide), nI_1, st_f_mo fm w hk S]
  | succ q ih =>
    intro p n hp hn
    obtain ⟨n, rfl⟩ : ∃ q, n = q + 1 := ⟨n - 1, by omega⟩
    have l1 : ¬ (12 : Int32) ≤ nI p := by
      rw [show (12 : Int32) = nI 12 from rfl]; exact nI_ge (by omega) (by decide)
    have b1 := st_mo_le (fm := fm) hw (nw - (k + 1)) (S ||| 2 ^ p) (by omega)
    have b0 := hw k hk
    have bm : st_mx (st_f fm w nw k S) (st_mo fm w nw (nw - (k + 1)) S) p ≤ 8991 := st_mx_le (Nat.le_trans (st_mo_le (fm := fm) hw (nw - (k + 1)) S (by omega)) (by omega)) p (fun x _ => by
      unfold st_f
      split
      · have := st_mo_le (fm := fm) hw (nw - (k + 1)) (S ||| 2 ^ x) (by omega)
        omega
      · omega)
    have z := ih (p + 1) n (by omega) (by omega)
    rw [st_mx] at z
    rw [fX11_finds_b74, if_neg l1, cal_e (d4 τ ho k p S hk (by omega) hS), nI_1]
    by_cases c : st_ok fm k S p = true
    · have ef : st_f fm w nw k S p = w k + st_mo fm w nw (nw - (k + 1)) (S ||| 2 ^ p) := by unfold st_f; rw [if_pos c]
      have hor : S ||| 2 ^ p < 4096 := Nat.or_lt_two_pow (n := 12) hS (Nat.pow_lt_pow_right (by decide) (by omega))
      rw [if_pos c, if_neg (show ¬ (1 : Int32) = 0 by decide), rd_nI (by omega) (by decide), ho 21 (by decide), (d3 k hk).1, bt_shl p (by omega), bt_or, nI_1, ix_mul, rd_nI (by omega) (by decide), hT (k + 1) (Nat.le_refl _) (by omega) _ hor, nI_add, lt_e]
      rw [ef] at z
      by_cases c2 : st_mx (st_f fm w nw k S) (st_mo fm w nw (nw - (k + 1)) S) p < w k + st_mo fm w nw (nw - (k + 1)) (S ||| 2 ^ p)
      · rw [if_pos (nI_lt c2 (by omega))]
        rw [if_pos c2] at z; exact z
      · rw [if_neg (nI_nlt (by omega) (by omega))]
        rw [if_neg c2] at z; exact z
    · have ef : st_f fm w nw k S p = 0 := by unfold st_f; rw [if_neg c]
      rw [if_neg c, if_pos rfl]
      rw [ef, if_neg (by omega)] at z
      exact z
theorem fd_c {fm w : Nat → Nat} {nw k : Nat} {τ0 : St} (hM : stM fm w nw τ0) (hk : k < nw) (k46 : Int32 → Int32 → St → Option (Int32 × St)) : ∀ q S n (τ : St), S + q = 4096 → q < n → Off [22, 23] τ0 τ → TB fm w nw (k + 1) (τ 22) → (∀ S', S' < S → τ 22 (4096 * k + S') = nI (st_mo fm w nw (nw - k) S')) → ∃ τ' : St, fX11_finds_b52 k46 n 4096 (nI k) (nI S) τ = k46 4096 (nI k + (-1)) τ' ∧ Off [22, 23] τ0 τ' ∧ TB fm w nw k (τ' 22) := by
  have d1 := hM.1
  intro q
  induction q with
  | zero =>
    intro S n τ hS hn ho hT hv
    obtain ⟨n, rfl⟩ : ∃ q, n = q + 1 := ⟨n - 1, by omega⟩
    obtain rfl : S = 4096 := by omega
    refine ⟨τ, ?_, ho, fun j h1 h2 S' hS' => ?_⟩
    · rw [fX11_finds_b52, if_pos (show (4096 : Int32) ≤ nI 4096 from nI_le (Nat.le_refl 4096) (by decide))]
    · by_cases e : j = k
      · subst e; exact hv S' hS'
      · exact hT j (by omega) h2 S' hS'
  | succ q ih =>
    intro S n τ hS hn ho hT hv
    obtain ⟨n, rfl⟩ : ∃ q, n = q + 1 := ⟨n - 1, by omega⟩
    have l1 : ¬ (4096 : Int32) ≤ nI S := by
      rw [show (4096 : Int32) = nI 4096 from rfl]; exact nI_ge (by omega) (by decide)
    have hb := fd_b hM hk (show S < 4096 by omega) ho hT k46 (fun a0 a1 a2 u => fX11_finds_b52 k46 n a0 a1 a2 u) 12 0 FU (by omega) (fu_lt (by decide))
    obtain ⟨τ', z1, z2, z3⟩ := ih (S + 1) n (up2 τ 22 (4096 * k + S) (nI (st_mo fm w nw (nw - k) S))) (by omega) (by omega) (ho.up (by decide) _ _) (fun j h1 h2 S' hS' => by
      rw [up2_i _ _ _ _ _ (by omega)]; exact hT j h1 h2 S' hS') (fun S' hS' => by
      rw [up2_if]
      by_cases e : 4096 * k + S' = 4096 * k + S
      · rw [if_pos e, show S' = S by omega]
      · rw [if_neg e]; exact hv S' (by omega))
    refine ⟨τ', ?_, z2, z3⟩
    have hb' : fX11_finds_b74 k46 (fun a0 a1 a2 u => fX11_finds_b52 k46 n a0 a1 a2 u) FU 4096 (nI k) (nI S) (nI (st_mo fm w nw (nw - (k + 1)) S)) 0 τ = _ := hb
    rw [fX11_finds_b52, if_neg l1, nI_1, ix_mul, rd_nI (by omega) (by decide), hT (k + 1) (Nat.le_refl _) (by omega) S (by omega), hb']
    exact z1
theorem fd_d {fm w : Nat → Nat} {nw : Nat} {τ0 : St} (hM : stM fm w nw τ0) : ∀ k n (τ : St), k ≤ nw → k < n → Off [22, 23] τ0 τ → TB fm w nw k (τ 22) → ∃ τ' : St, fX11_finds_b46 n 4096 (nI k - 1) τ = fX11_finds_b157 FU 4096 0 0 τ' ∧ Off [22, 23] τ0 τ' ∧ TB fm w nw 0 (τ' 22) := by
  have d1 := hM.1
  intro k
  induction k with
  | zero =>
    intro n τ hk hn ho hT
    obtain ⟨n, rfl⟩ : ∃ q, n = q + 1 := ⟨n - 1, by omega⟩
    exact ⟨τ, by rw [fX11_finds_b46, if_pos (show nI 0 - 1 < 0 by decide)], ho, hT⟩
  | succ k ih =>
    intro n τ hk hn ho hT
    obtain ⟨n, rfl⟩ : ∃ q, n = q + 1 := ⟨n - 1, by omega⟩
    obtain ⟨τ1, z1, z2, z3⟩ := fd_c hM (show k < nw by omega) (fun a0 a1 u => fX11_finds_b46 n a0 a1 u) 4096 0 FU τ (by omega) (fu_lt (by decide)) ho hT (fun S' h => by omega)
    obtain ⟨τ2, y1, y2, y3⟩ := ih n τ1 (by omega) (by omega) z2 z3
    have em : nI k + (-1) = nI k - 1 := by
      rcases Nat.eq_zero_or_pos k with e | e
      · subst e; rfl
      · rw [sb_m1 e]
        obtain ⟨k', rfl⟩ : ∃ q, k = q + 1 := ⟨k - 1, by omega⟩
        rw [nI_pred]; rfl
    have z1' : fX11_finds_b52 (fun a0 a1 u => fX11_finds_b46 n a0 a1 u) FU 4096 (nI k) 0 τ = fX11_finds_b46 n 4096 (nI k - 1) τ1 := by rw [← em]; exact z1
    refine ⟨τ2, ?_, y2, y3⟩
    rw [fX11_finds_b46, nI_pred, if_neg (nI_pos (by omega)), z1']
    exact y1
theorem fd_e {fm w : Nat → Nat} {nw i S : Nat} {τ0 : St} (hM : stM fm w nw τ0) (hi : i < nw) (hS : S < 4096) (k157 : Int32 → Int32 → Int32 → St → Option (Int32 × St)) : ∀ q p n (τ : St), p + q = 12 → q < n → Off [22, 23] τ0 τ → TB fm w nw 0 (τ 22) → τ 23 i = -9 → (∀ p', p' < p → ¬ st_P fm w nw (nw - (i + 1)) S p') → ∃ (τ' : St) (S' : Nat), fX11_finds_b176 k157 n 4096 (nI S) (nI i) (nI p) τ = k157 4096 (nI S') (nI (i + 1)) τ' ∧ Off [23] τ τ' ∧ (∀ j, j ≠ i → τ' 23 j = τ 23 j) ∧ ((∃ p0, p0 < 12 ∧ st_P fm w nw (nw - (i + 1)) S p0 ∧ (∀ p', p' < p0 → ¬ st_P fm w nw (nw - (i + 1)) S p') ∧ τ' 23 i = nI p0 ∧ S' = S ||| 2 ^ p0) ∨ (τ' 23 i = -9 ∧ (∀ p', p' < 12 → ¬ st_P fm w nw (nw - (i + 1)) S p') ∧ S' = S)) := by
  obtain ⟨d1, d2, d3, d4⟩ := hM
  have ei : nw - (nw - (i + 1) + 1) = i := by omega
  have ek : nw - (i + 1) + 1 = nw - i := by omega
  have hw : ∀ j, j < nw → w j ≤ 999 := fun j hj => (d3 j hj).2
  intro q
  induction q with
  | zero =>
    intro p n τ hp hn ho hT h23 hno
    obtain ⟨n, rfl⟩ : ∃ q, n = q + 1 := ⟨n - 1, by omega⟩
    obtain rfl : p = 12 := by omega
    refine ⟨τ, S, ?_, Off.rf _ _, fun j _ => rfl, Or.inr ⟨h23, hno, rfl⟩⟩
    rw [fX11_finds_b176, if_pos (show (12 : Int32) ≤ nI 12 from nI_le (Nat.le_refl 12) (by decide))]
    unfold fX11_finds_b254
    rw [rd_nI (by omega) (by decide), h23, if_pos (show (-9 : Int32) < 0 by decide), nI_1]
  | succ q ih =>
    intro p n τ hp hn ho hT h23 hno
    obtain ⟨n, rfl⟩ : ∃ q, n = q + 1 := ⟨n - 1, by omega⟩
    have l1 : ¬ (12 : Int32) ≤ nI p := by
      rw [show (12 : Int32) = nI 12 from rfl]; exact nI_ge (by omega) (by decide)
    have b1 := st_mo_le (fm := fm) hw (nw - (i + 1)) (S ||| 2 ^ p) (by omega)
    have b2 := st_mo_le (fm := fm) hw (nw - i) S (by omega)
    have b0 := hw i hi
    rw [fX11_finds_b176, if_neg l1, rd_nI (by omega) (by decide), h23, if_neg (show ¬ (0 : Int32) ≤ -9 by decide), cal_e (d4 τ ho i p S hi (by omega) hS), nI_1]
    by_cases c : st_ok fm i S p = true
    · have hor : S ||| 2 ^ p < 4096 := Nat.or_lt_two_pow (n := 12) hS (Nat.pow_lt_pow_right (by decide) (by omega))
      rw [if_pos c, if_neg (show ¬ (1 : Int32) = 0 by decide), rd_nI (by omega) (by decide), ho 21 (by decide), (d3 i hi).1, bt_shl p (by omega), bt_or, nI_1, ix_mul, rd_nI (by omega) (by decide), ix_mul, rd_nI (by omega) (by decide), hT (i + 1) (by omega) (by omega) _ hor, hT i (by omega) (by omega) S hS, nI_add]
      by_cases c2 : w i + st_mo fm w nw (nw - (i + 1)) (S ||| 2 ^ p) = st_mo fm w nw (nw - i) S
      · rw [c2, if_pos rfl, wr_nI (by omega) (by decide)]
        obtain ⟨n, rfl⟩ : ∃ q, n = q + 1 := ⟨n - 1, by omega⟩
        have hP : st_P fm w nw (nw - (i + 1)) S p := ⟨by rw [ei]; exact c, by rw [ei, ek]; exact c2⟩
        have e23 : up2 τ 23 i (nI p) 23 i = nI p := up2_s _ _ _ _
        have hfin : fX11_finds_b254 k157 4096 (nI S) (nI i) (up2 τ 23 i (nI p)) = k157 4096 (nI (S ||| 2 ^ p)) (nI (i + 1)) (up2 τ 23 i (nI p)) := by
          unfold fX11_finds_b254
          rw [rd_nI (by omega) (by decide), e23, if_neg (nI_pos (by omega)), rd_nI (by omega) (by decide), e23, lt_e, bt_shl p (by omega), bt_or, nI_1]
        refine ⟨up2 τ 23 i (nI p), S ||| 2 ^ p, ?_, (Off.rf _ _).up (by decide) _ _, fun j hj => up2_i _ _ _ _ _ hj, Or.inl ⟨p, by omega, hP, hno, e23, rfl⟩⟩
        rw [fX11_finds_b176]
        by_cases c3 : (12 : Int32) ≤ nI (p + 1)
        · rw [if_pos c3]; exact hfin
        · rw [if_neg c3, rd_nI (by omega) (by decide), e23, if_pos (show (0 : Int32) ≤ nI p from nI_le (a := 0) (Nat.zero_le _) (by omega))]
          exact hfin
      · rw [if_neg (fun z => c2 ((nI_eq (by omega) (by omega)).mp z))]
        refine ih (p + 1) n τ (by omega) (by omega) ho hT h23 (fun p' hp' => ?_)
        by_cases e : p' = p
        · rw [e]; intro y; exact c2 (by have := y.2; rw [ei, ek] at this; exact this)
        · exact hno p' (by omega)
    · rw [if_neg c, if_pos rfl]
      refine ih (p + 1) n τ (by omega) (by omega) ho hT h23 (fun p' hp' => ?_)
      by_cases e : p' = p
      · rw [e]; intro y; exact c (by have := y.1; rw [ei] at this; exact this)
      · exact hno p' (by omega)
theorem fd_f {fm w : Nat → Nat} {nw : Nat} {τ0 : St} (hM : stM fm w nw τ0) : ∀ q i n (τ : St) S, i + q = nw → q < n → S < 4096 → Off [22, 23] τ0 τ → TB fm w nw 0 (τ 22) → ∃ τ' : St, fX11_finds_b157 n 4096 (nI S) (nI i) τ = some (nI (st_mo fm w nw nw 0), τ') ∧ Off [22, 23] τ0 τ' ∧ st_ch fm w nw q S (τ' 23) ∧ ∀ j, j < i → τ' 23 j = τ 23 j := by
  have d1 := hM.1
  have d2 := hM.2.1
  intro q
  induction q with
  | zero =>
    intro i n τ S hi hn hS ho hT
    obtain ⟨n, rfl⟩ : ∃ q, n = q + 1 := ⟨n - 1, by omega⟩
    obtain rfl : i = nw := by omega
    refine ⟨τ, ?_, ho, trivial, fun j _ => rfl⟩
    have h0 : τ 22 0 = nI (st_mo fm w i i 0) := hT 0 (Nat.le_refl _) (by omega) 0 (by decide)
    rw [fX11_finds_b157, ho 0 (by decide), d2, if_pos (nI_le (Nat.le_refl _) (by omega)), rd_e (n := 36864) (j := 0) (show (0 : Int32) = nI 0 from rfl) (by decide) (by decide), h0]
  | succ q ih =>
    intro i n τ S hi hn hS ho hT
    obtain ⟨n, rfl⟩ : ∃ q, n = q + 1 := ⟨n - 1, by omega⟩
    have l1 : ¬ nI nw ≤ nI i := nI_ge (by omega) (by omega)
    have e2 : nw - (i + 1) = q := by omega
    have e3 : nw - (q + 1) = i := by omega
    obtain ⟨τ1, S', z1, z2, z3, z4⟩ := fd_e hM (show i < nw by omega) hS (fun a0 a1 a2 u => fX11_finds_b157 n a0 a1 a2 u) 12 0 FU (up2 τ 23 i (-9)) (by omega) (fu_lt (by decide)) (ho.up (by decide) _ _) hT (up2_s _ _ _ _) (fun p' h => by omega)
    have hS' : S' < 4096 := by
      rcases z4 with ⟨p0, y1, _, _, _, y5⟩ | ⟨_, _, y5⟩
      · rw [y5]; exact Nat.or_lt_two_pow (n := 12) hS (Nat.pow_lt_pow_right (by decide) y1)
      · rw [y5]; exact hS
    obtain ⟨τ2, x1, x2, x3, x4⟩ := ih (i + 1) n τ1 S' (by omega) (by omega) hS' ((ho.up (by decide) _ _).tr (z2.mono (by decide))) (by rw [z2 22 (by decide)]; exact hT)
    refine ⟨τ2, ?_, x2, ?_, fun j hj => ?_⟩
    · have z1' : fX11_finds_b176 (fun a0 a1 a2 u => fX11_finds_b157 n a0 a1 a2 u) FU 4096 (nI S) (nI i) 0 (up2 τ 23 i (-9)) = _ := z1
      rw [fX11_finds_b157, ho 0 (by decide), d2, if_neg l1, wr_nI (by omega) (by decide), z1']
      exact x1
    · rw [e2] at z4
      rw [st_ch, e3]
      rcases z4 with ⟨p0, y1, y2, y3, y4, y5⟩ | ⟨y4, y3, y5⟩
      · subst y5
        exact Or.inl ⟨p0, y1, y2, y3, by rw [x4 i (by omega)]; exact y4, x3⟩
      · subst y5
        exact Or.inr ⟨by rw [x4 i (by omega)]; exact y4, y3, x3⟩
    · rw [x4 j (by omega), z3 j (by omega), up2_i _ _ _ _ _ (by omega)]
theorem finds_v {fm w : Nat → Nat} {nw : Nat} {τ : St} (hM : stM fm w nw τ) : ∃ τ' : St, fX11_finds_b14 FU 4096 0 τ = some (nI (st_mo fm w nw nw 0), τ') ∧ Off [22, 23] τ τ' ∧ st_ch fm w nw nw 0 (τ' 23) := by
  have d1 := hM.1
  obtain ⟨τ1, a1, a2, a3⟩ := fd_a hM 4096 0 FU τ (by omega) (fu_lt (by decide)) (Off.rf _ _) (fun S' h => by omega)
  obtain ⟨τ2, b1, b2, b3⟩ := fd_d hM nw FU τ1 (Nat.le_refl _) (fu_lt (by omega)) a2 a3
  obtain ⟨τ3, c1, c2, c3, c4⟩ := fd_f hM nw 0 FU τ2 0 (by omega) (fu_lt (by omega)) (by decide) b2 b3
  have a1' : fX11_finds_b14 FU 4096 0 τ = fX11_finds_b46 FU 4096 (nI nw - 1) τ1 := a1
  have c1' : fX11_finds_b157 FU 4096 0 0 τ2 = some (nI (st_mo fm w nw nw 0), τ3) := c1
  exact ⟨τ3, by rw [a1', b1, c1'], c2, c3⟩
