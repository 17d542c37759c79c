/-! ===== Stacking: the chosen places ===== -/
def st_P (fm w : Nat → Nat) (nw k S p : Nat) : Prop := st_ok fm (nw - (k + 1)) S p = true ∧ w (nw - (k + 1)) + st_mo fm w nw k (S ||| 2 ^ p) = st_mo fm w nw (k + 1) S
def st_ch (fm w : Nat → Nat) (nw : Nat) : Nat → Nat → (Nat → Int32) → Prop
  | 0, _, _ => True
  | k + 1, S, f => (∃ p, p < 12 ∧ st_P fm w nw k S p ∧ (∀ p', p' < p → ¬ st_P fm w nw k S p') ∧ f (nw - (k + 1)) = nI p ∧ st_ch fm w nw k (S ||| 2 ^ p) f) ∨ (f (nw - (k + 1)) = -9 ∧ (∀ p', p' < 12 → ¬ st_P fm w nw k S p') ∧ st_ch fm w nw k S f)
theorem st_ch_u {fm w : Nat → Nat} {nw : Nat} {f g : Nat → Int32} : ∀ k S, k ≤ nw → st_ch fm w nw k S f → st_ch fm w nw k S g → ∀ j, nw - k ≤ j → j < nw → f j = g j := by
  intro k
  induction k with
  | zero => intro S _ _ _ j h1 h2; omega
  | succ k ih =>
    intro S hk hf hg j h1 h2
    rw [st_ch] at hf hg
    rcases hf with ⟨p, p1, p2, p3, p4, p5⟩ | ⟨p4, p3, p5⟩
    · rcases hg with ⟨q, q1, q2, q3, q4, q5⟩ | ⟨q4, q3, q5⟩
      · have e : p = q := by
          rcases Nat.lt_trichotomy p q with z | z | z
          · exact absurd p2 (q3 p z)
          · exact z
          · exact absurd q2 (p3 q z)
        subst e
        by_cases ej : j = nw - (k + 1)
        · rw [ej, p4, q4]
        · exact ih _ (by omega) p5 q5 j (by omega) h2
      · exact absurd p2 (q3 p p1)
    · rcases hg with ⟨q, q1, q2, q3, q4, q5⟩ | ⟨q4, q3, q5⟩
      · exact absurd q2 (p3 q q1)
      · by_cases ej : j = nw - (k + 1)
        · rw [ej, p4, q4]
        · exact ih _ (by omega) p5 q5 j (by omega) h2
theorem st_ch_r {fm w : Nat → Nat} {nw : Nat} {f : Nat → Int32} : ∀ k S, k ≤ nw → st_ch fm w nw k S f → ∀ j, nw - k ≤ j → j < nw → f j = -9 ∨ ∃ p, p < 12 ∧ f j = nI p := by
  intro k
  induction k with
  | zero => intro S _ _ j h1 h2; omega
  | succ k ih =>
    intro S hk hf j h1 h2
    rw [st_ch] at hf
    by_cases ej : j = nw - (k + 1)
    · rcases hf with ⟨p, p1, p2, p3, p4, p5⟩ | ⟨p4, p3, p5⟩
      · right; exact ⟨p, p1, by rw [ej]; exact p4⟩
      · left; rw [ej]; exact p4
    · rcases hf with ⟨p, p1, p2, p3, p4, p5⟩ | ⟨p4, p3, p5⟩
      · exact ih _ (by omega) p5 j (by omega) h2
      · exact ih _ (by omega) p5 j (by omega) h2
theorem st_ch_cg {fm w : Nat → Nat} {nw : Nat} {f g : Nat → Int32} : ∀ k S, k ≤ nw → (∀ j, nw - k ≤ j → j < nw → g j = f j) → st_ch fm w nw k S f → st_ch fm w nw k S g := by
  intro k
  induction k with
  | zero => intro S _ _ _; trivial
  | succ k ih =>
    intro S hk he hf
    rw [st_ch] at hf ⊢
    rw [he _ (Nat.le_refl _) (by omega)]
    rcases hf with ⟨p, p1, p2, p3, p4, p5⟩ | ⟨p4, p3, p5⟩
    · exact Or.inl ⟨p, p1, p2, p3, p4, ih _ (by omega) (fun j h1 h2 => he j (by omega) h2) p5⟩
    · exact Or.inr ⟨p4, p3, ih _ (by omega) (fun j h1 h2 => he j (by omega) h2) p5⟩
theorem st_mx_le {f : Nat → Nat} {b M : Nat} (hb : b ≤ M) : ∀ n, (∀ p, p < n → f p ≤ M) → st_mx f b n ≤ M := by
  intro n
  induction n with
  | zero => intro _; exact hb
  | succ n ih =>
    intro h
    have h1 := ih (fun p hp => h p (by omega))
    have h2 := h n (by omega)
    rw [st_mx]; split <;> omega
theorem st_mo_le {fm w : Nat → Nat} {nw : Nat} (hw : ∀ j, j < nw → w j ≤ 999) : ∀ k S, k ≤ nw → st_mo fm w nw k S ≤ 999 * k := by
  intro k
  induction k with
  | zero => intro S _; exact Nat.le_refl _
  | succ k ih =>
    intro S hk
    rw [st_mo]
    refine st_mx_le (Nat.le_trans (ih S (by omega)) (by omega)) 12 (fun p _ => ?_)
    show (if st_ok fm (nw - (k + 1)) S p = true then w (nw - (k + 1)) + st_mo fm w nw k (S ||| 2 ^ p) else 0) ≤ _
    split
    · have a := hw (nw - (k + 1)) (by omega)
      have b := ih (S ||| 2 ^ p) (by omega)
      omega
    · omega
/-- where no place will do, the piece is left out -/
theorem st_none {fm w : Nat → Nat} {nw k S : Nat} (h : ∀ p', p' < 12 → ¬ st_P fm w nw k S p') : st_mo fm w nw (k + 1) S = st_mo fm w nw k S := by
  have e : st_mo fm w nw (k + 1) S = st_mx (fun p => if st_ok fm (nw - (k + 1)) S p = true then w (nw - (k + 1)) + st_mo fm w nw k (S ||| 2 ^ p) else 0) (st_mo fm w nw k S) 12 := by rw [st_mo]
  rcases st_mx_at (fun p => if st_ok fm (nw - (k + 1)) S p = true then w (nw - (k + 1)) + st_mo fm w nw k (S ||| 2 ^ p) else 0) (st_mo fm w nw k S) 12 with z | ⟨p, p1, p2, p3⟩
  · rw [e, z]
  · exfalso
    have p2' : st_mx (fun p => if st_ok fm (nw - (k + 1)) S p = true then w (nw - (k + 1)) + st_mo fm w nw k (S ||| 2 ^ p) else 0) (st_mo fm w nw k S) 12 = (if st_ok fm (nw - (k + 1)) S p = true then w (nw - (k + 1)) + st_mo fm w nw k (S ||| 2 ^ p) else 0) := p2
    have p3' : st_mo fm w nw k S < (if st_ok fm (nw - (k + 1)) S p = true then w (nw - (k + 1)) + st_mo fm w nw k (S ||| 2 ^ p) else 0) := p3
    by_cases hb : st_ok fm (nw - (k + 1)) S p = true
    · rw [if_pos hb] at p2'
      exact h p p1 ⟨hb, by rw [e, p2']⟩
    · rw [if_neg hb] at p3'; omega
theorem st_cp.set {F S p : Nat} (h : st_cp F S) (hp : p < 12) : st_cp (clr F p) (S ||| 2 ^ p) := by
  refine ⟨Nat.lt_of_le_of_lt (clr_le _ _) h.1, Nat.or_lt_two_pow (n := 12) h.2.1 (Nat.pow_lt_pow_right (by decide) hp), fun x hx => ?_⟩
  rw [clr_bit (by omega) (by omega), st_or_bit, h.2.2 x hx]
  by_cases e : p = x
  · simp [e]
  · simp [e]
theorem st_cp0 : st_cp 4095 0 := ⟨by decide, by decide, by decide⟩
theorem ls_w {fm w ord : Nat → Nat} {nw i F S : Nat} {σ0 : St} (hD : stD fm w ord nw σ0) (hi : i < nw) (hc : st_cp F S) : ∀ q p n (σ : St), p + q = 12 → q < n → Off [28, 29, 30] σ0 σ → (∀ p', p' < p → ¬ st_P fm w nw (nw - (i + 1)) S p') → (∃ (σ' : St) (p0 : Nat), fX8_leastSpot_b3 n (nI i) (nI F) (nI (st_mo fm w nw (nw - i) S)) (nI p) σ = some (nI p0, σ') ∧ Off [28, 29, 30] σ0 σ' ∧ p0 < 12 ∧ st_P fm w nw (nw - (i + 1)) S p0 ∧ ∀ p', p' < p0 → ¬ st_P fm w nw (nw - (i + 1)) S p') ∨ ∃ σ' : St, fX8_leastSpot_b3 n (nI i) (nI F) (nI (st_mo fm w nw (nw - i) S)) (nI p) σ = some (-9, σ') ∧ Off [28, 29, 30] σ0 σ' ∧ ∀ p', p' < 12 → ¬ st_P fm w nw (nw - (i + 1)) S p' := by
  have d1 := hD.1
  have d3 := hD.2.2.1 i hi
  have ei : nw - (nw - (i + 1) + 1) = i := by omega
  have ek : nw - (i + 1) + 1 = nw - i := by omega
  have hw : ∀ j, j < nw → w j ≤ 999 := fun j hj => (hD.2.2.1 j hj).2.2.2
  intro q
  induction q with
  | zero =>
    intro p n σ hp hn ho hno
    obtain ⟨n, rfl⟩ : ∃ q, n = q + 1 := ⟨n - 1, by omega⟩
    obtain rfl : p = 12 := by omega
    exact Or.inr ⟨σ, by rw [fX8_leastSpot_b3, if_pos (show (12 : Int32) ≤ nI 12 from nI_le (Nat.le_refl 12) (by decide))], ho, hno⟩
  | succ q ih =>
    intro p n σ hp hn ho hno
    obtain ⟨n, rfl⟩ : ∃ q, n = q + 1 := ⟨n - 1, by omega⟩
    have l1 : ¬ (12 : Int32) ≤ nI p := by
      rw [show (12 : Int32) = nI 12 from rfl]; exact nI_ge (by omega) (by decide)
    have hand : (fm i &&& F).testBit p = st_ok fm i S p := by
      unfold st_ok
      rw [Nat.testBit_and, hc.2.2 p (by omega)]
    rw [fX8_leastSpot_b3, if_neg l1, lt_e, rd_nI (by omega) (by decide), ho 25 (by decide), d3.1, bt_and, nI_1]
    by_cases c1 : st_ok fm i S p = true
    · have c1' : ¬ (nI (fm i &&& F) &&& ((1 : Int32) <<< (nI p &&& 31))) = 0 := fun z => by
        have := (bt_has (Nat.lt_of_le_of_lt Nat.and_le_left (by omega)) (by omega)).mp z
        rw [hand, c1] at this; cases this
      obtain ⟨σ1, z1, z2⟩ := worthFrom_v (fr := i + 1) (hD.off ho (by decide) (by decide) (by decide) (by decide)) (by omega) (hc.set (p := p) (by omega))
      have b1 := st_mo_le (fm := fm) hw (nw - (i + 1)) (S ||| 2 ^ p) (by omega)
      have b2 := st_mo_le (fm := fm) hw (nw - i) S (by omega)
      rw [if_neg c1', rd_nI (by omega) (by decide), ho 24 (by decide), d3.2.2.1, bt_clr (by omega), nI_1, cal_e z1, nI_add]
      by_cases c2 : w i + st_mo fm w nw (nw - (i + 1)) (S ||| 2 ^ p) = st_mo fm w nw (nw - i) S
      · left
        refine ⟨σ1, p, ?_, ho.tr z2, by omega, ⟨by rw [ei]; exact c1, by rw [ei, ek]; exact c2⟩, hno⟩
        rw [c2, if_pos rfl]
      · rw [if_neg (fun z => c2 ((nI_eq (by omega) (by omega)).mp z))]
        refine ih (p + 1) n σ1 (by omega) (by omega) (ho.tr z2) (fun p' hp' => ?_)
        by_cases e : p' = p
        · rw [e]; intro y; exact c2 (by have := y.2; rw [ei, ek] at this; exact this)
        · exact hno p' (by omega)
    · have c1' : (nI (fm i &&& F) &&& ((1 : Int32) <<< (nI p &&& 31))) = 0 := (bt_has (Nat.lt_of_le_of_lt Nat.and_le_left (by omega)) (by omega)).mpr (by rw [hand]; exact Bool.not_eq_true _ ▸ c1)
      rw [if_pos c1']
      refine ih (p + 1) n σ (by omega) (by omega) ho (fun p' hp' => ?_)
      by_cases e : p' = p
      · rw [e]; intro y; exact c1 (by have := y.1; rw [ei] at this; exact this)
      · exact hno p' (by omega)
theorem cs_w {fm w ord : Nat → Nat} {nw : Nat} {σ0 : St} (hD : stD fm w ord nw σ0) : ∀ q i n (σ : St) F S, i + q = nw → q < n → Off [26, 28, 29, 30] σ0 σ → st_cp F S → ∃ σ' : St, fX8_choose_b11 n (nI F) (nI (st_mo fm w nw q S)) (nI i) σ = some (0, σ') ∧ Off [26, 28, 29, 30] σ0 σ' ∧ st_ch fm w nw q S (σ' 26) ∧ ∀ j, j < i → σ' 26 j = σ 26 j := by
  have d1 := hD.1
  intro q
  induction q with
  | zero =>
    intro i n σ F S hi hn ho hc
    obtain ⟨n, rfl⟩ : ∃ q, n = q + 1 := ⟨n - 1, by omega⟩
    obtain rfl : i = nw := by omega
    exact ⟨σ, by rw [fX8_choose_b11, ho 22 (by decide), hD.2.1, if_pos (nI_le (Nat.le_refl _) (by omega))], ho, trivial, fun j _ => rfl⟩
  | succ q ih =>
    intro i n σ F S hi hn ho hc
    obtain ⟨n, rfl⟩ : ∃ q, n = q + 1 := ⟨n - 1, by omega⟩
    have l1 : ¬ nI nw ≤ nI i := nI_ge (by omega) (by omega)
    have e1 : nw - i = q + 1 := by omega
    have e2 : nw - (i + 1) = q := by omega
    have e3 : nw - (q + 1) = i := by omega
    have hDs := hD.off ho (by decide) (by decide) (by decide) (by decide)
    have hls := ls_w (i := i) hDs (by omega) hc 12 0 FU σ (by omega) (fu_lt (by decide)) (Off.rf _ _) (fun p' h => by omega)
    rw [e1, e2] at hls
    rw [fX8_choose_b11, ho 22 (by decide), hD.2.1, if_neg l1, nI_1]
    rcases hls with ⟨σ1, p0, z1, z2, z3, z4, z5⟩ | ⟨σ1, z1, z2, z3⟩
    · have z1' : fX8_leastSpot (nI i) (nI F) (nI (st_mo fm w nw (q + 1) S)) σ = some (nI p0, σ1) := by
        unfold fX8_leastSpot; exact z1
      have h4 := z4.2
      rw [e3] at h4
      have d3 := (hDs.2.2.1 i (by omega)).2.2.1
      have e24 : up2 σ1 26 i (nI p0) 24 i = nI (w i) := by
        show σ1 24 i = _
        rw [z2 24 (by decide)]; exact d3
      rw [cal_e z1', wr_nI (by omega) (by decide), if_neg (nI_n9 (by omega)), lt_e, bt_clr (by omega), rd_nI (by omega) (by decide), e24, pk_sub (by omega), show st_mo fm w nw (q + 1) S - w i = st_mo fm w nw q (S ||| 2 ^ p0) by omega]
      obtain ⟨σ2, y1, y2, y3, y4⟩ := ih (i + 1) n (up2 σ1 26 i (nI p0)) (clr F p0) (S ||| 2 ^ p0) (by omega) (by omega) ((ho.tr (z2.mono (by decide))).up (by decide) _ _) (hc.set z3)
      refine ⟨σ2, y1, y2, ?_, fun j hj => ?_⟩
      · rw [st_ch, e3]
        refine Or.inl ⟨p0, z3, z4, z5, ?_, y3⟩
        rw [y4 i (by omega), up2_s]
      · rw [y4 j (by omega), up2_i _ _ _ _ _ (by omega), z2 26 (by decide)]
    · have z1' : fX8_leastSpot (nI i) (nI F) (nI (st_mo fm w nw (q + 1) S)) σ = some (-9, σ1) := by
        unfold fX8_leastSpot; exact z1
      rw [cal_e z1', wr_nI (by omega) (by decide), if_pos rfl, st_none z3]
      obtain ⟨σ2, y1, y2, y3, y4⟩ := ih (i + 1) n (up2 σ1 26 i (-9)) F S (by omega) (by omega) ((ho.tr (z2.mono (by decide))).up (by decide) _ _) hc
      refine ⟨σ2, y1, y2, ?_, fun j hj => ?_⟩
      · rw [st_ch, e3]
        refine Or.inr ⟨?_, z3, y3⟩
        rw [y4 i (by omega), up2_s]
      · rw [y4 j (by omega), up2_i _ _ _ _ _ (by omega), z2 26 (by decide)]
theorem greatest_v {fm w ord : Nat → Nat} {nw : Nat} {σ : St} (hD : stD fm w ord nw σ) : ∃ σ' : St, fX8_greatestWorth σ = some (nI (st_mo fm w nw nw 0), σ') ∧ Off [28, 29, 30] σ σ' := by
  obtain ⟨σ', z1, z2⟩ := worthFrom_v (fr := 0) hD (by omega) st_cp0
  refine ⟨σ', ?_, z2⟩
  have z1' : fX8_worthFrom 0 4095 σ = some (nI (st_mo fm w nw nw 0), σ') := z1
  unfold fX8_greatestWorth
  rw [cal_e z1']
theorem choose_v {fm w ord : Nat → Nat} {nw : Nat} {σ : St} (hD : stD fm w ord nw σ) : ∃ σ' : St, fX8_choose σ = some (0, σ') ∧ Off [26, 28, 29, 30] σ σ' ∧ st_ch fm w nw nw 0 (σ' 26) := by
  obtain ⟨σ1, z1, z2⟩ := greatest_v hD
  obtain ⟨σ2, y1, y2, y3, y4⟩ := cs_w (hD.off z2 (by decide) (by decide) (by decide) (by decide)) nw 0 FU σ1 4095 0 (by omega) (fu_lt (by have := hD.1; omega)) (Off.rf _ _) st_cp0
  refine ⟨σ2, ?_, (z2.mono (by decide)).tr y2, y3⟩
  unfold fX8_choose
  rw [cal_e z1]
  exact y1
