/-! ===== Stacking: assignments, their worth, the bound ===== -/
def st_sm (f : Nat → Nat) : Nat → Nat
  | 0 => 0
  | n + 1 => st_sm f n + f n
def st_ov (f : Nat → Nat) : Option Nat → Nat
  | none => 0
  | some p => f p
def st_sel : Option Nat → Nat → Nat
  | none, _ => 0
  | some _, x => x
def st_zz (f : Nat → Nat) (p : Nat) : Nat → Nat := fun x => if x = p then 0 else f x
def st_val (w : Nat → Nat) (a : Nat → Option Nat) (n : Nat) : Nat := st_sm (fun j => st_sel (a j) (w j)) n
theorem st_sm_le {f g : Nat → Nat} : ∀ n, (∀ j, j < n → f j ≤ g j) → st_sm f n ≤ st_sm g n := by
  intro n
  induction n with
  | zero => intro _; exact Nat.le_refl _
  | succ n ih =>
    intro h
    have h1 := ih (fun j hj => h j (by omega))
    have h2 := h n (by omega)
    rw [st_sm, st_sm]; omega
theorem st_sm_eq {f g : Nat → Nat} (n : Nat) (h : ∀ j, j < n → f j = g j) : st_sm f n = st_sm g n :=
  Nat.le_antisymm (st_sm_le n (fun j hj => Nat.le_of_eq (h j hj))) (st_sm_le n (fun j hj => Nat.le_of_eq (h j hj).symm))
theorem st_sm_add (f g : Nat → Nat) : ∀ n, st_sm (fun j => f j + g j) n = st_sm f n + st_sm g n := by
  intro n
  induction n with
  | zero => rfl
  | succ n ih => rw [st_sm, st_sm, st_sm, ih]; omega
theorem st_sm_zz (f : Nat → Nat) (p : Nat) : ∀ n, st_sm f n = st_sm (st_zz f p) n + (if p < n then f p else 0) := by
  intro n
  induction n with
  | zero => rfl
  | succ n ih =>
    rw [st_sm, st_sm, ih]
    unfold st_zz
    by_cases e : n = p
    · subst e
      rw [if_neg (by omega), if_pos rfl, if_pos (by omega)]
    · rw [if_neg e]
      by_cases e2 : p < n
      · rw [if_pos e2, if_pos (by omega)]; omega
      · rw [if_neg e2, if_neg (by omega)]; omega
theorem st_sm_0 (f : Nat → Nat) (n : Nat) (h : ∀ j, j < n → f j = 0) : st_sm f n = 0 := by
  induction n with
  | zero => rfl
  | succ n ih => rw [st_sm, ih (fun j hj => h j (by omega)), h n (by omega)]
theorem st_inj : ∀ n (a : Nat → Option Nat) (v : Nat → Nat), (∀ j p, j < n → a j = some p → p < 12) → (∀ j j' p, j < n → j' < n → a j = some p → a j' = some p → j = j') → st_sm (fun j => st_ov v (a j)) n ≤ st_sm v 12 := by
  intro n
  induction n with
  | zero => intro a v _ _; exact Nat.zero_le _
  | succ n ih =>
    intro a v h1 h2
    rw [st_sm]
    cases ea : a n with
    | none =>
      have := ih a v (fun j p hj => h1 j p (by omega)) (fun j j' p hj hj' => h2 j j' p (by omega) (by omega))
      exact this
    | some p =>
      have hp := h1 n p (by omega) ea
      have i1 := ih a (st_zz v p) (fun j p hj => h1 j p (by omega)) (fun j j' p hj hj' => h2 j j' p (by omega) (by omega))
      have e1 : st_sm (fun j => st_ov v (a j)) n = st_sm (fun j => st_ov (st_zz v p) (a j)) n := st_sm_eq n (fun j hj => by
        show st_ov v (a j) = st_ov (st_zz v p) (a j)
        cases eb : a j with
        | none => rfl
        | some q =>
          have ne : q ≠ p := fun z => by
            rw [z] at eb
            have := h2 j n p (by omega) (by omega) eb ea
            omega
          show v q = st_zz v p q
          unfold st_zz; rw [if_neg ne])
      have e2 := st_sm_zz v p 12
      rw [if_pos hp] at e2
      show _ + v p ≤ _
      omega
theorem st_cov : ∀ n (a : Nat → Option Nat) (v : Nat → Nat), (∀ p, p < 12 → 0 < v p → ∃ j, j < n ∧ a j = some p) → st_sm v 12 ≤ st_sm (fun j => st_ov v (a j)) n := by
  intro n
  induction n with
  | zero =>
    intro a v h
    rw [st_sm_0 v 12 (fun p hp => by
      rcases Nat.eq_zero_or_pos (v p) with z | z
      · exact z
      · obtain ⟨j, j1, _⟩ := h p hp z; omega)]
    exact Nat.zero_le _
  | succ n ih =>
    intro a v h
    show st_sm v 12 ≤ st_sm (fun j => st_ov v (a j)) n + st_ov v (a n)
    cases ea : a n with
    | none =>
      have := ih a v (fun p hp hv => by
        obtain ⟨j, j1, j2⟩ := h p hp hv
        refine ⟨j, ?_, j2⟩
        have : j ≠ n := fun z => by rw [z, ea] at j2; cases j2
        omega)
      exact this
    | some p =>
      have i1 := ih a (st_zz v p) (fun q hq hv => by
        have ne : q ≠ p := fun z => by unfold st_zz at hv; rw [if_pos z] at hv; omega
        have hv' : 0 < v q := by unfold st_zz at hv; rw [if_neg ne] at hv; exact hv
        obtain ⟨j, j1, j2⟩ := h q hq hv'
        refine ⟨j, ?_, j2⟩
        have : j ≠ n := fun z => by rw [z, ea] at j2; cases j2; exact ne rfl
        omega)
      have e1 : st_sm (fun j => st_ov (st_zz v p) (a j)) n ≤ st_sm (fun j => st_ov v (a j)) n := st_sm_le n (fun j hj => by
        show st_ov (st_zz v p) (a j) ≤ st_ov v (a j)
        cases a j with
        | none => exact Nat.le_refl _
        | some q =>
          show st_zz v p q ≤ v q
          unfold st_zz; split <;> omega)
      have e2 := st_sm_zz v p 12
      show _ ≤ _ + v p
      by_cases c : p < 12
      · rw [if_pos c] at e2; omega
      · rw [if_neg c] at e2; omega
theorem st_lp {n : Nat} {w v : Nat → Nat} {a seat : Nat → Option Nat} {al : Nat → Nat → Prop} (ha : ∀ j p, j < n → a j = some p → p < 12 ∧ al j p) (hi : ∀ j j' p, j < n → j' < n → a j = some p → a j' = some p → j = j') (h3 : ∀ j q, j < n → seat j = some q → v q ≤ w j ∧ ∀ p, al j p → v q ≤ v p) (h4 : ∀ j p, j < n → a j = some p → seat j = none → w j ≤ v p) (h5 : ∀ p, p < 12 → 0 < v p → ∃ j, j < n ∧ seat j = some p) : st_val w a n ≤ st_val w seat n := by
  have k1 := st_inj n a v (fun j p hj e => (ha j p hj e).1) hi
  have k2 := st_cov n seat v h5
  have k3 : st_sm (fun j => st_sel (a j) (w j) + st_ov v (seat j)) n ≤ st_sm (fun j => st_sel (seat j) (w j) + st_ov v (a j)) n := st_sm_le n (fun j hj => by
    show st_sel (a j) (w j) + st_ov v (seat j) ≤ st_sel (seat j) (w j) + st_ov v (a j)
    cases ea : a j with
    | none =>
      cases eb : seat j with
      | none => exact Nat.le_refl _
      | some q =>
        have := (h3 j q hj eb).1
        show 0 + v q ≤ w j + 0
        omega
    | some p =>
      cases eb : seat j with
      | none =>
        have := h4 j p hj ea eb
        show w j + 0 ≤ 0 + v p
        omega
      | some q =>
        have := (h3 j q hj eb).2 p (ha j p hj ea).2
        show w j + v q ≤ w j + v p
        omega)
  rw [st_sm_add, st_sm_add] at k3
  unfold st_val
  omega
/-- the reference's table -/
def st_mx (f : Nat → Nat) (b : Nat) : Nat → Nat
  | 0 => b
  | p + 1 => if st_mx f b p < f p then f p else st_mx f b p
theorem st_mx_b (f : Nat → Nat) (b : Nat) : ∀ n, b ≤ st_mx f b n := by
  intro n
  induction n with
  | zero => exact Nat.le_refl _
  | succ n ih => rw [st_mx]; split <;> omega
theorem st_mx_f (f : Nat → Nat) (b : Nat) : ∀ n p, p < n → f p ≤ st_mx f b n := by
  intro n
  induction n with
  | zero => intro p hp; omega
  | succ n ih =>
    intro p hp
    rw [st_mx]
    by_cases e : p = n
    · subst e; split <;> omega
    · have := ih p (by omega)
      split <;> omega
theorem st_mx_at (f : Nat → Nat) (b : Nat) : ∀ n, st_mx f b n = b ∨ ∃ p, p < n ∧ st_mx f b n = f p ∧ b < f p := by
  intro n
  induction n with
  | zero => exact Or.inl rfl
  | succ n ih =>
    have hb := st_mx_b f b n
    rw [st_mx]
    by_cases c : st_mx f b n < f n
    · rw [if_pos c]
      exact Or.inr ⟨n, by omega, rfl, by omega⟩
    · rw [if_neg c]
      rcases ih with z | ⟨p, p1, p2, p3⟩
      · exact Or.inl z
      · exact Or.inr ⟨p, by omega, p2, p3⟩
def st_ok (fm : Nat → Nat) (i S p : Nat) : Bool := (fm i).testBit p && !S.testBit p
def st_mo (fm w : Nat → Nat) (nw : Nat) : Nat → Nat → Nat
  | 0, _ => 0
  | k + 1, S => st_mx (fun p => if st_ok fm (nw - (k + 1)) S p = true then w (nw - (k + 1)) + st_mo fm w nw k (S ||| 2 ^ p) else 0) (st_mo fm w nw k S) 12
def st_lg (fm : Nat → Nat) (nw i S : Nat) (a : Nat → Option Nat) : Prop := (∀ j p, a j = some p → i ≤ j ∧ j < nw ∧ p < 12 ∧ (fm j).testBit p = true ∧ S.testBit p = false) ∧ ∀ j j' p, a j = some p → a j' = some p → j = j'
theorem st_or_bit (S p x : Nat) : (S ||| 2 ^ p).testBit x = (S.testBit x || decide (p = x)) := by
  rw [Nat.testBit_or, Nat.testBit_two_pow]
theorem st_val_set {w : Nat → Nat} {a : Nat → Option Nat} {n i p : Nat} (hi : i < n) (h : a i = some p) : st_val w a n = st_val w (fun j => if j = i then none else a j) n + w i := by
  unfold st_val
  rw [st_sm_zz (fun j => st_sel (a j) (w j)) i n, if_pos hi]
  have e1 : st_sel (a i) (w i) = w i := by rw [h]; rfl
  rw [e1]
  congr 1
  refine st_sm_eq n (fun j _ => ?_)
  unfold st_zz
  by_cases e : j = i
  · show (if j = i then 0 else st_sel (a j) (w j)) = st_sel (if j = i then none else a j) (w j)
    rw [if_pos e, if_pos e]; rfl
  · show (if j = i then 0 else st_sel (a j) (w j)) = st_sel (if j = i then none else a j) (w j)
    rw [if_neg e, if_neg e]
theorem st_ub {fm w : Nat → Nat} {nw : Nat} : ∀ k i S (a : Nat → Option Nat), i + k = nw → st_lg fm nw i S a → st_val w a nw ≤ st_mo fm w nw k S := by
  intro k
  induction k with
  | zero =>
    intro i S a hi hl
    unfold st_val
    rw [st_sm_0 _ nw (fun j hj => by
      show st_sel (a j) (w j) = 0
      cases e : a j with
      | none => rfl
      | some p => have := hl.1 j p e; omega)]
    exact Nat.zero_le _
  | succ k ih =>
    intro i S a hi hl
    have ei : nw - (k + 1) = i := by omega
    rw [st_mo, ei]
    cases ea : a i with
    | none =>
      have h1 := ih (i + 1) S a (by omega) ⟨fun j p e => by
        have h := hl.1 j p e
        have ne : j ≠ i := fun z => by rw [z, ea] at e; cases e
        exact ⟨by omega, h.2⟩, hl.2⟩
      exact Nat.le_trans h1 (st_mx_b _ _ 12)
    | some p =>
      have h := hl.1 i p ea
      rw [st_val_set (w := w) h.2.1 ea]
      have h1 := ih (i + 1) (S ||| 2 ^ p) (fun j => if j = i then none else a j) (by omega) ⟨fun j q e => by
        by_cases ej : j = i
        · have e' : (none : Option Nat) = some q := by
            have e2 : (if j = i then none else a j) = some q := e
            rw [if_pos ej] at e2; exact e2
          cases e'
        · have e' : a j = some q := by
            have e2 : (if j = i then none else a j) = some q := e
            rw [if_neg ej] at e2; exact e2
          have h' := hl.1 j q e'
          refine ⟨by omega, h'.2.1, h'.2.2.1, h'.2.2.2.1, ?_⟩
          rw [st_or_bit, h'.2.2.2.2]
          have : p ≠ q := fun z => ej (hl.2 j i q e' (by rw [← z]; exact ea))
          simp [this], fun j j' q e e' => by
        have e2 : (if j = i then none else a j) = some q := e
        have e3 : (if j' = i then none else a j') = some q := e'
        by_cases ej : j = i
        · rw [if_pos ej] at e2; cases e2
        · by_cases ej' : j' = i
          · rw [if_pos ej'] at e3; cases e3
          · rw [if_neg ej] at e2; rw [if_neg ej'] at e3
            exact hl.2 j j' q e2 e3⟩
      have h2 := st_mx_f (fun p => if st_ok fm i S p = true then w i + st_mo fm w nw k (S ||| 2 ^ p) else 0) (st_mo fm w nw k S) 12 p h.2.2.1
      have h3 : st_ok fm i S p = true := by unfold st_ok; rw [h.2.2.2.1, h.2.2.2.2]; rfl
      have h4 : (if st_ok fm i S p = true then w i + st_mo fm w nw k (S ||| 2 ^ p) else 0) ≤ st_mx (fun p => if st_ok fm i S p = true then w i + st_mo fm w nw k (S ||| 2 ^ p) else 0) (st_mo fm w nw k S) 12 := h2
      rw [if_pos h3] at h4
      omega
theorem st_ach {fm w : Nat → Nat} {nw : Nat} : ∀ k i S, i + k = nw → ∃ a : Nat → Option Nat, st_lg fm nw i S a ∧ st_val w a nw = st_mo fm w nw k S := by
  intro k
  induction k with
  | zero =>
    intro i S hi
    refine ⟨fun _ => none, ⟨fun j p e => (by cases e), fun j j' p e => (by cases e)⟩, ?_⟩
    exact st_sm_0 _ nw (fun j hj => rfl)
  | succ k ih =>
    intro i S hi
    have ei : nw - (k + 1) = i := by omega
    rw [st_mo, ei]
    rcases st_mx_at (fun p => if st_ok fm i S p = true then w i + st_mo fm w nw k (S ||| 2 ^ p) else 0) (st_mo fm w nw k S) 12 with z | ⟨p, p1, p2, p3⟩
    · rw [z]
      obtain ⟨a, a1, a2⟩ := ih (i + 1) S (by omega)
      exact ⟨a, ⟨fun j p e => by have := a1.1 j p e; exact ⟨by omega, this.2⟩, a1.2⟩, a2⟩
    · rw [p2]
      have hok : st_ok fm i S p = true := by
        cases hb : st_ok fm i S p with
        | true => rfl
        | false =>
          have p3' : st_mo fm w nw k S < (if st_ok fm i S p = true then w i + st_mo fm w nw k (S ||| 2 ^ p) else 0) := p3
          rw [hb] at p3'
          simp at p3'
      show ∃ a : Nat → Option Nat, st_lg fm nw i S a ∧ st_val w a nw = (if st_ok fm i S p = true then w i + st_mo fm w nw k (S ||| 2 ^ p) else 0)
      rw [if_pos hok]
      have hok' : (fm i).testBit p = true ∧ S.testBit p = false := by
        unfold st_ok at hok
        simp at hok
        exact hok
      obtain ⟨a, a1, a2⟩ := ih (i + 1) (S ||| 2 ^ p) (by omega)
      have an : ∀ j q, a j = some q → j ≠ i ∧ q ≠ p ∧ S.testBit q = false := fun j q e => by
        have h := a1.1 j q e
        have hb := h.2.2.2.2
        rw [st_or_bit] at hb
        simp at hb
        exact ⟨by omega, fun z => hb.2 z.symm, hb.1⟩
      have ani : a i = none := by
        cases e : a i with
        | none => rfl
        | some q => exact absurd rfl (an i q e).1
      refine ⟨fun j => if j = i then some p else a j, ⟨fun j q e => ?_, fun j j' q e e' => ?_⟩, ?_⟩
      · have e2 : (if j = i then some p else a j) = some q := e
        by_cases ej : j = i
        · rw [if_pos ej] at e2
          have : p = q := by injection e2
          subst this
          rw [ej]
          exact ⟨Nat.le_refl _, by omega, p1, hok'.1, hok'.2⟩
        · rw [if_neg ej] at e2
          have h := a1.1 j q e2
          exact ⟨by omega, h.2.1, h.2.2.1, h.2.2.2.1, (an j q e2).2.2⟩
      · have e2 : (if j = i then some p else a j) = some q := e
        have e3 : (if j' = i then some p else a j') = some q := e'
        by_cases ej : j = i
        · by_cases ej' : j' = i
          · rw [ej, ej']
          · rw [if_pos ej] at e2; rw [if_neg ej'] at e3
            have : p = q := by injection e2
            exact absurd this.symm (an j' q e3).2.1
        · by_cases ej' : j' = i
          · rw [if_neg ej] at e2; rw [if_pos ej'] at e3
            have : p = q := by injection e3
            exact absurd this.symm (an j q e2).2.1
          · rw [if_neg ej] at e2; rw [if_neg ej'] at e3
            exact a1.2 j j' q e2 e3
      · have e0 : (fun j => if j = i then some p else a j) i = some p := by
          show (if i = i then some p else a i) = some p
          rw [if_pos rfl]
        rw [st_val_set (w := w) (n := nw) (show i < nw by omega) e0, ← a2]
        have e1 : (fun j => if j = i then none else (fun j => if j = i then some p else a j) j) = a := by
          funext j
          show (if j = i then none else if j = i then some p else a j) = a j
          by_cases ej : j = i
          · rw [if_pos ej, ej, ani]
          · rw [if_neg ej, if_neg ej]
        rw [e1]; omega
