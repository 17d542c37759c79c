/-! ===== Stacking: findSeat ===== -/
def st_cb (f : Nat → Bool) : Nat → Nat
  | 0 => 0
  | n + 1 => st_cb f n + (if f n = true then 1 else 0)
theorem st_cb_le (f : Nat → Bool) : ∀ n, st_cb f n ≤ n := by
  intro n
  induction n with
  | zero => exact Nat.le_refl _
  | succ n ih => rw [st_cb]; split <;> omega
theorem st_cb_all (f : Nat → Bool) : ∀ n, st_cb f n = n → ∀ p, p < n → f p = true := by
  intro n
  induction n with
  | zero => intro _ p hp; omega
  | succ n ih =>
    intro h p hp
    rw [st_cb] at h
    have := st_cb_le f n
    by_cases c : f n = true
    · rw [if_pos c] at h
      by_cases e : p = n
      · rw [e]; exact c
      · exact ih (by omega) p (by omega)
    · rw [if_neg c] at h; omega
theorem st_cb_eq {f g : Nat → Bool} : ∀ n, (∀ p, p < n → g p = f p) → st_cb g n = st_cb f n := by
  intro n
  induction n with
  | zero => intro _; rfl
  | succ n ih =>
    intro h
    rw [st_cb, st_cb, ih (fun p hp => h p (by omega)), h n (by omega)]
theorem st_cb_set {f g : Nat → Bool} {c : Nat} (h1 : f c = false) (h2 : g c = true) : ∀ n, c < n → (∀ p, p < n → p ≠ c → g p = f p) → st_cb g n = st_cb f n + 1 := by
  intro n
  induction n with
  | zero => intro h; omega
  | succ n ih =>
    intro hc h
    rw [st_cb, st_cb]
    by_cases e : c = n
    · subst e
      rw [st_cb_eq c (fun p hp => h p (by omega) (by omega)), if_pos h2, if_neg (by rw [h1]; decide)]
    · rw [ih (by omega) (fun p hp => h p (by omega)), h n (by omega) (fun z => e z.symm)]
      omega
theorem bit_lt {m p : Nat} (h : m < 4096) (hb : m.testBit p = true) : p < 12 := by
  rcases Nat.lt_or_ge p 12 with q | q
  · exact q
  · rw [Nat.testBit_lt_two_pow (Nat.lt_of_lt_of_le (show m < 2 ^ 12 from h) (Nat.pow_le_pow_right (by decide) q))] at hb
    cases hb
def BI (fm : Nat → Nat) (F nw i : Nat) (s0 t0 : Nat → Option Nat) (R W t : Nat) (mv rk : Nat → Nat) : Prop :=
  R < 4096 ∧ W < 4096 ∧ (∀ p, W.testBit p = true → R.testBit p = true) ∧
  (∀ p, R.testBit p = true → p < 12 ∧ mv p < nw ∧ st_al fm F (mv p) p ∧ (mv p = i ∨ ∃ q, s0 (mv p) = some q ∧ R.testBit q = true ∧ rk q < rk p) ∧ rk p ≤ t) ∧
  (∀ p, R.testBit p = true → W.testBit p = false → ∃ s, t0 p = some s ∧ ∀ p', st_al fm F s p' → R.testBit p' = true) ∧
  (∀ p, st_al fm F i p → R.testBit p = true) ∧ t = st_cb (fun p => R.testBit p && !W.testBit p) 12
def BO (fm : Nat → Nat) (F i : Nat) (t0 : Nat → Option Nat) (R : Nat → Prop) : Prop := (∀ p, R p → p < 12 ∧ ∃ s, t0 p = some s ∧ ∀ p', st_al fm F s p' → R p') ∧ ∀ p, st_al fm F i p → R p
theorem BI.step {fm : Nat → Nat} {F nw i R W t c s M W' : Nat} {s0 t0 : Nat → Option Nat} {mv rk : Nat → Nat} (h : BI fm F nw i s0 t0 R W t mv rk) (hc : c < 12) (hW : W.testBit c = true) (ht : t0 c = some s) (hs : s0 s = some c) (hsw : s < nw) (hM : M < 4096) (hMb : ∀ p, p < 12 → M.testBit p = ((fm s).testBit p && F.testBit p && !R.testBit p)) (hW' : W' < 4096) (hWb : ∀ p, p < 12 → W'.testBit p = (W.testBit p && decide (c ≠ p))) : BI fm F nw i s0 t0 (R ||| M) (W' ||| M) (t + 1) (fun p => if M.testBit p = true then s else mv p) (fun p => if M.testBit p = true then t + 1 else rk p) := by
  obtain ⟨b1, b2, b3, b4, b5, b6, b7⟩ := h
  have hcR := b3 c hW
  have rb : ∀ p, (R ||| M).testBit p = (R.testBit p || M.testBit p) := fun p => Nat.testBit_or _ _ _
  have wb' : ∀ p, (W' ||| M).testBit p = (W'.testBit p || M.testBit p) := fun p => Nat.testBit_or _ _ _
  have hRM : ∀ p, R.testBit p = true → M.testBit p = false := fun p hp => by
    have hp12 := bit_lt b1 hp
    rw [hMb p hp12, hp]; simp
  have hR' : R ||| M < 4096 := Nat.or_lt_two_pow (n := 12) b1 hM
  have hWM : W' ||| M < 4096 := Nat.or_lt_two_pow (n := 12) hW' hM
  refine ⟨hR', hWM, fun p hp => ?_, fun p hp => ?_, fun p hp hq => ?_, fun p hp => ?_, ?_⟩
  · have hp12 := bit_lt hWM hp
    rw [wb', Bool.or_eq_true] at hp
    rw [rb, Bool.or_eq_true]
    rcases hp with z | z
    · rw [hWb p hp12, Bool.and_eq_true] at z
      exact Or.inl (b3 p z.1)
    · exact Or.inr z
  · have hp12 := bit_lt hR' hp
    rw [rb, Bool.or_eq_true] at hp
    by_cases e : M.testBit p = true
    · show p < 12 ∧ (if M.testBit p = true then s else mv p) < nw ∧ st_al fm F (if M.testBit p = true then s else mv p) p ∧ ((if M.testBit p = true then s else mv p) = i ∨ ∃ q, s0 (if M.testBit p = true then s else mv p) = some q ∧ (R ||| M).testBit q = true ∧ (if M.testBit q = true then t + 1 else rk q) < (if M.testBit p = true then t + 1 else rk p)) ∧ (if M.testBit p = true then t + 1 else rk p) ≤ t + 1
      rw [if_pos e, if_pos e]
      have e2 := e
      rw [hMb p hp12, Bool.and_eq_true, Bool.and_eq_true] at e2
      refine ⟨hp12, hsw, ⟨hp12, e2.1.1, e2.1.2⟩, Or.inr ⟨c, hs, ?_, ?_⟩, Nat.le_refl _⟩
      · rw [rb, hcR]; rfl
      · rw [if_neg (by rw [hRM c hcR]; decide)]
        have := (b4 c hcR).2.2.2.2
        omega
    · have hp' : R.testBit p = true := hp.resolve_right e
      obtain ⟨x1, x2, x3, x4, x5⟩ := b4 p hp'
      show p < 12 ∧ (if M.testBit p = true then s else mv p) < nw ∧ st_al fm F (if M.testBit p = true then s else mv p) p ∧ ((if M.testBit p = true then s else mv p) = i ∨ ∃ q, s0 (if M.testBit p = true then s else mv p) = some q ∧ (R ||| M).testBit q = true ∧ (if M.testBit q = true then t + 1 else rk q) < (if M.testBit p = true then t + 1 else rk p)) ∧ (if M.testBit p = true then t + 1 else rk p) ≤ t + 1
      rw [if_neg e, if_neg e]
      refine ⟨x1, x2, x3, ?_, by omega⟩
      rcases x4 with z | ⟨q, z1, z2, z3⟩
      · exact Or.inl z
      · refine Or.inr ⟨q, z1, by rw [rb, z2]; rfl, ?_⟩
        rw [if_neg (by rw [hRM q z2]; decide)]; exact z3
  · have hp12 := bit_lt hR' hp
    rw [rb, Bool.or_eq_true] at hp
    rw [wb', Bool.or_eq_false_iff] at hq
    have hp' : R.testBit p = true := hp.resolve_right (by rw [hq.2]; decide)
    by_cases e : p = c
    · subst e
      refine ⟨s, ht, fun p' hp' => ?_⟩
      rw [rb, Bool.or_eq_true]
      by_cases e3 : R.testBit p' = true
      · exact Or.inl e3
      · right
        rw [hMb p' hp'.1, hp'.2.1, hp'.2.2]
        simp at e3
        rw [e3]; rfl
    · have hw : W.testBit p = false := by
        have := hq.1
        rw [hWb p hp12] at this
        cases hb : W.testBit p with
        | false => rfl
        | true => rw [hb] at this; simp at this; exact absurd this.symm e
      obtain ⟨s', z1, z2⟩ := b5 p hp' hw
      exact ⟨s', z1, fun p' hp'' => by rw [rb, z2 p' hp'']; rfl⟩
  · rw [rb, b6 p hp]; rfl
  · rw [st_cb_set (f := fun p => R.testBit p && !W.testBit p) (c := c) (by show (R.testBit c && !W.testBit c) = false; rw [hW, hcR]; rfl) (by
      show ((R ||| M).testBit c && !(W' ||| M).testBit c) = true
      rw [rb, wb', hcR, hRM c hcR, hWb c hc]; simp) 12 hc (fun p hp ne => by
      show ((R ||| M).testBit p && !(W' ||| M).testBit p) = (R.testBit p && !W.testBit p)
      rw [rb, wb', hWb p hp]
      have ne' : c ≠ p := fun z => ne z.symm
      cases hm : M.testBit p with
      | false => simp [ne']
      | true =>
        have : R.testBit p = false := by
          cases hr : R.testBit p with
          | false => rfl
          | true => rw [hRM p hr] at hm; cases hm
        rw [this]; simp), ← b7]
theorem fs_w {nw i F : Nat} {fm v : Nat → Nat} {s0 t0 : Nat → Option Nat} (h8 : nw ≤ 8) (hi : s0 i = none) (hF : F < 4096) (hfm : ∀ j, j < nw → fm j < 4096) (hcn : ∀ j p, s0 j = some p ↔ t0 p = some j) (hs0 : ∀ j p, s0 j = some p → j < nw ∧ p < 12 ∧ st_al fm F j p) (hv : ∀ j q, s0 j = some q → ∀ p, st_al fm F j p → v q ≤ v p) (hv0 : ∀ p, 0 < v p → t0 p ≠ none) : ∀ q t n (σ : St) R W (mv rk : Nat → Nat), t + q = 12 → q < n → (∀ j, j < nw → σ 25 j = nI (fm j)) → sc_cl nw s0 t0 σ → BI fm F nw i s0 t0 R W t mv rk → (∀ p, R.testBit p = true → σ 30 p = nI (mv p)) → (∃ (σ' : St) (s' t' : Nat → Option Nat), fX8_findSeat_b21 n (nI F) (nI R) (nI W) (nI t) σ = some (1, σ') ∧ Off [28, 29, 30] σ σ' ∧ sc_cl nw s' t' σ' ∧ MO (st_al fm F) nw i v s0 s' t0 t') ∨ ∃ (σ' : St) (R' : Nat → Prop), fX8_findSeat_b21 n (nI F) (nI R) (nI W) (nI t) σ = some (0, σ') ∧ Off [30] σ σ' ∧ BO fm F i t0 R' := by
  intro q
  induction q with
  | zero =>
    intro t n σ R W mv rk ht hn h25 hcl hB h30
    obtain ⟨n, rfl⟩ : ∃ q, n = q + 1 := ⟨n - 1, by omega⟩
    obtain rfl : t = 12 := by omega
    obtain ⟨b1, b2, b3, b4, b5, b6, b7⟩ := hB
    refine Or.inr ⟨σ, fun p => R.testBit p = true, ?_, Off.rf _ _, fun p hp => ?_, b6⟩
    · rw [fX8_findSeat_b21, if_pos (show (12 : Int32) ≤ nI 12 from nI_le (Nat.le_refl 12) (by decide))]; rfl
    · have h1 := b4 p hp
      have h2 : (R.testBit p && !W.testBit p) = true := st_cb_all _ 12 b7.symm p h1.1
      rw [Bool.and_eq_true] at h2
      refine ⟨h1.1, b5 p hp (by simpa using h2.2)⟩
  | succ q ih =>
    intro t n σ R W mv rk ht hn h25 hcl hB h30
    obtain ⟨n, rfl⟩ : ∃ q, n = q + 1 := ⟨n - 1, by omega⟩
    have l1 : ¬ (12 : Int32) ≤ nI t := by
      rw [show (12 : Int32) = nI 12 from rfl]; exact nI_ge (by omega) (by decide)
    obtain ⟨b1, b2, b3, b4, b5, b6, b7⟩ := id hB
    by_cases hW : W = 0
    · subst hW
      refine Or.inr ⟨σ, fun p => R.testBit p = true, ?_, Off.rf _ _, fun p hp => ?_, b6⟩
      · rw [fX8_findSeat_b21, if_neg l1, if_pos (show nI 0 = 0 from rfl)]; rfl
      · exact ⟨(b4 p hp).1, b5 p hp (Nat.zero_testBit p)⟩
    · have l2 : ¬ nI W = 0 := fun z => hW ((nI_eq (a := W) (b := 0) (by omega) (by decide)).mp z)
      obtain ⟨c1, c2, c3, c4⟩ := lwb_v b2 hW σ
      have hcR := b3 _ c2
      rw [fX8_findSeat_b21, if_neg l1, if_neg l2, cal_e c3, lt_e, c4, rd_nI c1 (by decide), hcl.2 _ c1]
      cases et : t0 (lwb 12 W) with
      | none =>
        left
        have vc : v (lwb 12 W) = 0 := by
          rcases Nat.eq_zero_or_pos (v (lwb 12 W)) with z | z
          · exact z
          · exact absurd et (hv0 _ z)
        obtain ⟨σ', s', t', z1, z2, z3, z4⟩ := ma_w (al := st_al fm F) (nw := nw) (i := i) (rk := rk) (v := v) (mv := mv) (s0 := s0) (t0 := t0) (R := fun p => R.testBit p = true) h8 hi (fun p hp => ⟨(b4 p hp).1, (b4 p hp).2.1, (b4 p hp).2.2.1, (b4 p hp).2.2.2.1⟩) hv t (lwb 12 W) FU 0 σ s0 t0 (b4 _ hcR).2.2.2.2 (by omega) (fu_lt (by omega)) hcR vc ⟨fun j p _ => hcn j p, fun j e => (by rw [(hcn j _).mp e] at et; cases et), hs0, fun j => Or.inl rfl, fun j => Iff.rfl, fun j p e => Or.inl e, fun p _ => rfl⟩ hcl h30
        have z1' : fX8_moveAlong (nI (lwb 12 W)) σ = some (0, σ') := by
          unfold fX8_moveAlong; exact z1
        refine ⟨σ', s', t', ?_, z2.mono (by decide), z3, z4⟩
        rw [if_pos (show oI none = -9 from rfl), cal_e z1']; rfl
      | some s =>
        have hs : s0 s = some (lwb 12 W) := (hcn s _).mpr et
        have hsw := (hs0 s _ hs).1
        have e9 : ¬ oI (some s) = -9 := nI_n9 (by omega)
        have eM : (nI (fm s) &&& nI F) &&& (nI R ^^^ (-1)) = nI ((fm s &&& F) &&& (2 ^ 32 - (R + 1))) := by
          rw [bt_nt b1, bt_and, bt_and]
        have hM : (fm s &&& F) &&& (2 ^ 32 - (R + 1)) < 4096 := Nat.lt_of_le_of_lt (Nat.le_trans Nat.and_le_left Nat.and_le_left) (hfm s hsw)
        have hMb : ∀ p, p < 12 → ((fm s &&& F) &&& (2 ^ 32 - (R + 1))).testBit p = ((fm s).testBit p && F.testBit p && !R.testBit p) := fun p hp => by
          have p32 : p < 32 := by omega
          rw [Nat.testBit_and, Nat.testBit_and, Nat.testBit_two_pow_sub_succ (by omega)]
          simp [p32]
        obtain ⟨σ1, n1, n2, n3⟩ := noteMover_v (s := s) hM σ
        have hB1 := hB.step (W' := clr W (lwb 12 W)) c1 c2 et hs hsw hM hMb (Nat.lt_of_le_of_lt (clr_le _ _) b2) (fun p hp => clr_bit (by omega) (by omega))
        have e25 : ∀ j, j < nw → σ1 25 j = nI (fm j) := fun j hj => by rw [n2 25 (by decide)]; exact h25 j hj
        have ecl : sc_cl nw s0 t0 σ1 := by
          unfold sc_cl
          rw [n2 28 (by decide), n2 29 (by decide)]; exact hcl
        have e30 : ∀ p, (R ||| ((fm s &&& F) &&& (2 ^ 32 - (R + 1)))).testBit p = true → σ1 30 p = nI (if ((fm s &&& F) &&& (2 ^ 32 - (R + 1))).testBit p = true then s else mv p) := fun p hp => by
          have hp12 := bit_lt hB1.1 hp
          rw [n3 p hp12]
          by_cases e : ((fm s &&& F) &&& (2 ^ 32 - (R + 1))).testBit p = true
          · rw [if_pos e, if_pos e]
          · rw [if_neg e, if_neg e]
            rw [Nat.testBit_or, Bool.or_eq_true] at hp
            exact h30 p (hp.resolve_right e)
        have key : ∀ (G : Option (Int32 × St) → Prop), G (fX8_findSeat_b21 n (nI F) (nI (R ||| ((fm s &&& F) &&& (2 ^ 32 - (R + 1))))) (nI (clr W (lwb 12 W) ||| ((fm s &&& F) &&& (2 ^ 32 - (R + 1))))) (nI (t + 1)) σ1) → G (if oI (some s) = -9 then (cal (fX8_moveAlong (nI (lwb 12 W)) σ) (fun _ σ12 => zr 1 σ12)) else (rd σ 25 8 (oI (some s)) (fun v6 => lt ((v6 &&& nI F) &&& (nI R ^^^ (-1))) (fun v7 => cal (fX8_noteMover v7 (oI (some s)) σ) (fun _ σ9 => fX8_findSeat_b21 n (nI F) (nI R ||| v7) (nI (clr W (lwb 12 W)) ||| v7) (nI t + 1) σ9))))) := by
          intro G hG
          have es : oI (some s) = nI s := rfl
          rw [if_neg e9, es, rd_nI (by omega) (by decide), h25 s hsw, lt_e, eM, cal_e n1, bt_or, bt_or, nI_1]
          exact hG
        rcases ih (t + 1) n σ1 _ _ _ _ (by omega) (by omega) e25 ecl hB1 e30 with ⟨σ', s', t', z1, z2, z3, z4⟩ | ⟨σ', R', z1, z2, z3⟩
        · left
          refine ⟨σ', s', t', key (fun x => x = some (1, σ')) z1, (n2.mono (by decide)).tr z2, z3, z4⟩
        · right
          refine ⟨σ', R', key (fun x => x = some (0, σ')) z1, n2.tr z2, z3⟩
theorem findSeat_v {nw i F : Nat} {fm v : Nat → Nat} {s0 t0 : Nat → Option Nat} (h8 : nw ≤ 8) (hiw : i < nw) (hi : s0 i = none) (hF : F < 4096) (hfm : ∀ j, j < nw → fm j < 4096) (hcn : ∀ j p, s0 j = some p ↔ t0 p = some j) (hs0 : ∀ j p, s0 j = some p → j < nw ∧ p < 12 ∧ st_al fm F j p) (hv : ∀ j q, s0 j = some q → ∀ p, st_al fm F j p → v q ≤ v p) (hv0 : ∀ p, 0 < v p → t0 p ≠ none) (σ : St) (h25 : ∀ j, j < nw → σ 25 j = nI (fm j)) (hcl : sc_cl nw s0 t0 σ) : (∃ (σ' : St) (s' t' : Nat → Option Nat), fX8_findSeat (nI i) (nI F) σ = some (1, σ') ∧ Off [28, 29, 30] σ σ' ∧ sc_cl nw s' t' σ' ∧ MO (st_al fm F) nw i v s0 s' t0 t') ∨ ∃ (σ' : St) (R' : Nat → Prop), fX8_findSeat (nI i) (nI F) σ = some (0, σ') ∧ Off [30] σ σ' ∧ BO fm F i t0 R' := by
  have hR : fm i &&& F < 4096 := Nat.lt_of_le_of_lt Nat.and_le_left (hfm i hiw)
  obtain ⟨σ1, n1, n2, n3⟩ := noteMover_v (s := i) hR σ
  have ef : fX8_findSeat (nI i) (nI F) σ = fX8_findSeat_b21 FU (nI F) (nI (fm i &&& F)) (nI (fm i &&& F)) (nI 0) σ1 := by
    unfold fX8_findSeat
    rw [rd_nI (by omega) (by decide), h25 i hiw, bt_and, cal_e n1]; rfl
  have hb : ∀ p, (fm i &&& F).testBit p = true → st_al fm F i p := fun p hp => by
    have h12 := bit_lt hR hp
    rw [Nat.testBit_and, Bool.and_eq_true] at hp
    exact ⟨h12, hp.1, hp.2⟩
  have hB : BI fm F nw i s0 t0 (fm i &&& F) (fm i &&& F) 0 (fun _ => i) (fun _ => 0) := by
    refine ⟨hR, hR, fun p hp => hp, fun p hp => ⟨bit_lt hR hp, hiw, hb p hp, Or.inl rfl, Nat.le_refl _⟩, fun p h1 h2 => ?_, fun p hp => ?_, ?_⟩
    · rw [h1] at h2; cases h2
    · rw [Nat.testBit_and, hp.2.1, hp.2.2]; rfl
    · have : st_cb (fun p => (fm i &&& F).testBit p && !(fm i &&& F).testBit p) 12 = st_cb (fun _ => false) 12 := st_cb_eq 12 (fun p _ => by
        show (false : Bool) = ((fm i &&& F).testBit p && !(fm i &&& F).testBit p)
        cases (fm i &&& F).testBit p <;> rfl) |>.symm
      rw [this]; rfl
  have e25 : ∀ j, j < nw → σ1 25 j = nI (fm j) := fun j hj => by rw [n2 25 (by decide)]; exact h25 j hj
  have ecl : sc_cl nw s0 t0 σ1 := by
    unfold sc_cl
    rw [n2 28 (by decide), n2 29 (by decide)]; exact hcl
  rw [ef]
  rcases fs_w (v := v) h8 hi hF hfm hcn hs0 hv hv0 12 0 FU σ1 (fm i &&& F) (fm i &&& F) (fun _ => i) (fun _ => 0) (by omega) (fu_lt (by decide)) e25 ecl hB (fun p hp => by rw [n3 p (bit_lt hR hp), if_pos hp]) with ⟨σ', s', t', z1, z2, z3, z4⟩ | ⟨σ', R', z1, z2, z3⟩
  · exact Or.inl ⟨σ', s', t', z1, (n2.mono (by decide)).tr z2, z3, z4⟩
  · exact Or.inr ⟨σ', R', z1, n2.tr z2, z3⟩
