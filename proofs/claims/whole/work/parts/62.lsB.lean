/-- the shares: the class's search -/
def wkC (nj : Nat) (sn ln : Nat → Nat) (σ : St) : Prop := σ 35 5 = nI nj ∧ (∀ p, p < 3 → σ 36 p = nI (sn p)) ∧ ∀ j, j < nj → σ 37 j = nI (ln j)
def oW (σ σ' : St) : Prop := Off [35, 38, 39, 40] σ σ' ∧ σ' 35 5 = σ 35 5
theorem oW.rf (σ : St) : oW σ σ := ⟨Off.rf _ _, rfl⟩
theorem oW.tr {a b c : St} (h : oW a b) (h' : oW b c) : oW a c := ⟨h.1.tr h'.1, h'.2.trans h.2⟩
theorem wkC.off {nj : Nat} {sn ln : Nat → Nat} {σ σ' : St} (h : wkC nj sn ln σ) (o : oW σ σ') : wkC nj sn ln σ' := by
  unfold wkC at h ⊢
  rw [o.2, o.1 36 (by decide), o.1 37 (by decide)]
  exact h
def wkB (nj : Nat) (sn ln : Nat → Nat) (m : Nat) (S : Int32) (ch : Nat → Int32) : Prop := (m = 0 ∧ S = 4001) ∨ ∃ b, b < m ∧ S = nI (wk_cost sn ln nj (wk_dg nj b)) ∧ (∀ c, c < b → wk_cost sn ln nj (wk_dg nj b) < wk_cost sn ln nj (wk_dg nj c)) ∧ (∀ c, c < m → wk_cost sn ln nj (wk_dg nj b) ≤ wk_cost sn ln nj (wk_dg nj c)) ∧ ∀ j, j < nj → ch j = nI (wk_dg nj b j)
theorem wk_sum_cg {sn ln a a' : Nat → Nat} {p : Nat} : ∀ n, (∀ i, i < n → a i = a' i) → wk_sum sn ln a p n = wk_sum sn ln a' p n := by
  intro n
  induction n with
  | zero => intro _; rfl
  | succ n ih =>
    intro h
    rw [wk_sum, wk_sum, ih (fun i hi => h i (by omega)), h n (by omega)]
theorem wk_sum_mono {sn ln a : Nat → Nat} {p j : Nat} : ∀ n, j ≤ n → wk_sum sn ln a p j ≤ wk_sum sn ln a p n := by
  intro n
  induction n with
  | zero => intro h; obtain rfl : j = 0 := by omega
            exact Nat.le_refl _
  | succ n ih =>
    intro h
    by_cases e : j = n + 1
    · subst e; exact Nat.le_refl _
    · have := ih (by omega)
      rw [wk_sum]; omega
theorem wk_cost_le {nj : Nat} {sn ln : Nat → Nat} (hD : wkD nj sn ln) (a : Nat → Nat) {n : Nat} (hn : n ≤ nj) : wk_cost sn ln n a ≤ 4000 := by
  have m0 := wk_bound hD a (p := 0) (n := n) (by omega) hn
  have m1 := wk_bound hD a (p := 1) (n := n) (by omega) hn
  have m2 := wk_bound hD a (p := 2) (n := n) (by omega) hn
  unfold wk_cost
  omega
theorem wk_sub {j r c pre i : Nat} (hc : c / 3 ^ r = pre) (hi : i < j) : wk_dg (j + r) c i = wk_dg j pre i := by
  unfold wk_dg
  rw [show j + r - 1 - i = r + (j - 1 - i) by omega, Nat.pow_add, ← Nat.div_div_eq_div_mul, hc]
theorem wk_ch {j pre p i : Nat} (hp : p < 3) (hi : i < j) : wk_dg (j + 1) (3 * pre + p) i = wk_dg j pre i := by
  refine wk_sub (r := 1) ?_ hi
  omega
theorem wk_chj {j pre p : Nat} (hp : p < 3) : wk_dg (j + 1) (3 * pre + p) j = p := by
  unfold wk_dg
  rw [show j + 1 - 1 - j = 0 by omega, Nat.pow_zero, Nat.div_one]
  omega
theorem wk_prune {nj : Nat} {sn ln : Nat → Nat} {j r pre c : Nat} (hj : j + r = nj) (h1 : pre * 3 ^ r ≤ c) (h2 : c < (pre + 1) * 3 ^ r) : wk_cost sn ln j (wk_dg j pre) ≤ wk_cost sn ln nj (wk_dg nj c) := by
  have h0 : 0 < 3 ^ r := Nat.pow_pos (by decide)
  have hc : c / 3 ^ r = pre := by
    apply Nat.le_antisymm
    · exact Nat.le_of_lt_succ ((Nat.div_lt_iff_lt_mul h0).mpr h2)
    · exact (Nat.le_div_iff_mul_le h0).mpr h1
  subst hj
  have e : ∀ p, wk_sum sn ln (wk_dg j pre) p j ≤ wk_sum sn ln (wk_dg (j + r) c) p (j + r) := fun p => by
    rw [wk_sum_cg j (fun i hi => (wk_sub (r := r) hc hi).symm)]
    exact wk_sum_mono (j + r) (by omega)
  have e0 := e 0
  have e1 := e 1
  have e2 := e 2
  unfold wk_cost
  omega
theorem df_v {nj : Nat} {sn ln : Nat → Nat} (hD : wkD nj sn ln) {σ : St} (hC : wkC nj sn ln σ) {j p : Nat} (hj : j < nj) (hp : p < 3) : fX9_daysFor (nI j) (nI p) σ = some (nI (wk_days sn ln j p), σ) := by
  have h8 := hD.1
  have hs := hD.2.1 p hp
  have hl := hD.2.2 j hj
  have e1 : (if (1 : Int32) < nI (sn p) then nI (sn p) else 1) = nI (sn p) := by
    have := mx_nI (a := 1) (b := sn p) (by decide) (by omega)
    rw [Nat.max_eq_right hs.1] at this
    exact this
  unfold fX9_daysFor
  rw [rd_nI hp (by decide), hC.2.1 p hp, e1, lt_e, rd_nI (by omega) (by decide), hC.2.2 j hj, nz_nI (by omega) (by omega), nI_add, show (1 : Int32) = nI 1 from rfl, pk_sub (by omega), pk_div (by omega) (by omega) (by omega)]
  rfl
theorem kt_w {nj : Nat} (h8 : nj ≤ 8) : ∀ q c n (σ : St), c + q = nj → q < n → σ 35 5 = nI nj → (∀ i, i < c → σ 39 i = σ 38 i) → ∃ σ' : St, fX9_keepTrial_b7 n (nI c) σ = some (0, σ') ∧ Off [39] σ σ' ∧ ∀ i, i < nj → σ' 39 i = σ 38 i := by
  intro q
  induction q with
  | zero =>
    intro c n σ hc hn hM hv
    obtain ⟨n, rfl⟩ : ∃ q, n = q + 1 := ⟨n - 1, by omega⟩
    obtain rfl : c = nj := by omega
    exact ⟨σ, by rw [fX9_keepTrial_b7, hM, if_pos (nI_le (Nat.le_refl _) (by omega))], Off.rf _ _, hv⟩
  | succ q ih =>
    intro c n σ hc hn hM hv
    obtain ⟨n, rfl⟩ : ∃ q, n = q + 1 := ⟨n - 1, by omega⟩
    have l1 : ¬ nI nj ≤ nI c := nI_ge (by omega) (by omega)
    obtain ⟨σ', z1, z2, z3⟩ := ih (c + 1) n (up2 σ 39 c (σ 38 c)) (by omega) (by omega) hM (fun i hi => by
      show upd (σ 39) c (σ 38 c) i = σ 38 i
      by_cases e : i = c
      · subst e; rw [upd_s]
      · rw [upd_n _ _ e]; exact hv i (by omega))
    refine ⟨σ', ?_, ((Off.rf [39] σ).up (by decide) _ _).tr z2, z3⟩
    rw [fX9_keepTrial_b7, hM, if_neg l1, rd_nI (by omega) (by decide), wr_nI (by omega) (by decide), nI_1]
    exact z1
theorem sh_w {nj : Nat} {sn ln : Nat → Nat} (hD : wkD nj sn ln) : ∀ r j n pre (σ : St), j + r = nj → r < n → wkC nj sn ln σ → (∀ i, i < j → σ 38 i = nI (wk_dg j pre i)) → (∀ p, p < 3 → σ 40 p = nI (wk_sum sn ln (wk_dg j pre) p j)) → wkB nj sn ln (pre * 3 ^ r) (σ 35 6) (σ 39) → ∃ σ' : St, fX9_shareFrom n (nI j) (nI (wk_cost sn ln j (wk_dg j pre))) σ = some (0, σ') ∧ oW σ σ' ∧ (∀ i, i < j → σ' 38 i = σ 38 i) ∧ (∀ p, p < 3 → σ' 40 p = σ 40 p) ∧ wkB nj sn ln ((pre + 1) * 3 ^ r) (σ' 35 6) (σ' 39) := by
  have h8 := hD.1
  have prune : ∀ r j pre (σ : St), j + r = nj → ¬ nI (wk_cost sn ln j (wk_dg j pre)) < σ 35 6 → wkB nj sn ln (pre * 3 ^ r) (σ 35 6) (σ 39) → wkB nj sn ln ((pre + 1) * 3 ^ r) (σ 35 6) (σ 39) := by
    intro r j pre σ hj hl hB
    have h1 := wk_cost_le hD (wk_dg j pre) (n := j) (by omega)
    rcases hB with ⟨_, b⟩ | ⟨b, b1, b2, b3, b4, b5⟩
    · exfalso
      apply hl
      rw [b]
      exact nI_lt (b := 4001) (by omega) (by decide)
    · have h2 := wk_cost_le hD (wk_dg nj b) (n := nj) (Nat.le_refl _)
      rw [b2, nI_ltI (by omega) (by omega)] at hl
      have h0 : pre * 3 ^ r ≤ (pre + 1) * 3 ^ r := Nat.mul_le_mul_right _ (by omega)
      refine Or.inr ⟨b, by omega, b2, b3, fun c hc => ?_, b5⟩
      rcases Nat.lt_or_ge c (pre * 3 ^ r) with y | y
      · exact b4 c y
      · have := wk_prune (sn := sn) (ln := ln) hj y hc
        omega
  intro r
  induction r with
  | zero =>
    intro j n pre σ hj hn hC h38 h40 hB
    obtain ⟨n, rfl⟩ : ∃ q, n = q + 1 := ⟨n - 1, by omega⟩
    obtain rfl : j = nj := by omega
    have h1 := wk_cost_le hD (wk_dg j pre) (n := j) (by omega)
    rw [fX9_shareFrom]
    unfold fX9_shareFrom_e
    by_cases hl : nI (wk_cost sn ln j (wk_dg j pre)) < σ 35 6
    · obtain ⟨σ', z1, z2, z3⟩ := kt_w h8 j 0 FU (up2 σ 35 6 (nI (wk_cost sn ln j (wk_dg j pre)))) (by omega) (fu_lt (by omega)) hC.1 (fun i h => by omega)
      have kt : fX9_keepTrial (nI (wk_cost sn ln j (wk_dg j pre))) σ = some (0, σ') := by
        unfold fX9_keepTrial
        rw [pf_e]; exact z1
      rw [if_pos hl, hC.1, if_pos (nI_le (Nat.le_refl _) (by omega)), cal_e kt]
      have e35 : σ' 35 = upd (σ 35) 6 (nI (wk_cost sn ln j (wk_dg j pre))) := z2 35 (by decide)
      refine ⟨σ', rfl, ⟨((Off.rf [35, 38, 39, 40] σ).up (by decide) _ _).tr (z2.mono (by decide)), by rw [e35, upd_n _ _ (by decide)]⟩, fun i _ => by rw [z2 38 (by decide)]; rfl, fun p _ => by rw [z2 40 (by decide)]; rfl, ?_⟩
      rw [e35, upd_s]
      refine Or.inr ⟨pre, by omega, rfl, ?_, ?_, fun i hi => (z3 i hi).trans (h38 i hi)⟩
      · intro c hc
        rcases hB with ⟨b, _⟩ | ⟨b, b1, b2, b3, b4, b5⟩
        · omega
        · have h2 := wk_cost_le hD (wk_dg j b) (n := j) (Nat.le_refl _)
          rw [b2, nI_ltI (by omega) (by omega)] at hl
          have := b4 c (by omega)
          omega
      · intro c hc
        by_cases e : c = pre
        · subst e; exact Nat.le_refl _
        · rcases hB with ⟨b, _⟩ | ⟨b, b1, b2, b3, b4, b5⟩
          · omega
          · have h2 := wk_cost_le hD (wk_dg j b) (n := j) (Nat.le_refl _)
            rw [b2, nI_ltI (by omega) (by omega)] at hl
            have := b4 c (by omega)
            omega
    · rw [if_neg hl]
      exact ⟨σ, rfl, oW.rf _, fun _ _ => rfl, fun _ _ => rfl, prune 0 j pre σ hj hl hB⟩
  | succ r ih =>
    intro j n pre σ hj hn hC h38 h40 hB
    obtain ⟨n, rfl⟩ : ∃ q, n = q + 1 := ⟨n - 1, by omega⟩
    have h1 := wk_cost_le hD (wk_dg j pre) (n := j) (by omega)
    have hjl : j < nj := by omega
    rw [fX9_shareFrom]
    unfold fX9_shareFrom_e
    by_cases hl : nI (wk_cost sn ln j (wk_dg j pre)) < σ 35 6
    · rw [if_pos hl, hC.1, if_neg (nI_ge hjl (by omega)), if_pos (show nI j < 8 from nI_lt (b := 8) (by omega) (by decide))]
      have loop : ∀ q p m (σ : St), p + q = 3 → q < m → wkC nj sn ln σ → (∀ i, i < j → σ 38 i = nI (wk_dg j pre i)) → (∀ p, p < 3 → σ 40 p = nI (wk_sum sn ln (wk_dg j pre) p j)) → wkB nj sn ln ((3 * pre + p) * 3 ^ r) (σ 35 6) (σ 39) → ∃ σ' : St, fX9_shareFrom_b31 (fun a b u => fX9_shareFrom n a b u) m (nI j) (nI (wk_cost sn ln j (wk_dg j pre))) (nI p) σ = some (0, σ') ∧ oW σ σ' ∧ (∀ i, i < j → σ' 38 i = σ 38 i) ∧ (∀ p, p < 3 → σ' 40 p = σ 40 p) ∧ wkB nj sn ln ((3 * pre + 3) * 3 ^ r) (σ' 35 6) (σ' 39) := by
        intro q
        induction q with
        | zero =>
          intro p m σ hp hm hC h38 h40 hB
          obtain ⟨m, rfl⟩ : ∃ q, m = q + 1 := ⟨m - 1, by omega⟩
          obtain rfl : p = 3 := by omega
          refine ⟨σ, ?_, oW.rf _, fun _ _ => rfl, fun _ _ => rfl, hB⟩
          rw [fX9_shareFrom_b31, if_pos (show (3 : Int32) ≤ nI 3 from nI_le (a := 3) (Nat.le_refl _) (by omega))]
        | succ q ihq =>
          intro p m σ hp hm hC h38 h40 hB
          obtain ⟨m, rfl⟩ : ∃ q, m = q + 1 := ⟨m - 1, by omega⟩
          have hp3 : p < 3 := by omega
          have l1 : ¬ (3 : Int32) ≤ nI p := nI_ge (b := 3) (by omega) (by decide)
          have bs := wk_bound hD (wk_dg j pre) (p := p) (n := j) hp3 (by omega)
          have bd := wk_days_le hD hjl hp3
          have sums : ∀ p', wk_sum sn ln (wk_dg (j + 1) (3 * pre + p)) p' (j + 1) = wk_sum sn ln (wk_dg j pre) p' j + if p = p' then wk_days sn ln j p' else 0 := fun p' => by
            rw [wk_sum, wk_chj hp3, wk_sum_cg j (fun i hi => wk_ch hp3 hi)]
          have cost : max (wk_cost sn ln j (wk_dg j pre)) (wk_sum sn ln (wk_dg j pre) p j + wk_days sn ln j p) = wk_cost sn ln (j + 1) (wk_dg (j + 1) (3 * pre + p)) := by
            unfold wk_cost
            rw [sums 0, sums 1, sums 2]
            rcases (show p = 0 ∨ p = 1 ∨ p = 2 by omega) with rfl | rfl | rfl
            · rw [if_pos rfl, if_neg (by decide), if_neg (by decide)]; omega
            · rw [if_neg (by decide), if_pos rfl, if_neg (by decide)]; omega
            · rw [if_neg (by decide), if_neg (by decide), if_pos rfl]; omega
          have e40 : up2 σ 38 j (nI p) 40 p = nI (wk_sum sn ln (wk_dg j pre) p j) := h40 p hp3
          have o1 : oW σ (up2 (up2 σ 38 j (nI p)) 40 p (nI (wk_sum sn ln (wk_dg j pre) p j + wk_days sn ln j p))) := ⟨((Off.rf _ _).up (by decide) _ _).up (by decide) _ _, rfl⟩
          obtain ⟨σ9, a1, a2, a3, a4, a5⟩ := ih (j + 1) n (3 * pre + p) (up2 (up2 σ 38 j (nI p)) 40 p (nI (wk_sum sn ln (wk_dg j pre) p j + wk_days sn ln j p))) (by omega) (by omega) (hC.off o1) (fun i hi => by
              show upd (σ 38) j (nI p) i = _
              by_cases e : i = j
              · subst e; rw [upd_s, wk_chj hp3]
              · rw [upd_n _ _ e, wk_ch hp3 (by omega)]; exact h38 i (by omega)) (fun p' hp' => by
              show upd (σ 40) p _ p' = _
              rw [sums p']
              by_cases e : p' = p
              · subst e; rw [upd_s, if_pos rfl]
              · rw [upd_n _ _ e, if_neg (fun q => e q.symm), Nat.add_zero]; exact h40 p' hp') hB
          have e9 : σ9 40 p = nI (wk_sum sn ln (wk_dg j pre) p j + wk_days sn ln j p) := (a4 p hp3).trans (up2_s _ _ _ _)
          have esub : nI (wk_sum sn ln (wk_dg j pre) p j + wk_days sn ln j p) - nI (wk_days sn ln j p) = nI (wk_sum sn ln (wk_dg j pre) p j) := by
            rw [pk_sub (by omega), Nat.add_sub_cancel]
          have o2 : oW σ (up2 σ9 40 p (nI (wk_sum sn ln (wk_dg j pre) p j))) := (o1.tr a2).tr ⟨(Off.rf _ _).up (by decide) _ _, rfl⟩
          have k38 : ∀ i, i < j → up2 σ9 40 p (nI (wk_sum sn ln (wk_dg j pre) p j)) 38 i = σ 38 i := fun i hi => by
            show σ9 38 i = σ 38 i
            rw [a3 i (by omega)]
            show upd (σ 38) j (nI p) i = σ 38 i
            rw [upd_n _ _ (by omega)]
          have k40 : ∀ p', p' < 3 → up2 σ9 40 p (nI (wk_sum sn ln (wk_dg j pre) p j)) 40 p' = σ 40 p' := fun p' hp' => by
            show upd (σ9 40) p _ p' = σ 40 p'
            by_cases e : p' = p
            · subst e; rw [upd_s]; exact (h40 p' hp').symm
            · rw [upd_n _ _ e, a4 p' hp']
              show upd (σ 40) p _ p' = σ 40 p'
              rw [upd_n _ _ e]
          obtain ⟨σ', w1, w2, w3, w4, w5⟩ := ihq (p + 1) m (up2 σ9 40 p (nI (wk_sum sn ln (wk_dg j pre) p j))) (by omega) (by omega) (hC.off o2) (fun i hi => (k38 i hi).trans (h38 i hi)) (fun p' hp' => (k40 p' hp').trans (h40 p' hp')) a5
          refine ⟨σ', ?_, o2.tr w2, fun i hi => (w3 i hi).trans (k38 i hi), fun p' hp' => (w4 p' hp').trans (k40 p' hp'), w5⟩
          rw [fX9_shareFrom_b31, if_neg l1, cal_e (df_v hD hC hjl hp3), wr_nI (by omega) (by decide), rd_nI hp3 (by decide), e40, wr_nI hp3 (by decide), nI_add, rd_nI hp3 (by decide), up2_s, mx_nI (by omega) (by omega), cost, nI_1, cal_e a1, rd_nI hp3 (by decide), e9, wr_nI hp3 (by decide), esub, nI_1]
          exact w1
      have e3 : pre * 3 ^ (r + 1) = (3 * pre + 0) * 3 ^ r := by
        rw [Nat.pow_succ, Nat.add_zero, Nat.mul_comm 3 pre, Nat.mul_assoc, Nat.mul_comm (3 ^ r) 3]
      have e4 : (pre + 1) * 3 ^ (r + 1) = (3 * pre + 3) * 3 ^ r := by
        rw [Nat.pow_succ, show 3 * pre + 3 = (pre + 1) * 3 by omega, Nat.mul_assoc, Nat.mul_comm (3 ^ r) 3]
      rw [e3] at hB
      rw [e4]
      exact loop 3 0 FU σ rfl (fu_lt (by omega)) hC h38 h40 hB
    · rw [if_neg hl]
      exact ⟨σ, rfl, oW.rf _, fun _ _ => rfl, fun _ _ => rfl, prune (r + 1) j pre σ hj hl hB⟩
