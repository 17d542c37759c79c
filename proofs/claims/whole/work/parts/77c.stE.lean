/-! ===== Stacking: worthFrom is the reference's table ===== -/
def stD (fm w ord : Nat → Nat) (nw : Nat) (σ : St) : Prop :=
  nw ≤ 8 ∧ σ 22 8 = nI nw ∧ (∀ j, j < nw → σ 25 j = nI (fm j) ∧ fm j < 4096 ∧ σ 24 j = nI (w j) ∧ w j ≤ 999) ∧ (∀ k, k < nw → σ 27 k = nI (ord k) ∧ ord k < nw) ∧
  (∀ i j, i < nw → j < nw → ord i = ord j → i = j) ∧ ∀ i j, i ≤ j → j < nw → w (ord j) ≤ w (ord i)
theorem stD.off {fm w ord : Nat → Nat} {nw : Nat} {σ σ' : St} (h : stD fm w ord nw σ) {S : List Nat} (ho : Off S σ σ') (h22 : 22 ∉ S) (h25 : 25 ∉ S) (h24 : 24 ∉ S) (h27 : 27 ∉ S) : stD fm w ord nw σ' := by
  unfold stD at *
  rw [ho 22 h22, ho 25 h25, ho 24 h24, ho 27 h27]; exact h
def GI (fm w ord : Nat → Nat) (nw fr F k : Nat) (v : Nat → Nat) (s t : Nat → Option Nat) : Prop :=
  (∀ j p, s j = some p ↔ t p = some j) ∧
  (∀ j p, s j = some p → j < nw ∧ p < 12 ∧ st_al fm F j p ∧ fr ≤ j ∧ ∃ k', k' < k ∧ ord k' = j) ∧
  (∀ j q, s j = some q → v q ≤ w j ∧ ∀ p, st_al fm F j p → v q ≤ v p) ∧
  (∀ k', k' < k → fr ≤ ord k' → s (ord k') = none → ∀ p, st_al fm F (ord k') p → w (ord k') ≤ v p) ∧
  (∀ p, 0 < v p → t p ≠ none) ∧ ∀ p, 0 < v p → ∀ k', k ≤ k' → k' < nw → w (ord k') ≤ v p
theorem st_val_cg {w : Nat → Nat} {a b : Nat → Option Nat} (n : Nat) (h : ∀ j, j < n → (a j = none ↔ b j = none)) : st_val w a n = st_val w b n := by
  refine st_sm_eq n (fun j hj => ?_)
  show st_sel (a j) (w j) = st_sel (b j) (w j)
  have h1 := h j hj
  cases ea : a j with
  | none => rw [h1.mp ea]
  | some p =>
    cases eb : b j with
    | none => rw [h1.mpr eb] at ea; cases ea
    | some q => rfl
theorem GI.skip {fm w ord : Nat → Nat} {nw fr F k : Nat} {v : Nat → Nat} {s t : Nat → Option Nat} (h : GI fm w ord nw fr F k v s t) (hk : ord k < fr) : GI fm w ord nw fr F (k + 1) v s t := by
  obtain ⟨h1, h2, h3, h4, h5, h6⟩ := h
  refine ⟨h1, fun j p e => ?_, h3, fun k' hk' hf => ?_, h5, fun p hp k' ha => h6 p hp k' (by omega)⟩
  · obtain ⟨a, b, c, d, k', e1, e2⟩ := h2 j p e
    exact ⟨a, b, c, d, k', by omega, e2⟩
  · by_cases e : k' = k
    · rw [e] at hf; omega
    · exact h4 k' (by omega) hf
theorem GI.yes {fm w ord : Nat → Nat} {nw fr F k : Nat} {v : Nat → Nat} {s t s' t' : Nat → Option Nat} (h : GI fm w ord nw fr F k v s t) (hk : fr ≤ ord k) (hM : MO (st_al fm F) nw (ord k) v s s' t t') : GI fm w ord nw fr F (k + 1) v s' t' := by
  obtain ⟨h1, h2, h3, h4, h5, h6⟩ := h
  obtain ⟨m1, m2, m3, m4, m5⟩ := hM
  refine ⟨m1, fun j p e => ?_, fun j q e => ?_, fun k' hk' hf hn => ?_, fun p hp => ?_, fun p hp k' ha => h6 p hp k' (by omega)⟩
  · obtain ⟨a, b, c⟩ := m2 j p e
    by_cases ej : j = ord k
    · exact ⟨a, b, c, by omega, k, by omega, ej.symm⟩
    · cases es : s j with
      | none => rw [(m3 j).mpr ⟨es, ej⟩] at e; cases e
      | some p0 =>
        obtain ⟨_, _, _, d, k', e1, e2⟩ := h2 j p0 es
        exact ⟨a, b, c, d, k', by omega, e2⟩
  · rcases m4 j q e with z | z
    · exact h3 j q z
    · exact ⟨by omega, fun p _ => by omega⟩
  · have := (m3 (ord k')).mp hn
    have ne : k' ≠ k := fun z => this.2 (by rw [z])
    exact h4 k' (by omega) hf this.1
  · rw [m5 p hp]; exact h5 p hp
theorem GI.no {fm w ord : Nat → Nat} {nw fr F k : Nat} {v : Nat → Nat} {s t : Nat → Option Nat} {R : Nat → Prop} (h : GI fm w ord nw fr F k v s t) (hkn : k < nw) (so : ∀ i j, i ≤ j → j < nw → w (ord j) ≤ w (ord i)) (hB : BO fm F (ord k) t R) : ∃ v' : Nat → Nat, GI fm w ord nw fr F (k + 1) v' s t := by
  obtain ⟨h1, h2, h3, h4, h5, h6⟩ := h
  obtain ⟨v', hv'⟩ : ∃ v' : Nat → Nat, ∀ p, (R p → v' p = max (v p) (w (ord k))) ∧ (¬ R p → v' p = v p) := ⟨fun p => @ite _ (R p) (Classical.propDecidable _) (max (v p) (w (ord k))) (v p), fun p => ⟨fun z => if_pos z, fun z => if_neg z⟩⟩
  have ge : ∀ p, v p ≤ v' p := fun p => by
    by_cases z : R p
    · rw [(hv' p).1 z]; omega
    · rw [(hv' p).2 z]; omega
  refine ⟨v', h1, fun j p e => ?_, fun j q e => ?_, fun k' hk' hf hn p hp => ?_, fun p hp => ?_, fun p hp k' ha hb => ?_⟩
  · obtain ⟨a, b, c, d, k', e1, e2⟩ := h2 j p e
    exact ⟨a, b, c, d, k', by omega, e2⟩
  · obtain ⟨_, _, _, _, k', e1, e2⟩ := h2 j q e
    have wj := so k' k (by omega) hkn
    rw [e2] at wj
    obtain ⟨x1, x2⟩ := h3 j q e
    by_cases z : R q
    · obtain ⟨_, s', y1, y2⟩ := hB.1 q z
      have y3 := (h1 j q).mp e
      rw [y3] at y1
      injection y1 with y1
      rw [(hv' q).1 z]
      refine ⟨by omega, fun p hp => ?_⟩
      have := x2 p hp
      rw [(hv' p).1 (y2 p (by rw [← y1]; exact hp))]
      omega
    · rw [(hv' q).2 z]
      refine ⟨x1, fun p hp => ?_⟩
      have := x2 p hp
      have := ge p
      omega
  · by_cases e : k' = k
    · rw [e] at hp ⊢
      rw [(hv' p).1 (hB.2 p hp)]; omega
    · have := h4 k' (by omega) hf hn p hp
      have := ge p
      omega
  · by_cases z : R p
    · obtain ⟨_, s', y1, _⟩ := hB.1 p z
      rw [y1]; intro y; cases y
    · rw [(hv' p).2 z] at hp; exact h5 p hp
  · by_cases z : R p
    · rw [(hv' p).1 z]
      have := so k k' (by omega) hb
      omega
    · rw [(hv' p).2 z] at hp ⊢
      exact h6 p hp k' (by omega) hb
theorem wf_w {fm w ord : Nat → Nat} {nw fr F : Nat} {σ0 : St} (hD : stD fm w ord nw σ0) (hF : F < 4096) (hfr : fr ≤ nw) : ∀ q k n (σ : St) (v : Nat → Nat) (s t : Nat → Option Nat), k + q = nw → q < n → Off [28, 29, 30] σ0 σ → sc_cl nw s t σ → GI fm w ord nw fr F k v s t → ∃ (σ' : St) (v' : Nat → Nat) (s' t' : Nat → Option Nat), fX8_worthFrom_b51 n (nI fr) (nI F) (nI (st_val w s nw)) (nI k) σ = some (nI (st_val w s' nw), σ') ∧ Off [28, 29, 30] σ0 σ' ∧ GI fm w ord nw fr F nw v' s' t' := by
  obtain ⟨d1, d2, d3, d4, d5, d6⟩ := hD
  intro q
  induction q with
  | zero =>
    intro k n σ v s t hk hn ho hcl hG
    obtain ⟨n, rfl⟩ : ∃ q, n = q + 1 := ⟨n - 1, by omega⟩
    obtain rfl : k = nw := by omega
    exact ⟨σ, v, s, t, by rw [fX8_worthFrom_b51, ho 22 (by decide), d2, if_pos (nI_le (Nat.le_refl _) (by omega))], ho, hG⟩
  | succ q ih =>
    intro k n σ v s t hk hn ho hcl hG
    obtain ⟨n, rfl⟩ : ∃ q, n = q + 1 := ⟨n - 1, by omega⟩
    have l1 : ¬ nI nw ≤ nI k := nI_ge (by omega) (by omega)
    obtain ⟨o1, o2⟩ := d4 k (by omega)
    rw [fX8_worthFrom_b51, ho 22 (by decide), d2, if_neg l1, rd_nI (by omega) (by decide), ho 27 (by decide), o1, nI_1]
    by_cases c : ord k < fr
    · rw [if_pos (nI_lt c (by omega))]
      exact ih (k + 1) n σ v s t (by omega) (by omega) ho hcl (hG.skip c)
    · rw [if_neg (nI_nlt (by omega) (by omega))]
      have hs : s (ord k) = none := by
        cases e : s (ord k) with
        | none => rfl
        | some p =>
          obtain ⟨_, _, _, _, k', e1, e2⟩ := hG.2.1 _ p e
          have := d5 k' k (by omega) (by omega) e2
          omega
      have e25 : ∀ j, j < nw → σ 25 j = nI (fm j) := fun j hj => by rw [ho 25 (by decide)]; exact (d3 j hj).1
      rcases findSeat_v (v := v) (F := F) d1 o2 hs hF (fun j hj => (d3 j hj).2.1) hG.1 (fun j p e => ⟨(hG.2.1 j p e).1, (hG.2.1 j p e).2.1, (hG.2.1 j p e).2.2.1⟩) (fun j q e => (hG.2.2.1 j q e).2) hG.2.2.2.2.1 σ e25 hcl with ⟨σ1, s', t', z1, z2, z3, z4⟩ | ⟨σ1, R, z1, z2, z3⟩
      · have e24 : σ1 24 (ord k) = nI (w (ord k)) := by
          rw [z2 24 (by decide), ho 24 (by decide)]; exact (d3 _ o2).2.2.1
        rw [cal_e z1, if_neg (show ¬ (1 : Int32) = 0 by decide), rd_nI (by omega) (by decide), e24, nI_add]
        have hi' : ∃ p, s' (ord k) = some p := by
          cases e : s' (ord k) with
          | none => exact absurd rfl ((z4.2.2.1 _).mp e).2
          | some p => exact ⟨p, rfl⟩
        obtain ⟨p, hp⟩ := hi'
        have ev : st_val w s' nw = st_val w s nw + w (ord k) := by
          rw [st_val_set (w := w) o2 hp]
          congr 1
          refine st_val_cg nw (fun j hj => ?_)
          show (if j = ord k then none else s' j) = none ↔ s j = none
          by_cases ej : j = ord k
          · rw [if_pos ej, ej, hs]
          · rw [if_neg ej, z4.2.2.1 j]
            exact ⟨fun y => y.1, fun y => ⟨y, ej⟩⟩
        rw [← ev]
        exact ih (k + 1) n σ1 v s' t' (by omega) (by omega) (ho.tr z2) z3 (hG.yes (by omega) z4)
      · rw [cal_e z1, if_pos rfl]
        obtain ⟨v', hG'⟩ := hG.no (by omega) d6 z3
        have ecl : sc_cl nw s t σ1 := by
          unfold sc_cl
          rw [z2 28 (by decide), z2 29 (by decide)]; exact hcl
        exact ih (k + 1) n σ1 v' s t (by omega) (by omega) (ho.tr (z2.mono (by decide))) ecl hG'
def st_cp (F S : Nat) : Prop := F < 4096 ∧ S < 4096 ∧ ∀ p, p < 12 → F.testBit p = !S.testBit p
theorem GI.opt {fm w ord : Nat → Nat} {nw fr F S : Nat} {v : Nat → Nat} {s t : Nat → Option Nat} (h : GI fm w ord nw fr F nw v s t) (hfr : fr ≤ nw) (ho : ∀ k, k < nw → ord k < nw) (hi : ∀ i j, i < nw → j < nw → ord i = ord j → i = j) (hc : st_cp F S) : st_val w s nw = st_mo fm w nw (nw - fr) S := by
  obtain ⟨h1, h2, h3, h4, h5, h6⟩ := h
  apply Nat.le_antisymm
  · refine st_ub (nw - fr) fr S s (by omega) ⟨fun j p e => ?_, fun j j' p e e' => ?_⟩
    · obtain ⟨a, b, c, d, _⟩ := h2 j p e
      refine ⟨d, a, b, c.2.1, ?_⟩
      have := hc.2.2 p b
      rw [c.2.2] at this
      simpa using this.symm
    · have a := (h1 j p).mp e
      have b := (h1 j' p).mp e'
      rw [a] at b
      injection b
  · obtain ⟨a, a1, a2⟩ := st_ach (fm := fm) (w := w) (nw := nw) (nw - fr) fr S (by omega)
    rw [← a2]
    have al : ∀ j p, a j = some p → p < 12 ∧ st_al fm F j p := fun j p e => by
      obtain ⟨x1, x2, x3, x4, x5⟩ := a1.1 j p e
      refine ⟨x3, x3, x4, ?_⟩
      rw [hc.2.2 p x3, x5]; rfl
    refine st_lp (v := v) (al := st_al fm F) (fun j p _ e => al j p e) (fun j j' p _ _ e e' => a1.2 j j' p e e') (fun j q _ e => h3 j q e) (fun j p hj e en => ?_) (fun p hp hv => ?_)
    · obtain ⟨k, k1, k2⟩ := pigeon nw ord ho hi j hj
      have := h4 k k1 (by rw [k2]; exact (a1.1 j p e).1) (by rw [k2]; exact en) p (by rw [k2]; exact (al j p e).2)
      rw [k2] at this; exact this
    · cases e : t p with
      | none => exact absurd e (h5 p hv)
      | some j =>
        have e2 := (h1 j p).mpr e
        exact ⟨j, (h2 j p e2).1, e2⟩
theorem wf_0 {x1 x2 : Int32} {nw : Nat} {σ0 : St} (d1 : nw ≤ 8) (d2 : σ0 22 8 = nI nw) : ∀ q k n (σ : St), k + q = nw → q < n → Off [28] σ0 σ → (∀ j, j < k → σ 28 j = -9) → ∃ σ' : St, fX8_worthFrom_b2 n x1 x2 (nI k) σ = fX8_worthFrom_b26 FU x1 x2 0 σ' ∧ Off [28] σ0 σ' ∧ ∀ j, j < nw → σ' 28 j = -9 := by
  intro q
  induction q with
  | zero =>
    intro k n σ hk hn ho hv
    obtain ⟨n, rfl⟩ : ∃ q, n = q + 1 := ⟨n - 1, by omega⟩
    obtain rfl : k = nw := by omega
    exact ⟨σ, by rw [fX8_worthFrom_b2, ho 22 (by decide), d2, if_pos (nI_le (Nat.le_refl _) (by omega))], ho, hv⟩
  | succ q ih =>
    intro k n σ hk hn ho hv
    obtain ⟨n, rfl⟩ : ∃ q, n = q + 1 := ⟨n - 1, by omega⟩
    have l1 : ¬ nI nw ≤ nI k := nI_ge (by omega) (by omega)
    rw [fX8_worthFrom_b2, ho 22 (by decide), d2, if_neg l1, wr_nI (by omega) (by decide), nI_1]
    refine ih (k + 1) n _ (by omega) (by omega) (ho.up (by decide) _ _) (fun j hj => ?_)
    rw [up2_if]
    by_cases e : j = k
    · rw [if_pos e]
    · rw [if_neg e]; exact hv j (by omega)
theorem wf_1 {x1 x2 : Int32} {σ0 : St} : ∀ q k n (σ : St), k + q = 12 → q < n → Off [29] σ0 σ → (∀ j, j < k → σ 29 j = -9) → ∃ σ' : St, fX8_worthFrom_b26 n x1 x2 (nI k) σ = fX8_worthFrom_b51 FU x1 x2 0 0 σ' ∧ Off [29] σ0 σ' ∧ ∀ j, j < 12 → σ' 29 j = -9 := by
  intro q
  induction q with
  | zero =>
    intro k n σ hk hn ho hv
    obtain ⟨n, rfl⟩ : ∃ q, n = q + 1 := ⟨n - 1, by omega⟩
    obtain rfl : k = 12 := by omega
    exact ⟨σ, by rw [fX8_worthFrom_b26, if_pos (show (12 : Int32) ≤ nI 12 from nI_le (Nat.le_refl 12) (by decide))], ho, hv⟩
  | succ q ih =>
    intro k n σ hk hn ho hv
    obtain ⟨n, rfl⟩ : ∃ q, n = q + 1 := ⟨n - 1, by omega⟩
    have l1 : ¬ (12 : Int32) ≤ nI k := by
      rw [show (12 : Int32) = nI 12 from rfl]; exact nI_ge (by omega) (by decide)
    rw [fX8_worthFrom_b26, if_neg l1, wr_nI (by omega) (by decide), nI_1]
    refine ih (k + 1) n _ (by omega) (by omega) (ho.up (by decide) _ _) (fun j hj => ?_)
    rw [up2_if]
    by_cases e : j = k
    · rw [if_pos e]
    · rw [if_neg e]; exact hv j (by omega)
theorem worthFrom_v {fm w ord : Nat → Nat} {nw fr F S : Nat} {σ : St} (hD : stD fm w ord nw σ) (hfr : fr ≤ nw) (hc : st_cp F S) : ∃ σ' : St, fX8_worthFrom (nI fr) (nI F) σ = some (nI (st_mo fm w nw (nw - fr) S), σ') ∧ Off [28, 29, 30] σ σ' := by
  obtain ⟨σ1, a1, a2, a3⟩ := wf_0 (x1 := nI fr) (x2 := nI F) hD.1 hD.2.1 nw 0 FU σ (by omega) (fu_lt (by have := hD.1; omega)) (Off.rf _ _) (fun j hj => by omega)
  obtain ⟨σ2, b1, b2, b3⟩ := wf_1 (x1 := nI fr) (x2 := nI F) 12 0 FU σ1 (by omega) (fu_lt (by decide)) (Off.rf _ _) (fun j hj => by omega)
  have o2 : Off [28, 29, 30] σ σ2 := (a2.mono (by decide)).tr (b2.mono (by decide))
  have v0 : st_val w (fun _ => none) nw = 0 := st_sm_0 _ nw (fun j _ => rfl)
  obtain ⟨σ3, v', s', t', z1, z2, z3⟩ := wf_w (fr := fr) (F := F) hD hc.1 hfr nw 0 FU σ2 (fun _ => 0) (fun _ => none) (fun _ => none) (by omega) (fu_lt (by have := hD.1; omega)) o2 ⟨fun j hj => by rw [b2 28 (by decide)]; exact a3 j hj, b3⟩ ⟨fun j p => ⟨fun e => (by cases e), fun e => (by cases e)⟩, fun j p e => (by cases e), fun j q e => (by cases e), fun k' hk' => by omega, fun p hp => absurd hp (Nat.lt_irrefl 0), fun p hp => absurd hp (Nat.lt_irrefl 0)⟩
  rw [v0] at z1
  refine ⟨σ3, ?_, z2⟩
  have z1' : fX8_worthFrom_b51 FU (nI fr) (nI F) 0 0 σ2 = some (nI (st_val w s' nw), σ3) := z1
  have b1' : fX8_worthFrom_b26 FU (nI fr) (nI F) 0 σ1 = fX8_worthFrom_b51 FU (nI fr) (nI F) 0 0 σ2 := b1
  have a1' : fX8_worthFrom_b2 FU (nI fr) (nI F) 0 σ = fX8_worthFrom_b26 FU (nI fr) (nI F) 0 σ1 := a1
  unfold fX8_worthFrom
  rw [a1', b1', z1', z3.opt hfr (fun k hk => (hD.2.2.2.1 k hk).2) hD.2.2.2.2.1 hc]
