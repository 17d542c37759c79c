/-- moveAlong: the state when place c is about to be filled -/
def MI (al : Nat → Nat → Prop) (nw c : Nat) (rk v : Nat → Nat) (s0 s : Nat → Option Nat) (t0 t : Nat → Option Nat) : Prop :=
  (∀ j p, p ≠ c → (s j = some p ↔ t p = some j)) ∧ (∀ j, s j ≠ some c) ∧ (∀ j p, s j = some p → j < nw ∧ p < 12 ∧ al j p) ∧
  (∀ j, s j = s0 j ∨ ∃ q, s0 j = some q ∧ rk c ≤ rk q) ∧ (∀ j, s j = none ↔ s0 j = none) ∧ (∀ j q, s j = some q → s0 j = some q ∨ v q = 0) ∧ ∀ p, 0 < v p → t p = t0 p
def MO (al : Nat → Nat → Prop) (nw i : Nat) (v : Nat → Nat) (s0 s : Nat → Option Nat) (t0 t : Nat → Option Nat) : Prop :=
  (∀ j p, s j = some p ↔ t p = some j) ∧ (∀ j p, s j = some p → j < nw ∧ p < 12 ∧ al j p) ∧ (∀ j, s j = none ↔ (s0 j = none ∧ j ≠ i)) ∧ (∀ j q, s j = some q → s0 j = some q ∨ v q = 0) ∧ ∀ p, 0 < v p → t p = t0 p
def sc_cl (nw : Nat) (s t : Nat → Option Nat) (σ : St) : Prop := (∀ j, j < nw → σ 28 j = oI (s j)) ∧ ∀ p, p < 12 → σ 29 p = oI (t p)
theorem ma_w {al : Nat → Nat → Prop} {nw i : Nat} {rk v mv : Nat → Nat} {s0 t0 : Nat → Option Nat} {R : Nat → Prop} (h8 : nw ≤ 8) (hi : s0 i = none) (hmv : ∀ c, R c → c < 12 ∧ mv c < nw ∧ al (mv c) c ∧ (mv c = i ∨ ∃ q, s0 (mv c) = some q ∧ R q ∧ rk q < rk c)) (hv : ∀ j q, s0 j = some q → ∀ p, al j p → v q ≤ v p) : ∀ K c n t (σ : St) (s ta : Nat → Option Nat), rk c ≤ K → t + K < 12 → K + 1 < n → R c → v c = 0 → MI al nw c rk v s0 s t0 ta → sc_cl nw s ta σ → (∀ p, R p → σ 30 p = nI (mv p)) → ∃ (σ' : St) (s' ta' : Nat → Option Nat), fX8_moveAlong_b4 n (nI c) (nI t) σ = some (0, σ') ∧ Off [28, 29] σ σ' ∧ sc_cl nw s' ta' σ' ∧ MO al nw i v s0 s' t0 ta' := by
  intro K
  induction K with
  | zero =>
    intro c n t σ s ta hK ht hn hR hvc hM hcl h30
    obtain ⟨n, rfl⟩ : ∃ q, n = q + 1 := ⟨n - 1, by omega⟩
    obtain ⟨n, rfl⟩ : ∃ q, n = q + 1 := ⟨n - 1, by omega⟩
    obtain ⟨m1, m2, m3, m4, m5, m6, m7⟩ := hM
    obtain ⟨r1, r2, r3, r4⟩ := hmv c hR
    have em : mv c = i := by
      rcases r4 with z | ⟨q, _, _, z⟩
      · exact z
      · omega
    have es : s (mv c) = none := (m5 (mv c)).mpr (by rw [em]; exact hi)
    have l1 : ¬ (12 : Int32) ≤ nI t := by
      rw [show (12 : Int32) = nI 12 from rfl]; exact nI_ge (by omega) (by decide)
    refine ⟨up2 (up2 σ 28 (mv c) (nI c)) 29 c (nI (mv c)), fun j => if j = mv c then some c else s j, fun p => if p = c then some (mv c) else ta p, ?_, ((Off.rf [28, 29] σ).up (by decide) _ _).up (by decide) _ _, ⟨fun j hj => ?_, fun p hp => ?_⟩, ?_⟩
    · rw [fX8_moveAlong_b4, if_neg l1, if_neg (nI_n9 (by omega)), rd_nI r1 (by decide), h30 c hR, rd_nI (by omega) (by decide), hcl.1 (mv c) r2, es, wr_nI (by omega) (by decide), wr_nI r1 (by decide), nI_1]
      rw [fX8_moveAlong_b4]
      by_cases c2 : (12 : Int32) ≤ nI (t + 1)
      · rw [if_pos c2]
      · rw [if_neg c2, if_pos (show oI none = -9 from rfl)]
    · show upd (σ 28) (mv c) (nI c) j = oI (if j = mv c then some c else s j)
      by_cases e : j = mv c
      · rw [if_pos e, e, upd_s]; rfl
      · rw [if_neg e, upd_n _ _ e]; exact hcl.1 j hj
    · show upd (σ 29) c (nI (mv c)) p = oI (if p = c then some (mv c) else ta p)
      by_cases e : p = c
      · rw [if_pos e, e, upd_s]; rfl
      · rw [if_neg e, upd_n _ _ e]; exact hcl.2 p hp
    · refine ⟨fun j p => ?_, fun j p e => ?_, fun j => ?_, fun j q e => ?_, fun p hp => ?_⟩
      · show (if j = mv c then some c else s j) = some p ↔ (if p = c then some (mv c) else ta p) = some j
        by_cases ej : j = mv c
        · rw [if_pos ej]
          by_cases ep : p = c
          · rw [if_pos ep, ep, ej]; constructor <;> intro _ <;> rfl
          · rw [if_neg ep]
            constructor
            · intro z; injection z with z; exact absurd z.symm ep
            · intro z
              have := (m1 j p ep).mpr z
              rw [ej, es] at this; cases this
        · rw [if_neg ej]
          by_cases ep : p = c
          · rw [if_pos ep, ep]
            constructor
            · intro z; exact absurd z (m2 j)
            · intro z; injection z with z; exact absurd z.symm ej
          · rw [if_neg ep]; exact m1 j p ep
      · have e2 : (if j = mv c then some c else s j) = some p := e
        by_cases ej : j = mv c
        · rw [if_pos ej] at e2
          injection e2 with e2
          rw [ej, ← e2]; exact ⟨r2, r1, r3⟩
        · rw [if_neg ej] at e2; exact m3 j p e2
      · show (if j = mv c then some c else s j) = none ↔ _
        by_cases ej : j = mv c
        · rw [if_pos ej, ej, em]
          constructor
          · intro z; cases z
          · intro z; exact absurd rfl z.2
        · rw [if_neg ej, m5 j]
          constructor
          · intro z; exact ⟨z, fun y => ej (by rw [em]; exact y)⟩
          · intro z; exact z.1
      · have e2 : (if j = mv c then some c else s j) = some q := e
        by_cases ej : j = mv c
        · rw [if_pos ej] at e2
          injection e2 with e2
          right; rw [← e2]; exact hvc
        · rw [if_neg ej] at e2; exact m6 j q e2
      · show (if p = c then some (mv c) else ta p) = t0 p
        rw [if_neg (fun z => by rw [z, hvc] at hp; omega)]
        exact m7 p hp
  | succ K ih =>
    intro c n t σ s ta hK ht hn hR hvc hM hcl h30
    rcases Nat.lt_or_ge K (rk c) with hlt | hge
    · obtain ⟨m1, m2, m3, m4, m5, m6, m7⟩ := id hM
      obtain ⟨r1, r2, r3, r4⟩ := hmv c hR
      obtain ⟨n, rfl⟩ : ∃ q, n = q + 1 := ⟨n - 1, by omega⟩
      have l1 : ¬ (12 : Int32) ≤ nI t := by
        rw [show (12 : Int32) = nI 12 from rfl]; exact nI_ge (by omega) (by decide)
      have cl1 : sc_cl nw (fun j => if j = mv c then some c else s j) (fun p => if p = c then some (mv c) else ta p) (up2 (up2 σ 28 (mv c) (nI c)) 29 c (nI (mv c))) := by
        refine ⟨fun j hj => ?_, fun p hp => ?_⟩
        · show upd (σ 28) (mv c) (nI c) j = oI (if j = mv c then some c else s j)
          by_cases e : j = mv c
          · rw [if_pos e, e, upd_s]; rfl
          · rw [if_neg e, upd_n _ _ e]; exact hcl.1 j hj
        · show upd (σ 29) c (nI (mv c)) p = oI (if p = c then some (mv c) else ta p)
          by_cases e : p = c
          · rw [if_pos e, e, upd_s]; rfl
          · rw [if_neg e, upd_n _ _ e]; exact hcl.2 p hp
      have off1 : Off [28, 29] σ (up2 (up2 σ 28 (mv c) (nI c)) 29 c (nI (mv c))) := ((Off.rf [28, 29] σ).up (by decide) _ _).up (by decide) _ _
      have step : fX8_moveAlong_b4 (n + 1) (nI c) (nI t) σ = fX8_moveAlong_b4 n (oI (s (mv c))) (nI (t + 1)) (up2 (up2 σ 28 (mv c) (nI c)) 29 c (nI (mv c))) := by
        rw [fX8_moveAlong_b4, if_neg l1, if_neg (nI_n9 (by omega)), rd_nI r1 (by decide), h30 c hR, rd_nI (by omega) (by decide), hcl.1 (mv c) r2, wr_nI (by omega) (by decide), wr_nI r1 (by decide), nI_1]
      rcases r4 with em | ⟨q, q1, q2, q3⟩
      · -- the new one itself: the same as above
        have es : s (mv c) = none := (m5 (mv c)).mpr (by rw [em]; exact hi)
        obtain ⟨n, rfl⟩ : ∃ q, n = q + 1 := ⟨n - 1, by omega⟩
        refine ⟨_, _, _, ?_, off1, cl1, ?_⟩
        · rw [step, es, fX8_moveAlong_b4]
          by_cases c2 : (12 : Int32) ≤ nI (t + 1)
          · rw [if_pos c2]
          · rw [if_neg c2, if_pos (show oI none = -9 from rfl)]
        · refine ⟨fun j p => ?_, fun j p e => ?_, fun j => ?_, fun j q e => ?_, fun p hp => ?_⟩
          · show (if j = mv c then some c else s j) = some p ↔ (if p = c then some (mv c) else ta p) = some j
            by_cases ej : j = mv c
            · rw [if_pos ej]
              by_cases ep : p = c
              · rw [if_pos ep, ep, ej]; constructor <;> intro _ <;> rfl
              · rw [if_neg ep]
                constructor
                · intro z; injection z with z; exact absurd z.symm ep
                · intro z
                  have := (m1 j p ep).mpr z
                  rw [ej, es] at this; cases this
            · rw [if_neg ej]
              by_cases ep : p = c
              · rw [if_pos ep, ep]
                constructor
                · intro z; exact absurd z (m2 j)
                · intro z; injection z with z; exact absurd z.symm ej
              · rw [if_neg ep]; exact m1 j p ep
          · have e2 : (if j = mv c then some c else s j) = some p := e
            by_cases ej : j = mv c
            · rw [if_pos ej] at e2
              injection e2 with e2
              rw [ej, ← e2]; exact ⟨r2, r1, r3⟩
            · rw [if_neg ej] at e2; exact m3 j p e2
          · show (if j = mv c then some c else s j) = none ↔ _
            by_cases ej : j = mv c
            · rw [if_pos ej, ej, em]
              constructor
              · intro z; cases z
              · intro z; exact absurd rfl z.2
            · rw [if_neg ej, m5 j]
              constructor
              · intro z; exact ⟨z, fun y => ej (by rw [em]; exact y)⟩
              · intro z; exact z.1
          · have e2 : (if j = mv c then some c else s j) = some q := e
            by_cases ej : j = mv c
            · rw [if_pos ej] at e2
              injection e2 with e2
              right; rw [← e2]; exact hvc
            · rw [if_neg ej] at e2; exact m6 j q e2
          · show (if p = c then some (mv c) else ta p) = t0 p
            rw [if_neg (fun z => by rw [z, hvc] at hp; omega)]
            exact m7 p hp
      · have es : s (mv c) = some q := by
          rcases m4 (mv c) with z | ⟨q', z1, z2⟩
          · rw [z]; exact q1
          · rw [q1] at z1
            injection z1 with z1
            rw [← z1] at z2; omega
        have nqc : q ≠ c := fun z => by rw [z] at q3; omega
        have vq : v q = 0 := by
          have := hv (mv c) q q1 c r3
          omega
        have hM' : MI al nw q rk v s0 (fun j => if j = mv c then some c else s j) t0 (fun p => if p = c then some (mv c) else ta p) := by
          refine ⟨fun j p hp => ?_, fun j e => ?_, fun j p e => ?_, fun j => ?_, fun j => ?_, fun j q' e => ?_, fun p hp => ?_⟩
          · show (if j = mv c then some c else s j) = some p ↔ (if p = c then some (mv c) else ta p) = some j
            by_cases ej : j = mv c
            · rw [if_pos ej]
              by_cases ep : p = c
              · rw [if_pos ep, ep, ej]; constructor <;> intro _ <;> rfl
              · rw [if_neg ep]
                constructor
                · intro z; injection z with z; exact absurd z.symm ep
                · intro z
                  have := (m1 j p ep).mpr z
                  rw [ej, es] at this
                  injection this with this
                  exact absurd this.symm hp
            · rw [if_neg ej]
              by_cases ep : p = c
              · rw [if_pos ep, ep]
                constructor
                · intro z; exact absurd z (m2 j)
                · intro z; injection z with z; exact absurd z.symm ej
              · rw [if_neg ep]; exact m1 j p ep
          · have e2 : (if j = mv c then some c else s j) = some q := e
            by_cases ej : j = mv c
            · rw [if_pos ej] at e2
              injection e2 with e2
              exact nqc e2.symm
            · rw [if_neg ej] at e2
              have a := (m1 j q nqc).mp e2
              have b := (m1 (mv c) q nqc).mp es
              rw [a] at b
              injection b with b
              exact ej b
          · have e2 : (if j = mv c then some c else s j) = some p := e
            by_cases ej : j = mv c
            · rw [if_pos ej] at e2
              injection e2 with e2
              rw [ej, ← e2]; exact ⟨r2, r1, r3⟩
            · rw [if_neg ej] at e2; exact m3 j p e2
          · show (if j = mv c then some c else s j) = s0 j ∨ _
            by_cases ej : j = mv c
            · right; exact ⟨q, by rw [ej]; exact q1, Nat.le_refl _⟩
            · rw [if_neg ej]
              rcases m4 j with z | ⟨q', z1, z2⟩
              · left; exact z
              · right; exact ⟨q', z1, by omega⟩
          · show (if j = mv c then some c else s j) = none ↔ _
            by_cases ej : j = mv c
            · rw [if_pos ej, ej, q1]
              constructor <;> intro z <;> cases z
            · rw [if_neg ej]; exact m5 j
          · have e2 : (if j = mv c then some c else s j) = some q' := e
            by_cases ej : j = mv c
            · rw [if_pos ej] at e2
              injection e2 with e2
              right; rw [← e2]; exact hvc
            · rw [if_neg ej] at e2; exact m6 j q' e2
          · show (if p = c then some (mv c) else ta p) = t0 p
            rw [if_neg (fun z => by rw [z, hvc] at hp; omega)]
            exact m7 p hp
        obtain ⟨σ', s', ta', z1, z2, z3, z4⟩ := ih q n (t + 1) (up2 (up2 σ 28 (mv c) (nI c)) 29 c (nI (mv c))) _ _ (by omega) (by omega) (by omega) q2 vq hM' cl1 h30
        refine ⟨σ', s', ta', ?_, off1.tr z2, z3, z4⟩
        rw [step, es]
        exact z1
    · exact ih c n t σ s ta hge (by omega) (by omega) hR hvc hM hcl h30
