/-! ===== Stacking: the class's search, its small steps ===== -/
theorem bt_nt0 : ∀ a, a < 64 → ∀ b, b < 64 → nI (64 * a + b) ^^^ (-1) = nI (2 ^ 32 - (64 * a + b + 1)) := by decide +kernel
theorem bt_nt {R : Nat} (h : R < 4096) : nI R ^^^ (-1) = nI (2 ^ 32 - (R + 1)) := by
  have h1 := bt_nt0 (R / 64) (by omega) (R % 64) (by omega)
  rw [show 64 * (R / 64) + R % 64 = R by omega] at h1
  exact h1
def tz_62 (x0 x1 : Int32) : Int32 := if x0 ≤ 4 then (x1 + (x0.toUInt32 >>> ((1 : Int32).toUInt32 &&& Int32.toUInt32 31)).toInt32) else ((x1 + 2) + ((x0.toUInt32 >>> ((2 : Int32).toUInt32 &&& Int32.toUInt32 31)).toInt32.toUInt32 >>> ((1 : Int32).toUInt32 &&& Int32.toUInt32 31)).toInt32)
theorem tz_62_v (x0 x1 : Int32) (σ : St) : fJ6_numberOfTrailingZeros_0f7a4_b62 x0 x1 σ = some (tz_62 x0 x1, σ) := by
  unfold fJ6_numberOfTrailingZeros_0f7a4_b62 tz_62
  by_cases h : x0 ≤ 4
  · rw [if_pos h, if_pos h]
  · rw [if_neg h, if_neg h]; rfl
def tz_34 (x0 x1 : Int32) : Int32 := if x0 ≤ 256 then (if x0 ≤ 16 then tz_62 x0 x1 else tz_62 (x0.toUInt32 >>> ((4 : Int32).toUInt32 &&& Int32.toUInt32 31)).toInt32 (x1 + 4)) else (if (x0.toUInt32 >>> ((8 : Int32).toUInt32 &&& Int32.toUInt32 31)).toInt32 ≤ 16 then tz_62 (x0.toUInt32 >>> ((8 : Int32).toUInt32 &&& Int32.toUInt32 31)).toInt32 (x1 + 8) else tz_62 ((x0.toUInt32 >>> ((8 : Int32).toUInt32 &&& Int32.toUInt32 31)).toInt32.toUInt32 >>> ((4 : Int32).toUInt32 &&& Int32.toUInt32 31)).toInt32 ((x1 + 8) + 4))
theorem tz_34_v (x0 x1 : Int32) (σ : St) : fJ6_numberOfTrailingZeros_0f7a4_b34 x0 x1 σ = some (tz_34 x0 x1, σ) := by
  unfold fJ6_numberOfTrailingZeros_0f7a4_b34 tz_34
  by_cases h : x0 ≤ 256
  · rw [if_pos h, if_pos h]
    by_cases h2 : x0 ≤ 16
    · rw [if_pos h2, if_pos h2]; exact tz_62_v _ _ _
    · rw [if_neg h2, if_neg h2, lt_e]; exact tz_62_v _ _ _
  · rw [if_neg h, if_neg h, lt_e]
    by_cases h2 : (x0.toUInt32 >>> ((8 : Int32).toUInt32 &&& Int32.toUInt32 31)).toInt32 ≤ 16
    · rw [if_pos h2, if_pos h2]; exact tz_62_v _ _ _
    · rw [if_neg h2, if_neg h2, lt_e]; exact tz_62_v _ _ _
def tz_ok (x : Int32) : Prop := 0 < ((x ^^^ (-1)) &&& (x - 1)) ∧ ((x ^^^ (-1)) &&& (x - 1)) ≤ 65536
theorem tz_v {x : Int32} (h1 : 0 < ((x ^^^ (-1)) &&& (x - 1))) (h2 : ((x ^^^ (-1)) &&& (x - 1)) ≤ 65536) (σ : St) : fJ6_numberOfTrailingZeros_0f7a4 x σ = some (tz_34 ((x ^^^ (-1)) &&& (x - 1)) 1, σ) := by
  unfold fJ6_numberOfTrailingZeros_0f7a4
  rw [lt_e, if_pos h1, if_pos h2]
  exact tz_34_v _ _ _
theorem tz_v0 {x : Int32} (h1 : ¬ 0 < ((x ^^^ (-1)) &&& (x - 1))) (σ : St) : fJ6_numberOfTrailingZeros_0f7a4 x σ = some (((x ^^^ (-1)) &&& (x - 1)) &&& 32, σ) := by
  unfold fJ6_numberOfTrailingZeros_0f7a4
  rw [lt_e, if_neg h1]
def lwb : Nat → Nat → Nat
  | 0, _ => 0
  | n + 1, W => if W % 2 = 1 then 0 else lwb n (W / 2) + 1
theorem lwb_0 : ∀ a, a < 64 → ∀ b, b < 64 → 64 * a + b = 0 ∨ (lwb 12 (64 * a + b) < 12 ∧ (64 * a + b).testBit (lwb 12 (64 * a + b)) = true ∧ ((0 < ((nI (64 * a + b) ^^^ (-1)) &&& (nI (64 * a + b) - 1)) ∧ ((nI (64 * a + b) ^^^ (-1)) &&& (nI (64 * a + b) - 1)) ≤ 65536 ∧ tz_34 ((nI (64 * a + b) ^^^ (-1)) &&& (nI (64 * a + b) - 1)) 1 = nI (lwb 12 (64 * a + b))) ∨ (¬ 0 < ((nI (64 * a + b) ^^^ (-1)) &&& (nI (64 * a + b) - 1)) ∧ ((nI (64 * a + b) ^^^ (-1)) &&& (nI (64 * a + b) - 1)) &&& 32 = nI (lwb 12 (64 * a + b)))) ∧ nI (64 * a + b) &&& (nI (64 * a + b) - 1) = nI (clr (64 * a + b) (lwb 12 (64 * a + b)))) := by decide +kernel
theorem lwb_v {W : Nat} (h : W < 4096) (h0 : W ≠ 0) (σ : St) : lwb 12 W < 12 ∧ W.testBit (lwb 12 W) = true ∧ fJ6_numberOfTrailingZeros_0f7a4 (nI W) σ = some (nI (lwb 12 W), σ) ∧ nI W &&& (nI W - 1) = nI (clr W (lwb 12 W)) := by
  have h1 := lwb_0 (W / 64) (by omega) (W % 64) (by omega)
  rw [show 64 * (W / 64) + W % 64 = W by omega] at h1
  rcases h1 with z | ⟨a1, a2, a3, a4⟩
  · exact absurd z h0
  · refine ⟨a1, a2, ?_, a4⟩
    rcases a3 with ⟨b1, b2, b3⟩ | ⟨b1, b2⟩
    · rw [tz_v b1 b2, b3]
    · rw [tz_v0 b1, b2]
def oI : Option Nat → Int32
  | none => -9
  | some p => nI p
/-- who may go where -/
def st_al (fm : Nat → Nat) (F j p : Nat) : Prop := p < 12 ∧ (fm j).testBit p = true ∧ F.testBit p = true
/-- noteMover -/
theorem nm_w {m s : Nat} (hm : m < 4096) : ∀ q c n (σ0 σ : St), c + q = 12 → q < n → Off [30] σ0 σ → (∀ p, p < 12 → σ 30 p = if p < c ∧ m.testBit p = true then nI s else σ0 30 p) → ∃ σ' : St, fX8_noteMover_b2 n (nI m) (nI s) (nI c) σ = some (0, σ') ∧ Off [30] σ0 σ' ∧ ∀ p, p < 12 → σ' 30 p = if m.testBit p = true then nI s else σ0 30 p := by
  intro q
  induction q with
  | zero =>
    intro c n σ0 σ hc hn ho hv
    obtain ⟨n, rfl⟩ : ∃ q, n = q + 1 := ⟨n - 1, by omega⟩
    obtain rfl : c = 12 := by omega
    refine ⟨σ, ?_, ho, fun p hp => ?_⟩
    · rw [fX8_noteMover_b2, if_pos (show (12 : Int32) ≤ nI 12 from nI_le (Nat.le_refl 12) (by decide))]
    · rw [hv p hp]
      by_cases e : m.testBit p = true
      · rw [if_pos ⟨hp, e⟩, if_pos e]
      · rw [if_neg (fun z => e z.2), if_neg e]
  | succ q ih =>
    intro c n σ0 σ hc hn ho hv
    obtain ⟨n, rfl⟩ : ∃ q, n = q + 1 := ⟨n - 1, by omega⟩
    have l1 : ¬ (12 : Int32) ≤ nI c := by
      rw [show (12 : Int32) = nI 12 from rfl]; exact nI_ge (by omega) (by decide)
    rw [fX8_noteMover_b2, if_neg l1, nI_1]
    by_cases e : m.testBit c = true
    · rw [if_neg (fun z => by rw [(bt_has (by omega) (by omega)).mp z] at e; cases e), wr_nI (by omega) (by decide)]
      refine ih (c + 1) n σ0 _ (by omega) (by omega) (ho.up (by decide) _ _) (fun p hp => ?_)
      rw [up2_if]
      by_cases ep : p = c
      · subst ep; rw [if_pos rfl, if_pos ⟨by omega, e⟩]
      · rw [if_neg ep, hv p hp]
        by_cases e2 : p < c ∧ m.testBit p = true
        · rw [if_pos e2, if_pos ⟨by omega, e2.2⟩]
        · rw [if_neg e2, if_neg (fun z => e2 ⟨by omega, z.2⟩)]
    · have e' : m.testBit c = false := Bool.not_eq_true _ ▸ e
      rw [if_pos ((bt_has (by omega) (by omega)).mpr e')]
      refine ih (c + 1) n σ0 σ (by omega) (by omega) ho (fun p hp => ?_)
      rw [hv p hp]
      by_cases e2 : p < c ∧ m.testBit p = true
      · rw [if_pos e2, if_pos ⟨by omega, e2.2⟩]
      · rw [if_neg e2, if_neg (fun z => e2 ⟨by
          have : p ≠ c := fun y => e (by rw [← y]; exact z.2)
          omega, z.2⟩)]
theorem noteMover_v {m s : Nat} (hm : m < 4096) (σ : St) : ∃ σ' : St, fX8_noteMover (nI m) (nI s) σ = some (0, σ') ∧ Off [30] σ σ' ∧ ∀ p, p < 12 → σ' 30 p = if m.testBit p = true then nI s else σ 30 p := by
  obtain ⟨σ', z1, z2, z3⟩ := nm_w (s := s) hm 12 0 FU σ σ (by omega) (fu_lt (by decide)) (Off.rf _ _) (fun p hp => by rw [if_neg (fun z => by omega)])
  exact ⟨σ', by unfold fX8_noteMover; exact z1, z2, z3⟩
