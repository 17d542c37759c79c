/-- bits -/
theorem bt_and (a b : Nat) : nI a &&& nI b = nI (a &&& b) := by
  apply Int32.toBitVec_inj.mp
  rw [Int32.toBitVec_and]
  exact BitVec.ofNat_and.symm
theorem bt_shl : ∀ c, c < 31 → (1 : Int32) <<< (nI c &&& 31) = nI (2 ^ c) := by decide +kernel
theorem bt_sm : ∀ c, c < 31 → ((nI c &&& 31).toBitVec.smod 32).toNat = c := by decide +kernel
theorem bt_not : ∀ c, c < 31 → ((1 : Int32) <<< (nI c &&& 31)) ^^^ (-1) = nI (2 ^ 32 - (2 ^ c + 1)) := by decide +kernel
theorem bt_one {m c : Nat} (hm : m < 2 ^ 31) : m &&& 2 ^ c = if m.testBit c then 2 ^ c else 0 := by
  apply Nat.eq_of_testBit_eq
  intro i
  rw [Nat.testBit_and, Nat.testBit_two_pow]
  by_cases e : c = i
  · subst e
    by_cases h : m.testBit c = true
    · rw [if_pos h, Nat.testBit_two_pow, h]; rfl
    · rw [if_neg h]; simp [Bool.not_eq_true _ ▸ h]
  · by_cases h : m.testBit c = true
    · rw [if_pos h, Nat.testBit_two_pow]; simp [e]
    · rw [if_neg h]; simp [e]
theorem bt_has {m c : Nat} (hm : m < 2 ^ 31) (hc : c < 31) : (nI m &&& ((1 : Int32) <<< (nI c &&& 31))) = 0 ↔ m.testBit c = false := by
  rw [bt_shl c hc, bt_and, bt_one hm]
  by_cases h : m.testBit c = true
  · rw [if_pos h, h]
    have h2 : 2 ^ c < 2 ^ 31 := Nat.pow_lt_pow_right (by decide) hc
    have h3 : 0 < 2 ^ c := Nat.two_pow_pos c
    constructor
    · intro e
      have := (nI_eq (a := 2 ^ c) (b := 0) h2 (by decide)).mp e
      omega
    · intro e; cases e
  · rw [if_neg h]
    constructor
    · intro _; exact Bool.not_eq_true _ ▸ h
    · intro _; rfl
theorem bt_hm {m c : Nat} (hm : m < 2 ^ 31) (hc : c < 31) : ((nI m >>> (nI c &&& 31)) &&& 1) = 1 ↔ m.testBit c = true := by
  have h1 : m / 2 ^ c < 2 ^ 32 := Nat.lt_of_le_of_lt (Nat.div_le_self _ _) (by omega)
  rw [pk_shrN hm _ c (bt_sm c hc), pk_andN h1 1 (by decide), Nat.testBit_eq_decide_div_mod_eq, decide_eq_true_eq]
  have h2 := Nat.mod_lt (m / 2 ^ c) (show 2 ^ 1 > 0 by decide)
  constructor
  · intro e; exact (nI_eq (a := m / 2 ^ c % 2 ^ 1) (b := 1) (by omega) (by decide)).mp e
  · intro e; rw [show m / 2 ^ c % 2 ^ 1 = 1 from e]; rfl
def clr (m c : Nat) : Nat := m &&& (2 ^ 32 - (2 ^ c + 1))
theorem bt_clr {m c : Nat} (hc : c < 31) : nI m &&& (((1 : Int32) <<< (nI c &&& 31)) ^^^ (-1)) = nI (clr m c) := by
  rw [bt_not c hc, bt_and]; rfl
theorem clr_bit {m c i : Nat} (hc : c < 31) (hi : i < 32) : (clr m c).testBit i = (m.testBit i && decide (c ≠ i)) := by
  have h2 : 2 ^ c < 2 ^ 32 := Nat.pow_lt_pow_right (by decide) (by omega)
  rw [clr, Nat.testBit_and, Nat.testBit_two_pow_sub_succ h2, Nat.testBit_two_pow]
  simp [hi]
theorem clr_le (m c : Nat) : clr m c ≤ m := Nat.and_le_left
theorem clr_no {m c : Nat} (hm : m < 2 ^ 31) (hc : c < 31) (h : m.testBit c = false) : clr m c = m := by
  apply Nat.eq_of_testBit_eq
  intro i
  by_cases hi : i < 32
  · rw [clr_bit hc hi]
    by_cases e : c = i
    · subst e; rw [h]; rfl
    · simp [e]
  · have h1 : m < 2 ^ i := Nat.lt_of_lt_of_le hm (Nat.pow_le_pow_right (by decide) (by omega))
    have h2 : clr m c < 2 ^ i := Nat.lt_of_le_of_lt (clr_le m c) h1
    rw [Nat.testBit_lt_two_pow h1, Nat.testBit_lt_two_pow h2]
theorem bt_ex {m n : Nat} (h : m ≠ 0) (hm : m < 2 ^ n) : ∃ c, c < n ∧ m.testBit c = true := by
  obtain ⟨c, hc⟩ := Nat.exists_testBit_of_ne_zero h
  refine ⟨c, ?_, hc⟩
  rcases Nat.lt_or_ge c n with q | q
  · exact q
  · rw [Nat.testBit_lt_two_pow (Nat.lt_of_lt_of_le hm (Nat.pow_le_pow_right (by decide) q))] at hc
    cases hc
def bcn (m : Nat) : Nat → Nat
  | 0 => 0
  | k + 1 => bcn m k + (if m.testBit k = true then 1 else 0)
theorem bcn_le (m k : Nat) : bcn m k ≤ k := by
  induction k with
  | zero => exact Nat.le_refl _
  | succ k ih => rw [bcn]; split <;> omega
theorem bcn_sub {m m' : Nat} (k : Nat) (h : ∀ i, i < k → m'.testBit i = true → m.testBit i = true) : bcn m' k ≤ bcn m k := by
  induction k with
  | zero => exact Nat.le_refl _
  | succ k ih =>
    have h1 := ih (fun i hi => h i (by omega))
    have h2 := h k (by omega)
    rw [bcn, bcn]
    by_cases e : m'.testBit k = true
    · rw [if_pos e, if_pos (h2 e)]; omega
    · rw [if_neg e]; omega
theorem bcn_lt {m m' c : Nat} (k : Nat) (h : ∀ i, i < k → m'.testBit i = true → m.testBit i = true) (hc : c < k) (h1 : m.testBit c = true) (h2 : m'.testBit c = false) : bcn m' k < bcn m k := by
  induction k with
  | zero => omega
  | succ k ih =>
    rw [bcn, bcn]
    by_cases e : c = k
    · subst e
      have := bcn_sub c (fun i hi => h i (by omega))
      rw [if_pos h1, if_neg (by rw [h2]; decide)]; omega
    · have := ih (fun i hi => h i (by omega)) (by omega)
      have h3 := h k (by omega)
      by_cases e2 : m'.testBit k = true
      · rw [if_pos e2, if_pos (h3 e2)]; omega
      · rw [if_neg e2]; omega
theorem bt_nat (x : Int32) : x = nI x.toBitVec.toNat := by
  apply Int32.toBitVec_inj.mp
  apply BitVec.eq_of_toNat_eq
  exact ((BitVec.toNat_ofNat _ _).trans (Nat.mod_eq_of_lt x.toBitVec.isLt)).symm
theorem bt_hi {m : Nat} (hm : m < 2 ^ 32) (h : m &&& (2 ^ 32 - (4095 + 1)) = 0) : m < 4096 := by
  rcases Nat.lt_or_ge m 4096 with q | q
  · exact q
  exfalso
  have h0 : m / 2 ^ 12 ≠ 0 := by omega
  obtain ⟨j, hj⟩ := Nat.exists_testBit_of_ne_zero h0
  rw [Nat.testBit_div_two_pow] at hj
  have hi : j + 12 < 32 ∨ 32 ≤ j + 12 := by omega
  rcases hi with hi | hi
  · have h1 : (m &&& (2 ^ 32 - (4095 + 1))).testBit (j + 12) = true := by
      rw [Nat.testBit_and, Nat.testBit_two_pow_sub_succ (by decide), Nat.testBit_lt_two_pow (x := 4095) (Nat.lt_of_lt_of_le (show 4095 < 2 ^ 12 by decide) (Nat.pow_le_pow_right (by decide) (by omega)))]
      simp [hi, hj]
    rw [h, Nat.zero_testBit] at h1
    cases h1
  · rw [Nat.testBit_lt_two_pow (Nat.lt_of_lt_of_le hm (Nat.pow_le_pow_right (by decide) (by omega)))] at hj
    cases hj
theorem bt_lo {m : Nat} (hm : m < 4096) : m &&& (2 ^ 32 - (4095 + 1)) = 0 := by
  apply Nat.eq_of_testBit_eq
  intro i
  rw [Nat.testBit_and, Nat.zero_testBit, Nat.testBit_two_pow_sub_succ (by decide)]
  by_cases h : i < 12
  · rw [show (4095 : Nat) = 2 ^ 12 - (0 + 1) from rfl, Nat.testBit_two_pow_sub_succ (by decide), Nat.zero_testBit]
    simp [h]
  · rw [Nat.testBit_lt_two_pow (x := m) (Nat.lt_of_lt_of_le (show m < 2 ^ 12 from hm) (Nat.pow_le_pow_right (by decide) (by omega)))]
    rfl
theorem bt_set (x : Int32) : (x &&& (-4096)) = 0 ↔ ∃ m, m < 4096 ∧ x = nI m := by
  have e : (-4096 : Int32) = nI (2 ^ 32 - (4095 + 1)) := by decide
  constructor
  · intro h
    have hx := bt_nat x
    have hm : x.toBitVec.toNat < 2 ^ 32 := x.toBitVec.isLt
    refine ⟨_, ?_, hx⟩
    rw [hx, e, bt_and] at h
    apply bt_hi hm
    have h2 := congrArg (fun v : Int32 => v.toBitVec.toNat) h
    have h3 : (nI (x.toBitVec.toNat &&& (2 ^ 32 - (4095 + 1)))).toBitVec.toNat = (x.toBitVec.toNat &&& (2 ^ 32 - (4095 + 1))) % 2 ^ 32 := BitVec.toNat_ofNat _ _
    have h4 : (x.toBitVec.toNat &&& (2 ^ 32 - (4095 + 1))) < 2 ^ 32 := Nat.lt_of_le_of_lt Nat.and_le_left hm
    rw [Nat.mod_eq_of_lt h4] at h3
    exact h3.symm.trans h2
  · rintro ⟨m, hm, rfl⟩
    rw [e, bt_and, bt_lo hm]
    rfl
