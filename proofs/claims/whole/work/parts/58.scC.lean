/-- the class's telling -/
def oC (σ σ' : St) : Prop := Off [47, 54, 55] σ σ' ∧ σ' 47 8 = σ 47 8 ∧ σ' 47 9 = σ 47 9
theorem oC.rf (σ : St) : oC σ σ := ⟨Off.rf _ _, rfl, rfl⟩
theorem oC.tr {a b c : St} (h : oC a b) (h' : oC b c) : oC a c := ⟨h.1.tr h'.1, h'.2.1.trans h.2.1, h'.2.2.trans h.2.2⟩
theorem oC.o5 {a b : St} (h : Off [54, 55] a b) : oC a b := ⟨h.mono (by decide), by rw [h 47 (by decide)], by rw [h 47 (by decide)]⟩
theorem scD.offC {D : Nat → Nat → Nat} {σ σ' τ : St} (h : scD D σ τ) (o : oC σ σ') : scD D σ' τ := by
  obtain ⟨o, o8, o9⟩ := o
  have e1 := o 48 (by decide)
  have e2 := o 49 (by decide)
  have e3 := o 50 (by decide)
  have e4 := o 51 (by decide)
  have e5 := o 52 (by decide)
  have e6 := o 53 (by decide)
  unfold scD at h ⊢
  rw [o8, o9, e1, e2, e3, e4, e5, e6]
  exact h
theorem both_cg {K K' : Nat → Nat → Prop} (h : ∀ f w, f < 2 → w < 16 → (K f w ↔ K' f w)) : both K ↔ both K' := by
  constructor
  · rintro ⟨w, h1, h2, h3⟩; exact ⟨w, h1, (h 0 w (by omega) h1).mp h2, (h 1 w (by omega) h1).mp h3⟩
  · rintro ⟨w, h1, h2, h3⟩; exact ⟨w, h1, (h 0 w (by omega) h1).mpr h2, (h 1 w (by omega) h1).mpr h3⟩
theorem Jr.cg {D : Nat → Nat → Nat} {K K' : Nat → Nat → Prop} {j : Int32} (hJ : Jr D K j) (h : ∀ f w, f < 2 → w < 16 → (K f w ↔ K' f w)) : Jr D K' j := by
  rcases hJ with ⟨a, b⟩ | a
  · exact Or.inl ⟨a, fun z => b ((both_cg h).mpr z)⟩
  · exact Or.inr a
theorem ckR.or {a : Nat → Int32} {K : Nat → Nat → Prop} {g u : Nat} (h : ckR a K) (hg : g < 2) (hu : u < 65536) : ckR (upd a g (a g ||| nI u)) (fun f x => K f x ∨ (f = g ∧ u.testBit x = true)) := by
  intro f hf
  obtain ⟨v, v1, v2, v3⟩ := h f hf
  by_cases e : f = g
  · subst e
    refine ⟨v ||| u, Nat.or_lt_two_pow (n := 16) v1 hu, ?_, fun x hx => ?_⟩
    · rw [upd_s, v2, bt_or]
    · rw [Nat.testBit_or, Bool.or_eq_true, v3 x hx]
      constructor
      · rintro (y | y)
        · exact Or.inl y
        · exact Or.inr ⟨rfl, y⟩
      · rintro (y | ⟨_, y⟩)
        · exact Or.inl y
        · exact Or.inr y
  · refine ⟨v, v1, ?_, fun x hx => ?_⟩
    · rw [upd_n _ _ e, v2]
    · rw [v3 x hx]
      constructor
      · exact Or.inl
      · rintro (y | ⟨y, _⟩)
        · exact y
        · exact absurd y e
theorem pw16 {h : Nat} (hh : h < 16) : 2 ^ h < 65536 := by
  have : 2 ^ h ≤ 2 ^ 15 := Nat.pow_le_pow_right (by decide) (by omega)
  omega
theorem nj_J {D : Nat → Nat → Nat} {σ : St} {K K' : Nat → Nat → Prop} {d : Nat} (hc : ckR (σ 54) K') (hJ : Jr D K (σ 47 10)) (hd : d ≤ 4000) (h1 : both K' → both (kd D (d + 1))) (h2 : ¬ both K → ¬ both (kd D d)) : ∃ σ' : St, fX7_noteJoined (nI d) σ = some (0, σ') ∧ oC σ σ' ∧ σ' 54 = σ 54 ∧ σ' 55 = σ 55 ∧ Jr D K' (σ' 47 10) := by
  unfold fX7_noteJoined
  rcases hJ with ⟨a, b⟩ | ⟨e, a1, a2, a3⟩
  · obtain ⟨b0, p1, p2, p3⟩ := hc 0 (by omega)
    obtain ⟨b1, q1, q2, q3⟩ := hc 1 (by omega)
    have hl : b0 &&& b1 < 65536 := Nat.lt_of_le_of_lt Nat.and_le_left p1
    rw [if_pos a, rd_e (show (0 : Int32) = nI 0 from rfl) (show 0 < 2 by decide) (by decide), rd_e (show (1 : Int32) = nI 1 from rfl) (show 1 < 2 by decide) (by decide), p2, q2, bt_and]
    by_cases z : b0 &&& b1 = 0
    · rw [if_pos (by rw [z]; rfl)]
      refine ⟨σ, rfl, oC.rf _, rfl, rfl, Or.inl ⟨a, ?_⟩⟩
      rintro ⟨w, w1, w2, w3⟩
      have : (b0 &&& b1).testBit w = true := by rw [Nat.testBit_and, (p3 w w1).mpr w2, (q3 w w1).mpr w3]; rfl
      rw [z, Nat.zero_testBit] at this
      cases this
    · rw [if_neg (show ¬ nI (b0 &&& b1) = 0 from fun q => z ((nI_eq (b := 0) (by omega) (by decide)).mp q))]
      refine ⟨up2 σ 47 10 (nI d), rfl, ⟨(Off.rf _ _).up (by decide) _ _, rfl, rfl⟩, rfl, rfl, ?_⟩
      rw [up2_s]
      obtain ⟨w, w1, w2⟩ := bt_ex (n := 16) z hl
      rw [Nat.testBit_and, Bool.and_eq_true] at w2
      exact Or.inr ⟨d, hd, rfl, h1 ⟨w, w1, (p3 w w1).mp w2.1, (q3 w w1).mp w2.2⟩, h2 b⟩
  · have n9 : ¬ σ 47 10 = -9 := fun q => by
      rw [a2] at q
      have := congrArg Int32.toInt q
      rw [nI_toInt (by omega), show (-9 : Int32).toInt = -9 from rfl] at this
      omega
    rw [if_neg n9]
    exact ⟨σ, rfl, oC.rf _, rfl, rfl, Or.inr ⟨e, a1, a2, a3⟩⟩
def Ks (D : Nat → Nat → Nat) (p s : Nat) : Nat → Nat → Prop := fun f h => kd D p f h ∨ ∃ k, k < s ∧ D 0 k = h ∧ D 1 k = f
theorem st_w {D : Nat → Nat → Nat} {τ : St} {p L : Nat} (hL : L ≤ 4000) (hnt : ∀ k, k < D 6 1 → ¬ (p ≤ D 5 k ∧ D 5 k < L)) : ∀ q s n (σ : St), s + q = D 6 0 → q < n → scD D σ τ → (∀ k, s ≤ k → k < D 6 0 → p ≤ D 2 k) → (∀ k, k < s → D 2 k ≤ L) → ckR (σ 54) (Ks D p s) → Jr D (Ks D p s) (σ 47 10) → ∃ (s' : Nat) (σ' : St), fX7_seeTill_b2 n (nI L) (nI s) σ = some (nI s', σ') ∧ oC σ σ' ∧ s' ≤ D 6 0 ∧ (∀ k, k < D 6 0 → (k < s' ↔ D 2 k ≤ L)) ∧ ckR (σ' 54) (Ks D p s') ∧ Jr D (Ks D p s') (σ' 47 10) := by
  intro q
  induction q with
  | zero =>
    intro s n σ hs hn hD hp hl hK hJ
    obtain ⟨b1, b2, c1, _⟩ := hD
    obtain ⟨n, rfl⟩ : ∃ q, n = q + 1 := ⟨n - 1, by omega⟩
    obtain rfl : s = D 6 0 := by omega
    refine ⟨D 6 0, σ, ?_, oC.rf _, Nat.le_refl _, fun k hk => ⟨fun _ => hl k hk, fun _ => hk⟩, hK, hJ⟩
    rw [fX7_seeTill_b2, c1, if_pos (nI_le (Nat.le_refl _) (by omega))]
  | succ q ih =>
    intro s n σ hs hn hD hp hl hK hJ
    obtain ⟨b1, b2, c1, _, _, _, c5, c6, _⟩ := id hD
    obtain ⟨n, rfl⟩ : ∃ q, n = q + 1 := ⟨n - 1, by omega⟩
    have l1 : ¬ nI (D 6 0) ≤ nI s := nI_ge (by omega) (by omega)
    obtain ⟨k1, _, k3, _, k5, _, k7, k8, k9⟩ := c5 s (by omega)
    rw [fX7_seeTill_b2, c1, if_neg l1, rd_nI (by omega) (by decide), k5]
    by_cases e : L < D 2 s
    · rw [if_pos (nI_lt e (by omega))]
      refine ⟨s, σ, rfl, oC.rf _, by omega, fun k hk => ⟨fun h => hl k h, fun h => ?_⟩, hK, hJ⟩
      rcases Nat.lt_or_ge k s with y | y
      · exact y
      · have := c6 s k y hk; omega
    · rw [if_neg (nI_nlt (by omega) (by omega)), rd_nI (by omega) (by decide), k3, rd_nI (by omega) (by decide), rd_nI (by omega) (by decide), k1, wr_nI (by omega) (by decide), bt_shl _ (by omega), rd_nI (by omega) (by decide)]
      have k5' : up2 σ 54 (D 1 s) (σ 54 (D 1 s) ||| nI (2 ^ D 0 s)) 50 s = nI (D 2 s) := k5
      rw [k5']
      have o1 : oC σ (up2 σ 54 (D 1 s) (σ 54 (D 1 s) ||| nI (2 ^ D 0 s))) := oC.o5 ((Off.rf _ _).up (by decide) _ _)
      have hK1 : ckR (up2 σ 54 (D 1 s) (σ 54 (D 1 s) ||| nI (2 ^ D 0 s)) 54) (Ks D p (s + 1)) := (hK.or k8 (pw16 k7)).cg (fun f w hf hw => by
        rw [Nat.testBit_two_pow, decide_eq_true_eq]
        constructor
        · rintro ((y | ⟨k, y1, y2⟩) | ⟨y1, y2⟩)
          · exact Or.inl y
          · exact Or.inr ⟨k, by omega, y2⟩
          · exact Or.inr ⟨s, by omega, y2, y1.symm⟩
        · rintro (y | ⟨k, y1, y2, y3⟩)
          · exact Or.inl (Or.inl y)
          · by_cases ek : k = s
            · subst ek; exact Or.inr ⟨y3.symm, y2⟩
            · exact Or.inl (Or.inr ⟨k, by omega, y2, y3⟩))
      have hps := hp s (Nat.le_refl _) (by omega)
      obtain ⟨σ2, z1, z2, z3, _, z5⟩ := nj_J (D := D) (K := Ks D p s) (d := D 2 s) hK1 hJ k9 (fun z => both_im (fun f w y => by
          rcases y with y | ⟨k, y1, rfl, rfl⟩
          · exact kd_mono _ (by omega) y
          · exact kd_see (by omega) (by have := c6 k s (by omega) (by omega); omega)) z) (fun nz z => nz (both_im (fun f w y => by
          rcases kd_l1 (D 2 s) hps (fun k hk h => hnt k hk (by omega)) y with y | ⟨k, y1, y2, y3, y4⟩
          · exact Or.inl y
          · refine Or.inr ⟨k, ?_, y3, y4⟩
            rcases Nat.lt_or_ge k s with y | y
            · exact y
            · have := c6 s k y y1; omega) z))
      rw [cal_e z1, nI_1]
      obtain ⟨s', σ', w1, w2, w3, w4, w5, w6⟩ := ih (s + 1) n σ2 (by omega) (by omega) (hD.offC (o1.tr z2)) (fun k h1 h2 => hp k (by omega) h2) (fun k hk => by
        by_cases ek : k = s
        · subst ek; omega
        · exact hl k (by omega)) (by rw [z3]; exact hK1) z5
      exact ⟨s', σ', w1, (o1.tr z2).tr w2, w3, w4, w5, w6⟩
theorem bt_two {b0 a b : Nat} : b0 &&& (2 ^ a ||| 2 ^ b) = 0 ↔ ¬ (b0.testBit a = true ∨ b0.testBit b = true) := by
  constructor
  · intro z h
    have h2 : ∀ i, (b0 &&& (2 ^ a ||| 2 ^ b)).testBit i = false := fun i => by rw [z, Nat.zero_testBit]
    rcases h with h | h
    · have := h2 a
      rw [Nat.testBit_and, Nat.testBit_or, Nat.testBit_two_pow, h] at this
      simp at this
    · have := h2 b
      rw [Nat.testBit_and, Nat.testBit_or, Nat.testBit_two_pow, Nat.testBit_two_pow, h] at this
      simp at this
  · intro h
    apply Nat.eq_of_testBit_eq
    intro i
    rw [Nat.testBit_and, Nat.testBit_or, Nat.testBit_two_pow, Nat.testBit_two_pow, Nat.zero_testBit]
    by_cases e1 : a = i
    · subst e1
      have : b0.testBit a = false := by
        cases z : b0.testBit a
        · rfl
        · exact absurd (Or.inl z) h
      rw [this]; rfl
    · by_cases e2 : b = i
      · subst e2
        have : b0.testBit b = false := by
          cases z : b0.testBit b
          · rfl
          · exact absurd (Or.inr z) h
        rw [this]; rfl
      · simp [e1, e2]
theorem ex_w {K K0 : Nat → Nat → Prop} {a b : Nat} (ha : a < 16) (hb : b < 16) : ∀ q c n (σ : St), c + q = 2 → q < n → ckR (σ 55) K0 → ckR (σ 54) (fun f h => K f h ∨ (f < c ∧ (h = a ∨ h = b) ∧ (K0 f a ∨ K0 f b))) → ∃ σ' : St, fX7_exchange_b11 n (nI (2 ^ a ||| 2 ^ b)) (nI c) σ = some (0, σ') ∧ Off [54] σ σ' ∧ ckR (σ' 54) (fun f h => K f h ∨ ((h = a ∨ h = b) ∧ (K0 f a ∨ K0 f b))) := by
  intro q
  induction q with
  | zero =>
    intro c n σ hc hn h0 hK
    obtain ⟨n, rfl⟩ : ∃ q, n = q + 1 := ⟨n - 1, by omega⟩
    obtain rfl : c = 2 := by omega
    refine ⟨σ, ?_, Off.rf _ _, hK.cg (fun f w hf hw => ?_)⟩
    · rw [fX7_exchange_b11, if_pos (show (2 : Int32) ≤ nI 2 from nI_le (a := 2) (Nat.le_refl _) (by omega))]
    · constructor
      · rintro (y | ⟨_, y⟩)
        · exact Or.inl y
        · exact Or.inr y
      · rintro (y | y)
        · exact Or.inl y
        · exact Or.inr ⟨hf, y⟩
  | succ q ih =>
    intro c n σ hc hn h0 hK
    obtain ⟨n, rfl⟩ : ∃ q, n = q + 1 := ⟨n - 1, by omega⟩
    have l1 : ¬ (2 : Int32) ≤ nI c := nI_ge (b := 2) (by omega) (by decide)
    obtain ⟨u, u1, u2, u3⟩ := h0 c (by omega)
    have hu : u &&& (2 ^ a ||| 2 ^ b) < 65536 := Nat.lt_of_le_of_lt Nat.and_le_left u1
    rw [fX7_exchange_b11, if_neg l1, rd_nI (by omega) (by decide), u2, bt_and, nI_1]
    by_cases z : u &&& (2 ^ a ||| 2 ^ b) = 0
    · rw [if_pos (by rw [z]; rfl)]
      rw [bt_two] at z
      refine ih (c + 1) n σ (by omega) (by omega) h0 (hK.cg (fun f w hf hw => ?_))
      constructor
      · rintro (y | ⟨y1, y2⟩)
        · exact Or.inl y
        · exact Or.inr ⟨by omega, y2⟩
      · rintro (y | ⟨y1, y2, y3⟩)
        · exact Or.inl y
        · by_cases ef : f = c
          · subst ef
            exact absurd (y3.elim (fun y => Or.inl ((u3 a ha).mpr y)) (fun y => Or.inr ((u3 b hb).mpr y))) z
          · exact Or.inr ⟨by omega, y2, y3⟩
    · rw [if_neg (show ¬ nI (u &&& (2 ^ a ||| 2 ^ b)) = 0 from fun q => z ((nI_eq (b := 0) (by omega) (by decide)).mp q)), rd_nI (by omega) (by decide), wr_nI (by omega) (by decide)]
      have z' : u.testBit a = true ∨ u.testBit b = true := by
        rw [bt_two] at z
        exact Classical.not_not.mp z
      have z'' : K0 c a ∨ K0 c b := z'.elim (fun y => Or.inl ((u3 a ha).mp y)) (fun y => Or.inr ((u3 b hb).mp y))
      obtain ⟨σ', w1, w2, w3⟩ := ih (c + 1) n (up2 σ 54 c (σ 54 c ||| nI (2 ^ a ||| 2 ^ b))) (by omega) (by omega) h0 ((hK.or (by omega) (Nat.or_lt_two_pow (n := 16) (pw16 ha) (pw16 hb))).cg (fun f w hf hw => by
        rw [Nat.testBit_or, Nat.testBit_two_pow, Nat.testBit_two_pow, Bool.or_eq_true, decide_eq_true_eq, decide_eq_true_eq]
        constructor
        · rintro ((y | ⟨y1, y2⟩) | ⟨y1, y2⟩)
          · exact Or.inl y
          · exact Or.inr ⟨by omega, y2⟩
          · subst y1; exact Or.inr ⟨by omega, y2.elim (fun y => Or.inl y.symm) (fun y => Or.inr y.symm), z''⟩
        · rintro (y | ⟨y1, y2, y3⟩)
          · exact Or.inl (Or.inl y)
          · by_cases ef : f = c
            · exact Or.inr ⟨ef, y2.elim (fun y => Or.inl y.symm) (fun y => Or.inr y.symm)⟩
            · exact Or.inl (Or.inr ⟨by omega, y2, y3⟩)))
      exact ⟨σ', w1, ((Off.rf [54] σ).up (by decide) _ _).tr w2, w3⟩
theorem ex_v {K K0 : Nat → Nat → Prop} {a b : Nat} (ha : a < 16) (hb : b < 16) {σ : St} (h0 : ckR (σ 55) K0) (hK : ckR (σ 54) K) : ∃ σ' : St, fX7_exchange (nI a) (nI b) σ = some (0, σ') ∧ Off [54] σ σ' ∧ ckR (σ' 54) (fun f h => K f h ∨ ((h = a ∨ h = b) ∧ (K0 f a ∨ K0 f b))) := by
  unfold fX7_exchange
  rw [bt_shl _ (by omega), bt_shl _ (by omega), bt_or, lt_e]
  exact ex_w ha hb 2 0 FU σ rfl (fu_lt (by omega)) h0 (hK.cg (fun f w _ _ => ⟨Or.inl, fun h => h.elim id (fun h => absurd h.1 (by omega))⟩))
