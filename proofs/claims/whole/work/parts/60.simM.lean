/-- knows, joined, leak -/
theorem Inv.scs {σ τ σ' τ' : St} (h : Inv σ τ) (o : oC σ σ') (o' : Off [40, 41] τ τ') : Inv σ' τ' := by
  obtain ⟨dn, nb, np, hh, nw, nj, ns, nt, nd, h⟩ := h
  obtain ⟨hσ, o8, o9⟩ := o
  refine ⟨dn, nb, np, hh, nw, nj, ns, nt, nd, ?_⟩
  have hτ : Off scM τ τ' := o'.mono (by decide)
  unfold InvP at h ⊢
  rw [hσ 1 (by decide), hσ 0 (by decide), hσ 3 (by decide), hσ 2 (by decide), hσ 4 (by decide), hσ 5 (by decide), hσ 6 (by decide), hσ 7 (by decide), hσ 8 (by decide), hσ 9 (by decide), hσ 10 (by decide), hσ 11 (by decide), hσ 12 (by decide), hσ 13 (by decide), hσ 14 (by decide), hσ 16 (by decide), hσ 17 (by decide), hσ 15 (by decide), hσ 21 (by decide), hσ 22 (by decide), hσ 23 (by decide), hσ 24 (by decide), hσ 27 (by decide), hσ 32 (by decide), hσ 33 (by decide), hσ 35 (by decide), hσ 36 (by decide), hσ 37 (by decide), hσ 39 (by decide), o8, o9, hσ 48 (by decide), hσ 49 (by decide), hσ 50 (by decide), hσ 51 (by decide), hσ 52 (by decide), hσ 53 (by decide), hσ 56 (by decide), hσ 57 (by decide), hσ 58 (by decide), hσ 59 (by decide),
    hτ 1 (by decide), hτ 0 (by decide), hτ 2 (by decide), hτ 3 (by decide), hτ 4 (by decide), hτ 5 (by decide), hτ 6 (by decide), hτ 7 (by decide), hτ 8 (by decide), hτ 9 (by decide), hτ 10 (by decide), hτ 11 (by decide), hτ 12 (by decide), hτ 13 (by decide), hτ 14 (by decide), hτ 15 (by decide), hτ 16 (by decide), hτ 20 (by decide), hτ 21 (by decide), hτ 24 (by decide), hτ 25 (by decide), hτ 27 (by decide), hτ 28 (by decide), hτ 34 (by decide), hτ 35 (by decide), hτ 36 (by decide), hτ 37 (by decide), hτ 38 (by decide), hτ 39 (by decide), hτ 42 (by decide), hτ 43 (by decide), hτ 44 (by decide)]
  exact h
def mkD (ns nt : Nat) (hn fn sn an bn tn : Nat → Nat) (out : Nat) : Nat → Nat → Nat
  | 0 => hn
  | 1 => fn
  | 2 => sn
  | 3 => an
  | 4 => bn
  | 5 => tn
  | _ => fun i => if i = 0 then ns else if i = 1 then nt else out
theorem sc_get {σ τ : St} (hI : Inv σ τ) : ∃ (nt : Nat) (E : Nat → Nat → Nat → Nat), nt ≤ 60 ∧ σ 47 9 = nI nt ∧ τ 0 23 = nI nt ∧ ∀ out, scD (E out) σ τ ∧ E out 6 2 = out := by
  obtain ⟨dn, nb, np, hh, nw, nj, ns, nt, nd, g1, g2, g3, g4, g5, g6, g7, g8, g9, g10, g11, ⟨t1, t2, t3, t4, t5, t6, hn, fn, sn, an, bn, tn, t7, t8, t9, t10, t11⟩, g13⟩ := id hI
  have hdn : dn ≤ 4000 := g2.1
  refine ⟨nt, mkD ns nt hn fn sn an bn tn, t4, t5, t6, fun out => ⟨⟨t1, t4, t2, t3, t5, t6, ?_, t9, ?_, t11⟩, rfl⟩⟩
  · intro k hk
    obtain ⟨a1, a2, a3, a4, a5, a6, a7, a8, a9⟩ := t7 k hk
    exact ⟨a1, a2, a3, a4, a5, a6, a7, a8, Nat.le_trans a9 hdn⟩
  · intro k hk
    obtain ⟨a1, a2, a3, a4, a5, a6, a7, a8, a9⟩ := t10 k hk
    exact ⟨a1, a2, a3, a4, a5, a6, a7, a8, Nat.le_trans a9 hdn⟩
theorem sc_n9 {k : Nat} (h : k < 2 ^ 31) : ¬ nI k = -9 := fun q => by
  have := congrArg Int32.toInt q
  rw [nI_toInt h, show (-9 : Int32).toInt = -9 from rfl] at this
  omega
theorem sc_n1 {k : Nat} (h : k < 2 ^ 31) : ¬ nI k = -1 := fun q => by
  have := congrArg Int32.toInt q
  rw [nI_toInt h, show (-1 : Int32).toInt = -1 from rfl] at this
  omega
theorem tellB {σ τ : St} (hI : Inv σ τ) : ∃ (D : Nat → Nat → Nat) (r0 r : Int32) (σ' τ' : St), fX7_retell (-9) σ = some (r0, σ') ∧ fX11_tells (-1) τ = some (r, τ') ∧ oC σ σ' ∧ Off [40, 41] τ τ' ∧ ckR (σ' 54) (kd D 4001) ∧ mkR (τ' 40) (kd D 4001) ∧ Jr D (kd D 4001) r ∧ σ' 47 10 = r := by
  obtain ⟨nt, E, _, _, _, hE⟩ := sc_get hI
  have e := (hE 60).2
  obtain ⟨r0, σ', a1, a2, a3, a4⟩ := retell_v (hE 60).1 (X := -9) (fun k hk => by rw [e]; exact ⟨fun q => absurd q (sc_n9 (by omega)), fun q => by omega⟩)
  obtain ⟨r, τ', b1, b2, b3, b4⟩ := tells_v (hE 60).1 (x1 := -1) (fun k hk => by rw [e]; exact ⟨fun q => absurd q (sc_n1 (by omega)), fun q => by omega⟩)
  exact ⟨E 60, r0, r, σ', τ', a1, b1, a2, b2, a3, b3, b4, Jr_same a4 b4⟩
theorem bit_v {m c : Nat} (hm : m < 2 ^ 31) (hc : c < 31) : ((nI m >>> (nI c &&& 31)) &&& 1) = if m.testBit c = true then 1 else 0 := by
  by_cases h : m.testBit c = true
  · rw [if_pos h]; exact (bt_hm hm hc).mpr h
  · have h1 : m / 2 ^ c < 2 ^ 32 := Nat.lt_of_le_of_lt (Nat.div_le_self _ _) (by omega)
    rw [if_neg h, pk_shrN hm _ c (bt_sm c hc), pk_andN h1 1 (by decide)]
    rw [Nat.testBit_eq_decide_div_mod_eq, decide_eq_true_eq] at h
    have h2 := Nat.mod_lt (m / 2 ^ c) (show 2 ^ 1 > 0 by decide)
    rw [show m / 2 ^ c % 2 ^ 1 = 0 by omega]
    rfl
theorem sim_knows {σ τ : St} (hI : Inv σ τ) (x1 : Int32) : ∃ (r : Int32) (σ1 τ1 : St), fX10_knows x1 σ = some (r, σ1) ∧ fX11_knows x1 τ = some (r, τ1) ∧ Inv σ1 τ1 := by
  unfold fX10_knows fX11_knows
  by_cases h1 : x1 < 0 ∨ (16 : Int32) ≤ x1
  · rw [wi_f h1, is_f h1]; exact fin1 hI
  rw [wi_t h1, is_t h1]
  obtain ⟨w, hw, rfl⟩ := ix_of (N := 16) rfl (by decide) h1
  obtain ⟨D, r0, r, σ', τ', a1, a2, a3, a4, a5, a6, a7, a8⟩ := tellB hI
  obtain ⟨b0, p1, p2, p3⟩ := a5 0 (by omega)
  obtain ⟨b1, q1, q2, q3⟩ := a5 1 (by omega)
  obtain ⟨v, v1, v2, v3⟩ := a6 w hw
  have t0 := (p3 w hw).trans (v3 0 (by omega)).symm
  have t1 := (q3 w hw).trans (v3 1 (by omega)).symm
  have t3 : ∀ v, v < 4 → (if v.testBit 0 = true then (1 : Int32) else 0) + 2 * (if v.testBit 1 = true then (1 : Int32) else 0) = nI v := by decide
  have hk : fX7_knownBy (nI w) σ' = some (nI v, σ') := by
    unfold fX7_knownBy
    rw [rd_e (show (0 : Int32) = nI 0 from rfl) (show 0 < 2 by decide) (by decide), rd_e (show (1 : Int32) = nI 1 from rfl) (show 1 < 2 by decide) (by decide), p2, q2, bit_v (by omega) (by omega), bit_v (by omega) (by omega), ← t3 v v1]
    by_cases z0 : b0.testBit w = true
    · by_cases z1 : b1.testBit w = true
      · rw [if_pos z0, if_pos z1, if_pos (t0.mp z0), if_pos (t1.mp z1)]
      · rw [if_pos z0, if_neg z1, if_pos (t0.mp z0), if_neg (fun q => z1 (t1.mpr q))]
    · by_cases z1 : b1.testBit w = true
      · rw [if_neg z0, if_pos z1, if_neg (fun q => z0 (t0.mpr q)), if_pos (t1.mp z1)]
      · rw [if_neg z0, if_neg z1, if_neg (fun q => z0 (t0.mpr q)), if_neg (fun q => z1 (t1.mpr q))]
  rw [cal_e a1, cal_e a2, cal_e hk, rd_nI hw (by decide), v2]
  exact ⟨_, σ', τ', rfl, rfl, hI.scs a3 a4⟩
theorem sim_joined {σ τ : St} (hI : Inv σ τ) : ∃ (r : Int32) (σ1 τ1 : St), fX10_joined σ = some (r, σ1) ∧ fX11_joined τ = some (r, τ1) ∧ Inv σ1 τ1 := by
  unfold fX10_joined fX11_joined
  obtain ⟨D, r0, r, σ', τ', a1, a2, a3, a4, a5, a6, a7, a8⟩ := tellB hI
  rw [cal_e a1, cal_e a2, a8]
  exact ⟨_, σ', τ', rfl, rfl, hI.scs a3 a4⟩
theorem Jr_pos {D : Nat → Nat → Nat} {K : Nat → Nat → Prop} {j : Int32} (h : Jr D K j) : (0 : Int32) ≤ j ↔ ¬ j = -9 := by
  rcases h with ⟨a, _⟩ | ⟨e, a, b, _⟩
  · rw [a]; decide
  · rw [b]; exact ⟨fun _ => sc_n9 (by omega), fun _ => nI_pos' (by omega)⟩
theorem leak_w {nt : Nat} {E : Nat → Nat → Nat → Nat} (hnt : nt ≤ 60) : ∀ q k n n' (σ τ : St), k + q = nt → q < n → q < n' → σ 47 9 = nI nt → τ 0 23 = nI nt → (∀ out, scD (E out) σ τ ∧ E out 6 2 = out) → ∃ (r : Int32) (σ' τ' : St), fX7_firstLeak_b20 n (nI k) σ = some (r, σ') ∧ fX11_leak_b13 n' (nI k) τ = some (r, τ') ∧ oC σ σ' ∧ Off [40, 41] τ τ' := by
  intro q
  induction q with
  | zero =>
    intro k n n' σ τ hk hn hn' e1 e2 hE
    obtain ⟨n, rfl⟩ : ∃ q, n = q + 1 := ⟨n - 1, by omega⟩
    obtain ⟨n', rfl⟩ : ∃ q, n' = q + 1 := ⟨n' - 1, by omega⟩
    have l1 : nI nt ≤ nI k := nI_le (by omega) (by omega)
    refine ⟨-9, σ, τ, ?_, ?_, oC.rf _, Off.rf _ _⟩
    · rw [fX7_firstLeak_b20, e1, if_pos l1]
    · rw [fX11_leak_b13, e2, if_pos l1]
  | succ q ih =>
    intro k n n' σ τ hk hn hn' e1 e2 hE
    obtain ⟨n, rfl⟩ : ∃ q, n = q + 1 := ⟨n - 1, by omega⟩
    obtain ⟨n', rfl⟩ : ∃ q, n' = q + 1 := ⟨n' - 1, by omega⟩
    have l1 : ¬ nI nt ≤ nI k := nI_ge (by omega) (by omega)
    have hX : ∀ j, j < 60 → (nI j = nI k ↔ j = E k 6 2) := fun j hj => by rw [(hE k).2]; exact nI_eq (by omega) (by omega)
    obtain ⟨r0, σ1, a1, a2, a3, a4⟩ := retell_v (hE k).1 hX
    obtain ⟨r, τ1, b1, b2, b3, b4⟩ := tells_v (hE k).1 hX
    have e := Jr_same a4 b4
    have hp := Jr_pos b4
    rw [fX7_firstLeak_b20, e1, if_neg l1, cal_e a1, fX11_leak_b13, e2, if_neg l1, cal_e b1, e, nI_1]
    by_cases z : r = -9
    · rw [if_pos z, if_neg (fun q => hp.mp q z)]
      exact ⟨nI k, σ1, τ1, rfl, rfl, a2, b2⟩
    · rw [if_neg z, if_pos (hp.mpr z)]
      obtain ⟨r', σ', τ', w1, w2, w3, w4⟩ := ih (k + 1) n n' σ1 τ1 (by omega) (by omega) (by omega) (a2.2.2.trans e1) (by rw [b2 0 (by decide)]; exact e2) (fun out => ⟨((hE out).1.offC a2).offM b2, (hE out).2⟩)
      exact ⟨r', σ', τ', w1, w2, a2.tr w3, b2.tr w4⟩
theorem sim_leak {σ τ : St} (hI : Inv σ τ) : ∃ (r : Int32) (σ1 τ1 : St), fX10_leak σ = some (r, σ1) ∧ fX11_leak τ = some (r, τ1) ∧ Inv σ1 τ1 := by
  unfold fX10_leak fX11_leak fX7_firstLeak
  obtain ⟨D, r0, r, σ', τ', a1, a2, a3, a4, a5, a6, a7, a8⟩ := tellB hI
  have hI' : Inv σ' τ' := hI.scs a3 a4
  obtain ⟨nt, E, t1, t2, t3, hE⟩ := sc_get hI'
  have hp := Jr_pos a7
  rw [cal_e a1, cal_e a2, a8]
  by_cases z : r = -9
  · rw [if_pos z, if_neg (fun q => hp.mp q z)]
    exact ⟨-9, σ', τ', rfl, rfl, hI'⟩
  · rw [if_neg z, if_pos (hp.mpr z)]
    obtain ⟨r', σ2, τ2, w1, w2, w3, w4⟩ := leak_w t1 nt 0 FU FU σ' τ' (by omega) (fu_lt (by omega)) (fu_lt (by omega)) t2 t3 hE
    exact ⟨r', σ2, τ2, cal_e w1, w2, hI'.scs w3 w4⟩
