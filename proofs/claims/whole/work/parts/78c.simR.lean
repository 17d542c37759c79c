/-! ===== Stacking: what fits where, on both sides; best, bestPlace, lay ===== -/
def fitQ (σ : St) (q x : Nat) : Prop := σ 17 x = -9 ∧ ¬ (σ 20 x < σ 3 (4 * q + 2) ∨ σ 3 (4 * q + 3) < σ 20 x)
theorem pt_w {σ : St} {q : Nat} (hq : q < 6) : ∀ r p n m, p + r = 12 → r < n → m < 4096 → (∀ x, x < 12 → (m.testBit x = true ↔ (x < p ∧ fitQ σ q x))) → ∃ m', fX10_placesThatFire_b4 n (nI q) (nI m) (nI p) σ = some (nI m', σ) ∧ m' < 4096 ∧ ∀ x, x < 12 → (m'.testBit x = true ↔ fitQ σ q x) := by
  intro r
  induction r with
  | zero =>
    intro p n m hp hn hm hv
    obtain ⟨n, rfl⟩ : ∃ q, n = q + 1 := ⟨n - 1, by omega⟩
    obtain rfl : p = 12 := by omega
    refine ⟨m, by rw [fX10_placesThatFire_b4, if_pos (show (12 : Int32) ≤ nI 12 from nI_le (Nat.le_refl 12) (by decide))], hm, fun x hx => ?_⟩
    rw [hv x hx]
    exact ⟨fun z => z.2, fun z => ⟨hx, z⟩⟩
  | succ r ih =>
    intro p n m hp hn hm hv
    obtain ⟨n, rfl⟩ : ∃ q, n = q + 1 := ⟨n - 1, by omega⟩
    have l1 : ¬ (12 : Int32) ≤ nI p := by
      rw [show (12 : Int32) = nI 12 from rfl]; exact nI_ge (by omega) (by decide)
    have skip : ¬ fitQ σ q p → ∀ x, x < 12 → (m.testBit x = true ↔ (x < p + 1 ∧ fitQ σ q x)) := fun hf x hx => by
      rw [hv x hx]
      constructor
      · intro z; exact ⟨by omega, z.2⟩
      · intro z
        refine ⟨?_, z.2⟩
        have : x ≠ p := fun y => hf (by rw [← y]; exact z.2)
        omega
    rw [fX10_placesThatFire_b4, if_neg l1, rd_nI (by omega) (by decide), nI_1]
    by_cases c1 : σ 17 p = -9
    · rw [if_pos c1, rd_nI (by omega) (by decide), cal_e (bears_v hq _)]
      by_cases c2 : σ 20 p < σ 3 (4 * q + 2) ∨ σ 3 (4 * q + 3) < σ 20 p
      · rw [if_pos c2, if_pos rfl]
        exact ih (p + 1) n m (by omega) (by omega) hm (skip (fun z => z.2 c2))
      · rw [if_neg c2, if_neg (show ¬ (1 : Int32) = 0 by decide), lt_e, bt_shl p (by omega), bt_or]
        refine ih (p + 1) n (m ||| 2 ^ p) (by omega) (by omega) (Nat.or_lt_two_pow (n := 12) hm (Nat.pow_lt_pow_right (by decide) (by omega))) (fun x hx => ?_)
        rw [st_or_bit, Bool.or_eq_true, hv x hx, decide_eq_true_eq]
        constructor
        · intro z
          rcases z with z | z
          · exact ⟨by omega, z.2⟩
          · rw [← z]; exact ⟨by omega, c1, c2⟩
        · intro z
          by_cases e : p = x
          · exact Or.inr e
          · exact Or.inl ⟨by omega, z.2⟩
    · rw [if_neg c1]
      exact ih (p + 1) n m (by omega) (by omega) hm (skip (fun z => c1 z.1))
theorem lf_w {σ0 : St} {nw : Nat} {tn qn : Nat → Nat} (h8 : nw ≤ 8) (h22 : σ0 22 8 = nI nw) (ht : ∀ j, j < nw → σ0 23 j = nI (tn j) ∧ tn j < 80 ∧ σ0 8 (tn j) = nI (qn j) ∧ qn j < 6) : ∀ r i n (σ : St), i + r = nw → r < n → Off [25] σ0 σ → (∀ j, j < i → ∃ m, m < 4096 ∧ σ 25 j = nI m ∧ ∀ x, x < 12 → (m.testBit x = true ↔ fitQ σ0 (qn j) x)) → ∃ σ' : St, fX10_learnFits_b16 n (nI i) σ = some (0, σ') ∧ Off [25] σ0 σ' ∧ ∀ j, j < nw → ∃ m, m < 4096 ∧ σ' 25 j = nI m ∧ ∀ x, x < 12 → (m.testBit x = true ↔ fitQ σ0 (qn j) x) := by
  intro r
  induction r with
  | zero =>
    intro i n σ hi hn ho hv
    obtain ⟨n, rfl⟩ : ∃ q, n = q + 1 := ⟨n - 1, by omega⟩
    obtain rfl : i = nw := by omega
    exact ⟨σ, by rw [fX10_learnFits_b16, ho 22 (by decide), h22, if_pos (nI_le (Nat.le_refl _) (by omega))], ho, hv⟩
  | succ r ih =>
    intro i n σ hi hn ho hv
    obtain ⟨n, rfl⟩ : ∃ q, n = q + 1 := ⟨n - 1, by omega⟩
    have l1 : ¬ nI nw ≤ nI i := nI_ge (by omega) (by omega)
    obtain ⟨t1, t2, t3, t4⟩ := ht i (by omega)
    have ef : ∀ x, (fitQ σ (qn i) x ↔ fitQ σ0 (qn i) x) := fun x => by
      unfold fitQ
      rw [ho 17 (by decide), ho 20 (by decide), ho 3 (by decide)]
    obtain ⟨m, m1, m2, m3⟩ := pt_w (σ := σ) t4 12 0 FU 0 (by omega) (fu_lt (by decide)) (by decide) (fun x hx => by
      rw [Nat.zero_testBit]
      constructor
      · intro z; cases z
      · intro z; omega)
    have m1' : fX10_placesThatFire (nI (qn i)) σ = some (nI m, σ) := by
      unfold fX10_placesThatFire; exact m1
    rw [fX10_learnFits_b16, ho 22 (by decide), h22, if_neg l1, rd_nI (by omega) (by decide), ho 23 (by decide), t1, rd_nI (by omega) (by decide), ho 8 (by decide), t3, cal_e m1', wr_nI (by omega) (by decide), nI_1]
    refine ih (i + 1) n (up2 σ 25 i (nI m)) (by omega) (by omega) (ho.up (by decide) _ _) (fun j hj => ?_)
    by_cases e : j = i
    · subst e
      refine ⟨m, m2, up2_s _ _ _ _, fun x hx => ?_⟩
      rw [m3 x hx]; exact ef x
    · rw [up2_i _ _ _ _ _ e]; exact hv j (by omega)
theorem bt_h0 {m c : Nat} (hm : m < 2 ^ 31) (hc : c < 31) : ((nI m >>> (nI c &&& 31)) &&& 1) = 0 ↔ m.testBit c = false := by
  have h1 : m / 2 ^ c < 2 ^ 32 := Nat.lt_of_le_of_lt (Nat.div_le_self _ _) (by omega)
  have h3 := bt_hm hm hc
  have e : (nI m >>> (nI c &&& 31)) &&& 1 = nI (m / 2 ^ c % 2 ^ 1) := by
    rw [pk_shrN hm _ c (bt_sm c hc), pk_andN h1 1 (by decide)]
  have h2 := Nat.mod_lt (m / 2 ^ c) (show 2 ^ 1 > 0 by decide)
  rw [e] at h3 ⊢
  rcases (show m / 2 ^ c % 2 ^ 1 = 0 ∨ m / 2 ^ c % 2 ^ 1 = 1 by omega) with z | z
  · rw [z] at h3 ⊢
    constructor
    · intro _
      cases hb : m.testBit c with
      | false => rfl
      | true =>
        have := h3.mpr hb
        exact absurd this (by decide)
    · intro _; rfl
  · rw [z] at h3 ⊢
    constructor
    · intro y; exact absurd y (by decide)
    · intro y
      have := h3.mp rfl
      rw [y] at this; cases this
theorem fits_sim {dn nb np hh nw nj ns nt nd : Nat} {σ τ : St} (hP : InvP dn nb np hh nw nj ns nt nd σ τ) : ∃ (σ' τ' : St) (fm w ord : Nat → Nat), fX10_learnFits σ = some (0, σ') ∧ fX11_finds τ = fX11_finds_b14 FU 4096 0 τ' ∧ Off [18, 19, 20, 25] σ σ' ∧ Off [17, 18, 19] τ τ' ∧ stD fm w ord nw σ' ∧ stM fm w nw τ' := by
  obtain ⟨g1, g2, g3, ⟨b1, b2, b3, b4⟩, ⟨p1, p2, p3, p4, p5⟩, g6, g7, g8, ⟨s1, s2, s3, tn, w, ord, s4, s5, s6, s7⟩, g10, g11, g12, g13⟩ := id hP
  obtain ⟨σ1, τ1, H, K, a1, a2, a3, a4, a5⟩ := burn_sim hP (Nat.le_refl hh)
  have hq : ∀ j, j < nw → ∃ b q, b < 20 ∧ q < 6 ∧ τ 6 (tn j) = nI b ∧ τ 3 b = nI q ∧ σ 8 (tn j) = nI q := fun j hj => by
    obtain ⟨⟨b, c1, c2, c3⟩, _⟩ := p5 (tn j) (s4 j hj).2.2.1
    obtain ⟨e1, ⟨q, e2, e3⟩, _⟩ := b4 b (by omega)
    exact ⟨b, q, by omega, e2, c2, by rw [← e1]; exact e3, by rw [c3, ← e1]; exact e3⟩
  have hq' : ∀ j, j < nw → σ 8 (tn j) = nI (σ 8 (tn j)).toNatClampNeg ∧ (σ 8 (tn j)).toNatClampNeg < 6 := fun j hj => by
    obtain ⟨b, q, _, e2, _, _, e5⟩ := hq j hj
    rw [e5, nI_clamp (by omega)]; exact ⟨rfl, e2⟩
  obtain ⟨σ2, c1, c2, c3⟩ := lf_w (σ0 := σ1) (nw := nw) (tn := tn) (qn := fun j => (σ 8 (tn j)).toNatClampNeg) s1 (by rw [a3 22 (by decide)]; exact s2) (fun j hj => by
    have := (s4 j hj).2.2.1
    refine ⟨by rw [a3 23 (by decide)]; exact (s4 j hj).1, by omega, ?_, (hq' j hj).2⟩
    rw [a3 8 (by decide)]; exact (hq' j hj).1) nw 0 FU σ1 (by omega) (fu_lt (by omega)) (Off.rf _ _) (fun j hj => by omega)
  have c1' : fX10_learnFits σ = some (0, σ2) := by
    unfold fX10_learnFits
    rw [g8.2.1, cal_e a1]; exact c1
  have c2' : fX11_finds τ = fX11_finds_b14 FU 4096 0 τ1 := by
    unfold fX11_finds
    rw [g8.2.2.1, cal_e a2]
  have hfm : ∀ j, j < nw → σ2 25 j = nI (σ2 25 j).toNatClampNeg ∧ (σ2 25 j).toNatClampNeg < 4096 ∧ ∀ x, x < 12 → (((σ2 25 j).toNatClampNeg).testBit x = true ↔ fitQ σ1 (σ 8 (tn j)).toNatClampNeg x) := fun j hj => by
    obtain ⟨m, m1, m2, m3⟩ := c3 j hj
    rw [m2, nI_clamp (by omega)]
    exact ⟨rfl, m1, m3⟩
  refine ⟨σ2, τ1, fun j => (σ2 25 j).toNatClampNeg, w, ord, c1', c2', (a3.mono (by decide)).tr (c2.mono (by decide)), a4, ?_, ?_⟩
  · refine ⟨s1, ?_, fun j hj => ⟨(hfm j hj).1, (hfm j hj).2.1, ?_, (s4 j hj).2.2.2.2.2⟩, fun k hk => ⟨?_, (s5 k hk).1⟩, s6, s7⟩
    · rw [c2 22 (by decide), a3 22 (by decide)]; exact s2
    · rw [c2 24 (by decide), a3 24 (by decide)]; exact (s4 j hj).2.2.2.1
    · rw [c2 27 (by decide), a3 27 (by decide)]; exact (s5 k hk).2
  · refine ⟨s1, by rw [a4 0 (by decide)]; exact s3, fun j hj => ⟨by rw [a4 21 (by decide)]; exact (s4 j hj).2.2.2.2.1, (s4 j hj).2.2.2.2.2⟩, fun τ2 ho i p S hi hp hS => ?_⟩
    have off : ∀ c, c ∉ [22, 23] → c ∉ [17, 18, 19] → τ2 c = τ c := fun c h1 h2 => (ho c h1).trans (a4 c h2)
    obtain ⟨b, q, q1, q2, q3, q4, q5⟩ := hq i hi
    have eq : (σ 8 (tn i)).toNatClampNeg = q := by rw [q5, nI_clamp (by omega)]
    have hf := (hfm i hi).2.2 p hp
    rw [eq] at hf
    have t80 : tn i < 80 := by have := (s4 i hi).2.2.1; omega
    have mb := mbears_v (τ := τ2) t80 q1 q2 hp (by rw [off 6 (by decide) (by decide)]; exact q3) (by rw [off 3 (by decide) (by decide)]; exact q4)
    have e19 : τ2 19 p = nI (K p) := by rw [ho 19 (by decide)]; exact (a5 p hp).2.2.2.2.1
    have e2a : τ2 2 (4 * q + 2) = σ 3 (4 * q + 2) := by rw [off 2 (by decide) (by decide)]; exact (g3 _ (by omega)).1.symm
    have e2b : τ2 2 (4 * q + 3) = σ 3 (4 * q + 3) := by rw [off 2 (by decide) (by decide)]; exact (g3 _ (by omega)).1.symm
    rw [e19, e2a, e2b] at mb
    unfold fitQ at hf
    rw [a3 17 (by decide), (a5 p hp).2.2.2.1, a3 3 (by decide)] at hf
    unfold fX11_mayLie st_ok
    by_cases c0 : S.testBit p = true
    · have c0' : ¬ ((nI S >>> (nI p &&& 31)) &&& 1) = 0 := fun z => by
        rw [(bt_h0 (by omega) (by omega)).mp z] at c0; cases c0
      rw [if_neg c0', if_neg (by rw [c0]; simp)]; rfl
    · have c0' : S.testBit p = false := Bool.not_eq_true _ ▸ c0
      rw [if_pos ((bt_h0 (by omega) (by omega)).mpr c0'), rd_nI hp (by decide), off 15 (by decide) (by decide), ← (g7 p hp).1, c0']
      rcases (g7 p hp).2 with h3 | ⟨k', hk', h3⟩
      · rw [h3, if_neg (show ¬ (0 : Int32) ≤ -9 by decide), rd_nI (by omega) (by decide), off 20 (by decide) (by decide), (s4 i hi).2.1, cal_e mb]
        by_cases c4 : nI (K p) < σ 3 (4 * q + 2) ∨ σ 3 (4 * q + 3) < nI (K p)
        · rw [if_pos c4, if_pos rfl, if_neg (fun z => by
            rw [Bool.and_eq_true] at z
            exact (hf.mp z.1).2 c4)]; rfl
        · rw [if_neg c4, if_neg (show ¬ (1 : Int32) = 0 by decide), if_pos (by
            rw [Bool.and_eq_true]
            exact ⟨hf.mpr ⟨h3, c4⟩, rfl⟩)]; rfl
      · have h9 : ¬ σ 17 p = -9 := by rw [h3]; exact nI_n9 (by omega)
        rw [h3, if_pos (show (0 : Int32) ≤ nI k' from nI_le (a := 0) (Nat.zero_le _) (by omega)), if_neg (fun z => by
            rw [Bool.and_eq_true] at z
            exact h9 (hf.mp z.1).1)]; rfl
theorem sim_best {σ τ : St} (hI : Inv σ τ) : ∃ (r : Int32) (σ1 τ1 : St), fX10_best  σ = some (r, σ1) ∧ fX11_best  τ = some (r, τ1) ∧ Inv σ1 τ1 := by
  obtain ⟨dn, nb, np, hh, nw, nj, ns, nt, nd, gg⟩ := id hI
  obtain ⟨σ', τ', fm, w, ord, a1, a2, a3, a4, a5, a6⟩ := fits_sim gg
  obtain ⟨σ2, b1, b2⟩ := greatest_v a5
  obtain ⟨τ2, c1, c2, c3⟩ := finds_v a6
  refine ⟨nI (st_mo fm w nw nw 0), σ2, τ2, ?_, ?_, hI.scr ((a3.mono (by decide)).tr (b2.mono (by decide))) ((a4.mono (by decide)).tr (c2.mono (by decide)))⟩
  · unfold fX10_best
    rw [cal_e a1, cal_e b1]
  · unfold fX11_best
    rw [a2, cal_e c1]
theorem sim_bestPlace {σ τ : St} (hI : Inv σ τ) (x1 : Int32) : ∃ (r : Int32) (σ1 τ1 : St), fX10_bestPlace x1 σ = some (r, σ1) ∧ fX11_bestPlace x1 τ = some (r, τ1) ∧ Inv σ1 τ1 := by
  unfold fX10_bestPlace fX11_bestPlace
  obtain ⟨dn, nb, np, hh, nw, nj, ns, nt, nd, gg⟩ := id hI
  have s1 : nw ≤ 8 := gg.2.2.2.2.2.2.2.2.1.1
  have s2 : σ 22 8 = nI nw := gg.2.2.2.2.2.2.2.2.1.2.1
  have s3 : τ 0 21 = nI nw := gg.2.2.2.2.2.2.2.2.1.2.2.1
  rw [s2, s3]
  by_cases h1 : x1 < 0 ∨ nI nw ≤ x1
  · rw [wi_f h1, is_f h1]
    exact fin1 hI
  rw [wi_t h1, is_t h1]
  obtain ⟨i, hi, rfl⟩ := ix_of (N := nw) rfl (by omega) h1
  obtain ⟨σ', τ', fm, w, ord, a1, a2, a3, a4, a5, a6⟩ := fits_sim gg
  obtain ⟨σ2, b1, b2, b3⟩ := choose_v a5
  obtain ⟨τ2, c1, c2, c3⟩ := finds_v a6
  have e := st_ch_u nw 0 (Nat.le_refl _) b3 c3 i (by omega) hi
  refine ⟨σ2 26 i, σ2, τ2, ?_, ?_, hI.scr ((a3.mono (by decide)).tr (b2.mono (by decide))) ((a4.mono (by decide)).tr (c2.mono (by decide)))⟩
  · rw [cal_e a1, cal_e b1, rd_nI (by omega) (by decide)]
  · rw [a2, cal_e c1, rd_nI (by omega) (by decide), e]
theorem ly_w {dn nb np hh nw nj ns nt nd : Nat} : ∀ q i n n' c (σ τ : St), i + q = nw → q < n → q < n' → InvP dn nb np hh nw nj ns nt nd σ τ → (∀ j, j < nw → σ 26 j = τ 23 j ∧ (σ 26 j = -9 ∨ ∃ p, p < 12 ∧ σ 26 j = nI p)) → ∃ (r : Int32) (σ1 τ1 : St), fX10_lay_b15 n (nI c) (nI i) σ = some (r, σ1) ∧ fX11_lay_b9 n' (nI c) (nI i) τ = some (r, τ1) ∧ Inv σ1 τ1 := by
  intro q
  induction q with
  | zero =>
    intro i n n' c σ τ hi hn hn' hP hs
    obtain ⟨n, rfl⟩ : ∃ q, n = q + 1 := ⟨n - 1, by omega⟩
    obtain ⟨n', rfl⟩ : ∃ q, n' = q + 1 := ⟨n' - 1, by omega⟩
    obtain rfl : i = nw := by omega
    obtain ⟨g1, g2, g3, g4, g5, g6, g7, g8, ⟨s1, s2, s3, _⟩, g10, g11, g12, g13⟩ := hP
    refine ⟨nI c, up2 σ 22 8 0, up2 τ 0 21 0, ?_, ?_, dn, nb, np, hh, 0, nj, ns, nt, nd, g1, g2, g3, g4, g5, g6, g7, g8, ?_, g10, g11, g12, g13⟩
    · rw [fX10_lay_b15, s2, if_pos (nI_le (Nat.le_refl _) (by omega))]; rfl
    · rw [fX11_lay_b9, s3, if_pos (nI_le (Nat.le_refl _) (by omega))]; rfl
    · exact ⟨by omega, rfl, rfl, fun _ => 0, fun _ => 0, fun _ => 0, fun j hj => absurd hj (Nat.not_lt_zero _), fun j hj => absurd hj (Nat.not_lt_zero _), fun j k hj => absurd hj (Nat.not_lt_zero _), fun j k _ hk => absurd hk (Nat.not_lt_zero _)⟩
  | succ q ih =>
    intro i n n' c σ τ hi hn hn' hP hs
    obtain ⟨n, rfl⟩ : ∃ q, n = q + 1 := ⟨n - 1, by omega⟩
    obtain ⟨n', rfl⟩ : ∃ q, n' = q + 1 := ⟨n' - 1, by omega⟩
    obtain ⟨g1, g2, g3, g4, g5, g6, g7, g8, ⟨s1, s2, s3, tn, w, ord, s4, s5, s6, s7⟩, g10, g11, g12, g13⟩ := id hP
    have l1 : ¬ nI nw ≤ nI i := nI_ge (by omega) (by omega)
    obtain ⟨e1, e2⟩ := hs i (by omega)
    obtain ⟨t1, t2, t3, _⟩ := s4 i (by omega)
    have hnp := g5.1
    rw [fX10_lay_b15, fX11_lay_b9, s2, s3, if_neg l1, if_neg l1, rd_nI (by omega) (by decide), rd_nI (by omega) (by decide), ← e1, nI_1]
    rcases e2 with z | ⟨p, hp, z⟩
    · rw [z, wi_f (show (-9 : Int32) < 0 ∨ (12 : Int32) ≤ -9 by decide), if_neg (show ¬ (0 : Int32) ≤ -9 by decide)]
      exact ih (i + 1) n n' c σ τ (by omega) (by omega) (by omega) hP hs
    · have hin : ¬ (nI p < 0 ∨ (12 : Int32) ≤ nI p) := ix_in (N := 12) hp (by decide)
      have hput : fX10_putIn (nI (tn i)) (nI p) σ = some (0, up2 (up2 σ 17 p (nI (tn i))) 12 (tn i) (nI p)) := by
        unfold fX10_putIn
        rw [wr_nI hp (by decide), wr_nI (by omega) (by decide)]
      have e23 : τ 23 i = nI p := by rw [← e1]; exact z
      have e23' : up2 τ 15 p (nI (tn i)) 23 i = nI p := e23
      have e20' : up2 τ 15 p (nI (tn i)) 20 i = nI (tn i) := t2
      rw [z, wi_t hin, rd_nI (by omega) (by decide), t1, cal_e hput, nI_1, if_pos (show (0 : Int32) ≤ nI p from nI_le (a := 0) (Nat.zero_le _) (by omega)), rd_nI (by omega) (by decide), e23, rd_nI (by omega) (by decide), t2, wr_nI hp (by decide), rd_nI (by omega) (by decide), e20', rd_nI (by omega) (by decide), e23', wr_nI (by omega) (by decide)]
      exact ih (i + 1) n n' (c + 1) _ _ (by omega) (by omega) (by omega) (Inv.put hP t3 hp) hs
theorem sim_lay {σ τ : St} (hI : Inv σ τ) : ∃ (r : Int32) (σ1 τ1 : St), fX10_lay  σ = some (r, σ1) ∧ fX11_lay  τ = some (r, τ1) ∧ Inv σ1 τ1 := by
  obtain ⟨dn, nb, np, hh, nw, nj, ns, nt, nd, gg⟩ := id hI
  have s1 : nw ≤ 8 := gg.2.2.2.2.2.2.2.2.1.1
  have s2 : σ 22 8 = nI nw := gg.2.2.2.2.2.2.2.2.1.2.1
  obtain ⟨σ', τ', fm, w, ord, a1, a2, a3, a4, a5, a6⟩ := fits_sim gg
  obtain ⟨σ2, b1, b2, b3⟩ := choose_v a5
  obtain ⟨τ2, c1, c2, c3⟩ := finds_v a6
  have hI2 : Inv σ2 τ2 := hI.scr ((a3.mono (by decide)).tr (b2.mono (by decide))) ((a4.mono (by decide)).tr (c2.mono (by decide)))
  obtain ⟨dn', nb', np', hh', nw', nj', ns', nt', nd', gg'⟩ := hI2
  have s1' : nw' ≤ 8 := gg'.2.2.2.2.2.2.2.2.1.1
  have s2' : σ2 22 8 = nI nw' := gg'.2.2.2.2.2.2.2.2.1.2.1
  have en : nw' = nw := by
    rw [b2 22 (by decide), a3 22 (by decide), s2] at s2'
    exact ((nI_eq (by omega) (by omega)).mp s2').symm
  subst en
  obtain ⟨r, σ3, τ3, z1, z2, z3⟩ := ly_w nw' 0 FU FU 0 σ2 τ2 (by omega) (fu_lt (by omega)) (fu_lt (by omega)) gg' (fun j hj => ⟨st_ch_u nw' 0 (Nat.le_refl _) b3 c3 j (by omega) hj, st_ch_r nw' 0 (Nat.le_refl _) b3 j (by omega) hj⟩)
  refine ⟨r, σ3, τ3, ?_, ?_, z3⟩
  · unfold fX10_lay
    rw [cal_e a1, cal_e b1]; exact z1
  · unfold fX11_lay
    rw [a2, cal_e c1]; exact z2
