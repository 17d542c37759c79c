/-- least, painter -/
theorem Inv.wk {dn nb np hh nw nj ns nt nd : Nat} {σ τ σ' τ' : St} (h : InvP dn nb np hh nw nj ns nt nd σ τ) (hσ : Off [35, 38, 39, 40] σ σ') (hτ : Off scM τ τ') (hg : gWk nj (σ' 35 5) (τ 0 22) (σ 36) (τ 27) (σ 37) (τ 28) (σ' 35 7) (σ' 35 6) (σ' 39)) : Inv σ' τ' := by
  refine ⟨dn, nb, np, hh, nw, nj, ns, nt, nd, ?_⟩
  obtain ⟨g1, g2, g3, g4, g5, g6, g7, g8, g9, g10, g11, g12, g13⟩ := h
  unfold InvP
  rw [hσ 1 (by decide), hσ 0 (by decide), hσ 3 (by decide), hσ 2 (by decide), hσ 4 (by decide), hσ 5 (by decide), hσ 6 (by decide), hσ 7 (by decide), hσ 8 (by decide), hσ 9 (by decide), hσ 10 (by decide), hσ 11 (by decide), hσ 12 (by decide), hσ 13 (by decide), hσ 14 (by decide), hσ 16 (by decide), hσ 17 (by decide), hσ 15 (by decide), hσ 21 (by decide), hσ 22 (by decide), hσ 23 (by decide), hσ 24 (by decide), hσ 27 (by decide), hσ 32 (by decide), hσ 33 (by decide), hσ 36 (by decide), hσ 37 (by decide), hσ 47 (by decide), hσ 48 (by decide), hσ 49 (by decide), hσ 50 (by decide), hσ 51 (by decide), hσ 52 (by decide), hσ 53 (by decide), hσ 56 (by decide), hσ 57 (by decide), hσ 58 (by decide), hσ 59 (by decide),
    hτ 1 (by decide), hτ 0 (by decide), hτ 2 (by decide), hτ 3 (by decide), hτ 4 (by decide), hτ 5 (by decide), hτ 6 (by decide), hτ 7 (by decide), hτ 8 (by decide), hτ 9 (by decide), hτ 10 (by decide), hτ 11 (by decide), hτ 12 (by decide), hτ 13 (by decide), hτ 14 (by decide), hτ 15 (by decide), hτ 16 (by decide), hτ 20 (by decide), hτ 21 (by decide), hτ 24 (by decide), hτ 25 (by decide), hτ 27 (by decide), hτ 28 (by decide), hτ 34 (by decide), hτ 35 (by decide), hτ 36 (by decide), hτ 37 (by decide), hτ 38 (by decide), hτ 39 (by decide), hτ 42 (by decide), hτ 43 (by decide), hτ 44 (by decide)]
  exact ⟨g1, g2, g3, g4, g5, g6, g7, g8, g9, g10, hg, g12, g13⟩
theorem wk_uni {sn ln : Nat → Nat} {nj a b : Nat} (ha : wk_best sn ln nj a) (hb : wk_best sn ln nj b) : a = b := by
  rcases Nat.lt_or_ge a b with h | h
  · have h1 := hb.2.1 a h
    have h2 := ha.2.2 b hb.1
    omega
  · rcases Nat.lt_or_ge b a with h' | h'
    · have h1 := ha.2.1 b h'
      have h2 := hb.2.2 a ha.1
      omega
    · omega
theorem sb_w : ∀ q c n (σ : St), c + q = 3 → q < n → (∀ p, p < c → σ 40 p = 0) → ∃ σ1 : St, fX9_share_b10 n (nI c) σ = (cal (fX9_shareFrom 12 0 0 (up2 σ1 35 6 4001)) (fun _ σ3 => pf σ3 35 7 1 (fun σ5 => some (0, σ5)))) ∧ Off [40] σ σ1 ∧ ∀ p, p < 3 → σ1 40 p = 0 := by
  intro q
  induction q with
  | zero =>
    intro c n σ hc hn hv
    obtain ⟨n, rfl⟩ : ∃ q, n = q + 1 := ⟨n - 1, by omega⟩
    obtain rfl : c = 3 := by omega
    refine ⟨σ, ?_, Off.rf _ _, hv⟩
    rw [fX9_share_b10, if_pos (show (3 : Int32) ≤ nI 3 from nI_le (a := 3) (Nat.le_refl _) (by omega)), pf_e]
  | succ q ih =>
    intro c n σ hc hn hv
    obtain ⟨n, rfl⟩ : ∃ q, n = q + 1 := ⟨n - 1, by omega⟩
    have l1 : ¬ (3 : Int32) ≤ nI c := nI_ge (b := 3) (by omega) (by decide)
    obtain ⟨σ1, z1, z2, z3⟩ := ih (c + 1) n (up2 σ 40 c 0) (by omega) (by omega) (fun p hp => by
      by_cases e : p = c
      · subst e; rw [up2_s]
      · rw [up2_i _ _ _ _ _ e]; exact hv p (by omega))
    refine ⟨σ1, ?_, ((Off.rf [40] σ).up (by decide) _ _).tr z2, z3⟩
    rw [fX9_share_b10, if_neg l1, wr_nI (by omega) (by decide), nI_1]
    exact z1
theorem share_v {σ τ : St} (hI : Inv σ τ) : ∃ (nj code : Nat) (sn ln : Nat → Nat) (σ' : St), fX9_share σ = some (0, σ') ∧ wkD nj sn ln ∧ wkM nj sn ln τ ∧ σ 35 5 = nI nj ∧ wk_best sn ln nj code ∧ σ' 35 6 = nI (wk_cost sn ln nj (wk_dg nj code)) ∧ (∀ j, j < nj → σ' 39 j = nI (wk_dg nj code j)) ∧ ∀ τ', Off [29, 30] τ τ' → Inv σ' τ' := by
  obtain ⟨dn, nb, np, hh, nw, nj, ns, nt, nd, hP⟩ := id hI
  obtain ⟨g1, g2, g3, g4, g5, g6, g7, g8, g9, g10, ⟨k1, k2, k3, sn, ln, k4, k5, k6⟩, g12, g13⟩ := id hP
  have hD : wkD nj sn ln := ⟨k1, fun p hp => (k4 p hp).2.2, fun j hj => (k5 j hj).2.2⟩
  have hM : wkM nj sn ln τ := ⟨k3, fun p hp => (k4 p hp).2.1, fun j hj => (k5 j hj).2.1⟩
  have hC : wkC nj sn ln σ := ⟨k2, fun p hp => (k4 p hp).1, fun j hj => (k5 j hj).1⟩
  unfold fX9_share
  rcases k6 with e0 | ⟨e1, code, q1, q2, q3⟩
  · rw [if_pos e0]
    obtain ⟨σ1, a1, a2, a3⟩ := sb_w 3 0 FU σ rfl (fu_lt (by omega)) (fun p h => by omega)
    have o1 : oW σ (up2 σ1 35 6 4001) := ⟨(a2.mono (by decide)).up (by decide) _ _, by
      show upd (σ1 35) 6 4001 5 = σ 35 5
      rw [upd_n _ _ (by decide), a2 35 (by decide)]⟩
    obtain ⟨σ3, b1, b2, _, _, b5⟩ := sh_w hD nj 0 12 0 (up2 σ1 35 6 4001) (by omega) (by omega) (hC.off o1) (fun i h => by omega) (fun p hp => a3 p hp) (Or.inl ⟨Nat.zero_mul _, up2_s _ _ _ _⟩)
    have e : nI (wk_cost sn ln 0 (wk_dg 0 0)) = 0 := rfl
    rw [e] at b1
    have b1' : fX9_shareFrom 12 0 0 (up2 σ1 35 6 4001) = some (0, σ3) := b1
    have h3 : 0 < 3 ^ nj := Nat.pow_pos (by decide)
    rcases b5 with ⟨b, _⟩ | ⟨b, c1, c2, c3, c4, c5⟩
    · rw [Nat.zero_add, Nat.one_mul] at b; omega
    · rw [Nat.zero_add, Nat.one_mul] at c1 c4
      have o3 : oW σ σ3 := o1.tr b2
      have s6 : up2 σ3 35 7 1 35 6 = σ3 35 6 := by rw [up2_i _ _ _ _ _ (by decide)]
      have s5 : up2 σ3 35 7 1 35 5 = nI nj := by rw [up2_i _ _ _ _ _ (by decide), o3.2]; exact k2
      refine ⟨nj, b, sn, ln, up2 σ3 35 7 1, ?_, hD, hM, k2, ⟨c1, c3, c4⟩, s6.trans c2, c5, fun τ' oτ => ?_⟩
      · have a1' : fX9_share_b10 FU 0 σ = _ := a1
        rw [a1', cal_e b1', pf_e]
      · refine Inv.wk hP (o3.1.up (by decide) _ _) (oτ.mono (by decide)) ⟨k1, s5, k3, sn, ln, k4, k5, Or.inr ⟨up2_s _ _ _ _, b, ⟨c1, c3, c4⟩, s6.trans c2, c5⟩⟩
  · rw [if_neg (show ¬ σ 35 7 = 0 by rw [e1]; decide)]
    exact ⟨nj, code, sn, ln, σ, rfl, hD, hM, k2, q1, q2, q3, fun τ' oτ => hI.scr (Off.rf _ _) (oτ.mono (by decide))⟩
theorem sim_least {σ τ : St} (hI : Inv σ τ) : ∃ (r : Int32) (σ1 τ1 : St), fX10_least σ = some (r, σ1) ∧ fX11_least τ = some (r, τ1) ∧ Inv σ1 τ1 := by
  obtain ⟨nj, code, sn, ln, σ', a1, a2, a3, a4, a5, a6, a7, a8⟩ := share_v hI
  obtain ⟨b, τ', b1, b2, b3, b4⟩ := leastOf_v a2 a3
  obtain rfl := wk_uni a5 b3
  unfold fX10_least fX11_least
  rw [cal_e a1, cal_e b1, a6]
  exact ⟨_, σ', τ', rfl, rfl, a8 τ' b2⟩
theorem sim_painter {σ τ : St} (hI : Inv σ τ) (x1 : Int32) : ∃ (r : Int32) (σ1 τ1 : St), fX10_painter x1 σ = some (r, σ1) ∧ fX11_painter x1 τ = some (r, τ1) ∧ Inv σ1 τ1 := by
  obtain ⟨nj, code, sn, ln, σ', a1, a2, a3, a4, a5, a6, a7, a8⟩ := share_v hI
  obtain ⟨b, τ', b1, b2, b3, b4⟩ := leastOf_v a2 a3
  obtain rfl := wk_uni a5 b3
  have h8 := a2.1
  unfold fX10_painter fX11_painter
  rw [a4, a3.1]
  by_cases h1 : x1 < 0 ∨ nI nj ≤ x1
  · rw [wi_f h1, is_f h1]; exact ⟨-9, σ, τ, rfl, rfl, hI⟩
  · rw [wi_t h1, is_t h1]
    obtain ⟨j, hj, rfl⟩ := ix_of rfl (by omega) h1
    rw [cal_e a1, cal_e b1, rd_nI (by omega) (by decide), rd_nI (by omega) (by decide), a7 j hj, b4 j hj]
    exact ⟨_, σ', τ', rfl, rfl, a8 τ' b2⟩
