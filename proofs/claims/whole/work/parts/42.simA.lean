/-- paste -/
theorem sim_paste {σ τ : St} (hI : Inv σ τ) (x1 x2 x3 : Int32) : ∃ (r : Int32) (σ1 τ1 : St), fX10_paste x1 x2 x3 σ = some (r, σ1) ∧ fX11_paste x1 x2 x3 τ = some (r, τ1) ∧ Inv σ1 τ1 := by
  unfold fX10_paste fX11_paste
  by_cases h1 : x1 < 0 ∨ (6 : Int32) ≤ x1
  · rw [wi_f h1, is_f h1]
    exact fin1 hI
  rw [wi_t h1, is_t h1]
  by_cases h2 : x2 < 0 ∨ (4 : Int32) ≤ x2
  · rw [wi_f h2, is_f h2]
    exact fin2 hI
  rw [wi_t h2, is_t h2]
  obtain ⟨p, hp, rfl⟩ := ix_of (N := 6) rfl (by decide) h1
  obtain ⟨q, hq, rfl⟩ := ix_of (N := 4) rfl (by decide) h2
  rw [tb_nI hq (by decide)]
  have key : ∀ M : Int32, pw_GT q = M → ∃ (r : Int32) (σ1 τ1 : St), (if (0 : Int32) ≤ x3 then (if x3 ≤ M then (cal (fX0_changeTrait (nI p) (nI q) x3 σ) (fun v10 σ9 => some (v10, σ9))) else (cal (fX10_refuse (-6) σ) (fun v13 σ12 => some (v13, σ12)))) else (cal (fX10_refuse (-4) σ) (fun v16 σ15 => some (v16, σ15)))) = some (r, σ1) ∧ cal (fX11_wrong x3 0 M τ) (fun v20 σ19 => fX11_paste_b55 (nI p) (nI q) x3 v20 σ19) = some (r, τ1) ∧ Inv σ1 τ1 := by
    intro M hM
    rw [cal_e (wrong_v _ _ _ _)]
    by_cases h3 : (0 : Int32) ≤ x3
    · rw [if_pos h3, if_pos h3]
      by_cases h4 : x3 ≤ M
      · rw [if_pos h4, if_pos h4]
        unfold fX11_paste_b55 fX0_changeTrait fX0_trait
        rw [if_pos rfl]
        obtain ⟨dn, nb, np, hh, nw, nj, ns, nt, nd, g1, g2, g3, g4, g5, g6, g7, g8, g9, g10, g11, g12, g13⟩ := hI
        have e1 : nI p * 4 + nI q = nI (4 * p + q) := by rw [show (4 : Int32) = nI 4 from rfl, pk_mul, nI_add, Nat.mul_comm]
        have e2 : 4 * nI p + nI q = nI (4 * p + q) := by rw [show (4 : Int32) = nI 4 from rfl, pk_mul, nI_add]
        have hi : 4 * p + q < 24 := by omega
        rw [cal_e (r := σ 3 (4 * p + q)) (σ := up2 σ 3 (4 * p + q) x3) (by rw [cal_e (r := σ 3 (4 * p + q)) (σ := σ) (by rw [rd_e e1 hi (by decide)]), wr_e e1 hi (by decide)]), rd_e e2 hi (by decide), wr_e e2 hi (by decide)]
        refine ⟨_, up2 σ 3 (4 * p + q) x3, up2 τ 2 (4 * p + q) x3, rfl, by rw [(g3 _ hi).1], dn, nb, np, hh, nw, nj, ns, nt, nd, g1, g2, ?_, g4, g5, g6, g7, g8, g9, g10, g11, g12, g13⟩
        have hM2 : M ≤ 2000 := by
          rw [← hM]; unfold pw_GT
          rcases (show q = 0 ∨ q = 1 ∨ q = 2 ∨ q = 3 by omega) with rfl | rfl | rfl | rfl <;> decide
        have h5 : x3 ≤ 2000 := by rw [Int32.le_iff_toInt_le] at *; omega
        obtain ⟨v, hv, rfl⟩ := nI_of2 (M := 2000) (n := 2000) rfl (i32_nlt.mpr h3) h5
        intro j hj
        show up2 σ 3 (4 * p + q) (nI v) 3 j = up2 τ 2 (4 * p + q) (nI v) 2 j ∧ ∃ n, n ≤ 2000 ∧ up2 σ 3 (4 * p + q) (nI v) 3 j = nI n
        rw [up2_if, up2_if]
        by_cases e : j = 4 * p + q
        · rw [if_pos e, if_pos e]; exact ⟨rfl, v, hv, rfl⟩
        · rw [if_neg e, if_neg e]; exact g3 j hj
      · rw [if_neg h4, if_neg h4]
        unfold fX11_paste_b55
        rw [if_neg (by decide)]
        exact fin6 hI
    · rw [if_neg h3, if_neg h3]
      unfold fX11_paste_b55
      rw [if_neg (by decide)]
      exact fin4 hI
  rcases (show q = 0 ∨ q = 1 ∨ q = 2 ∨ q = 3 by omega) with rfl | rfl | rfl | rfl
  · rw [if_pos (show nI 0 = 0 from rfl)]; exact key 200 rfl
  · rw [if_neg (show ¬ nI 1 = 0 by decide), if_pos (show nI 1 = 1 from rfl)]; exact key 300 rfl
  · rw [if_neg (show ¬ nI 2 = 0 by decide), if_neg (show ¬ nI 2 = 1 by decide)]; exact key 2000 rfl
  · rw [if_neg (show ¬ nI 3 = 0 by decide), if_neg (show ¬ nI 3 = 1 by decide)]; exact key 2000 rfl

theorem sp_e {α : Type} {a b : Int32} {s : α} (h : a = b) : some (a, s) = some (b, s) := by rw [h]
theorem upd_s (f : Nat → Int32) (k : Nat) (v : Int32) : upd f k v k = v := by simp [upd]
theorem upd_n (f : Nat → Int32) {k i : Nat} (v : Int32) (h : i ≠ k) : upd f k v i = f i := by simp [upd, h]
theorem nIp (n : Nat) : nI n + 1 - 1 = nI n := by rw [nI_1]; exact nI_pred n
/-- batch -/
theorem sim_batch {σ τ : St} (hI : Inv σ τ) (x1 x2 : Int32) : ∃ (r : Int32) (σ1 τ1 : St), fX10_batch x1 x2 σ = some (r, σ1) ∧ fX11_batch x1 x2 τ = some (r, τ1) ∧ Inv σ1 τ1 := by
  unfold fX10_batch fX11_batch
  by_cases h1 : x1 < 0 ∨ (6 : Int32) ≤ x1
  · rw [wi_f h1, is_f h1]
    exact fin1 hI
  rw [wi_t h1, is_t h1]
  by_cases h2 : (1 : Int32) ≤ x2
  · rw [if_pos h2, if_pos h2]
    by_cases h3 : (1000 : Int32) < x2
    · rw [if_pos h3, if_pos h3]
      exact fin6 hI
    rw [if_neg h3, if_neg h3]
    obtain ⟨dn, nb, np, hh, nw, nj, ns, nt, nd, g1, g2, g3, ⟨b1, b2, b3, b4⟩, g5, g6, g7, g8, g9, g10, g11, g12, g13⟩ := id hI
    by_cases h4 : nb < 20
    · have c1 : σ 2 4 < 20 := by rw [b2]; exact nI_lt h4 (by decide)
      have c2 : ¬ τ 0 17 = 20 := by rw [b3]; exact fun e => absurd ((nI_eq (by omega) (by decide)).mp (e.trans (show (20 : Int32) = nI 20 from rfl))) (by omega)
      rw [if_pos c1, if_neg c2]
      obtain ⟨p, hp, rfl⟩ := ix_of (N := 6) rfl (by decide) h1
      unfold fX0_mix
      refine ⟨nI nb, up2 (up2 (up2 (up2 σ 4 nb (nI p)) 5 nb x2) 6 nb (σ 0 11)) 2 4 (σ 2 4 + 1), up2 (up2 (up2 (up2 τ 3 nb (nI p)) 4 nb x2) 5 nb (τ 0 16)) 0 17 (τ 0 17 + 1), ?_, ?_, ?_⟩
      · exact cal_e ((wr_e b2 h4 (by decide)).trans ((wr_e b2 h4 (by decide)).trans ((wr_e b2 h4 (by decide)).trans (sp_e (show σ 2 4 + 1 - 1 = nI nb by rw [b2]; exact nIp nb)))))
      · exact (wr_e b3 h4 (by decide)).trans ((wr_e b3 h4 (by decide)).trans ((wr_e b3 h4 (by decide)).trans (sp_e (show τ 0 17 + 1 - 1 = nI nb by rw [b3]; exact nIp nb))))
      · refine ⟨dn, nb + 1, np, hh, nw, nj, ns, nt, nd, g1, g2, g3, ⟨by omega, show σ 2 4 + 1 = nI (nb + 1) by rw [b2, nI_1], show τ 0 17 + 1 = nI (nb + 1) by rw [b3, nI_1], ?_⟩, ?_, g6, g7, g8, g9, g10, g11, g12, g13⟩
        · intro j hj
          show upd (σ 4) nb (nI p) j = upd (τ 3) nb (nI p) j ∧ (∃ q, q < 6 ∧ upd (σ 4) nb (nI p) j = nI q) ∧ upd (σ 5) nb x2 j = upd (τ 4) nb x2 j ∧ upd (σ 6) nb (σ 0 11) j = upd (τ 5) nb (τ 0 16) j
          by_cases e : j = nb
          · subst e
            rw [upd_s, upd_s, upd_s, upd_s, upd_s, upd_s]
            exact ⟨rfl, ⟨p, hp, rfl⟩, rfl, g2.2.1.trans g2.2.2.symm⟩
          · rw [upd_n _ _ e, upd_n _ _ e, upd_n _ _ e, upd_n _ _ e, upd_n _ _ e, upd_n _ _ e]
            exact b4 j hj
        · obtain ⟨p1, p2, p3, p4, p5⟩ := g5
          refine ⟨p1, p2, p3, p4, fun k hk => ?_⟩
          obtain ⟨⟨b, hb, e1, e2⟩, rest⟩ := p5 k hk
          exact ⟨⟨b, by omega, e1, e2.trans (upd_n _ _ (by omega)).symm⟩, rest⟩
    · have e20 : nb = 20 := by omega
      subst e20
      have c1 : ¬ σ 2 4 < 20 := by rw [b2]; decide
      have c2 : τ 0 17 = 20 := by rw [b3]; rfl
      rw [if_neg c1, if_pos c2]
      exact fin6 hI
  · rw [if_neg h2, if_neg h2]
    exact fin4 hI
/-- wood, clear -/
theorem sim_wood {σ τ : St} (hI : Inv σ τ) (x1 : Int32) : ∃ (r : Int32) (σ1 τ1 : St), fX10_wood x1 σ = some (r, σ1) ∧ fX11_wood x1 τ = some (r, τ1) ∧ Inv σ1 τ1 := by
  unfold fX10_wood fX11_wood
  rw [cal_e (wrong_v _ _ _ _)]
  by_cases h1 : (0 : Int32) ≤ x1
  · rw [if_pos h1, if_pos h1]
    by_cases h2 : x1 ≤ 50
    · have h2' : ¬ (50 : Int32) < x1 := i32_nlt.mpr h2
      rw [if_pos h2, if_neg h2', if_pos rfl]
      obtain ⟨dn, nb, np, hh, nw, nj, ns, nt, nd, g1, g2, g3, g4, g5, g6, g7, ⟨w1, w2, w3, w4, w5⟩, g9, g10, g11, g12, g13⟩ := id hI
      by_cases h4 : hh < 48
      · have c1 : σ 15 6 < 48 := by rw [w2]; exact nI_lt h4 (by decide)
        have c2 : ¬ τ 0 19 = 48 := by rw [w3]; exact fun e => absurd ((nI_eq (by omega) (by decide)).mp (e.trans (show (48 : Int32) = nI 48 from rfl))) (by omega)
        rw [if_pos c1, if_neg c2]
        unfold fX1_tellHour fX11_wood_b24
        rw [if_pos rfl]
        obtain ⟨v, hv, rfl⟩ := nI_of2 (M := 50) (n := 50) rfl (i32_nlt.mpr h1) h2
        refine ⟨nI (hh + 1), up2 (up2 σ 21 hh (nI v)) 15 6 (σ 15 6 + 1), up2 (up2 τ 16 hh (nI v)) 0 19 (τ 0 19 + 1), ?_, ?_, ?_⟩
        · exact cal_e ((wr_e w2 h4 (by decide)).trans (sp_e (show σ 15 6 + 1 = nI (hh + 1) by rw [w2, nI_1])))
        · exact (wr_e w3 h4 (by decide)).trans (sp_e (show τ 0 19 + 1 = nI (hh + 1) by rw [w3, nI_1]))
        · refine ⟨dn, nb, np, hh + 1, nw, nj, ns, nt, nd, g1, g2, g3, g4, g5, g6, g7, ⟨by omega, show σ 15 6 + 1 = nI (hh + 1) by rw [w2, nI_1], show τ 0 19 + 1 = nI (hh + 1) by rw [w3, nI_1], w4, ?_⟩, g9, g10, g11, g12, g13⟩
          intro j hj
          show upd (σ 21) hh (nI v) j = upd (τ 16) hh (nI v) j ∧ ∃ n, n ≤ 50 ∧ upd (σ 21) hh (nI v) j = nI n
          by_cases e : j = hh
          · subst e; rw [upd_s, upd_s]; exact ⟨rfl, v, hv, rfl⟩
          · rw [upd_n _ _ e, upd_n _ _ e]; exact w5 j hj
      · have e20 : hh = 48 := by omega
        subst e20
        have c1 : ¬ σ 15 6 < 48 := by rw [w2]; decide
        have c2 : τ 0 19 = 48 := by rw [w3]; rfl
        rw [if_neg c1, if_pos c2]
        unfold fX11_wood_b24
        rw [if_neg (by decide)]
        exact fin6 hI
    · have h2' : (50 : Int32) < x1 := i32_nle.mp h2
      rw [if_neg h2, if_pos h2', if_neg (by decide)]
      unfold fX11_wood_b24
      rw [if_neg (by decide)]
      exact fin6 hI
  · rw [if_neg h1, if_neg h1, if_neg (by decide)]
    unfold fX11_wood_b24
    rw [if_neg (by decide)]
    exact fin4 hI
theorem sim_clear {σ τ : St} (hI : Inv σ τ) : ∃ (r : Int32) (σ1 τ1 : St), fX10_clear σ = some (r, σ1) ∧ fX11_clear τ = some (r, τ1) ∧ Inv σ1 τ1 := by
  obtain ⟨dn, nb, np, hh, nw, nj, ns, nt, nd, g1, g2, g3, g4, g5, g6, g7, ⟨w1, w2, w3, w4, w5⟩, g9, g10, g11, g12, g13⟩ := hI
  exact ⟨σ 15 6, up2 σ 15 6 0, up2 τ 0 19 0, rfl, sp_e (w3.trans w2.symm), dn, nb, np, 0, nw, nj, ns, nt, nd, g1, g2, g3, g4, g5, g6, g7, ⟨by omega, rfl, rfl, w4, w5⟩, g9, g10, g11, g12, g13⟩
/-- place -/
theorem sim_place {σ τ : St} (hI : Inv σ τ) (x1 x2 x3 : Int32) : ∃ (r : Int32) (σ1 τ1 : St), fX10_place x1 x2 x3 σ = some (r, σ1) ∧ fX11_place x1 x2 x3 τ = some (r, τ1) ∧ Inv σ1 τ1 := by
  unfold fX10_place fX11_place
  by_cases h1 : x1 < 0 ∨ (12 : Int32) ≤ x1
  · rw [wi_f h1, is_f h1]
    unfold fX11_place_b51
    rw [if_neg (by decide)]
    exact fin1 hI
  rw [wi_t h1, is_t h1]
  by_cases h2 : x2 < 0 ∨ (2 : Int32) ≤ x2
  · rw [wi_f h2, is_f h2]
    unfold fX11_place_b51
    rw [if_neg (by decide)]
    exact fin2 hI
  rw [wi_t h2, is_t h2]
  obtain ⟨p, hp, rfl⟩ := ix_of (N := 12) rfl (by decide) h1
  obtain ⟨q, hq, rfl⟩ := ix_of (N := 2) rfl (by decide) h2
  rw [tb_nI hq (by decide), tb_nI hq (by decide)]
  obtain ⟨dn, nb, np, hh, nw, nj, ns, nt, nd, g1, g2, g3, g4, g5, g6, g7, g8, g9, g10, g11, g12, g13⟩ := id hI
  have up : ∀ (x3 : Int32), fX1_changeTrait (nI p) (nI q) x3 σ = some (σ 16 (2 * p + q), up2 σ 16 (2 * p + q) x3) := by
    intro x3
    unfold fX1_changeTrait fX1_trait
    have e1 : nI p * 2 + nI q = nI (2 * p + q) := by rw [show (2 : Int32) = nI 2 from rfl, pk_mul, nI_add, Nat.mul_comm]
    have hi : 2 * p + q < 24 := by omega
    rw [cal_e (r := σ 16 (2 * p + q)) (σ := σ) (by rw [rd_e e1 hi (by decide)]), wr_e e1 hi (by decide)]
  rcases (show q = 0 ∨ q = 1 by omega) with rfl | rfl
  · rw [if_pos (show nI 0 = 0 from rfl), if_pos (show nI 0 = 0 from rfl), cal_e (wrong_v _ _ _ _)]
    show ∃ (r : Int32) (σ1 τ1 : St), (if (1 : Int32) ≤ x3 then _ else _) = _ ∧ _
    by_cases h3 : (1 : Int32) ≤ x3
    · rw [if_pos h3, if_pos h3]
      by_cases h4 : x3 ≤ 40
      · rw [if_pos (show x3 ≤ pw_GP 0 from h4), if_pos h4]
        unfold fX11_place_b51 fX11_place_b84
        rw [if_pos rfl, if_pos (show nI 0 = 0 from rfl), rd_nI hp (by decide), if_pos (show nI 0 = 0 from rfl), wr_nI hp (by decide)]
        obtain ⟨v, hv, rfl⟩ := nI_of2 (x := x3) (M := 40) (n := 40) rfl (by rw [i32_nlt]; rw [Int32.le_iff_toInt_le] at *; have : (1 : Int32).toInt = 1 := rfl; have : (0 : Int32).toInt = 0 := rfl; omega) h4
        refine ⟨_, up2 σ 16 (2 * p + 0) (nI v), up2 τ 13 p (nI v), cal_e (up _), sp_e (g6 p hp).1.symm, dn, nb, np, hh, nw, nj, ns, nt, nd, g1, g2, g3, g4, g5, ?_, g7, g8, g9, g10, g11, g12, g13⟩
        intro r hr
        show upd (σ 16) (2 * p + 0) (nI v) (2 * r) = upd (τ 13) p (nI v) r ∧ upd (σ 16) (2 * p + 0) (nI v) (2 * r + 1) = τ 14 r ∧ (∃ n, n ≤ 40 ∧ upd (τ 13) p (nI v) r = nI n) ∧ ∃ n, n ≤ 200 ∧ τ 14 r = nI n
        rw [upd_n (σ 16) (i := 2 * r + 1) _ (by omega)]
        by_cases e : r = p
        · subst e; rw [show 2 * r + 0 = 2 * r from rfl, upd_s, upd_s]; exact ⟨rfl, (g6 r hr).2.1, ⟨v, hv, rfl⟩, (g6 r hr).2.2.2⟩
        · rw [upd_n (σ 16) _ (by omega), upd_n _ _ e]; exact g6 r hr
      · rw [if_neg (show ¬ x3 ≤ pw_GP 0 from h4), if_neg h4]
        unfold fX11_place_b51
        rw [if_neg (by decide)]
        exact fin6 hI
    · rw [if_neg h3, if_neg h3]
      unfold fX11_place_b51
      rw [if_neg (by decide)]
      exact fin4 hI
  · rw [if_neg (show ¬ nI 1 = 0 by decide), if_neg (show ¬ nI 1 = 0 by decide), cal_e (wrong_v _ _ _ _)]
    show ∃ (r : Int32) (σ1 τ1 : St), (if (0 : Int32) ≤ x3 then _ else _) = _ ∧ _
    by_cases h3 : (0 : Int32) ≤ x3
    · rw [if_pos h3, if_pos h3]
      by_cases h4 : x3 ≤ 200
      · rw [if_pos (show x3 ≤ pw_GP 1 from h4), if_pos h4]
        unfold fX11_place_b51 fX11_place_b84
        rw [if_pos rfl, if_neg (show ¬ nI 1 = 0 by decide), rd_nI hp (by decide), if_neg (show ¬ nI 1 = 0 by decide), wr_nI hp (by decide)]
        obtain ⟨v, hv, rfl⟩ := nI_of2 (x := x3) (M := 200) (n := 200) rfl (i32_nlt.mpr h3) h4
        refine ⟨_, up2 σ 16 (2 * p + 1) (nI v), up2 τ 14 p (nI v), cal_e (up _), sp_e (g6 p hp).2.1.symm, dn, nb, np, hh, nw, nj, ns, nt, nd, g1, g2, g3, g4, g5, ?_, g7, g8, g9, g10, g11, g12, g13⟩
        intro r hr
        show upd (σ 16) (2 * p + 1) (nI v) (2 * r) = τ 13 r ∧ upd (σ 16) (2 * p + 1) (nI v) (2 * r + 1) = upd (τ 14) p (nI v) r ∧ (∃ n, n ≤ 40 ∧ τ 13 r = nI n) ∧ ∃ n, n ≤ 200 ∧ upd (τ 14) p (nI v) r = nI n
        rw [upd_n (σ 16) (i := 2 * r) _ (by omega)]
        by_cases e : r = p
        · subst e; rw [upd_s, upd_s]; exact ⟨(g6 r hr).1, rfl, (g6 r hr).2.2.1, v, hv, rfl⟩
        · rw [upd_n (σ 16) _ (by omega), upd_n _ _ e]; exact g6 r hr
      · rw [if_neg (show ¬ x3 ≤ pw_GP 1 from h4), if_neg h4]
        unfold fX11_place_b51
        rw [if_neg (by decide)]
        exact fin6 hI
    · rw [if_neg h3, if_neg h3]
      unfold fX11_place_b51
      rw [if_neg (by decide)]
      exact fin4 hI
/-- colour -/
theorem sim_colour {σ τ : St} (hI : Inv σ τ) (x1 x2 x3 : Int32) : ∃ (r : Int32) (σ1 τ1 : St), fX10_colour x1 x2 x3 σ = some (r, σ1) ∧ fX11_colour x1 x2 x3 τ = some (r, τ1) ∧ Inv σ1 τ1 := by
  unfold fX10_colour fX11_colour
  by_cases h1 : x1 < 0 ∨ (12 : Int32) ≤ x1
  · rw [wi_f h1, is_f h1]
    exact fin1 hI
  rw [wi_t h1, is_t h1]
  by_cases h2 : x2 < 0
  · rw [if_pos h2, if_pos h2]; exact fin4 hI
  rw [if_neg h2, if_neg h2]
  by_cases h3 : x2 ≤ x3
  · rw [if_pos h3, if_pos h3]
    by_cases h4 : x3 ≤ 1000
    · rw [if_pos h4, if_pos h4]
      obtain ⟨p, hp, rfl⟩ := ix_of (N := 12) rfl (by decide) h1
      obtain ⟨dn, nb, np, hh, nw, nj, ns, nt, nd, g1, g2, g3, g4, g5, g6, g7, g8, g9, g10, g11, g12, g13⟩ := id hI
      rw [wr_nI hp (by decide), wr_nI hp (by decide), wr_nI hp (by decide), wr_nI hp (by decide)]
      refine ⟨1, up2 (up2 σ 32 p x2) 33 p x3, up2 (up2 τ 24 p x2) 25 p x3, rfl, rfl, dn, nb, np, hh, nw, nj, ns, nt, nd, g1, g2, g3, g4, g5, g6, g7, g8, g9, ?_, g11, g12, g13⟩
      have h5 : ¬ x3 < 0 := by rw [Int32.le_iff_toInt_le] at h3; rw [Int32.lt_iff_toInt_lt] at *; omega
      obtain ⟨t, ht, rfl⟩ := nI_of2 (M := 1000) (n := 1000) rfl h5 h4
      obtain ⟨f, hf, rfl⟩ := nI_of h2
      have hft : f ≤ t := (nI_leI hf (by omega)).mp h3
      intro r hr
      show upd (σ 32) p (nI f) r = upd (τ 24) p (nI f) r ∧ upd (σ 33) p (nI t) r = upd (τ 25) p (nI t) r ∧ ∃ f' t', f' ≤ t' ∧ t' ≤ 1000 ∧ upd (σ 32) p (nI f) r = nI f' ∧ upd (σ 33) p (nI t) r = nI t'
      by_cases e : r = p
      · subst e; rw [upd_s, upd_s, upd_s, upd_s]; exact ⟨rfl, rfl, f, t, hft, ht, rfl, rfl⟩
      · rw [upd_n _ _ e, upd_n _ _ e, upd_n _ _ e, upd_n _ _ e]; exact g10 r hr
    · rw [if_neg h4, if_neg h4]; exact fin6 hI
  · rw [if_neg h3, if_neg h3]; exact fin4 hI
