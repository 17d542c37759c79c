theorem ip_v (x : Int32) (τ : St) : fX11_isPiece x τ = some (if x < 0 ∨ τ 0 18 ≤ x then 0 else 1, τ) := by
  unfold fX11_isPiece
  rw [cal_e (is_v _ _ _)]
  by_cases h : x < 0 ∨ τ 0 18 ≤ x
  · rw [if_pos h]; rfl
  · rw [if_neg h]; rfl
theorem ip_f {α : Type} {x : Int32} {τ : St} {A B : St → Option α} (h : x < 0 ∨ τ 0 18 ≤ x) : cal (fX11_isPiece x τ) (fun v s => if v = 0 then A s else B s) = A τ := by
  rw [cal_e (ip_v x τ), if_pos h, if_pos rfl]
theorem ip_t {α : Type} {x : Int32} {τ : St} {A B : St → Option α} (h : ¬ (x < 0 ∨ τ 0 18 ≤ x)) : cal (fX11_isPiece x τ) (fun v s => if v = 0 then A s else B s) = B τ := by
  rw [cal_e (ip_v x τ), if_neg h, if_neg (by decide)]
/-- skill, job -/
theorem sim_skill {σ τ : St} (hI : Inv σ τ) (x1 x2 : Int32) : ∃ (r : Int32) (σ1 τ1 : St), fX10_skill x1 x2 σ = some (r, σ1) ∧ fX11_skill x1 x2 τ = some (r, τ1) ∧ Inv σ1 τ1 := by
  unfold fX10_skill fX11_skill
  by_cases h1 : x1 < 0 ∨ (3 : Int32) ≤ x1
  · rw [wi_f h1, is_f h1]
    unfold fX11_skill_b19
    rw [if_neg (by decide)]
    exact fin1 hI
  rw [wi_t h1, is_t h1, cal_e (wrong_v _ _ _ _)]
  by_cases h2 : (1 : Int32) ≤ x2
  · rw [if_pos h2, if_pos h2]
    by_cases h3 : x2 ≤ 20
    · rw [if_pos h3, if_pos h3]
      obtain ⟨p, hp, rfl⟩ := ix_of (N := 3) rfl (by decide) h1
      obtain ⟨dn, nb, np, hh, nw, nj, ns, nt, nd, g1, g2, g3, g4, g5, g6, g7, g8, g9, g10, ⟨k1, k2, k3, sn, ln, k4, k5, k6⟩, g12, g13⟩ := id hI
      unfold fX9_changeSkill fX11_skill_b19
      rw [if_pos rfl, rd_nI hp (by decide), wr_nI hp (by decide), rd_nI hp (by decide), wr_nI hp (by decide)]
      have h2' : (1 : Int) ≤ x2.toInt := by rw [Int32.le_iff_toInt_le] at h2; exact h2
      obtain ⟨v, hv, rfl⟩ := nI_of2 (x := x2) (M := 20) (n := 20) rfl (by rw [Int32.lt_iff_toInt_lt]; have : (0 : Int32).toInt = 0 := rfl; omega) h3
      have hv1 : 1 ≤ v := by rw [nI_toInt (by omega)] at h2'; omega
      refine ⟨σ 36 p, up2 (up2 σ 36 p (nI v)) 35 7 0, up2 τ 27 p (nI v), rfl, sp_e ((k4 p hp).2.1.trans (k4 p hp).1.symm), dn, nb, np, hh, nw, nj, ns, nt, nd, g1, g2, g3, g4, g5, g6, g7, g8, g9, g10, ⟨k1, k2, k3, fun i => if i = p then v else sn i, ln, ?_, k5, Or.inl rfl⟩, g12, g13⟩
      intro r hr
      show upd (σ 36) p (nI v) r = nI (if r = p then v else sn r) ∧ upd (τ 27) p (nI v) r = nI (if r = p then v else sn r) ∧ 1 ≤ (if r = p then v else sn r) ∧ (if r = p then v else sn r) ≤ 20
      by_cases e : r = p
      · subst e; rw [upd_s, upd_s, if_pos rfl]; exact ⟨rfl, rfl, hv1, hv⟩
      · rw [upd_n _ _ e, upd_n _ _ e, if_neg e]; exact k4 r hr
    · rw [if_neg h3, if_neg h3]
      unfold fX11_skill_b19
      rw [if_neg (by decide)]
      exact fin6 hI
  · rw [if_neg h2, if_neg h2]
    unfold fX11_skill_b19
    rw [if_neg (by decide)]
    exact fin4 hI
theorem sim_job {σ τ : St} (hI : Inv σ τ) (x1 : Int32) : ∃ (r : Int32) (σ1 τ1 : St), fX10_job x1 σ = some (r, σ1) ∧ fX11_job x1 τ = some (r, τ1) ∧ Inv σ1 τ1 := by
  unfold fX10_job fX11_job
  rw [cal_e (wrong_v _ _ _ _)]
  by_cases h1 : (1 : Int32) ≤ x1
  · rw [if_pos h1, if_pos h1]
    by_cases h2 : x1 ≤ 500
    · have h2' : ¬ (500 : Int32) < x1 := i32_nlt.mpr h2
      rw [if_pos h2, if_neg h2', if_pos rfl]
      obtain ⟨dn, nb, np, hh, nw, nj, ns, nt, nd, g1, g2, g3, g4, g5, g6, g7, g8, g9, g10, ⟨k1, k2, k3, sn, ln, k4, k5, k6⟩, g12, g13⟩ := id hI
      by_cases h4 : nj < 8
      · have c1 : σ 35 5 < 8 := by rw [k2]; exact nI_lt h4 (by decide)
        have c2 : ¬ τ 0 22 = 8 := by rw [k3]; exact fun e => absurd ((nI_eq (by omega) (by decide)).mp (e.trans (show (8 : Int32) = nI 8 from rfl))) (by omega)
        rw [if_pos c1, if_neg c2]
        unfold fX9_addJob fX11_job_b25
        rw [if_pos rfl]
        have h1' : (1 : Int) ≤ x1.toInt := by rw [Int32.le_iff_toInt_le] at h1; exact h1
        obtain ⟨v, hv, rfl⟩ := nI_of2 (x := x1) (M := 500) (n := 500) rfl (by rw [Int32.lt_iff_toInt_lt]; have : (0 : Int32).toInt = 0 := rfl; omega) h2
        have hv1 : 1 ≤ v := by rw [nI_toInt (by omega)] at h1'; omega
        refine ⟨nI nj, up2 (up2 (up2 σ 37 nj (nI v)) 35 5 (σ 35 5 + 1)) 35 7 0, up2 (up2 τ 28 nj (nI v)) 0 22 (τ 0 22 + 1), ?_, ?_, ?_⟩
        · exact cal_e ((wr_e k2 h4 (by decide)).trans (sp_e (show σ 35 5 + 1 - 1 = nI nj by rw [k2]; exact nIp nj)))
        · exact (wr_e k3 h4 (by decide)).trans (sp_e (show τ 0 22 + 1 - 1 = nI nj by rw [k3]; exact nIp nj))
        · refine ⟨dn, nb, np, hh, nw, nj + 1, ns, nt, nd, g1, g2, g3, g4, g5, g6, g7, g8, g9, g10, ⟨by omega, show σ 35 5 + 1 = nI (nj + 1) by rw [k2, nI_1], show τ 0 22 + 1 = nI (nj + 1) by rw [k3, nI_1], sn, fun i => if i = nj then v else ln i, k4, ?_, Or.inl rfl⟩, g12, g13⟩
          intro r hr
          show upd (σ 37) nj (nI v) r = nI (if r = nj then v else ln r) ∧ upd (τ 28) nj (nI v) r = nI (if r = nj then v else ln r) ∧ 1 ≤ (if r = nj then v else ln r) ∧ (if r = nj then v else ln r) ≤ 500
          by_cases e : r = nj
          · subst e; rw [upd_s, upd_s, if_pos rfl]; exact ⟨rfl, rfl, hv1, hv⟩
          · rw [upd_n _ _ e, upd_n _ _ e, if_neg e]; exact k5 r (by omega)
      · have e20 : nj = 8 := by omega
        subst e20
        have c1 : ¬ σ 35 5 < 8 := by rw [k2]; decide
        have c2 : τ 0 22 = 8 := by rw [k3]; rfl
        rw [if_neg c1, if_pos c2]
        unfold fX11_job_b25
        rw [if_neg (by decide)]
        exact fin6 hI
    · have h2' : (500 : Int32) < x1 := i32_nle.mp h2
      rw [if_neg h2, if_pos h2', if_neg (by decide)]
      unfold fX11_job_b25
      rw [if_neg (by decide)]
      exact fin6 hI
  · rw [if_neg h1, if_neg h1, if_neg (by decide)]
    unfold fX11_job_b25
    rw [if_neg (by decide)]
    exact fin4 hI
/-- paint -/
theorem sim_paint {σ τ : St} (hI : Inv σ τ) (x1 : Int32) : ∃ (r : Int32) (σ1 τ1 : St), fX10_paint x1 σ = some (r, σ1) ∧ fX11_paint x1 τ = some (r, τ1) ∧ Inv σ1 τ1 := by
  unfold fX10_paint fX11_paint
  obtain ⟨dn, nb, np, hh, nw, nj, ns, nt, nd, g1, g2, g3, g4, ⟨p1, p2, p3, p4, p5⟩, g6, g7, g8, g9, g10, g11, g12, g13⟩ := id hI
  have hc : τ 0 18 = σ 7 7 := p3.trans p2.symm
  by_cases h1 : x1 < 0 ∨ σ 7 7 ≤ x1
  · rw [wi_f h1, ip_f (by rw [hc]; exact h1)]
    exact fin1 hI
  rw [wi_t h1, ip_t (by rw [hc]; exact h1)]
  obtain ⟨k, hk, rfl⟩ := ix_of p2 (by omega) h1
  rw [rd_nI (show k < 80 by omega) (by decide), rd_nI (show k < 80 by omega) (by decide), ← (p5 k hk).2.2.2.1]
  by_cases h2 : σ 11 k = 1
  · rw [if_pos h2, if_pos h2, wr_nI (show k < 80 by omega) (by decide), wr_nI (show k < 80 by omega) (by decide)]
    refine ⟨1, up2 σ 11 k 2, up2 τ 9 k 2, rfl, rfl, dn, nb, np, hh, nw, nj, ns, nt, nd, g1, g2, g3, g4, ⟨p1, p2, p3, fun i hi => ?_, fun i hi => ?_⟩, g6, g7, g8, g9, g10, g11, g12, g13⟩
    · exact (upd_n _ _ (by omega)).trans (p4 i hi)
    · obtain ⟨q1, q2, q3, q4, q5, q6, q7, q8, q9⟩ := p5 i hi
      refine ⟨q1, q2, q3, ?_, q5, q6, q7, q8, ?_⟩
      · show upd (σ 11) k 2 i = upd (τ 9) k 2 i
        by_cases e : i = k
        · subst e; rw [upd_s, upd_s]
        · rw [upd_n _ _ e, upd_n _ _ e]; exact q4
      · show (upd (σ 11) k 2 i = 1 ∨ upd (σ 11) k 2 i = 2) → _
        by_cases e : i = k
        · subst e; intro _; exact q9 (Or.inl h2)
        · rw [upd_n _ _ e]; exact q9
  · rw [if_neg h2, if_neg h2]
    exact fin3 hI
/-- unstack -/
theorem nI_n9 {n : Nat} (h : n < 2 ^ 31) : nI n ≠ -9 := fun e => by
  have h1 := congrArg Int32.toInt e
  rw [nI_toInt h] at h1
  have h2 : (-9 : Int32).toInt = -9 := rfl
  omega
theorem sim_unstack {σ τ : St} (hI : Inv σ τ) (x1 : Int32) : ∃ (r : Int32) (σ1 τ1 : St), fX10_unstack x1 σ = some (r, σ1) ∧ fX11_unstack x1 τ = some (r, τ1) ∧ Inv σ1 τ1 := by
  unfold fX10_unstack fX11_unstack
  by_cases h1 : x1 < 0 ∨ (12 : Int32) ≤ x1
  · rw [wi_f h1, is_f h1]
    exact fin1 hI
  rw [wi_t h1, is_t h1]
  obtain ⟨p, hp, rfl⟩ := ix_of (N := 12) rfl (by decide) h1
  obtain ⟨dn, nb, np, hh, nw, nj, ns, nt, nd, g1, g2, g3, g4, ⟨p1, p2, p3, p4, p5⟩, g6, g7, g8, g9, g10, g11, g12, g13⟩ := id hI
  rw [rd_nI hp (by decide), rd_nI hp (by decide), ← (g7 p hp).1]
  rcases (g7 p hp).2 with h2 | ⟨k, hk, h2⟩
  · rw [h2, wi_f (Or.inl (by decide)), if_neg (by decide)]
    exact fin3 hI
  · rw [h2, wi_t (by rw [p2]; exact ix_in hk (by omega)), if_pos (nI_pos' (by omega))]
    unfold fX10_takeOut fX11_takes
    refine ⟨nI k, up2 (up2 σ 17 p (-9)) 12 k (-9), up2 (up2 τ 15 p (-9)) 10 k (-9), ?_, ?_, ?_⟩
    · exact cal_e ((wr_nI hp (by decide)).trans (wr_nI (show k < 80 by omega) (by decide)))
    · have e15 : τ 15 p = nI k := (g7 p hp).1.symm.trans h2
      exact cal_e ((rd_nI hp (by decide)).trans ((wr_nI hp (by decide)).trans ((wr_e e15 (show k < 80 by omega) (by decide)).trans (sp_e e15))))
    · refine ⟨dn, nb, np, hh, nw, nj, ns, nt, nd, g1, g2, g3, g4, ⟨p1, p2, p3, p4, fun i hi => ?_⟩, g6, fun r hr => ?_, g8, g9, g10, g11, g12, g13⟩
      · obtain ⟨q1, q2, q3, q4, q5, q6, q7, q8, q9⟩ := p5 i hi
        refine ⟨q1, q2, q3, q4, ?_, q6, q7, ?_, q9⟩
        · show upd (σ 12) k (-9) i = upd (τ 10) k (-9) i
          by_cases e : i = k
          · subst e; rw [upd_s, upd_s]
          · rw [upd_n _ _ e, upd_n _ _ e]; exact q5
        · show upd (σ 12) k (-9) i = -9 ∨ ∃ p, p < 12 ∧ upd (σ 12) k (-9) i = nI p
          by_cases e : i = k
          · subst e; rw [upd_s]; exact Or.inl rfl
          · rw [upd_n _ _ e]; exact q8
      · show upd (σ 17) p (-9) r = upd (τ 15) p (-9) r ∧ (upd (σ 17) p (-9) r = -9 ∨ ∃ k, k < np ∧ upd (σ 17) p (-9) r = nI k)
        by_cases e : r = p
        · subst e; rw [upd_s, upd_s]; exact ⟨rfl, Or.inl rfl⟩
        · rw [upd_n _ _ e, upd_n _ _ e]; exact g7 r hr
/-- debt, pay -/
theorem sim_debt {σ τ : St} (hI : Inv σ τ) (x1 x2 : Int32) : ∃ (r : Int32) (σ1 τ1 : St), fX10_debt x1 x2 σ = some (r, σ1) ∧ fX11_debt x1 x2 τ = some (r, τ1) ∧ Inv σ1 τ1 := by
  unfold fX10_debt fX11_debt fX10_debt_b41 fX11_debt_b38
  by_cases h1 : x1 < 0
  · rw [if_pos h1, if_pos h1]; exact fin4 hI
  rw [if_neg h1, if_neg h1]
  by_cases h2 : (0 : Int32) ≤ x2
  · rw [if_pos h2, if_pos h2]
    by_cases h3 : (1000000 : Int32) < x1
    · rw [if_pos h3, if_pos h3]; exact fin6 hI
    rw [if_neg h3, if_neg h3]
    by_cases h4 : (500 : Int32) < x2
    · rw [if_pos h4, if_pos h4]; exact fin6 hI
    rw [if_neg h4, if_neg h4]
    obtain ⟨dn, nb, np, hh, nw, nj, ns, nt, nd, g1, g2, g3, g4, g5, g6, g7, g8, g9, g10, g11, g12, ⟨l1, l2, l3, l4⟩⟩ := id hI
    by_cases h5 : nd < 6
    · have c1 : σ 56 3 < 6 := by rw [l2]; exact nI_lt h5 (by decide)
      have c2 : ¬ τ 0 25 = 6 := by rw [l3]; exact fun e => absurd ((nI_eq (by omega) (by decide)).mp (e.trans (show (6 : Int32) = nI 6 from rfl))) (by omega)
      rw [if_pos c1, if_neg c2]
      unfold fX2_lend
      obtain ⟨v, hv, rfl⟩ := nI_of2 (x := x1) (M := 1000000) (n := 1000000) rfl h1 (i32_nlt.mp h3)
      obtain ⟨w, hw, rfl⟩ := nI_of2 (x := x2) (M := 500) (n := 500) rfl (i32_nlt.mpr h2) (i32_nlt.mp h4)
      refine ⟨nI nd, up2 (up2 (up2 (up2 σ 57 nd (nI v)) 58 nd (nI w)) 59 nd (σ 0 11)) 56 3 (σ 56 3 + 1), up2 (up2 (up2 (up2 τ 42 nd (nI v)) 43 nd (nI w)) 44 nd (τ 0 16)) 0 25 (τ 0 25 + 1), ?_, ?_, ?_⟩
      · exact cal_e ((wr_e l2 h5 (by decide)).trans ((wr_e l2 h5 (by decide)).trans ((wr_e l2 h5 (by decide)).trans (sp_e (show σ 56 3 + 1 - 1 = nI nd by rw [l2]; exact nIp nd)))))
      · exact (wr_e l3 h5 (by decide)).trans ((wr_e l3 h5 (by decide)).trans ((wr_e l3 h5 (by decide)).trans (sp_e (show τ 0 25 + 1 - 1 = nI nd by rw [l3]; exact nIp nd))))
      · refine ⟨dn, nb, np, hh, nw, nj, ns, nt, nd + 1, g1, g2, g3, g4, g5, g6, g7, g8, g9, g10, g11, g12, ⟨by omega, show σ 56 3 + 1 = nI (nd + 1) by rw [l2, nI_1], show τ 0 25 + 1 = nI (nd + 1) by rw [l3, nI_1], fun d hd => ?_⟩⟩
        show upd (σ 57) nd (nI v) d = upd (τ 42) nd (nI v) d ∧ upd (σ 58) nd (nI w) d = upd (τ 43) nd (nI w) d ∧ upd (σ 59) nd (σ 0 11) d = upd (τ 44) nd (τ 0 16) d ∧ (∃ v', v' ≤ 2000000000 ∧ upd (σ 57) nd (nI v) d = nI v') ∧ (∃ r, r ≤ 500 ∧ upd (σ 58) nd (nI w) d = nI r) ∧ ∃ m, m ≤ dn ∧ upd (σ 59) nd (σ 0 11) d = nI m
        by_cases e : d = nd
        · subst e; rw [upd_s, upd_s, upd_s, upd_s, upd_s, upd_s]
          exact ⟨rfl, rfl, g2.2.1.trans g2.2.2.symm, ⟨v, by omega, rfl⟩, ⟨w, hw, rfl⟩, dn, Nat.le_refl _, g2.2.1⟩
        · rw [upd_n _ _ e, upd_n _ _ e, upd_n _ _ e, upd_n _ _ e, upd_n _ _ e, upd_n _ _ e]; exact l4 d (by omega)
    · have e20 : nd = 6 := by omega
      subst e20
      have c1 : ¬ σ 56 3 < 6 := by rw [l2]; decide
      have c2 : τ 0 25 = 6 := by rw [l3]; rfl
      rw [if_neg c1, if_pos c2]; exact fin6 hI
  · rw [if_neg h2, if_neg h2]; exact fin4 hI
theorem sim_pay {σ τ : St} (hI : Inv σ τ) (x1 x2 : Int32) : ∃ (r : Int32) (σ1 τ1 : St), fX10_pay x1 x2 σ = some (r, σ1) ∧ fX11_pay x1 x2 τ = some (r, τ1) ∧ Inv σ1 τ1 := by
  unfold fX10_pay fX11_pay
  obtain ⟨dn, nb, np, hh, nw, nj, ns, nt, nd, g1, g2, g3, g4, g5, g6, g7, g8, g9, g10, g11, g12, ⟨l1, l2, l3, l4⟩⟩ := id hI
  have hc : τ 0 25 = σ 56 3 := l3.trans l2.symm
  by_cases h1 : x1 < 0 ∨ σ 56 3 ≤ x1
  · rw [wi_f h1, is_f (by rw [hc]; exact h1)]
    unfold fX11_pay_b32
    rw [if_neg (by decide)]
    exact fin1 hI
  rw [wi_t h1, is_t (by rw [hc]; exact h1)]
  obtain ⟨d, hd, rfl⟩ := ix_of l2 (by omega) h1
  have hd6 : d < 6 := by omega
  obtain ⟨m1, m2, m3, ⟨v, hv, m4⟩, m5, m6⟩ := l4 d hd
  rw [rd_nI hd6 (by decide), rd_nI hd6 (by decide), rd_nI hd6 (by decide), cal_e (wrong_v _ _ _ _), ← m1, m4]
  have hmin : ∀ x : Int32, x ≤ (if nI v < 1000000 then nI v else 1000000) ↔ ¬ ((1000000 : Int32) < x) ∧ x ≤ nI v := by
    intro x
    have e0 : (1000000 : Int32).toInt = 1000000 := rfl
    by_cases q : nI v < 1000000
    · rw [if_pos q, Int32.lt_iff_toInt_lt, Int32.le_iff_toInt_le]; rw [Int32.lt_iff_toInt_lt] at q; omega
    · rw [if_neg q, Int32.lt_iff_toInt_lt, Int32.le_iff_toInt_le, Int32.le_iff_toInt_le]; rw [Int32.lt_iff_toInt_lt] at q; omega
  by_cases h2 : (1 : Int32) ≤ x2
  · rw [if_pos h2, if_pos h2]
    by_cases h3 : (1000000 : Int32) < x2
    · rw [if_pos h3, if_neg (fun q => ((hmin x2).mp q).1 h3)]
      unfold fX11_pay_b32
      rw [if_neg (by decide)]
      exact fin6 hI
    rw [if_neg h3]
    by_cases h4 : x2 ≤ nI v
    · rw [if_pos h4, if_pos ((hmin x2).mpr ⟨h3, h4⟩)]
      unfold fX11_pay_b32
      rw [if_pos rfl]
      have h2' : (1 : Int) ≤ x2.toInt := by rw [Int32.le_iff_toInt_le] at h2; exact h2
      obtain ⟨w, hw, rfl⟩ := nI_of2 (x := x2) (M := 1000000) (n := 1000000) rfl (by rw [Int32.lt_iff_toInt_lt]; have : (0 : Int32).toInt = 0 := rfl; omega) (i32_nlt.mp h3)
      have hwv : w ≤ v := (nI_leI (by omega) (by omega)).mp h4
      have e1 : nI v - nI w = nI (v - w) := pk_sub hwv
      have e2 : τ 42 d - nI w = nI (v - w) := by rw [← m1, m4, pk_sub hwv]
      refine ⟨nI (v - w), up2 σ 57 d (nI v - nI w), up2 τ 42 d (τ 42 d - nI w), ?_, ?_, ?_⟩
      · exact (wr_nI hd6 (by decide)).trans ((rd_nI hd6 (by decide)).trans (sp_e ((up2_s _ _ _ _).trans e1)))
      · exact (rd_nI hd6 (by decide)).trans ((wr_nI hd6 (by decide)).trans ((rd_nI hd6 (by decide)).trans (sp_e ((up2_s _ _ _ _).trans e2))))
      · refine ⟨dn, nb, np, hh, nw, nj, ns, nt, nd, g1, g2, g3, g4, g5, g6, g7, g8, g9, g10, g11, g12, ⟨l1, l2, l3, fun i hi => ?_⟩⟩
        obtain ⟨o1, o2, o3, o4, o5, o6⟩ := l4 i hi
        refine ⟨?_, o2, o3, ?_, o5, o6⟩
        · show upd (σ 57) d (nI v - nI w) i = upd (τ 42) d (τ 42 d - nI w) i
          by_cases e : i = d
          · subst e; rw [upd_s, upd_s, e1, e2]
          · rw [upd_n _ _ e, upd_n _ _ e]; exact o1
        · show ∃ v', v' ≤ 2000000000 ∧ upd (σ 57) d (nI v - nI w) i = nI v'
          by_cases e : i = d
          · subst e; rw [upd_s]; exact ⟨v - w, by omega, e1⟩
          · rw [upd_n _ _ e]; exact o4
    · rw [if_neg h4, if_neg (fun q => h4 ((hmin x2).mp q).2)]
      unfold fX11_pay_b32
      rw [if_neg (by decide)]
      exact fin6 hI
  · rw [if_neg h2, if_neg h2]
    unfold fX11_pay_b32
    rw [if_neg (by decide)]
    exact fin4 hI
/-- pieceOf -/
theorem sim_pieceOf {σ τ : St} (hI : Inv σ τ) (x1 x2 : Int32) : ∃ (r : Int32) (σ1 τ1 : St), fX10_pieceOf x1 x2 σ = some (r, σ1) ∧ fX11_pieceOf x1 x2 τ = some (r, τ1) ∧ Inv σ1 τ1 := by
  unfold fX10_pieceOf fX11_pieceOf
  obtain ⟨dn, nb, np, hh, nw, nj, ns, nt, nd, g1, g2, g3, g4, ⟨p1, p2, p3, p4, p5⟩, g6, g7, g8, g9, g10, g11, g12, g13⟩ := id hI
  have hc : τ 0 18 = σ 7 7 := p3.trans p2.symm
  by_cases h1 : x1 < 0 ∨ σ 7 7 ≤ x1
  · rw [wi_f h1, ip_f (by rw [hc]; exact h1)]
    exact fin1 hI
  rw [wi_t h1, ip_t (by rw [hc]; exact h1)]
  obtain ⟨k, hk, rfl⟩ := ix_of p2 (by omega) h1
  have h80 : k < 80 := by omega
  obtain ⟨⟨b, hb, q1, q1'⟩, q2, q3, q4, q5, q6, q7, q8, q9⟩ := p5 k hk
  by_cases c0 : x2 = 0
  · rw [if_pos c0, if_pos c0, rd_nI h80 (by decide), rd_nI h80 (by decide)]; exact ⟨_, σ, τ, rfl, sp_e q4.symm, hI⟩
  rw [if_neg c0, if_neg c0]
  by_cases c1 : x2 = 1
  · rw [if_pos c1, if_pos c1, rd_nI h80 (by decide), rd_nI h80 (by decide)]; exact ⟨_, σ, τ, rfl, sp_e q2.symm, hI⟩
  rw [if_neg c1, if_neg c1]
  by_cases c2 : x2 = 2
  · rw [if_pos c2, if_pos c2, rd_nI h80 (by decide), rd_nI h80 (by decide)]; exact ⟨_, σ, τ, rfl, sp_e q3.symm, hI⟩
  rw [if_neg c2, if_neg c2]
  by_cases c3 : x2 = 3
  · have hb20 : b < 20 := by have := g4.1; omega
    rw [if_pos c3, if_pos c3, rd_nI h80 (by decide), rd_nI h80 (by decide), rd_e q1 hb20 (by decide)]; exact ⟨_, σ, τ, rfl, sp_e q1'.symm, hI⟩
  rw [if_neg c3, if_neg c3]
  by_cases c4 : x2 = 4
  · rw [if_pos c4, if_pos c4, rd_nI h80 (by decide), rd_nI h80 (by decide)]; exact ⟨_, σ, τ, rfl, sp_e q5.symm, hI⟩
  rw [if_neg c4, if_neg c4]
  by_cases c5 : x2 = 5
  · rw [if_pos c5, if_pos c5, rd_nI h80 (by decide), rd_nI h80 (by decide)]; exact ⟨_, σ, τ, rfl, sp_e q6.symm, hI⟩
  rw [if_neg c5, if_neg c5]
  by_cases c6 : x2 = 6
  · rw [if_pos c6, if_pos c6, rd_nI h80 (by decide), rd_nI h80 (by decide)]; exact ⟨_, σ, τ, rfl, sp_e q7.symm, hI⟩
  rw [if_neg c6, if_neg c6]
  exact fin2 hI
