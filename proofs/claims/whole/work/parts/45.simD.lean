/-- tell: the new piece goes into the order by its worth -/
theorem tell_loop {nw w : Nat} {wv ord : Nat → Nat} (h8 : nw ≤ 7) (hw : w ≤ 999) (hwv : ∀ i, i < nw → ord i < nw ∧ wv (ord i) ≤ 999) : ∀ (a n : Nat) (σ : St), a ≤ nw → a < n → (∀ i, i < nw → σ 24 (ord i) = nI (wv (ord i))) → (∀ i, i < a → σ 27 i = nI (ord i)) → (∀ i, a ≤ i → i < nw → σ 27 (i + 1) = nI (ord i) ∧ wv (ord i) < w) →
    ∃ (a' : Nat) (σ' : St), a' ≤ a ∧ fX8_tell_b25 n (nI w) (nI a) σ = fX8_tell_b66 (nI a') σ' ∧ (∀ c, c ≠ 27 → σ' c = σ c) ∧ (∀ i, i < a' → σ' 27 i = nI (ord i)) ∧ (∀ i, a' ≤ i → i < nw → σ' 27 (i + 1) = nI (ord i) ∧ wv (ord i) < w) ∧ (a' = 0 ∨ w ≤ wv (ord (a' - 1))) := by
  intro a
  induction a with
  | zero =>
    intro n σ ha hn h1 h2 h3
    obtain ⟨n, rfl⟩ : ∃ q, n = q + 1 := ⟨n - 1, by omega⟩
    rw [fX8_tell_b25, if_pos (by decide)]
    exact ⟨0, σ, Nat.le_refl _, rfl, fun _ _ => rfl, fun i hi => absurd hi (by omega), h3, Or.inl rfl⟩
  | succ a ih =>
    intro n σ ha hn h1 h2 h3
    obtain ⟨n, rfl⟩ : ∃ q, n = q + 1 := ⟨n - 1, by omega⟩
    have e1 : nI (a + 1) - 1 = nI a := nI_pred a
    have hoa := hwv a (by omega)
    rw [fX8_tell_b25, if_neg (nI_nle (by omega) (by omega)), rd_e e1 (show a < 8 by omega) (by decide), rd_e (h2 a (by omega)) (show ord a < 8 by omega) (by decide), h1 a (by omega)]
    by_cases c : w ≤ wv (ord a)
    · rw [if_pos (nI_le c (by omega))]
      exact ⟨a + 1, σ, Nat.le_refl _, rfl, fun _ _ => rfl, h2, h3, Or.inr c⟩
    · rw [if_neg (nI_ge (by omega) (by omega)), rd_e e1 (show a < 8 by omega) (by decide), wr_nI (show a + 1 < 8 by omega) (by decide), pk_m1]
      obtain ⟨a', σ', q1, q2, q3, q4, q5, q6⟩ := ih n (up2 σ 27 (a + 1) (σ 27 a)) (by omega) (by omega) (fun i hi => h1 i hi) (fun i hi => by rw [up2_i _ _ _ _ _ (by omega)]; exact h2 i (by omega)) (fun i hi hi2 => by
        by_cases e : i = a
        · subst e; rw [up2_s]; exact ⟨h2 i (by omega), by omega⟩
        · rw [up2_i _ _ _ _ _ (by omega)]; exact h3 i (by omega) hi2)
      exact ⟨a', σ', by omega, q2, fun c hc => (q3 c hc).trans (up2_c _ _ _ _ _ hc), q4, q5, q6⟩
theorem sim_want {σ τ : St} (hI : Inv σ τ) (x1 x2 : Int32) : ∃ (r : Int32) (σ1 τ1 : St), fX10_want x1 x2 σ = some (r, σ1) ∧ fX11_want x1 x2 τ = some (r, τ1) ∧ Inv σ1 τ1 := by
  unfold fX10_want fX11_want
  obtain ⟨dn, nb, np, hh, nw, nj, ns, nt, nd, g1, g2, g3, g4, ⟨p1, p2, p3, p4, p5⟩, g6, g7, g8, ⟨s1, s2, s3, tn, wv, ord, s4, s5, s6, s7⟩, g10, g11, g12, g13⟩ := id hI
  have hc : τ 0 18 = σ 7 7 := p3.trans p2.symm
  by_cases h1 : x1 < 0 ∨ σ 7 7 ≤ x1
  · rw [wi_f h1, ip_f (by rw [hc]; exact h1)]
    exact fin1 hI
  rw [wi_t h1, ip_t (by rw [hc]; exact h1)]
  obtain ⟨k, hk, rfl⟩ := ix_of p2 (by omega) h1
  rcases loose_v hI hk p2 p1 (A := fun s => cal (fX10_refuse (-3) s) (fun v15 σ14 => some (v15, σ14))) (B := fun s => if (1 : Int32) ≤ x2 then (if (999 : Int32) < x2 then (cal (fX10_refuse (-6) s) (fun v9 σ8 => some (v9, σ8))) else (if (s 22 8) < 8 then (cal (fX8_tell (nI k) x2 s) (fun v12 σ11 => some (v12, σ11))) else (cal (fX10_refuse (-6) s) (fun v15 σ14 => some (v15, σ14))))) else (cal (fX10_refuse (-4) s) (fun v18 σ17 => some (v18, σ17))))
    (A' := fun s => fX11_want_b40 s) (B' := fun s => cal (fX11_wrong x2 1 999 s) (fun v20 σ19 => if v20 = 0 then (if (σ19 0 21) = 8 then (fX11_want_b72 (nI k) x2 (-6) σ19) else (fX11_want_b72 (nI k) x2 v20 σ19)) else (fX11_want_b72 (nI k) x2 v20 σ19))) with ⟨e1, e2⟩ | ⟨e1, e9, e2⟩
  · rw [e1, e2]
    exact fin3 hI
  rw [e1, e2, cal_e (wrong_v _ _ _ _)]
  by_cases h2 : (1 : Int32) ≤ x2
  · rw [if_pos h2, if_pos h2]
    by_cases h3 : x2 ≤ 999
    · rw [if_neg (i32_nlt.mpr h3), if_pos h3, if_pos rfl]
      by_cases h4 : nw < 8
      · have c1 : σ 22 8 < 8 := by rw [s2]; exact nI_lt h4 (by decide)
        have c2 : ¬ τ 0 21 = 8 := by rw [s3]; exact fun e => absurd ((nI_eq (by omega) (by decide)).mp (e.trans (show (8 : Int32) = nI 8 from rfl))) (by omega)
        rw [if_pos c1, if_neg c2]
        unfold fX8_tell fX11_want_b72
        rw [if_pos rfl]
        have h2' : (1 : Int) ≤ x2.toInt := by rw [Int32.le_iff_toInt_le] at h2; exact h2
        obtain ⟨w, hw, rfl⟩ := nI_of2 (x := x2) (M := 999) (n := 999) rfl (by rw [Int32.lt_iff_toInt_lt]; have : (0 : Int32).toInt = 0 := rfl; omega) h3
        obtain ⟨a, σ', q1, q2, q3, q4, q5, q6⟩ := tell_loop (nw := nw) (w := w) (wv := fun i => if i = nw then w else wv i) (ord := ord) (by omega) hw (fun i hi => ⟨(s5 i hi).1, by
            rw [if_neg (show ¬ ord i = nw by have := (s5 i hi).1; omega)]; exact (s4 _ (s5 i hi).1).2.2.2.2.2⟩) nw FU (up2 (up2 σ 23 nw (nI k)) 24 nw (nI w)) (Nat.le_refl _) (fu_lt (by omega)) (fun i hi => by
            have := (s5 i hi).1
            show upd (σ 24) nw (nI w) (ord i) = _
            rw [upd_n _ _ (by omega), if_neg (by omega)]; exact (s4 _ (s5 i hi).1).2.2.2.1) (fun i hi => (s5 i hi).2) (fun i h1 h2 => absurd h2 (by omega))
        have hc22 : σ' 22 8 = nI nw := (congrFun (q3 22 (by decide)) 8).trans s2
        refine ⟨nI (nw + 1), up2 (up2 σ' 27 a (σ' 22 8)) 22 8 (σ' 22 8 + 1), up2 (up2 (up2 τ 20 nw (nI k)) 21 nw (nI w)) 0 21 (τ 0 21 + 1), ?_, ?_, ?_⟩
        · refine cal_e ((wr_e s2 h4 (by decide)).trans ((wr_e s2 h4 (by decide)).trans ?_))
          show fX8_tell_b25 FU (nI w) (σ 22 8) (up2 (up2 σ 23 nw (nI k)) 24 nw (nI w)) = _
          rw [s2, q2]
          unfold fX8_tell_b66
          exact (wr_nI (show a < 8 by omega) (by decide)).trans (sp_e (show σ' 22 8 + 1 = nI (nw + 1) by rw [hc22, nI_1]))
        · exact (wr_e s3 h4 (by decide)).trans ((wr_e s3 h4 (by decide)).trans (sp_e (show τ 0 21 + 1 = nI (nw + 1) by rw [s3, nI_1])))
        · have key : InvP dn nb np hh (nw + 1) nj ns nt nd (up2 (up2 (up2 (up2 (va_up σ 27 (σ' 27)) 23 nw (nI k)) 24 nw (nI w)) 27 a (σ' 22 8)) 22 8 (σ' 22 8 + 1)) (up2 (up2 (up2 τ 20 nw (nI k)) 21 nw (nI w)) 0 21 (τ 0 21 + 1)) := by
            refine ⟨g1, g2, g3, g4, ⟨p1, p2, p3, p4, p5⟩, g6, g7, g8, ⟨by omega, show σ' 22 8 + 1 = nI (nw + 1) by rw [hc22, nI_1], show τ 0 21 + 1 = nI (nw + 1) by rw [s3, nI_1], fun i => if i = nw then k else tn i, fun i => if i = nw then w else wv i, fun i => if i < a then ord i else if i = a then nw else ord (i - 1), fun j hj => ?_, fun i hi => ?_, fun i j hi hj => ?_, fun i j hij hj => ?_⟩, g10, g11, g12, g13⟩
            · show upd (σ 23) nw (nI k) j = nI (if j = nw then k else tn j) ∧ upd (τ 20) nw (nI k) j = nI (if j = nw then k else tn j) ∧ (if j = nw then k else tn j) < np ∧ upd (σ 24) nw (nI w) j = nI (if j = nw then w else wv j) ∧ upd (τ 21) nw (nI w) j = nI (if j = nw then w else wv j) ∧ (if j = nw then w else wv j) ≤ 999
              by_cases e : j = nw
              · subst e; simp only [upd_s, if_true]; exact ⟨trivial, trivial, hk, trivial, trivial, hw⟩
              · simp only [upd_n _ _ e, if_neg e]; exact s4 j (by omega)
            · show (if i < a then ord i else if i = a then nw else ord (i - 1)) < nw + 1 ∧ upd (σ' 27) a (σ' 22 8) i = nI (if i < a then ord i else if i = a then nw else ord (i - 1))
              by_cases e1 : i < a
              · rw [if_pos e1, upd_n _ _ (by omega)]; exact ⟨by have := (s5 i (by omega)).1; omega, q4 i e1⟩
              · rw [if_neg e1]
                by_cases e2 : i = a
                · subst e2; rw [if_pos rfl, upd_s]; exact ⟨by omega, hc22⟩
                · rw [if_neg e2, upd_n _ _ e2]
                  have := q5 (i - 1) (by omega) (by omega)
                  rw [show i - 1 + 1 = i by omega] at this
                  exact ⟨by have := (s5 (i - 1) (by omega)).1; omega, this.1⟩
            · show (if i < a then ord i else if i = a then nw else ord (i - 1)) = (if j < a then ord j else if j = a then nw else ord (j - 1)) → i = j
              have oo : ∀ i, i < nw → ord i < nw := fun i hi => (s5 i hi).1
              intro e
              by_cases e1 : i < a <;> by_cases e2 : j < a <;> by_cases e3 : i = a <;> by_cases e4 : j = a <;> simp only [e1, e2, e3, e4, if_true, if_false, Nat.lt_irrefl] at e <;> first
                | omega
                | exact s6 i j (by omega) (by omega) e
                | (have := s6 i (j - 1) (by omega) (by omega) e; omega)
                | (have := s6 (i - 1) j (by omega) (by omega) e; omega)
                | (have := s6 (i - 1) (j - 1) (by omega) (by omega) e; omega)
                | (have := oo i (by omega); omega)
                | (have := oo j (by omega); omega)
                | (have := oo (i - 1) (by omega); omega)
                | (have := oo (j - 1) (by omega); omega)
            · have oo : ∀ i, i < nw → ord i < nw := fun i hi => (s5 i hi).1
              have val : ∀ i, i < nw + 1 → (fun i => if i = nw then w else wv i) (if i < a then ord i else if i = a then nw else ord (i - 1)) = if i < a then wv (ord i) else if i = a then w else wv (ord (i - 1)) := by
                intro i hi
                by_cases e1 : i < a
                · have := oo i (by omega)
                  simp only [if_pos e1]; rw [if_neg (by omega)]
                · simp only [if_neg e1]
                  by_cases e2 : i = a
                  · simp only [if_pos e2, if_true]
                  · have := oo (i - 1) (by omega)
                    simp only [if_neg e2]; rw [if_neg (by omega)]
              rw [val i (by omega), val j (by omega)]
              have up : ∀ i, i < a → w ≤ wv (ord i) := by
                intro i hi
                rcases q6 with q6 | q6
                · omega
                · have h9 := s7 i (a - 1) (by omega) (by omega)
                  have := oo (a - 1) (by omega)
                  simp only [if_neg (show ¬ ord (a - 1) = nw by omega)] at q6
                  omega
              have dn' : ∀ i, a ≤ i → i < nw → wv (ord i) < w := by
                intro i h1 h2
                have h9 := (q5 i h1 h2).2
                have := oo i h2
                simp only [if_neg (show ¬ ord i = nw by omega)] at h9
                exact h9
              by_cases e1 : i < a
              · rw [if_pos e1]
                by_cases e2 : j < a
                · rw [if_pos e2]; exact s7 i j hij (by omega)
                · rw [if_neg e2]
                  by_cases e3 : j = a
                  · rw [if_pos e3]; exact up i e1
                  · rw [if_neg e3]; exact s7 i (j - 1) (by omega) (by omega)
              · rw [if_neg e1, if_neg (show ¬ j < a by omega)]
                by_cases e2 : i = a
                · rw [if_pos e2]
                  by_cases e3 : j = a
                  · rw [if_pos e3]; exact Nat.le_refl _
                  · rw [if_neg e3]; have := dn' (j - 1) (by omega) (by omega); omega
                · rw [if_neg e2, if_neg (show ¬ j = a by omega)]; exact s7 (i - 1) (j - 1) (by omega) (by omega)
          have eS : up2 (up2 σ' 27 a (σ' 22 8)) 22 8 (σ' 22 8 + 1) = up2 (up2 (up2 (up2 (va_up σ 27 (σ' 27)) 23 nw (nI k)) 24 nw (nI w)) 27 a (σ' 22 8)) 22 8 (σ' 22 8 + 1) := by
            have e0 : σ' = up2 (up2 (va_up σ 27 (σ' 27)) 23 nw (nI k)) 24 nw (nI w) := by
              funext c
              by_cases e : c = 27
              · subst e; rfl
              · rw [q3 c e]
                by_cases e23 : c = 23
                · subst e23; rfl
                · by_cases e24 : c = 24
                  · subst e24; rfl
                  · rw [up2_c _ _ _ _ _ e24, up2_c _ _ _ _ _ e23, up2_c _ _ _ _ _ e24, up2_c _ _ _ _ _ e23, va_up_ne _ _ e]
            exact congrArg (fun z => up2 (up2 z 27 a (σ' 22 8)) 22 8 (σ' 22 8 + 1)) e0
          rw [eS]
          exact ⟨dn, nb, np, hh, nw + 1, nj, ns, nt, nd, key⟩
      · have e20 : nw = 8 := by omega
        subst e20
        have c1 : ¬ σ 22 8 < 8 := by rw [s2]; decide
        have c2 : τ 0 21 = 8 := by rw [s3]; rfl
        rw [if_neg c1, if_pos c2]
        unfold fX11_want_b72
        rw [if_neg (by decide)]
        exact fin6 hI
    · rw [if_pos (i32_nle.mp h3), if_neg h3, if_neg (by decide)]
      unfold fX11_want_b72
      rw [if_neg (by decide)]
      exact fin6 hI
  · rw [if_neg h2, if_neg h2, if_neg (by decide)]
    unfold fX11_want_b72
    rw [if_neg (by decide)]
    exact fin4 hI
