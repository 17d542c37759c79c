theorem fu_lt {m : Nat} (h : m < 10000) : m < FU := h
/-- isTold, isWanted -/
theorem want_1 {τ : St} {nw : Nat} (c' : τ 0 21 = nI nw) (h8 : nw ≤ 8) (x : Int32) : ∀ m j n, j + m = nw → m < n → fX11_isWanted_b4 n x 1 (nI j) τ = some (1, τ) := by
  intro m
  induction m with
  | zero =>
    intro j n hj hn
    obtain ⟨n, rfl⟩ : ∃ q, n = q + 1 := ⟨n - 1, by omega⟩
    rw [fX11_isWanted_b4, if_pos (by rw [c']; exact nI_le (by omega) (by omega))]; rfl
  | succ m ih =>
    intro j n hj hn
    obtain ⟨n, rfl⟩ : ∃ q, n = q + 1 := ⟨n - 1, by omega⟩
    rw [fX11_isWanted_b4, if_neg (by rw [c']; exact nI_ge (by omega) (by omega)), if_neg (by decide), nI_1]
    exact ih (j + 1) n (by omega) (by omega)
theorem told_w {σ τ : St} {nw : Nat} (c : σ 22 8 = nI nw) (c' : τ 0 21 = nI nw) (h8 : nw ≤ 8) (ht : ∀ j, j < nw → σ 23 j = τ 20 j) (x : Int32) : ∀ m j n n', j + m = nw → m < n → m < n' → ∃ b, (b = 0 ∨ b = 1) ∧ fX8_isTold_b2 n x (nI j) σ = some (b, σ) ∧ fX11_isWanted_b4 n' x 0 (nI j) τ = some (b, τ) := by
  intro m
  induction m with
  | zero =>
    intro j n n' hj hn hn'
    obtain ⟨n, rfl⟩ : ∃ q, n = q + 1 := ⟨n - 1, by omega⟩
    obtain ⟨n', rfl⟩ : ∃ q, n' = q + 1 := ⟨n' - 1, by omega⟩
    rw [fX8_isTold_b2, fX11_isWanted_b4, if_pos (by rw [c]; exact nI_le (by omega) (by omega)), if_pos (by rw [c']; exact nI_le (by omega) (by omega))]
    exact ⟨0, Or.inl rfl, rfl, rfl⟩
  | succ m ih =>
    intro j n n' hj hn hn'
    obtain ⟨n, rfl⟩ : ∃ q, n = q + 1 := ⟨n - 1, by omega⟩
    obtain ⟨n', rfl⟩ : ∃ q, n' = q + 1 := ⟨n' - 1, by omega⟩
    rw [fX8_isTold_b2, fX11_isWanted_b4, if_neg (by rw [c]; exact nI_ge (by omega) (by omega)), if_neg (by rw [c']; exact nI_ge (by omega) (by omega)), if_pos rfl, rd_nI (show j < 8 by omega) (by decide), rd_nI (show j < 8 by omega) (by decide), ← ht j (by omega)]
    by_cases e : σ 23 j = x
    · rw [if_pos e, if_pos e, nI_1, want_1 c' h8 x m (j + 1) n' (by omega) (by omega)]
      exact ⟨1, Or.inr rfl, rfl, rfl⟩
    · rw [if_neg e, if_neg e, nI_1]
      exact ih (j + 1) n n' (by omega) (by omega) (by omega)
theorem told_v {σ τ : St} {nw : Nat} (c : σ 22 8 = nI nw) (c' : τ 0 21 = nI nw) (h8 : nw ≤ 8) (ht : ∀ j, j < nw → σ 23 j = τ 20 j) (x : Int32) : ∃ b, (b = 0 ∨ b = 1) ∧ fX8_isTold x σ = some (b, σ) ∧ fX11_isWanted x τ = some (b, τ) :=
  told_w c c' h8 ht x nw 0 FU FU (by omega) (fu_lt (by omega)) (fu_lt (by omega))
/-- whether a piece is loose: both sides' tests -/
theorem loose_v {σ τ : St} (hI : Inv σ τ) {k : Nat} {np : Nat} (hk : k < np) (hnp : σ 7 7 = nI np) (h80 : np ≤ 80) {α β : Type} {A B : St → Option α} {A' B' : St → Option β} :
    (cal (fX10_isLoose (nI k) σ) (fun v s => if v = 0 then A s else B s) = A σ ∧ rd τ 9 80 (nI k) (fun v13 => if v13 = 0 then (rd τ 10 80 (nI k) (fun v14 => if (0 : Int32) ≤ v14 then A' τ else (cal (fX11_isWanted (nI k) τ) (fun v17 σ16 => if v17 = 0 then B' σ16 else A' σ16)))) else A' τ) = A' τ) ∨
    (cal (fX10_isLoose (nI k) σ) (fun v s => if v = 0 then A s else B s) = B σ ∧ σ 12 k = -9 ∧ rd τ 9 80 (nI k) (fun v13 => if v13 = 0 then (rd τ 10 80 (nI k) (fun v14 => if (0 : Int32) ≤ v14 then A' τ else (cal (fX11_isWanted (nI k) τ) (fun v17 σ16 => if v17 = 0 then B' σ16 else A' σ16)))) else A' τ) = B' τ) := by
  obtain ⟨dn, nb, np', hh, nw, nj, ns, nt, nd, g1, g2, g3, g4, ⟨p1, p2, p3, p4, p5⟩, g6, g7, g8, ⟨s1, s2, s3, tn, wv, ord, s4, s5, s6, s7⟩, g10, g11, g12, g13⟩ := id hI
  have enp : np' = np := (nI_eq (by omega) (by omega)).mp (p2.symm.trans hnp)
  subst enp
  have h80' : k < 80 := by omega
  obtain ⟨q1, q2, q3, q4, q5, q6, q7, q8, q9⟩ := p5 k hk
  obtain ⟨b, hb, e1, e2⟩ := told_v s2 s3 s1 (fun j hj => (s4 j hj).1.trans (s4 j hj).2.1.symm) (nI k)
  unfold fX10_isLoose
  rw [rd_nI h80' (by decide), rd_nI h80' (by decide), rd_nI h80' (by decide), rd_nI h80' (by decide), ← q4, ← q5]
  by_cases c0 : σ 11 k = 0
  · rw [if_pos c0, if_pos c0]
    rcases q8 with c1 | ⟨p, hp, c1⟩
    · rw [if_pos c1, if_neg (by rw [c1]; decide), cal_e e1, cal_e e2]
      rcases hb with rfl | rfl
      · right
        rw [if_pos rfl, if_pos rfl]
        exact ⟨by rw [cal_e (zr1 σ), if_neg (by decide)], c1, rfl⟩
      · left
        rw [if_neg (by decide), if_neg (by decide)]
        exact ⟨by rw [cal_e (zr0 σ), if_pos rfl], rfl⟩
    · left
      rw [if_neg (by rw [c1]; exact nI_n9 (by omega)), if_pos (by rw [c1]; exact nI_pos' (by omega)), cal_e (zr0 σ), if_pos rfl]
      exact ⟨rfl, rfl⟩
  · left
    rw [if_neg c0, if_neg c0, cal_e (zr0 σ), if_pos rfl]
    exact ⟨rfl, rfl⟩
/-- a piece goes to a place: both sides -/
theorem Inv.put {σ τ : St} {dn nb np hh nw nj ns nt nd : Nat} (h : InvP dn nb np hh nw nj ns nt nd σ τ) {k p : Nat} (hk : k < np) (hp : p < 12) : InvP dn nb np hh nw nj ns nt nd (up2 (up2 σ 17 p (nI k)) 12 k (nI p)) (up2 (up2 τ 15 p (nI k)) 10 k (nI p)) := by
  obtain ⟨g1, g2, g3, g4, ⟨p1, p2, p3, p4, p5⟩, g6, g7, g8, g9, g10, g11, g12, g13⟩ := h
  refine ⟨g1, g2, g3, g4, ⟨p1, p2, p3, p4, fun i hi => ?_⟩, g6, fun r hr => ?_, g8, g9, g10, g11, g12, g13⟩
  · obtain ⟨q1, q2, q3, q4, q5, q6, q7, q8, q9⟩ := p5 i hi
    refine ⟨q1, q2, q3, q4, ?_, q6, q7, ?_, q9⟩
    · show upd (σ 12) k (nI p) i = upd (τ 10) k (nI p) i
      by_cases e : i = k
      · subst e; rw [upd_s, upd_s]
      · rw [upd_n _ _ e, upd_n _ _ e]; exact q5
    · show upd (σ 12) k (nI p) i = -9 ∨ ∃ p', p' < 12 ∧ upd (σ 12) k (nI p) i = nI p'
      by_cases e : i = k
      · subst e; rw [upd_s]; exact Or.inr ⟨p, hp, rfl⟩
      · rw [upd_n _ _ e]; exact q8
  · show upd (σ 17) p (nI k) r = upd (τ 15) p (nI k) r ∧ (upd (σ 17) p (nI k) r = -9 ∨ ∃ k', k' < np ∧ upd (σ 17) p (nI k) r = nI k')
    by_cases e : r = p
    · subst e; rw [upd_s, upd_s]; exact ⟨rfl, Or.inr ⟨k, hk, rfl⟩⟩
    · rw [upd_n _ _ e, upd_n _ _ e]; exact g7 r hr
theorem sim_stack {σ τ : St} (hI : Inv σ τ) (x1 x2 : Int32) : ∃ (r : Int32) (σ1 τ1 : St), fX10_stack x1 x2 σ = some (r, σ1) ∧ fX11_stack x1 x2 τ = some (r, τ1) ∧ Inv σ1 τ1 := by
  unfold fX10_stack fX11_stack
  obtain ⟨dn, nb, np, hh, nw, nj, ns, nt, nd, gg⟩ := id hI
  obtain ⟨g1, g2, g3, g4, ⟨p1, p2, p3, p4, p5⟩, g6, g7, g8, g9, g10, g11, g12, g13⟩ := id gg
  have hc : τ 0 18 = σ 7 7 := p3.trans p2.symm
  by_cases h1 : x1 < 0 ∨ σ 7 7 ≤ x1
  · rw [wi_f h1, ip_f (by rw [hc]; exact h1)]
    exact fin1 hI
  rw [wi_t h1, ip_t (by rw [hc]; exact h1)]
  by_cases h2 : x2 < 0 ∨ (12 : Int32) ≤ x2
  · rw [wi_f h2, is_f h2]
    exact fin1 hI
  rw [wi_t h2, is_t h2]
  obtain ⟨k, hk, rfl⟩ := ix_of p2 (by omega) h1
  obtain ⟨p, hp, rfl⟩ := ix_of (N := 12) rfl (by decide) h2
  rcases loose_v hI hk p2 p1 (A := fun s => cal (fX10_refuse (-3) s) (fun v15 σ14 => some (v15, σ14))) (B := fun s => rd s 17 12 (nI p) (fun v16 => if v16 = (-9) then (cal (fX10_putIn (nI k) (nI p) s) (fun _ σ18 => some ((1 : Int32), σ18))) else (cal (fX10_refuse (-3) s) (fun v22 σ21 => some (v22, σ21)))))
    (A' := fun s => fX11_stack_b58 s) (B' := fun s => rd s 15 12 (nI p) (fun v18 => if v18 < 0 then (wr s 15 12 (nI p) (nI k) (fun σ19 => wr σ19 10 80 (nI k) (nI p) (fun σ20 => some (1, σ20)))) else (fX11_stack_b58 s))) with ⟨e1, e2⟩ | ⟨e1, e9, e2⟩
  · rw [e1, e2]
    exact fin3 hI
  · rw [e1, e2, rd_nI hp (by decide), rd_nI hp (by decide), ← (g7 p hp).1]
    rcases (g7 p hp).2 with h3 | ⟨k', hk', h3⟩
    · rw [if_pos h3, if_pos (by rw [h3]; decide)]
      unfold fX10_putIn
      refine ⟨1, up2 (up2 σ 17 p (nI k)) 12 k (nI p), up2 (up2 τ 15 p (nI k)) 10 k (nI p), ?_, ?_, dn, nb, np, hh, nw, nj, ns, nt, nd, Inv.put gg hk hp⟩
      · exact cal_e ((wr_nI hp (by decide)).trans (wr_nI (show k < 80 by omega) (by decide)))
      · exact (wr_nI hp (by decide)).trans (wr_nI (show k < 80 by omega) (by decide))
    · rw [if_neg (by rw [h3]; exact nI_n9 (by omega)), if_neg (by rw [h3]; exact nI_pos (by omega))]
      exact fin3 hI
/-- piece -/
theorem sim_piece {σ τ : St} (hI : Inv σ τ) (x1 x2 x3 x4 : Int32) : ∃ (r : Int32) (σ1 τ1 : St), fX10_piece x1 x2 x3 x4 σ = some (r, σ1) ∧ fX11_piece x1 x2 x3 x4 τ = some (r, τ1) ∧ Inv σ1 τ1 := by
  unfold fX10_piece fX11_piece fX10_piece_b109 fX11_piece_b112
  obtain ⟨dn, nb, np, hh, nw, nj, ns, nt, nd, g1, g2, g3, ⟨b1, b2, b3, b4⟩, ⟨p1, p2, p3, p4, p5⟩, g6, g7, g8, g9, g10, g11, g12, g13⟩ := id hI
  have hc : τ 0 17 = σ 2 4 := b3.trans b2.symm
  by_cases h1 : x1 < 0 ∨ σ 2 4 ≤ x1
  · rw [wi_f h1, is_f (by rw [hc]; exact h1)]
    exact fin1 hI
  rw [wi_t h1, is_t (by rw [hc]; exact h1)]
  by_cases h2 : x2 < 0 ∨ (10 : Int32) ≤ x2
  · rw [wi_f h2, is_f h2]
    exact fin1 hI
  rw [wi_t h2, is_t h2]
  obtain ⟨b, hb, rfl⟩ := ix_of b2 (by omega) h1
  have hb20 : b < 20 := by omega
  obtain ⟨c1, ⟨q, hq, c2⟩, c3, c4⟩ := b4 b hb20
  have i0 : q * 4 + 0 < 24 := by omega
  have er : fX0_isRipe (nI b) (σ 0 11) σ = some (if (σ 0 11 - σ 6 b) < σ 3 (4 * q) then 0 else 1, σ) := by
    unfold fX0_isRipe fX0_trait
    refine (rd_nI hb20 (by decide)).trans ((rd_nI hb20 (by decide)).trans ?_)
    refine (cal_e (r := σ 3 (4 * q)) (σ := σ) (rd_e (j := 4 * q) (by rw [c2, show (4 : Int32) = nI 4 from rfl, pk_mul, show (0 : Int32) = nI 0 from rfl, nI_add, Nat.mul_comm, Nat.add_zero]) (by omega) (by decide))).trans ?_
    by_cases e : (σ 0 11 - σ 6 b) < σ 3 (4 * q)
    · rw [if_pos e, if_pos e]; rfl
    · rw [if_neg e, if_neg e]; rfl
  rw [cal_e er, rd_nI (σ := τ) (k := 5) hb20 (by decide), rd_nI (σ := τ) (k := 3) hb20 (by decide), rd_e (σ := τ) (k := 2) (i := 4 * τ 3 b) (j := 4 * q) (by rw [← c1, c2, show (4 : Int32) = nI 4 from rfl, pk_mul]) (by omega) (by decide), ← (g3 (4 * q) (by omega)).1, ← c4, show τ 0 16 = σ 0 11 from g2.2.2.trans g2.2.1.symm]
  by_cases h3 : (σ 0 11 - σ 6 b) < σ 3 (4 * q)
  · rw [if_pos h3, if_pos rfl, if_neg (i32_nle.mpr h3)]
    exact fin3 hI
  rw [if_neg h3, if_neg (by decide), if_pos (i32_nlt.mp h3)]
  by_cases h4 : x3 < 1
  · rw [if_pos h4, if_pos h4]; exact fin4 hI
  rw [if_neg h4, if_neg h4]
  by_cases h5 : (10 : Int32) ≤ x4
  · rw [if_pos h5, if_pos h5]
    by_cases h6 : (40 : Int32) < x3
    · rw [if_pos h6, if_pos h6]; exact fin6 hI
    rw [if_neg h6, if_neg h6, rd_nI hb20 (by decide), rd_nI hb20 (by decide), rd_nI hb20 (by decide), rd_nI hb20 (by decide), ← c3]
    by_cases h7 : σ 5 b < x3
    · rw [if_pos h7, if_pos h7]; exact fin6 hI
    rw [if_neg h7, if_neg h7]
    by_cases h8 : (900 : Int32) < x4
    · rw [if_pos h8, if_pos h8]; exact fin6 hI
    rw [if_neg h8, if_neg h8]
    by_cases h9 : np < 80
    · have t1 : σ 7 7 < 80 := by rw [p2]; exact nI_lt h9 (by decide)
      have t2 : ¬ τ 0 18 = 80 := by rw [p3]; exact fun e => absurd ((nI_eq (by omega) (by decide)).mp (e.trans (show (80 : Int32) = nI 80 from rfl))) (by omega)
      rw [if_pos t1, if_neg t2]
      refine ⟨nI np, up2 (up2 (up2 (up2 (up2 (up2 (up2 (up2 (up2 σ 5 b (σ 5 b - x3)) 8 np (σ 4 b)) 9 np x2) 10 np x4) 11 np 0) 12 np (-9)) 13 np (-9)) 14 np (-9)) 7 7 (σ 7 7 + 1), up2 (up2 (up2 (up2 (up2 (up2 (up2 (up2 τ 4 b (σ 5 b - x3)) 6 np (nI b)) 7 np x2) 8 np x4) 10 np (-9)) 11 np (-9)) 12 np (-9)) 0 18 (τ 0 18 + 1), ?_, ?_, ?_⟩
      · unfold fX6_shape
        refine (wr_nI hb20 (by decide)).trans ((rd_nI hb20 (by decide)).trans (cal_e ?_))
        exact (wr_e p2 h9 (by decide)).trans ((wr_e p2 h9 (by decide)).trans ((wr_e p2 h9 (by decide)).trans ((wr_e p2 h9 (by decide)).trans ((wr_e p2 h9 (by decide)).trans ((wr_e p2 h9 (by decide)).trans ((wr_e p2 h9 (by decide)).trans (sp_e (show σ 7 7 + 1 - 1 = nI np by rw [p2]; exact nIp np))))))))
      · refine (wr_nI hb20 (by decide)).trans ?_
        exact (wr_e p3 h9 (by decide)).trans ((wr_e p3 h9 (by decide)).trans ((wr_e p3 h9 (by decide)).trans ((wr_e p3 h9 (by decide)).trans ((wr_e p3 h9 (by decide)).trans ((wr_e p3 h9 (by decide)).trans (sp_e (show τ 0 18 + 1 - 1 = nI np by rw [p3]; exact nIp np)))))))
      · refine ⟨dn, nb, np + 1, hh, nw, nj, ns, nt, nd, g1, g2, g3, ⟨b1, b2, b3, fun j hj => ?_⟩, ⟨by omega, show σ 7 7 + 1 = nI (np + 1) by rw [p2, nI_1], show τ 0 18 + 1 = nI (np + 1) by rw [p3, nI_1], fun i hi => p4 i (by omega), fun i hi => ?_⟩, g6, fun r hr => ?_, g8, ?_, g10, g11, g12, g13⟩
        · obtain ⟨o1, o2, o3, o4⟩ := b4 j hj
          refine ⟨o1, o2, ?_, o4⟩
          show upd (σ 5) b (σ 5 b - x3) j = upd (τ 4) b (σ 5 b - x3) j
          by_cases e : j = b
          · subst e; rw [upd_s, upd_s]
          · rw [upd_n _ _ e, upd_n _ _ e]; exact o3
        · show (∃ b', b' < nb ∧ upd (τ 6) np (nI b) i = nI b' ∧ upd (σ 8) np (σ 4 b) i = τ 3 b') ∧ upd (σ 9) np x2 i = upd (τ 7) np x2 i ∧ upd (σ 10) np x4 i = upd (τ 8) np x4 i ∧ upd (σ 11) np 0 i = τ 9 i ∧ upd (σ 12) np (-9) i = upd (τ 10) np (-9) i ∧ upd (σ 13) np (-9) i = upd (τ 11) np (-9) i ∧ upd (σ 14) np (-9) i = upd (τ 12) np (-9) i ∧ (upd (σ 12) np (-9) i = -9 ∨ ∃ p, p < 12 ∧ upd (σ 12) np (-9) i = nI p) ∧ ((upd (σ 11) np 0 i = 1 ∨ upd (σ 11) np 0 i = 2) → ∃ w, w ≤ 100 ∧ upd (σ 14) np (-9) i = nI w)
          by_cases e : i = np
          · subst e
            simp only [upd_s]
            exact ⟨⟨b, hb, rfl, c1⟩, trivial, trivial, (p4 i (Nat.le_refl _)).symm, trivial, trivial, trivial, Or.inl trivial, fun q => by rcases q with q | q <;> exact absurd q (by decide)⟩
          · simp only [upd_n _ _ e]
            exact p5 i (by omega)
        · obtain ⟨o1, o2⟩ := g7 r hr
          refine ⟨o1, o2.imp id (fun ⟨k, hk, e⟩ => ⟨k, by omega, e⟩)⟩
        · obtain ⟨s1, s2, s3, tn, wv, ord, s4, s5⟩ := g9
          exact ⟨s1, s2, s3, tn, wv, ord, fun j hj => by obtain ⟨u1, u2, u3, u4⟩ := s4 j hj; exact ⟨u1, u2, by omega, u4⟩, s5⟩
    · have e20 : np = 80 := by omega
      subst e20
      have t1 : ¬ σ 7 7 < 80 := by rw [p2]; decide
      have t2 : τ 0 18 = 80 := by rw [p3]; rfl
      rw [if_neg t1, if_pos t2]; exact fin6 hI
  · rw [if_neg h5, if_neg h5]; exact fin4 hI
