theorem pigeon : ∀ (n : Nat) (f : Nat → Nat), (∀ i, i < n → f i < n) → (∀ i j, i < n → j < n → f i = f j → i = j) → ∀ v, v < n → ∃ i, i < n ∧ f i = v := by
  intro n
  induction n with
  | zero => intro f _ _ v hv; omega
  | succ n ih =>
    intro f hf hi v hv
    have hg := ih (fun i => if f i = n then f n else f i) (fun i h => by
        show (if f i = n then f n else f i) < n
        by_cases e : f i = n
        · rw [if_pos e]
          have h1 := hf n (by omega)
          have h2 : f n ≠ n := fun q => absurd (hi i n (by omega) (by omega) (e.trans q.symm)) (by omega)
          omega
        · rw [if_neg e]
          have h1 := hf i (by omega)
          omega) (fun i j h1 h2 e => by
        have e : (if f i = n then f n else f i) = (if f j = n then f n else f j) := e
        by_cases e1 : f i = n
        · by_cases e2 : f j = n
          · exact hi i j (by omega) (by omega) (e1.trans e2.symm)
          · rw [if_pos e1, if_neg e2] at e
            have := hi n j (by omega) (by omega) e
            omega
        · by_cases e2 : f j = n
          · rw [if_neg e1, if_pos e2] at e
            have := hi i n (by omega) (by omega) e
            omega
          · rw [if_neg e1, if_neg e2] at e
            exact hi i j (by omega) (by omega) e)
    by_cases hvn : v = n
    · subst hvn
      by_cases hc : f v = v
      · exact ⟨v, by omega, hc⟩
      · obtain ⟨i, h1, h2⟩ := hg (f v) (by have := hf v (by omega); omega)
        have h2 : (if f i = v then f v else f i) = f v := h2
        by_cases e : f i = v
        · exact ⟨i, by omega, e⟩
        · rw [if_neg e] at h2
          have := hi i v (by omega) (by omega) h2
          omega
    · obtain ⟨i, h1, h2⟩ := hg v (by omega)
      have h2 : (if f i = n then f n else f i) = v := h2
      by_cases e : f i = n
      · rw [if_pos e] at h2; exact ⟨n, by omega, h2⟩
      · rw [if_neg e] at h2; exact ⟨i, by omega, h2⟩
/-- see -/
theorem see_w {σ τ : St} {ns : Nat} (c : σ 47 8 = nI ns) (c' : τ 0 24 = nI ns) (h32 : ns ≤ 32) (e1 : ∀ k, k < ns → σ 48 k = τ 34 k ∧ σ 49 k = τ 35 k) (x1 x2 x3 : Int32) : ∀ m j n n', j + m = ns → m < n → m < n' →
    (fX7_tellSight_b3 n x1 x2 x3 (nI j) σ = some (0, σ) ∧ fX11_see_b25 n' x1 x2 (nI j) τ = some (0, τ)) ∨ ((∀ i, j ≤ i → i < ns → ¬ (σ 48 i = x1 ∧ σ 49 i = x2)) ∧ fX7_tellSight_b3 n x1 x2 x3 (nI j) σ = fX7_tellSight_b3 1 x1 x2 x3 (nI ns) σ ∧ fX11_see_b25 n' x1 x2 (nI j) τ = fX11_see_b25 1 x1 x2 (nI ns) τ) := by
  intro m
  induction m with
  | zero =>
    intro j n n' hj hn hn'
    obtain ⟨n, rfl⟩ : ∃ q, n = q + 1 := ⟨n - 1, by omega⟩
    obtain ⟨n', rfl⟩ : ∃ q, n' = q + 1 := ⟨n' - 1, by omega⟩
    have e : j = ns := by omega
    subst e
    right
    refine ⟨fun i h1 h2 => by omega, ?_, ?_⟩
    · have le : σ 47 8 ≤ nI j := by rw [c]; exact nI_le (by omega) (by omega)
      rw [fX7_tellSight_b3, fX7_tellSight_b3, if_pos le, if_pos le]
    · have le : τ 0 24 ≤ nI j := by rw [c']; exact nI_le (by omega) (by omega)
      rw [fX11_see_b25, fX11_see_b25, if_pos le, if_pos le]
  | succ m ih =>
    intro j n n' hj hn hn'
    obtain ⟨n, rfl⟩ : ∃ q, n = q + 1 := ⟨n - 1, by omega⟩
    obtain ⟨n', rfl⟩ : ∃ q, n' = q + 1 := ⟨n' - 1, by omega⟩
    obtain ⟨q1, q2⟩ := e1 j (by omega)
    have s1 : fX7_tellSight_b3 (n + 1) x1 x2 x3 (nI j) σ = if σ 48 j = x1 ∧ σ 49 j = x2 then some (0, σ) else fX7_tellSight_b3 n x1 x2 x3 (nI (j + 1)) σ := by
      rw [fX7_tellSight_b3, if_neg (by rw [c]; exact nI_ge (by omega) (by omega)), rd_nI (show j < 32 by omega) (by decide), rd_nI (show j < 32 by omega) (by decide), nI_1]
      by_cases a : σ 48 j = x1 <;> by_cases b : σ 49 j = x2 <;> simp [a, b, zr]
    have s2 : fX11_see_b25 (n' + 1) x1 x2 (nI j) τ = if σ 48 j = x1 ∧ σ 49 j = x2 then some (0, τ) else fX11_see_b25 n' x1 x2 (nI (j + 1)) τ := by
      rw [fX11_see_b25, if_neg (by rw [c']; exact nI_ge (by omega) (by omega)), rd_nI (show j < 32 by omega) (by decide), rd_nI (show j < 32 by omega) (by decide), nI_1, ← q1, ← q2]
      by_cases a : σ 48 j = x1 <;> by_cases b : σ 49 j = x2 <;> simp [a, b]
    rw [s1, s2]
    by_cases a : σ 48 j = x1 ∧ σ 49 j = x2
    · rw [if_pos a, if_pos a]; exact Or.inl ⟨rfl, rfl⟩
    · rw [if_neg a, if_neg a]
      rcases ih (j + 1) n n' (by omega) (by omega) (by omega) with h | ⟨h1, h2, h3⟩
      · exact Or.inl h
      · refine Or.inr ⟨fun i hi1 hi2 => ?_, h2, h3⟩
        by_cases e : i = j
        · subst e; exact a
        · exact h1 i (by omega) hi2
theorem sim_see {σ τ : St} (hI : Inv σ τ) (x1 x2 : Int32) : ∃ (r : Int32) (σ1 τ1 : St), fX10_see x1 x2 σ = some (r, σ1) ∧ fX11_see x1 x2 τ = some (r, τ1) ∧ Inv σ1 τ1 := by
  unfold fX10_see fX11_see
  by_cases h1 : x1 < 0 ∨ (16 : Int32) ≤ x1
  · rw [wi_f h1, is_f h1]
    exact fin1 hI
  rw [wi_t h1, is_t h1]
  by_cases h2 : x2 < 0 ∨ (2 : Int32) ≤ x2
  · rw [wi_f h2, is_f h2]
    exact fin1 hI
  rw [wi_t h2, is_t h2]
  obtain ⟨h, hh16, rfl⟩ := ix_of (N := 16) rfl (by decide) h1
  obtain ⟨f, hf2, rfl⟩ := ix_of (N := 2) rfl (by decide) h2
  obtain ⟨dn, nb, np, hh, nw, nj, ns, nt, nd, g1, g2, g3, g4, g5, g6, g7, g8, g9, g10, g11, ⟨t1, t2, t3, t4, t5, t6, hn, fn, sn, an, bn, tn, t7, t8, t9, t10, t11⟩, g13⟩ := id hI
  unfold fX7_tellSight
  rcases see_w t2 t3 t1 (fun k hk => ⟨(t7 k hk).1.trans (t7 k hk).2.1.symm, (t7 k hk).2.2.1.trans (t7 k hk).2.2.2.1.symm⟩) (nI h) (nI f) (σ 0 11) ns 0 FU FU (by omega) (fu_lt (by omega)) (fu_lt (by omega)) with ⟨a1, a2⟩ | ⟨a0, a1, a2⟩
  · refine ⟨0, σ, τ, ?_, a2, hI⟩
    exact (cal_e a1).trans (by rw [if_pos rfl])
  · have hns : ns < 32 := by
      rcases Nat.lt_or_ge ns 32 with q | q
      · exact q
      · exfalso
        have e32 : ns = 32 := by omega
        subst e32
        obtain ⟨i, hi, ei⟩ := pigeon 32 (fun k => 2 * hn k + fn k) (fun i hi => by have := t7 i hi; show 2 * hn i + fn i < 32; omega) (fun i j hi hj e => by
          have e : 2 * hn i + fn i = 2 * hn j + fn j := e
          have h3 := t7 i hi
          have h4 := t7 j hj
          exact t8 i j hi hj (by omega) (by omega)) (2 * h + f) (by omega)
        have ei : 2 * hn i + fn i = 2 * h + f := ei
        have h3 := t7 i hi
        refine a0 i (by omega) hi ⟨?_, ?_⟩
        · rw [h3.1, show hn i = h by omega]
        · rw [h3.2.2.1, show fn i = f by omega]
    have b1 : fX7_tellSight_b3 1 (nI h) (nI f) (σ 0 11) (nI ns) σ = some (1, up2 (up2 (up2 (up2 σ 48 ns (nI h)) 49 ns (nI f)) 50 ns (σ 0 11)) 47 8 (σ 47 8 + 1)) := by
      rw [fX7_tellSight_b3, if_pos (by rw [t2]; exact nI_le (by omega) (by omega)), if_pos (by rw [t2]; exact nI_lt hns (by decide))]
      exact (wr_e t2 hns (by decide)).trans ((wr_e t2 hns (by decide)).trans (wr_e t2 hns (by decide)))
    have b2 : fX11_see_b25 1 (nI h) (nI f) (nI ns) τ = some (1, up2 (up2 (up2 (up2 τ 34 ns (nI h)) 35 ns (nI f)) 36 ns (τ 0 16)) 0 24 (τ 0 24 + 1)) := by
      rw [fX11_see_b25, if_pos (by rw [t3]; exact nI_le (by omega) (by omega))]
      exact (wr_e t3 hns (by decide)).trans ((wr_e t3 hns (by decide)).trans (wr_e t3 hns (by decide)))
    refine ⟨1, up2 (up2 (up2 (up2 σ 48 ns (nI h)) 49 ns (nI f)) 50 ns (σ 0 11)) 47 8 (σ 47 8 + 1), up2 (up2 (up2 (up2 τ 34 ns (nI h)) 35 ns (nI f)) 36 ns (τ 0 16)) 0 24 (τ 0 24 + 1), (cal_e (a1.trans b1)).trans (by rw [if_neg (by decide)]), a2.trans b2, dn, nb, np, hh, nw, nj, ns + 1, nt, nd, g1, g2, g3, g4, g5, g6, g7, g8, g9, g10, g11, ⟨by omega, show σ 47 8 + 1 = nI (ns + 1) by rw [t2, nI_1], show τ 0 24 + 1 = nI (ns + 1) by rw [t3, nI_1], t4, t5, t6, fun i => if i = ns then h else hn i, fun i => if i = ns then f else fn i, fun i => if i = ns then dn else sn i, an, bn, tn, fun k hk => ?_, fun i j hi hj => ?_, fun i j hij hj => ?_, t10, t11⟩, g13⟩
    · show upd (σ 48) ns (nI h) k = nI (if k = ns then h else hn k) ∧ upd (τ 34) ns (nI h) k = nI (if k = ns then h else hn k) ∧ upd (σ 49) ns (nI f) k = nI (if k = ns then f else fn k) ∧ upd (τ 35) ns (nI f) k = nI (if k = ns then f else fn k) ∧ upd (σ 50) ns (σ 0 11) k = nI (if k = ns then dn else sn k) ∧ upd (τ 36) ns (τ 0 16) k = nI (if k = ns then dn else sn k) ∧ (if k = ns then h else hn k) < 16 ∧ (if k = ns then f else fn k) < 2 ∧ (if k = ns then dn else sn k) ≤ dn
      by_cases e : k = ns
      · subst e; simp only [upd_s, if_true]; exact ⟨trivial, trivial, trivial, trivial, g2.2.1, g2.2.2, hh16, hf2, Nat.le_refl _⟩
      · simp only [upd_n _ _ e, if_neg e]; exact t7 k (by omega)
    · show (if i = ns then h else hn i) = (if j = ns then h else hn j) → (if i = ns then f else fn i) = (if j = ns then f else fn j) → i = j
      intro q1 q2
      by_cases e1 : i = ns <;> by_cases e2 : j = ns
      · omega
      · simp only [if_pos e1, if_neg e2] at q1 q2
        have h3 := t7 j (by omega)
        exact absurd ⟨by rw [h3.1, q1], by rw [h3.2.2.1, q2]⟩ (a0 j (by omega) (by omega))
      · simp only [if_neg e1, if_pos e2] at q1 q2
        have h3 := t7 i (by omega)
        exact absurd ⟨by rw [h3.1, q1], by rw [h3.2.2.1, q2]⟩ (a0 i (by omega) (by omega))
      · simp only [if_neg e1, if_neg e2] at q1 q2
        exact t8 i j (by omega) (by omega) q1 q2
    · show (if i = ns then dn else sn i) ≤ (if j = ns then dn else sn j)
      by_cases e2 : j = ns
      · rw [if_pos e2]
        by_cases e1 : i = ns
        · rw [if_pos e1]; exact Nat.le_refl _
        · rw [if_neg e1]; exact (t7 i (by omega)).2.2.2.2.2.2.2.2
      · rw [if_neg e2, if_neg (by omega)]; exact t9 i j hij (by omega)
/-- talk -/
theorem talk_w {σ τ : St} {nt : Nat} (c : σ 47 9 = nI nt) (c' : τ 0 23 = nI nt) (hd : τ 0 16 = σ 0 11) (h60 : nt ≤ 60) (e1 : ∀ k, k < nt → σ 51 k = τ 37 k ∧ σ 52 k = τ 38 k ∧ σ 53 k = τ 39 k) (x1 x2 : Int32) : ∀ m j n n', j + m = nt → m < n → m < n' →
    (fX7_talkedOn_b3 n x1 x2 (σ 0 11) (nI j) σ = some (1, σ) ∧ fX11_talk_b31 n' x1 x2 (nI j) τ = some (0, τ)) ∨ (fX7_talkedOn_b3 n x1 x2 (σ 0 11) (nI j) σ = some (0, σ) ∧ fX11_talk_b31 n' x1 x2 (nI j) τ = fX11_talk_b31 1 x1 x2 (nI nt) τ) := by
  intro m
  induction m with
  | zero =>
    intro j n n' hj hn hn'
    obtain ⟨n, rfl⟩ : ∃ q, n = q + 1 := ⟨n - 1, by omega⟩
    obtain ⟨n', rfl⟩ : ∃ q, n' = q + 1 := ⟨n' - 1, by omega⟩
    have e : j = nt := by omega
    subst e
    right
    refine ⟨?_, ?_⟩
    · rw [fX7_talkedOn_b3, if_pos (by rw [c]; exact nI_le (by omega) (by omega))]; rfl
    · have le : τ 0 23 ≤ nI j := by rw [c']; exact nI_le (by omega) (by omega)
      rw [fX11_talk_b31, fX11_talk_b31, if_pos le, if_pos le]
  | succ m ih =>
    intro j n n' hj hn hn'
    obtain ⟨n, rfl⟩ : ∃ q, n = q + 1 := ⟨n - 1, by omega⟩
    obtain ⟨n', rfl⟩ : ∃ q, n' = q + 1 := ⟨n' - 1, by omega⟩
    obtain ⟨q1, q2, q3⟩ := e1 j (by omega)
    have hj60 : j < 60 := by omega
    have s1 : fX7_talkedOn_b3 (n + 1) x1 x2 (σ 0 11) (nI j) σ = if σ 53 j = σ 0 11 ∧ ((σ 51 j = x1 ∧ σ 52 j = x2) ∨ (σ 51 j = x2 ∧ σ 52 j = x1)) then some (1, σ) else fX7_talkedOn_b3 n x1 x2 (σ 0 11) (nI (j + 1)) σ := by
      rw [fX7_talkedOn_b3, if_neg (by rw [c]; exact nI_ge (by omega) (by omega))]
      unfold fX7_talkedOn_b39 fX7_talkedOn_b68
      simp only [rd_nI hj60 (show 60 < 2 ^ 31 by decide), nI_1]
      by_cases a : σ 51 j = x1 <;> by_cases b : σ 52 j = x2 <;> by_cases a' : σ 51 j = x2 <;> by_cases b' : σ 52 j = x1 <;> by_cases d : σ 53 j = σ 0 11 <;> first | (simp [a, b, a', b', d, zr]; done) | (simp [a, b, a', b', d, zr]; intro h1 h2; exact absurd h1 h2)
    have s2 : fX11_talk_b31 (n' + 1) x1 x2 (nI j) τ = if σ 53 j = σ 0 11 ∧ ((σ 51 j = x1 ∧ σ 52 j = x2) ∨ (σ 51 j = x2 ∧ σ 52 j = x1)) then some (0, τ) else fX11_talk_b31 n' x1 x2 (nI (j + 1)) τ := by
      rw [fX11_talk_b31, if_neg (by rw [c']; exact nI_ge (by omega) (by omega))]
      unfold fX11_talk_b72
      simp only [rd_nI hj60 (show 60 < 2 ^ 31 by decide), nI_1, ← q1, ← q2, ← q3, hd]
      by_cases a : σ 51 j = x1 <;> by_cases b : σ 52 j = x2 <;> by_cases a' : σ 51 j = x2 <;> by_cases b' : σ 52 j = x1 <;> by_cases d : σ 53 j = σ 0 11 <;> first | (simp [a, b, a', b', d]; done) | (simp [a, b, a', b', d]; intro h1 h2; exact absurd h1 h2)
    rw [s1, s2]
    by_cases a : σ 53 j = σ 0 11 ∧ ((σ 51 j = x1 ∧ σ 52 j = x2) ∨ (σ 51 j = x2 ∧ σ 52 j = x1))
    · rw [if_pos a, if_pos a]; exact Or.inl ⟨rfl, rfl⟩
    · rw [if_neg a, if_neg a]
      exact ih (j + 1) n n' (by omega) (by omega) (by omega)
theorem sim_talk {σ τ : St} (hI : Inv σ τ) (x1 x2 : Int32) : ∃ (r : Int32) (σ1 τ1 : St), fX10_talk x1 x2 σ = some (r, σ1) ∧ fX11_talk x1 x2 τ = some (r, τ1) ∧ Inv σ1 τ1 := by
  unfold fX10_talk fX11_talk
  by_cases h1 : x1 < 0 ∨ (16 : Int32) ≤ x1
  · rw [wi_f h1, is_f h1]
    exact fin1 hI
  rw [wi_t h1, is_t h1]
  by_cases h2 : x2 < 0 ∨ (16 : Int32) ≤ x2
  · rw [wi_f h2, is_f h2]
    exact fin1 hI
  rw [wi_t h2, is_t h2]
  by_cases h3 : x1 = x2
  · rw [if_pos h3, if_pos h3]
    exact fin1 hI
  rw [if_neg h3, if_neg h3]
  obtain ⟨a, ha, rfl⟩ := ix_of (N := 16) rfl (by decide) h1
  obtain ⟨b, hb, rfl⟩ := ix_of (N := 16) rfl (by decide) h2
  obtain ⟨dn, nb, np, hh, nw, nj, ns, nt, nd, g1, g2, g3, g4, g5, g6, g7, g8, g9, g10, g11, ⟨t1, t2, t3, t4, t5, t6, hn, fn, sn, an, bn, tn, t7, t8, t9, t10, t11⟩, g13⟩ := id hI
  unfold fX7_talkedOn
  rcases talk_w t5 t6 (g2.2.2.trans g2.2.1.symm) t4 (fun k hk => ⟨(t10 k hk).1.trans (t10 k hk).2.1.symm, (t10 k hk).2.2.1.trans (t10 k hk).2.2.2.1.symm, (t10 k hk).2.2.2.2.1.trans (t10 k hk).2.2.2.2.2.1.symm⟩) (nI a) (nI b) nt 0 FU FU (by omega) (fu_lt (by omega)) (fu_lt (by omega)) with ⟨a1, a2⟩ | ⟨a1, a2⟩
  · exact ⟨0, σ, τ, (cal_e a1).trans (by rw [if_neg (by decide)]), a2, hI⟩
  · have key : ∃ (r : Int32) (σ1 τ1 : St), (if (σ 47 9) < 60 then (cal (fX7_tellTalk (nI a) (nI b) (σ 0 11) σ) (fun _ σ14 => some ((1 : Int32), σ14))) else (cal (fX10_refuse (-6) σ) (fun v18 σ17 => some (v18, σ17)))) = some (r, σ1) ∧ fX11_talk_b31 1 (nI a) (nI b) (nI nt) τ = some (r, τ1) ∧ Inv σ1 τ1 := by
      have le : τ 0 23 ≤ nI nt := by rw [t6]; exact nI_le (by omega) (by omega)
      rw [fX11_talk_b31, if_pos le]
      by_cases h4 : nt < 60
      · have l1 : σ 47 9 < 60 := by rw [t5]; exact nI_lt h4 (by decide)
        have l2 : ¬ τ 0 23 = 60 := by rw [t6]; exact fun e => absurd ((nI_eq (by omega) (by decide)).mp (e.trans (show (60 : Int32) = nI 60 from rfl))) (by omega)
        rw [if_pos l1, if_neg l2]
        unfold fX7_tellTalk
        refine ⟨1, up2 (up2 (up2 (up2 σ 51 nt (nI a)) 52 nt (nI b)) 53 nt (σ 0 11)) 47 9 (σ 47 9 + 1), up2 (up2 (up2 (up2 τ 37 nt (nI a)) 38 nt (nI b)) 39 nt (τ 0 16)) 0 23 (τ 0 23 + 1), ?_, ?_, ?_⟩
        · exact cal_e ((wr_e t5 h4 (by decide)).trans ((wr_e t5 h4 (by decide)).trans (wr_e t5 h4 (by decide))))
        · exact (wr_e t6 h4 (by decide)).trans ((wr_e t6 h4 (by decide)).trans (wr_e t6 h4 (by decide)))
        · refine ⟨dn, nb, np, hh, nw, nj, ns, nt + 1, nd, g1, g2, g3, g4, g5, g6, g7, g8, g9, g10, g11, ⟨t1, t2, t3, by omega, show σ 47 9 + 1 = nI (nt + 1) by rw [t5, nI_1], show τ 0 23 + 1 = nI (nt + 1) by rw [t6, nI_1], hn, fn, sn, fun i => if i = nt then a else an i, fun i => if i = nt then b else bn i, fun i => if i = nt then dn else tn i, t7, t8, t9, fun k hk => ?_, fun i j hij hj => ?_⟩, g13⟩
          · show upd (σ 51) nt (nI a) k = nI (if k = nt then a else an k) ∧ upd (τ 37) nt (nI a) k = nI (if k = nt then a else an k) ∧ upd (σ 52) nt (nI b) k = nI (if k = nt then b else bn k) ∧ upd (τ 38) nt (nI b) k = nI (if k = nt then b else bn k) ∧ upd (σ 53) nt (σ 0 11) k = nI (if k = nt then dn else tn k) ∧ upd (τ 39) nt (τ 0 16) k = nI (if k = nt then dn else tn k) ∧ (if k = nt then a else an k) < 16 ∧ (if k = nt then b else bn k) < 16 ∧ (if k = nt then dn else tn k) ≤ dn
            by_cases e : k = nt
            · subst e; simp only [upd_s, if_true]; exact ⟨trivial, trivial, trivial, trivial, g2.2.1, g2.2.2, ha, hb, Nat.le_refl _⟩
            · simp only [upd_n _ _ e, if_neg e]; exact t10 k (by omega)
          · show (if i = nt then dn else tn i) ≤ (if j = nt then dn else tn j)
            by_cases e2 : j = nt
            · rw [if_pos e2]
              by_cases e1 : i = nt
              · rw [if_pos e1]; exact Nat.le_refl _
              · rw [if_neg e1]; exact (t10 i (by omega)).2.2.2.2.2.2.2.2
            · rw [if_neg e2, if_neg (by omega)]; exact t11 i j hij (by omega)
      · have e60 : nt = 60 := by omega
        subst e60
        have l1 : ¬ σ 47 9 < 60 := by rw [t5]; decide
        have l2 : τ 0 23 = 60 := by rw [t6]; rfl
        rw [if_neg l1, if_pos l2]
        exact fin6 hI
    obtain ⟨r, σ1, τ1, k1, k2, k3⟩ := key
    exact ⟨r, σ1, τ1, (cal_e a1).trans ((if_pos rfl).trans k1), a2.trans k2, k3⟩
