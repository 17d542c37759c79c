theorem sl_c {g : Nat → Nat} {s : Nat} {x2 : Int32} (hs : s ≤ 12) (hg : ∀ t, t < s → g t < 80) : ∀ q c n (σ : St), c + q = s → q < n → σ 41 5 = nI s → (∀ t, t < s → σ 44 t = nI (g t)) → ∃ σ' : St, fX10_sell_b47 n x2 (nI c) σ = some (x2, σ') ∧ Off [11] σ σ' ∧ ∀ k, ((∃ t, c ≤ t ∧ t < s ∧ g t = k) → σ' 11 k = 4) ∧ ((∀ t, c ≤ t → t < s → g t ≠ k) → σ' 11 k = σ 11 k) := by
  intro q
  induction q with
  | zero =>
    intro c n σ hc hn h5 h44
    obtain ⟨n, rfl⟩ : ∃ q, n = q + 1 := ⟨n - 1, by omega⟩
    obtain rfl : c = s := by omega
    refine ⟨σ, ?_, Off.rf _ _, fun k => ⟨fun ⟨t, t1, t2, _⟩ => by omega, fun _ => rfl⟩⟩
    rw [fX10_sell_b47, h5, if_pos (nI_le (Nat.le_refl _) (by omega))]
  | succ q ih =>
    intro c n σ hc hn h5 h44
    obtain ⟨n, rfl⟩ : ∃ q, n = q + 1 := ⟨n - 1, by omega⟩
    have l1 : ¬ nI s ≤ nI c := nI_ge (by omega) (by omega)
    obtain ⟨σ', z1, z2, z3⟩ := ih (c + 1) n (up2 σ 11 (g c) 4) (by omega) (by omega) h5 h44
    refine ⟨σ', ?_, ((Off.rf [11] σ).up (by decide) _ _).tr z2, fun k => ?_⟩
    · rw [fX10_sell_b47, h5, if_neg l1, rd_nI (by omega) (by decide), h44 c (by omega), wr_nI (hg c (by omega)) (by decide), nI_1]
      exact z1
    · have e11 : up2 σ 11 (g c) 4 11 k = if k = g c then 4 else σ 11 k := up2_if _ _ _ _ _
      by_cases hex : ∃ t, c + 1 ≤ t ∧ t < s ∧ g t = k
      · have h4 := (z3 k).1 hex
        obtain ⟨t, t1, t2, t3⟩ := hex
        exact ⟨fun _ => h4, fun h => absurd t3 (h t (by omega) t2)⟩
      · have hk := (z3 k).2 (fun t t1 t2 t3 => hex ⟨t, t1, t2, t3⟩)
        rw [hk, e11]
        constructor
        · intro ⟨t, t1, t2, t3⟩
          have : t = c := by
            rcases Nat.lt_or_ge c t with y | y
            · exact absurd ⟨t, y, t2, t3⟩ hex
            · omega
          rw [if_pos (by rw [← t3, this])]
        · intro h
          rw [if_neg (fun y => h c (Nat.le_refl _) (by omega) y.symm)]
theorem sl_m {np : Nat} {x2 : Int32} (hnp : np ≤ 80) : ∀ q p n (τ : St), p + q = np → q < n → τ 0 18 = nI np → ∃ τ' : St, fX11_sell_b43 n x2 (nI p) τ = some (x2, τ') ∧ Off [9] τ τ' ∧ ∀ k, ((p ≤ k ∧ k < np ∧ τ 31 k ≠ 0) → τ' 9 k = 4) ∧ (¬ (p ≤ k ∧ k < np ∧ τ 31 k ≠ 0) → τ' 9 k = τ 9 k) := by
  intro q
  induction q with
  | zero =>
    intro p n τ hp hn h18
    obtain ⟨n, rfl⟩ : ∃ q, n = q + 1 := ⟨n - 1, by omega⟩
    obtain rfl : p = np := by omega
    refine ⟨τ, ?_, Off.rf _ _, fun k => ⟨fun h => by omega, fun _ => rfl⟩⟩
    rw [fX11_sell_b43, h18, if_pos (nI_le (Nat.le_refl _) (by omega))]
  | succ q ih =>
    intro p n τ hp hn h18
    obtain ⟨n, rfl⟩ : ∃ q, n = q + 1 := ⟨n - 1, by omega⟩
    have l1 : ¬ nI np ≤ nI p := nI_ge (by omega) (by omega)
    by_cases c0 : τ 31 p = 0
    · obtain ⟨τ', z1, z2, z3⟩ := ih (p + 1) n τ (by omega) (by omega) h18
      refine ⟨τ', ?_, z2, fun k => ?_⟩
      · rw [fX11_sell_b43, h18, if_neg l1, rd_nI (by omega) (by decide), if_pos c0, nI_1]; exact z1
      · refine ⟨fun h => (z3 k).1 ⟨?_, h.2⟩, fun h => (z3 k).2 (fun y => h ⟨by omega, y.2⟩)⟩
        have : k ≠ p := fun y => h.2.2 (by rw [y]; exact c0)
        omega
    · obtain ⟨τ', z1, z2, z3⟩ := ih (p + 1) n (up2 τ 9 p 4) (by omega) (by omega) h18
      have z3' : ∀ k, ((p + 1 ≤ k ∧ k < np ∧ τ 31 k ≠ 0) → τ' 9 k = 4) ∧ (¬ (p + 1 ≤ k ∧ k < np ∧ τ 31 k ≠ 0) → τ' 9 k = up2 τ 9 p 4 9 k) := z3
      refine ⟨τ', ?_, ((Off.rf [9] τ).up (by decide) _ _).tr z2, fun k => ?_⟩
      · rw [fX11_sell_b43, h18, if_neg l1, rd_nI (by omega) (by decide), if_neg c0, wr_nI (by omega) (by decide), nI_1]; exact z1
      · by_cases e : k = p
        · subst e
          have := (z3' k).2 (fun y => by omega)
          rw [up2_s] at this
          exact ⟨fun _ => this, fun h => absurd ⟨Nat.le_refl _, by omega, c0⟩ h⟩
        · refine ⟨fun h => (z3' k).1 ⟨by omega, h.2⟩, fun h => ?_⟩
          rw [(z3' k).2 (fun y => h ⟨by omega, y.2⟩), up2_i _ _ _ _ _ e]
theorem sim_sell {σ τ : St} (hI : Inv σ τ) (x1 x2 x3 : Int32) : ∃ (r : Int32) (σ1 τ1 : St), fX10_sell x1 x2 x3 σ = some (r, σ1) ∧ fX11_sell x1 x2 x3 τ = some (r, τ1) ∧ Inv σ1 τ1 := by
  unfold fX10_sell fX11_sell
  obtain ⟨v, v1, v2, v3⟩ := sr_v x1 x2 x3 σ τ
  rw [cal_e v1, cal_e v2]
  rcases v3 with e | e | e | ⟨e, s, d, hs1, hs, hd, e2, e3⟩
  · subst e; exact fin1 hI
  · subst e; exact fin4 hI
  · subst e; exact fin6 hI
  · subst e; subst e2; subst e3
    rw [if_pos rfl, if_pos rfl]
    rcases mt_sim hI x1 hs1 hs hd with ⟨σ', τ', a1, a2, a3, a4⟩ | ⟨σ', τ', np, m, i0, r, wh, a1, a2, a3, a4, a5, a6, a7, a8, a9, a10, a11, a12, a13, a14, a15, a16, a17⟩
    · rw [cal_e a1, cal_e a2, if_pos rfl, if_neg (show ¬ (0 : Int32) ≤ -9 by decide)]
      exact fin3 (hI.scr (a3.mono scC_mt) (a4.mono scM_mt))
    · have lk := lck_le r wh i0 s
      have e18 : τ' 0 18 = nI np := by rw [a4 0 (by decide)]; exact a7
      obtain ⟨σ2, b1, b2, b3⟩ := sl_c (g := fun t => r (i0 + t)) (x2 := nI s) hs (fun t ht => by have := a11 (i0 + t) (by omega); show r (i0 + t) < 80; omega) s 0 FU σ' (by omega) (fu_lt (by omega)) a14 a16
      obtain ⟨τ2, c1, c2, c3⟩ := sl_m (x2 := nI s) a5 np 0 FU τ' (by omega) (fu_lt (by omega)) e18
      rw [cal_e a1, cal_e a2, if_neg (show ¬ (1 : Int32) = 0 by decide), if_pos (show (0 : Int32) ≤ nI (lck r wh i0 s) from nI_le (a := 0) (Nat.zero_le _) (by omega))]
      have c1' : fX11_sell_b28 (nI s) 0 τ' = some (nI s, τ2) := by
        unfold fX11_sell_b28
        rw [if_pos rfl]; exact c1
      refine ⟨nI s, σ2, τ2, b1, c1', ?_⟩
      have e11 : σ' 11 = σ 11 := a3 11 (by decide)
      have e9 : τ' 9 = τ 9 := a4 9 (by decide)
      rw [e11] at b3
      rw [e9] at c3
      have oC : Off scC (va_up σ 11 (σ2 11)) σ2 := fun c hc => by
        by_cases e : c = 11
        · subst e; simp [va_up]
        · have q1 : va_up σ 11 (σ2 11) c = σ c := by simp [va_up, e]
          rw [q1, b2 c (by simp [e]), a3 c (fun z => hc (scC_mt c z))]
      have oM : Off scM (va_up τ 9 (τ2 9)) τ2 := fun c hc => by
        by_cases e : c = 9
        · subst e; simp [va_up]
        · have q1 : va_up τ 9 (τ2 9) c = τ c := by simp [va_up, e]
          rw [q1, c2 c (by simp [e]), a4 c (fun z => hc (scM_mt c z))]
      refine Inv.scr ?_ oC oM
      obtain ⟨dn, nb, np', hh, nw, nj, ns, nt, nd, g1, g2, g3, g4, g5, g6, g7, g8, g9, g10, g11, g12, g13⟩ := hI
      obtain ⟨q1, q2, q3, q4, q5⟩ := g5
      have enp : np' = np := by
        have h := congrArg Int32.toInt (q2.symm.trans a6)
        rw [nI_toInt (by omega), nI_toInt (by omega)] at h
        omega
      subst enp
      refine ⟨dn, nb, np', hh, nw, nj, ns, nt, nd, g1, g2, g3, g4, ⟨q1, q2, q3, ?_, ?_⟩, g6, g7, g8, g9, g10, g11, g12, g13⟩
      · intro k hk
        show τ2 9 k = 0
        rw [(c3 k).2 (fun y => by omega)]
        exact q4 k hk
      · intro k hk
        obtain ⟨p1, p2, p3, p4, p5, p6, p7, p8, p9⟩ := q5 k hk
        have es : (σ2 11 k = 4 ∧ τ2 9 k = 4) ∨ (σ2 11 k = σ 11 k ∧ τ2 9 k = τ 9 k) := by
          rcases a17 k hk with ⟨y1, t, y2, y3, y4⟩ | ⟨y1, y2⟩
          · left
            refine ⟨(b3 k).1 ⟨t - i0, by omega, by omega, ?_⟩, (c3 k).1 ⟨by omega, hk, by rw [y1]; decide⟩⟩
            show r (i0 + (t - i0)) = k
            rw [show i0 + (t - i0) = t by omega]; exact y4
          · right
            refine ⟨(b3 k).2 (fun t t1 t2 => y2 (i0 + t) (by omega) (by omega)), (c3 k).2 (fun z => z.2.2 y1)⟩
        refine ⟨p1, p2, p3, ?_, p5, p6, p7, p8, ?_⟩
        · show σ2 11 k = τ2 9 k
          rcases es with z | z
          · rw [z.1, z.2]
          · rw [z.1, z.2]; exact p4
        · show (σ2 11 k = 1 ∨ σ2 11 k = 2) → _
          rcases es with z | z
          · rw [z.1]; intro y
            rcases y with y | y
            · exact absurd y (by decide)
            · exact absurd y (by decide)
          · rw [z.1]; exact p9
