theorem rowI.cg {cand cand' : Nat → Prop} {wh : Nat → Nat} {c m : Nat} {r : Nat → Nat} (h : rowI cand wh c m r) (e : ∀ k, k < c → (cand k ↔ cand' k)) : rowI cand' wh c m r :=
  ⟨fun t ht => ⟨(h.1 t ht).1, (e _ (h.1 t ht).1).mp (h.1 t ht).2⟩, fun k hk hc => h.2.1 k hk ((e k hk).mpr hc), h.2.2⟩
theorem find_v {σ : St} {x : Int32} {np s d : Nat} {wh : Nat → Nat} (hnp : np ≤ 80) (h7 : σ 7 7 = nI np) (hw : ∀ k, k < np → cnd σ x k → σ 14 k = nI (wh k) ∧ wh k ≤ 100) (hs1 : 1 ≤ s) (hs : s ≤ 12) (hd : d ≤ 100) : ∃ (m : Nat) (r : Nat → Nat), m ≤ np ∧ rowI (cnd σ x) wh np m r ∧ ((∃ σ' : St, fX3_find x (nI s) (nI d) σ = some (0, σ') ∧ Off [41, 42, 43, 44] σ σ' ∧ ∀ i, ¬ vld r wh m s d i) ∨ ∃ (σ' : St) (i0 : Nat), fX3_find x (nI s) (nI d) σ = some (1, σ') ∧ Off [41, 42, 43, 44] σ σ' ∧ vld r wh m s d i0 ∧ (∀ i', i' < i0 → ¬ vld r wh m s d i') ∧ σ' 41 4 = nI i0 ∧ σ' 41 5 = nI s ∧ (∀ t, t < m → σ' 43 t = nI (wh (r t))) ∧ ∀ t, t < s → σ' 44 t = nI (r (i0 + t))) := by
  obtain ⟨m, r, σ1, a1, a2, a3, a4, a5⟩ := ga_w (σ0 := σ) (x := x) (wh := wh) hnp h7 hw np 0 FU (up2 σ 41 3 0) 0 (fun _ => 0) (by omega) (fu_lt (by omega)) ((Off.rf _ _).up (by decide) _ _) (up2_s _ _ _ _) (fun t ht => by omega) ⟨fun t ht => by omega, fun k hk => by omega, fun a b h1 h2 => by omega⟩
  have hm := a5.le (fun k hk hk' => (hw k hk hk').2)
  have hg : fX3_gather x σ = some (0, σ1) := by
    unfold fX3_gather
    rw [pf_e]; exact a1
  have hw' : ∀ t, t < m → wh (r t) ≤ 100 := fun t ht => (hw _ (a5.1 t ht).1 (a5.1 t ht).2).2
  have hf : fX3_find x (nI s) (nI d) σ = fX3_find_b15 FU (nI s) (nI d) (nI 0) (up2 σ1 41 5 0) := by
    unfold fX3_find
    rw [cal_e hg, pf_e]; rfl
  have o1 : Off [41, 42, 43, 44] σ (up2 σ1 41 5 0) := (a2.mono (by decide)).up (by decide) _ _
  refine ⟨m, r, hm, a5, ?_⟩
  rw [hf]
  rcases fd_w (r := r) (wh := wh) (m := m) (s := s) (d := d) (by omega) hs1 hs hd hw' a5.so (m + 1) 0 FU (up2 σ1 41 5 0) (by omega) (fu_lt (by omega)) (by rw [up2_i _ _ _ _ _ (by decide)]; exact a3) a4 (fun i' h => by omega) with ⟨b1, b2⟩ | ⟨i0, σ', b1, b2, b3, b4, b5, b6, b7, b8⟩
  · exact Or.inl ⟨_, b1, o1, b2⟩
  · refine Or.inr ⟨σ', i0, b1, o1.tr (b4.mono (by decide)), b2, b3, b6, b7, fun t ht => ?_, b8⟩
    rw [b4 43 (by decide)]
    exact (a4 t ht).2
theorem mt_sim {σ τ : St} (hI : Inv σ τ) (x : Int32) {s d : Nat} (hs1 : 1 ≤ s) (hs : s ≤ 12) (hd : d ≤ 100) : (∃ σ' τ' : St, fX3_find x (nI s) (nI d) σ = some (0, σ') ∧ fX11_matches x (nI s) (nI d) τ = some (-9, τ') ∧ Off [41, 42, 43, 44] σ σ' ∧ Off [31, 32] τ τ') ∨ ∃ (σ' τ' : St) (np m i0 : Nat) (r wh : Nat → Nat), fX3_find x (nI s) (nI d) σ = some (1, σ') ∧ fX11_matches x (nI s) (nI d) τ = some (nI (lck r wh i0 s), τ') ∧ Off [41, 42, 43, 44] σ σ' ∧ Off [31, 32] τ τ' ∧ np ≤ 80 ∧ σ 7 7 = nI np ∧ τ 0 18 = nI np ∧ m ≤ np ∧ i0 + s ≤ m ∧ (∀ t, t < m → wh (r t) ≤ 100) ∧ (∀ t, t < m → r t < np) ∧ (∀ a b, a < m → b < m → r a = r b → a = b) ∧ σ' 41 4 = nI i0 ∧ σ' 41 5 = nI s ∧ (∀ t, t < m → σ' 43 t = nI (wh (r t))) ∧ (∀ t, t < s → σ' 44 t = nI (r (i0 + t))) ∧ mkd (τ' 31) r np i0 (i0 + s) := by
  obtain ⟨dn, nb, np, hh, nw, nj, ns, nt, nd, g1, g2, g3, g4, g5, g6, g7, g8, g9, g10, g11, g12, g13⟩ := hI
  obtain ⟨q1, q2, q3, q4, q5⟩ := g5
  have hw : ∀ k, k < np → cnd σ x k → σ 14 k = nI (σ 14 k).toNatClampNeg ∧ (σ 14 k).toNatClampNeg ≤ 100 := fun k hk hc => by
    obtain ⟨w, w1, w2⟩ := (q5 k hk).2.2.2.2.2.2.2.2 hc.2
    rw [w2, nI_clamp (by omega)]
    exact ⟨rfl, w1⟩
  have heq : ∀ k, k < np → (cnd σ x k ↔ cdM τ x k) := fun k hk => by
    have a := (q5 k hk).2.1
    have b := (q5 k hk).2.2.2.1
    unfold cnd cdM
    rw [a, b]
  have hwM : ∀ k, k < np → cdM τ x k → τ 12 k = nI (σ 14 k).toNatClampNeg ∧ (σ 14 k).toNatClampNeg ≤ 100 := fun k hk hc => by
    have a := (q5 k hk).2.2.2.2.2.2.1
    have b := hw k hk ((heq k hk).mpr hc)
    exact ⟨by rw [← a]; exact b.1, b.2⟩
  obtain ⟨m, r, m1, m2, m3⟩ := find_v (wh := fun k => (σ 14 k).toNatClampNeg) q1 q2 hw hs1 hs hd
  have mM := matches_v (wh := fun k => (σ 14 k).toNatClampNeg) q1 q3 (m2.cg heq) hwM hs1 hs hd
  rcases m3 with ⟨σ', b1, b2, b3⟩ | ⟨σ', i0, b1, b2, b3, b4, b5, b6, b7, b8⟩
  · rcases mM with ⟨τ', c1, c2, c3⟩ | ⟨τ', i0, c1, c2, c3, c4, c5⟩
    · exact Or.inl ⟨σ', τ', b1, c1, b2, c2⟩
    · exact absurd c3 (b3 i0)
  · rcases mM with ⟨τ', c1, c2, c3⟩ | ⟨τ', i1, c1, c2, c3, c4, c5⟩
    · exact absurd b3 (c3 i0)
    · have e : i1 = i0 := by
        rcases Nat.lt_trichotomy i1 i0 with z | z | z
        · exact absurd c3 (b4 i1 z)
        · exact z
        · exact absurd b3 (c4 i0 z)
      subst e
      exact Or.inr ⟨σ', τ', np, m, i1, r, fun k => (σ 14 k).toNatClampNeg, b1, c1, b2, c2, q1, q2, q3, m1, b3.1, fun t ht => (hw _ (m2.1 t ht).1 (m2.1 t ht).2).2, fun t ht => (m2.1 t ht).1, fun a b ha hb h => m2.inj ha hb h, b5, b6, b7, b8, c5⟩
theorem sr_v (x1 x2 x3 : Int32) (σ τ : St) : ∃ v : Int32, fX10_serviceRefusal x1 x2 x3 σ = some (v, σ) ∧ fX11_wrongService x1 x2 x3 τ = some (v, τ) ∧ (v = -1 ∨ v = -4 ∨ v = -6 ∨ (v = 0 ∧ ∃ s d : Nat, 1 ≤ s ∧ s ≤ 12 ∧ d ≤ 100 ∧ x2 = nI s ∧ x3 = nI d)) := by
  unfold fX10_serviceRefusal fX11_wrongService
  by_cases h0 : x1 < 0 ∨ (10 : Int32) ≤ x1
  · rw [wi_f h0, is_f h0]
    exact ⟨-1, rfl, rfl, Or.inl rfl⟩
  · rw [wi_t h0, is_t h0]
    by_cases h1 : x2 < 1
    · rw [if_pos h1, if_pos h1]
      exact ⟨-4, rfl, rfl, Or.inr (Or.inl rfl)⟩
    · rw [if_neg h1, if_neg h1]
      by_cases h2 : (0 : Int32) ≤ x3
      · rw [if_pos h2, if_pos h2]
        by_cases h3 : (12 : Int32) < x2
        · rw [if_pos h3, if_pos h3]
          exact ⟨-6, rfl, rfl, Or.inr (Or.inr (Or.inl rfl))⟩
        · rw [if_neg h3, if_neg h3]
          by_cases h4 : x3 ≤ 100
          · rw [if_pos h4, if_pos h4]
            refine ⟨0, rfl, rfl, Or.inr (Or.inr (Or.inr ⟨rfl, ?_⟩))⟩
            rw [Int32.lt_iff_toInt_lt, show (1 : Int32).toInt = 1 from rfl] at h1
            rw [Int32.lt_iff_toInt_lt, show (12 : Int32).toInt = 12 from rfl] at h3
            rw [Int32.le_iff_toInt_le, show (0 : Int32).toInt = 0 from rfl] at h2
            rw [Int32.le_iff_toInt_le, show (100 : Int32).toInt = 100 from rfl] at h4
            refine ⟨x2.toInt.toNat, x3.toInt.toNat, by omega, by omega, by omega, i32_ext ?_, i32_ext ?_⟩
            · rw [nI_toInt (by omega)]; omega
            · rw [nI_toInt (by omega)]; omega
          · rw [if_neg h4, if_neg h4]
            exact ⟨-6, rfl, rfl, Or.inr (Or.inr (Or.inl rfl))⟩
      · rw [if_neg h2, if_neg h2]
        exact ⟨-4, rfl, rfl, Or.inr (Or.inl rfl)⟩
theorem scC_mt : ∀ c ∈ [41, 42, 43, 44], c ∈ scC := by decide
theorem scM_mt : ∀ c ∈ [31, 32], c ∈ scM := by decide
theorem sim_service {σ τ : St} (hI : Inv σ τ) (x1 x2 x3 : Int32) : ∃ (r : Int32) (σ1 τ1 : St), fX10_service x1 x2 x3 σ = some (r, σ1) ∧ fX11_service x1 x2 x3 τ = some (r, τ1) ∧ Inv σ1 τ1 := by
  unfold fX10_service fX11_service
  obtain ⟨v, v1, v2, v3⟩ := sr_v x1 x2 x3 σ τ
  rw [cal_e v1, cal_e v2]
  rcases v3 with e | e | e | ⟨e, s, d, hs1, hs, hd, e2, e3⟩
  · subst e; exact fin1 hI
  · subst e; exact fin4 hI
  · subst e; exact fin6 hI
  · subst e; subst e2; subst e3
    rw [if_pos rfl, if_pos rfl]
    rcases mt_sim hI x1 hs1 hs hd with ⟨σ', τ', a1, a2, a3, a4⟩ | ⟨σ', τ', np, m, i0, r, wh, a1, a2, a3, a4, a5, a6, a7, a8, a9, a10, a11, a12, a13, a14, a15, a16, a17⟩
    · rw [cal_e a1, cal_e a2, if_pos rfl]
      exact ⟨-9, σ', τ', rfl, rfl, hI.scr (a3.mono scC_mt) (a4.mono scM_mt)⟩
    · rw [cal_e a1, cal_e a2, if_neg (show ¬ (1 : Int32) = 0 by decide), cal_e (lacking_v (r := r) (wh := wh) (m := m) (by omega) hs a9 a10 a13 a14 a15)]
      exact ⟨_, σ', τ', rfl, rfl, hI.scr (a3.mono scC_mt) (a4.mono scM_mt)⟩
