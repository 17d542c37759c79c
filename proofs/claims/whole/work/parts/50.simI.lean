/-- fire -/
theorem abs_v {a b : Nat} (ha : a < 2 ^ 30) (hb : b < 2 ^ 30) : ∃ d, d < 2 ^ 30 ∧ (if 0 ≤ nI a - nI b then nI a - nI b else 0 - (nI a - nI b)) = nI d := by
  rcases Nat.lt_or_ge a b with h | h
  · refine ⟨b - a, by omega, ?_⟩
    rw [if_neg (i32_nle.mpr (pk_sneg hb h))]
    have e0 : (0 : Int32).toInt = 0 := rfl
    have e1 := pk_sub_toInt ha hb
    apply Int32.toInt_inj.mp
    rw [i32_sub (by rw [e0, e1]; omega) (by rw [e0, e1]; omega), e0, e1, nI_toInt (by omega)]
    omega
  · refine ⟨a - b, by omega, ?_⟩
    rw [pk_sub h, if_pos (nI_pos' (by omega))]
def wht (lo hi x : Int32) : Int32 := if 0 < (100 - ((if 0 ≤ (x - ((lo + hi) / 2)) then (x - ((lo + hi) / 2)) else 0 - (x - ((lo + hi) / 2))) / 5)) then (100 - ((if 0 ≤ (x - ((lo + hi) / 2)) then (x - ((lo + hi) / 2)) else 0 - (x - ((lo + hi) / 2))) / 5)) else 0
theorem white_v {lo hi K : Nat} (h1 : lo ≤ 2000) (h2 : hi ≤ 2000) (h3 : K ≤ 96000) : ∃ w, w ≤ 100 ∧ wht (nI lo) (nI hi) (nI K) = nI w := by
  unfold wht
  rw [nI_add, show (2 : Int32) = nI 2 from rfl, pk_div (by omega) (by decide) (by decide)]
  obtain ⟨d, hd, ed⟩ := abs_v (a := K) (b := (lo + hi) / 2) (by omega) (by omega)
  rw [ed, show (5 : Int32) = nI 5 from rfl, pk_div (by omega) (by decide) (by decide)]
  rcases Nat.lt_or_ge (d / 5) 100 with h | h
  · refine ⟨100 - d / 5, by omega, ?_⟩
    rw [show (100 : Int32) = nI 100 from rfl, pk_sub (by omega), if_pos (show (0 : Int32) < nI (100 - d / 5) from nI_lt (a := 0) (by omega) (by omega))]
  · refine ⟨0, by omega, ?_⟩
    have e1 := pk_sub_toInt (a := 100) (b := d / 5) (by decide) (by omega)
    have e0 : (0 : Int32).toInt = 0 := rfl
    rw [show (100 : Int32) = nI 100 from rfl, if_neg (by rw [i32_nlt, Int32.le_iff_toInt_le, e1, e0]; omega)]
    rfl
theorem trait_v {σ : St} {q j : Nat} (hq : q < 6) (hj : j < 4) {J : Int32} (eJ : J = nI j) : fX0_trait (nI q) J σ = some (σ 3 (4 * q + j), σ) := by
  unfold fX0_trait
  rw [rd_e (j := 4 * q + j) (by rw [eJ, show (4 : Int32) = nI 4 from rfl, pk_mul, nI_add, Nat.mul_comm]) (by omega) (by decide)]
theorem bears_v {σ : St} {q : Nat} (hq : q < 6) (x : Int32) : fX0_bears (nI q) x σ = some (if x < σ 3 (4 * q + 2) ∨ σ 3 (4 * q + 3) < x then 0 else 1, σ) := by
  unfold fX0_bears
  rw [cal_e (trait_v hq (by decide) (J := 2) rfl), cal_e (trait_v hq (by decide) (J := 3) rfl)]
  by_cases h1 : x < σ 3 (4 * q + 2)
  · rw [if_pos h1, if_pos (Or.inl h1)]; rfl
  · rw [if_neg h1]
    by_cases h2 : σ 3 (4 * q + 3) < x
    · rw [if_pos h2, if_pos (Or.inr h2)]; rfl
    · rw [if_neg h2, if_neg (fun h => h.elim h1 h2)]; rfl
theorem pasteOf_v {τ : St} {k b q j : Nat} (hk : k < 80) (hb : b < 20) (hq : q < 6) (hj : j < 4) {J : Int32} (eJ : J = nI j) (e6 : τ 6 k = nI b) (e3 : τ 3 b = nI q) : fX11_pasteOf (nI k) J τ = some (τ 2 (4 * q + j), τ) := by
  unfold fX11_pasteOf
  rw [rd_nI hk (by decide), rd_e e6 hb (by decide), rd_e (j := 4 * q + j) (by rw [e3, eJ, show (4 : Int32) = nI 4 from rfl, pk_mul, nI_add]) (by omega) (by decide)]
theorem mbears_v {τ : St} {k b q p : Nat} (hk : k < 80) (hb : b < 20) (hq : q < 6) (hp : p < 12) (e6 : τ 6 k = nI b) (e3 : τ 3 b = nI q) : fX11_bears (nI k) (nI p) τ = some (if τ 19 p < τ 2 (4 * q + 2) ∨ τ 2 (4 * q + 3) < τ 19 p then 0 else 1, τ) := by
  unfold fX11_bears
  rw [rd_nI hp (by decide), cal_e (pasteOf_v hk hb hq (by decide) (J := 2) rfl e6 e3), rd_nI hp (by decide), cal_e (pasteOf_v hk hb hq (by decide) (J := 3) rfl e6 e3)]
  by_cases h1 : τ 19 p < τ 2 (4 * q + 2)
  · rw [if_pos h1, if_pos (Or.inl h1)]; rfl
  · rw [if_neg h1]
    by_cases h2 : τ 2 (4 * q + 3) < τ 19 p
    · rw [if_pos h2, if_pos (Or.inr h2)]; rfl
    · rw [if_neg h2, if_neg (fun h => h.elim h1 h2)]; rfl
theorem shrunk_v {σ : St} {q : Nat} (hq : q < 6) (x : Int32) : fX0_shrunk (nI q) x σ = some (x - (x * σ 3 (4 * q + 1)) / 1000, σ) := by
  unfold fX0_shrunk
  rw [cal_e (trait_v hq (by decide) (J := 1) rfl)]
theorem whiteAt_v {σ : St} {q : Nat} (hq : q < 6) (x : Int32) : fX0_whiteAt (nI q) x σ = some (wht (σ 3 (4 * q + 2)) (σ 3 (4 * q + 3)) x, σ) := by
  unfold fX0_whiteAt
  rw [cal_e (trait_v hq (by decide) (J := 2) rfl), cal_e (trait_v hq (by decide) (J := 3) rfl), lt_e]
  rfl
theorem endure_v {σ : St} {k q : Nat} (hk : k < 80) (hq : q < 6) (e8 : σ 8 k = nI q) (x : Int32) : fX6_endure (nI k) x σ = if (x < σ 3 (4 * q + 2) ∨ σ 3 (4 * q + 3) < x) then some (0, up2 (up2 σ 13 k x) 11 k 3) else some (1, up2 (up2 (up2 (up2 σ 13 k x) 11 k 1) 10 k (σ 10 k - (σ 10 k * σ 3 (4 * q + 1)) / 1000)) 14 k (wht (σ 3 (4 * q + 2)) (σ 3 (4 * q + 3)) x)) := by
  unfold fX6_endure
  have e8a : up2 σ 13 k x 8 k = nI q := e8
  have e8b : up2 (up2 σ 13 k x) 11 k 1 8 k = nI q := e8
  have e8c : ∀ v, up2 (up2 (up2 σ 13 k x) 11 k 1) 10 k v 8 k = nI q := fun v => e8
  rw [wr_nI hk (by decide), rd_nI hk (by decide), e8a, cal_e (bears_v hq _)]
  by_cases e : x < σ 3 (4 * q + 2) ∨ σ 3 (4 * q + 3) < x
  · have e' : x < up2 σ 13 k x 3 (4 * q + 2) ∨ up2 σ 13 k x 3 (4 * q + 3) < x := e
    rw [if_pos e, if_pos e', if_pos rfl, wr_nI hk (by decide), zr0]
  · have e' : ¬ (x < up2 σ 13 k x 3 (4 * q + 2) ∨ up2 σ 13 k x 3 (4 * q + 3) < x) := e
    rw [if_neg e, if_neg e', if_neg (by decide), wr_nI hk (by decide), rd_nI hk (by decide), rd_nI hk (by decide), e8b, cal_e (shrunk_v hq _), wr_nI hk (by decide), rd_nI hk (by decide), e8c, cal_e (whiteAt_v hq _), wr_nI hk (by decide), zr1]
    rfl
theorem mfired_v {τ : St} {k b q p : Nat} (hk : k < 80) (hb : b < 20) (hq : q < 6) (hp : p < 12) (e6 : τ 6 k = nI b) (e3 : τ 3 b = nI q) (F : St → Option (Int32 × St)) : wr τ 9 80 (nI k) 1 (fun σ16 => rd σ16 8 80 (nI k) (fun v17 => rd σ16 8 80 (nI k) (fun v18 => cal (fX11_pasteOf (nI k) 1 σ16) (fun v21 σ20 => wr σ20 8 80 (nI k) (v17 - ((v18 * v21) / 1000)) (fun σ22 => rd σ22 19 12 (nI p) (fun v23 => cal (fX11_pasteOf (nI k) 2 σ22) (fun v26 σ25 => cal (fX11_pasteOf (nI k) 3 σ25) (fun v29 σ28 => wr σ28 12 80 (nI k) (if 0 < (100 - ((if 0 ≤ (v23 - ((v26 + v29) / 2)) then (v23 - ((v26 + v29) / 2)) else 0 - (v23 - ((v26 + v29) / 2))) / 5)) then (100 - ((if 0 ≤ (v23 - ((v26 + v29) / 2)) then (v23 - ((v26 + v29) / 2)) else 0 - (v23 - ((v26 + v29) / 2))) / 5)) else 0) F)))))))) = F (up2 (up2 (up2 τ 9 k 1) 8 k (τ 8 k - (τ 8 k * τ 2 (4 * q + 1)) / 1000)) 12 k (wht (τ 2 (4 * q + 2)) (τ 2 (4 * q + 3)) (τ 19 p))) := by
  have p1' := pasteOf_v (τ := up2 τ 9 k 1) (k := k) (b := b) (q := q) hk hb hq (by decide) (J := 1) rfl e6 e3
  have p2' := fun v => pasteOf_v (τ := up2 (up2 τ 9 k 1) 8 k v) (k := k) (b := b) (q := q) hk hb hq (by decide) (J := 2) rfl e6 e3
  have p3' := fun v => pasteOf_v (τ := up2 (up2 τ 9 k 1) 8 k v) (k := k) (b := b) (q := q) hk hb hq (by decide) (J := 3) rfl e6 e3
  rw [wr_nI hk (by decide), rd_nI hk (by decide), rd_nI hk (by decide), cal_e p1', wr_nI hk (by decide), rd_nI hp (by decide), cal_e (p2' _), cal_e (p3' _), wr_nI hk (by decide)]
  rfl
/-- the end of a firing: the wood is burned, two days pass -/
theorem burnt_w {dn nb np hh nw nj ns nt nd : Nat} (hd : dn + 2 ≤ 4000) (x : Int32) : ∀ m k n n' σ τ, k + m = hh → m < n → m < n' → InvP dn nb np hh nw nj ns nt nd σ τ → ∃ σ' τ', cal (fX1_burnHours_b2 n (nI k) σ) (fun _ σ2 => cal (fX10_pass 2 σ2) (fun _ σ5 => some (x, σ5))) = some (x, σ') ∧ fX11_fire_b184 n' x (nI k) τ = some (x, τ') ∧ Inv σ' τ' := by
  intro m
  induction m with
  | zero =>
    intro k n n' σ τ hk hn hn' hP
    obtain ⟨n, rfl⟩ : ∃ q, n = q + 1 := ⟨n - 1, by omega⟩
    obtain ⟨n', rfl⟩ : ∃ q, n' = q + 1 := ⟨n' - 1, by omega⟩
    obtain ⟨g1, g2, g3, g4, g5, g6, g7, ⟨w1, w2, w3, w4, w5⟩, g9, g10, g11, g12, g13⟩ := hP
    have l1 : σ 15 6 ≤ nI k := by rw [w2]; exact nI_le (by omega) (by omega)
    have l2 : τ 0 19 ≤ nI k := by rw [w3]; exact nI_le (by omega) (by omega)
    have hP0 : InvP dn nb np 0 nw nj ns nt nd (up2 σ 15 6 0) (up2 τ 0 19 0) := ⟨g1, g2, g3, g4, g5, g6, g7, ⟨by omega, rfl, rfl, w4, w5⟩, g9, g10, g11, g12, g13⟩
    obtain ⟨σ', τ', a1, a2, a3⟩ := pass_sim hP0 2 hd
    refine ⟨σ', τ', ?_, ?_, dn + 2, nb, np, 0, nw, nj, ns, nt, nd, a3⟩
    · rw [fX1_burnHours_b2, if_pos l1]
      exact (cal_e (r := 0) (σ := up2 σ 15 6 0) rfl).trans (cal_e a1)
    · rw [fX11_fire_b184, if_pos l2, pf_e]
      exact cal_e a2
  | succ m ih =>
    intro k n n' σ τ hk hn hn' hP
    obtain ⟨n, rfl⟩ : ∃ q, n = q + 1 := ⟨n - 1, by omega⟩
    obtain ⟨n', rfl⟩ : ∃ q, n' = q + 1 := ⟨n' - 1, by omega⟩
    obtain ⟨g1, g2, g3, g4, g5, g6, g7, ⟨w1, w2, w3, w4, w5⟩, g9, g10, g11, g12, g13⟩ := hP
    have l1 : ¬ σ 15 6 ≤ nI k := by rw [w2]; exact nI_ge (by omega) (by omega)
    have l2 : ¬ τ 0 19 ≤ nI k := by rw [w3]; exact nI_ge (by omega) (by omega)
    rw [fX1_burnHours_b2, fX11_fire_b184, if_neg l1, if_neg l2, rd_nI (show k < 48 by omega) (by decide), rd_nI (show k < 48 by omega) (by decide), pf_e, pf_e, nI_1]
    exact ih (k + 1) n n' _ _ (by omega) (by omega) (by omega) ⟨g1, g2, g3, g4, g5, g6, g7, ⟨w1, w2, w3, show σ 15 7 + σ 21 k = τ 0 20 + τ 16 k by rw [w4, (w5 k (by omega)).1], w5⟩, g9, g10, g11, g12, g13⟩
/-- a piece comes out -/
theorem out_inv {dn nb np hh nw nj ns nt nd : Nat} {σ τ σ' τ' : St} (h : InvP dn nb np hh nw nj ns nt nd σ τ) {k p : Nat} (hk : k < np) (hC : Off [17, 12, 13, 11, 10, 14] σ σ') (hM : Off [15, 10, 11, 9, 8, 12] τ τ') (e17 : σ' 17 = upd (σ 17) p (-9)) (e15 : τ' 15 = upd (τ 15) p (-9))
    (oth : ∀ i, i ≠ k → σ' 12 i = σ 12 i ∧ σ' 13 i = σ 13 i ∧ σ' 11 i = σ 11 i ∧ σ' 10 i = σ 10 i ∧ σ' 14 i = σ 14 i ∧ τ' 10 i = τ 10 i ∧ τ' 11 i = τ 11 i ∧ τ' 9 i = τ 9 i ∧ τ' 8 i = τ 8 i ∧ τ' 12 i = τ 12 i) (own : σ' 12 k = -9 ∧ τ' 10 k = -9 ∧ σ' 13 k = τ' 11 k ∧ σ' 11 k = τ' 9 k ∧ σ' 10 k = τ' 8 k ∧ σ' 14 k = τ' 12 k ∧ ((σ' 11 k = 1 ∨ σ' 11 k = 2) → ∃ w, w ≤ 100 ∧ σ' 14 k = nI w)) : InvP dn nb np hh nw nj ns nt nd σ' τ' := by
  obtain ⟨g1, g2, g3, g4, ⟨p1, p2, p3, p4, p5⟩, g6, g7, g8, g9, g10, g11, g12, g13⟩ := h
  obtain ⟨o1, o2, o3, o4, o5, o6, o7⟩ := own
  unfold InvP
  rw [hC 1 (by decide), hC 0 (by decide), hC 3 (by decide), hC 2 (by decide), hC 4 (by decide), hC 5 (by decide), hC 6 (by decide), hC 7 (by decide), hC 8 (by decide), hC 9 (by decide), hC 16 (by decide), hC 15 (by decide), hC 21 (by decide), hC 22 (by decide), hC 23 (by decide), hC 24 (by decide), hC 27 (by decide), hC 32 (by decide), hC 33 (by decide), hC 35 (by decide), hC 36 (by decide), hC 37 (by decide), hC 39 (by decide), hC 47 (by decide), hC 48 (by decide), hC 49 (by decide), hC 50 (by decide), hC 51 (by decide), hC 52 (by decide), hC 53 (by decide), hC 56 (by decide), hC 57 (by decide), hC 58 (by decide), hC 59 (by decide),
    hM 1 (by decide), hM 0 (by decide), hM 2 (by decide), hM 3 (by decide), hM 4 (by decide), hM 5 (by decide), hM 6 (by decide), hM 7 (by decide), hM 13 (by decide), hM 14 (by decide), hM 16 (by decide), hM 20 (by decide), hM 21 (by decide), hM 24 (by decide), hM 25 (by decide), hM 27 (by decide), hM 28 (by decide), hM 34 (by decide), hM 35 (by decide), hM 36 (by decide), hM 37 (by decide), hM 38 (by decide), hM 39 (by decide), hM 42 (by decide), hM 43 (by decide), hM 44 (by decide), e17, e15]
  refine ⟨g1, g2, g3, g4, ⟨p1, p2, p3, fun i hi => ?_, fun i hi => ?_⟩, g6, fun r hr => ?_, g8, g9, g10, g11, g12, g13⟩
  · rw [(oth i (by omega)).2.2.2.2.2.2.2.1]; exact p4 i hi
  · by_cases e : i = k
    · subst e
      obtain ⟨q1, q2, q3, q4, q5, q6, q7, q8, q9⟩ := p5 i hi
      exact ⟨q1, q2, o5, o4, o1.trans o2.symm, o3, o6, Or.inl o1, o7⟩
    · obtain ⟨u1, u2, u3, u4, u5, u6, u7, u8, u9, u10⟩ := oth i e
      rw [u1, u2, u3, u4, u5, u6, u7, u8, u9, u10]
      exact p5 i hi
  · by_cases e : r = p
    · subst e; rw [upd_s, upd_s]; exact ⟨rfl, Or.inl rfl⟩
    · rw [upd_n _ _ e, upd_n _ _ e]; exact g7 r hr
set_option maxHeartbeats 4000000 in
theorem fire_w {dn nb np hh nw nj ns nt nd : Nat} (hd : dn + 2 ≤ 4000) (hh48 : hh ≤ 48) (K : Nat → Nat) (hK : ∀ p, p < 12 → K p ≤ 96000) : ∀ m j n n' (x : Int32) σ τ, j + m = 12 → m < n → m < n' → InvP dn nb np hh nw nj ns nt nd σ τ → (∀ p, p < 12 → σ 20 p = nI (K p) ∧ τ 19 p = nI (K p)) → ∃ (r : Int32) (σ' τ' : St), fX10_fire_b52 n x (nI j) σ = some (r, σ') ∧ fX11_fire_b45 n' x (nI j) τ = some (r, τ') ∧ Inv σ' τ' := by
  intro m
  induction m with
  | zero =>
    intro j n n' x σ τ hj hn hn' hP hk
    obtain ⟨n, rfl⟩ : ∃ q, n = q + 1 := ⟨n - 1, by omega⟩
    obtain ⟨n', rfl⟩ : ∃ q, n' = q + 1 := ⟨n' - 1, by omega⟩
    have e : j = 12 := by omega
    subst e
    rw [fX10_fire_b52, fX11_fire_b45, if_pos (by decide), if_pos (by decide)]
    obtain ⟨σ', τ', a1, a2, a3⟩ := burnt_w hd x hh 0 FU FU σ τ (by omega) (fu_lt (by omega)) (fu_lt (by omega)) hP
    exact ⟨x, σ', τ', a1, a2, a3⟩
  | succ m ih =>
    intro j n n' x σ τ hj hn hn' hP hk
    obtain ⟨n, rfl⟩ : ∃ q, n = q + 1 := ⟨n - 1, by omega⟩
    obtain ⟨n', rfl⟩ : ∃ q, n' = q + 1 := ⟨n' - 1, by omega⟩
    have hj12 : j < 12 := by omega
    have nle : ¬ (12 : Int32) ≤ nI j := nI_ge (b := 12) (by omega) (by decide)
    obtain ⟨g1, g2, g3, ⟨b1, b2, b3, b4⟩, ⟨p1, p2, p3, p4, p5⟩, g6, g7, g8, g9, g10, g11, g12, g13⟩ := id hP
    rw [fX10_fire_b52, fX11_fire_b45, if_neg nle, if_neg nle, rd_nI hj12 (by decide), rd_nI hj12 (by decide), ← (g7 j hj12).1, nI_1]
    rcases (g7 j hj12).2 with h2 | ⟨k, hkn, h2⟩
    · rw [h2, wi_f (Or.inl (by decide)), if_neg (by decide)]
      exact ih (j + 1) n n' x σ τ (by omega) (by omega) (by omega) hP hk
    · have h80 : k < 80 := by omega
      rw [h2, wi_t (by rw [p2]; exact ix_in hkn (by omega)), if_pos (nI_pos' (by omega))]
      obtain ⟨⟨b, hb, q1, q1'⟩, q2, q3, q4, q5, q6, q7, q8, q9⟩ := p5 k hkn
      have hb20 : b < 20 := by omega
      obtain ⟨c1, ⟨q, hq, c2⟩, c3, c4⟩ := b4 b hb20
      have e3b : τ 3 b = nI q := c1.symm.trans c2
      have e8 : σ 8 k = nI q := q1'.trans e3b
      obtain ⟨lt1, lo, hlo, elo⟩ := g3 (4 * q + 2) (by omega)
      obtain ⟨ht1, hi, hhi, ehi⟩ := g3 (4 * q + 3) (by omega)
      obtain ⟨k1, k2⟩ := hk j hj12
      have e15 : τ 15 j = nI k := (g7 j hj12).1.symm.trans h2
      have tC : fX10_takeOut (nI k) (nI j) σ = some (0, up2 (up2 σ 17 j (-9)) 12 k (-9)) := by
        unfold fX10_takeOut
        exact (wr_nI hj12 (by decide)).trans (wr_nI h80 (by decide))
      have tM : fX11_takes (nI j) τ = some (nI k, up2 (up2 τ 15 j (-9)) 10 k (-9)) := by
        unfold fX11_takes
        exact (rd_nI hj12 (by decide)).trans ((wr_nI hj12 (by decide)).trans ((wr_e e15 h80 (by decide)).trans (sp_e e15)))
      rw [cal_e tC, cal_e tM]
      have kC : up2 (up2 σ 17 j (-9)) 12 k (-9) 20 j = nI (K j) := k1
      have kM : up2 (up2 τ 15 j (-9)) 10 k (-9) 19 j = nI (K j) := k2
      rw [rd_nI hj12 (by decide), rd_nI hj12 (by decide), kC, kM, wr_nI h80 (by decide)]
      have mb := mbears_v (τ := up2 (up2 (up2 τ 15 j (-9)) 10 k (-9)) 11 k (nI (K j))) (k := k) (b := b) (q := q) (p := j) h80 hb20 hq hj12 q1 e3b
      rw [cal_e mb]
      have cond : ∀ s : St, s 19 j = nI (K j) → s 2 = τ 2 → (s 19 j < s 2 (4 * q + 2) ∨ s 2 (4 * q + 3) < s 19 j ↔ (nI (K j) < nI lo ∨ nI hi < nI (K j))) := by
        intro s s1 s2
        rw [s1, s2, ← lt1, ← ht1, elo, ehi]
      have eC8 : up2 (up2 σ 17 j (-9)) 12 k (-9) 8 k = nI q := e8
      have endC := endure_v (σ := up2 (up2 σ 17 j (-9)) 12 k (-9)) h80 hq eC8 (nI (K j))
      have l3 : up2 (up2 σ 17 j (-9)) 12 k (-9) 3 (4 * q + 2) = nI lo := elo
      have h3 : up2 (up2 σ 17 j (-9)) 12 k (-9) 3 (4 * q + 3) = nI hi := ehi
      rw [l3, h3] at endC
      have cM := cond (up2 (up2 (up2 τ 15 j (-9)) 10 k (-9)) 11 k (nI (K j))) k2 rfl
      by_cases e : nI (K j) < nI lo ∨ nI hi < nI (K j)
      · rw [if_pos e] at endC
        rw [cal_e endC, if_pos rfl, if_pos (cM.mpr e), if_pos rfl, wr_nI h80 (by decide), Int32.add_zero]
        refine ih (j + 1) n n' x _ _ (by omega) (by omega) (by omega) (out_inv hP hkn (((((Off.rf _ _).up (by decide) _ _).up (by decide) _ _).up (by decide) _ _).up (by decide) _ _) (((((Off.rf _ _).up (by decide) _ _).up (by decide) _ _).up (by decide) _ _).up (by decide) _ _) rfl rfl (fun i hi => ?_) ⟨?_, ?_, ?_, ?_, ?_, ?_, ?_⟩) (fun p hp => hk p hp)
        · exact ⟨upd_n _ _ hi, upd_n _ _ hi, upd_n _ _ hi, rfl, rfl, upd_n _ _ hi, upd_n _ _ hi, upd_n _ _ hi, rfl, rfl⟩
        · exact upd_s _ _ _
        · exact upd_s _ _ _
        · exact (upd_s _ _ _).trans (upd_s _ _ _).symm
        · exact (upd_s _ _ _).trans (upd_s _ _ _).symm
        · exact q3
        · exact q7
        · intro h
          have h3 : upd (σ 11) k 3 k = 3 := upd_s _ _ _
          rcases h with h | h
          · exact absurd (h3.symm.trans h) (by decide)
          · exact absurd (h3.symm.trans h) (by decide)
      · obtain ⟨w, hw, ew⟩ := white_v (lo := lo) (hi := hi) (K := K j) hlo hhi (hK j hj12)
        rw [if_neg e, ew] at endC
        have mM := mfired_v (τ := up2 (up2 (up2 τ 15 j (-9)) 10 k (-9)) 11 k (nI (K j))) (k := k) (b := b) (q := q) (p := j) h80 hb20 hq hj12 q1 e3b (fun σ30 => fX11_fire_b45 n' (x + 1) (nI (j + 1)) σ30)
        have k2' : up2 (up2 (up2 τ 15 j (-9)) 10 k (-9)) 11 k (nI (K j)) 19 j = nI (K j) := k2
        have l2' : up2 (up2 (up2 τ 15 j (-9)) 10 k (-9)) 11 k (nI (K j)) 2 (4 * q + 2) = nI lo := lt1.symm.trans elo
        have h2' : up2 (up2 (up2 τ 15 j (-9)) 10 k (-9)) 11 k (nI (K j)) 2 (4 * q + 3) = nI hi := ht1.symm.trans ehi
        rw [k2', l2', h2', ew] at mM
        rw [cal_e endC, if_neg (by decide), if_neg (fun h => e (cM.mp h)), if_neg (by decide), mM]
        refine ih (j + 1) n n' (x + 1) _ _ (by omega) (by omega) (by omega) (out_inv hP hkn (((((((Off.rf _ _).up (by decide) _ _).up (by decide) _ _).up (by decide) _ _).up (by decide) _ _).up (by decide) _ _).up (by decide) _ _) (((((((Off.rf _ _).up (by decide) _ _).up (by decide) _ _).up (by decide) _ _).up (by decide) _ _).up (by decide) _ _).up (by decide) _ _) rfl rfl (fun i hi => ?_) ⟨?_, ?_, ?_, ?_, ?_, ?_, ?_⟩) (fun p hp => hk p hp)
        · exact ⟨upd_n _ _ hi, upd_n _ _ hi, upd_n _ _ hi, upd_n _ _ hi, upd_n _ _ hi, upd_n _ _ hi, upd_n _ _ hi, upd_n _ _ hi, upd_n _ _ hi, upd_n _ _ hi⟩
        · exact upd_s _ _ _
        · exact upd_s _ _ _
        · exact (upd_s _ _ _).trans (upd_s _ _ _).symm
        · exact (upd_s _ _ _).trans (upd_s _ _ _).symm
        · refine (upd_s _ _ _).trans (Eq.trans ?_ (upd_s _ _ _).symm)
          show σ 10 k - σ 10 k * σ 3 (4 * q + 1) / 1000 = τ 8 k - τ 8 k * τ 2 (4 * q + 1) / 1000
          rw [← q3, ← (g3 (4 * q + 1) (by omega)).1]
        · exact (upd_s _ _ _).trans (upd_s _ _ _).symm
        · intro _
          exact ⟨w, hw, upd_s _ _ _⟩
theorem sim_fire {σ τ : St} (hI : Inv σ τ) : ∃ (r : Int32) (σ1 τ1 : St), fX10_fire σ = some (r, σ1) ∧ fX11_fire τ = some (r, τ1) ∧ Inv σ1 τ1 := by
  unfold fX10_fire fX11_fire
  obtain ⟨dn, nb, np, hh, nw, nj, ns, nt, nd, gg⟩ := id hI
  have g8 := gg.2.2.2.2.2.2.2.1
  have g2 := gg.2.1
  rw [show τ 0 19 = σ 15 6 from g8.2.2.1.trans g8.2.1.symm]
  by_cases h1 : σ 15 6 = 0
  · rw [if_pos h1, if_pos h1]; exact fin3 hI
  rw [if_neg h1, if_neg h1]
  have h48 := g8.1
  have hdn := g2.1
  by_cases h2 : dn + 2 ≤ 4000
  · have c1 : σ 0 11 ≤ 3998 := by rw [g2.2.1]; exact nI_le (b := 3998) (by omega) (by decide)
    have c2 : τ 0 16 + 2 ≤ 4000 := by rw [g2.2.2, show (2 : Int32) = nI 2 from rfl, nI_add]; exact nI_le (b := 4000) (by omega) (by decide)
    rw [if_pos c1, if_pos c2]
    obtain ⟨σ', τ', H, K, a1, a2, a3, a4, a5⟩ := burn_sim gg (Nat.le_refl hh)
    rw [g8.2.1, cal_e a1, cal_e a2]
    obtain ⟨dn', nb', np', hh', nw', nj', ns', nt', nd', gg'⟩ := hI.scr (a3.mono (by decide)) (a4.mono (by decide))
    have ed : dn' = dn := (nI_eq (by have := gg'.2.1.1; omega) (by omega)).mp (gg'.2.1.2.1.symm.trans ((congrFun (a3 0 (by decide)) 11).trans g2.2.1))
    subst ed
    exact fire_w h2 gg'.2.2.2.2.2.2.2.1.1 K (fun p hp => (a5 p hp).2.2.2.2.2) 12 0 FU FU 0 σ' τ' (by omega) (fu_lt (by decide)) (fu_lt (by decide)) gg' (fun p hp => ⟨(a5 p hp).2.2.2.1, (a5 p hp).2.2.2.2.1⟩)
  · have c1 : ¬ σ 0 11 ≤ 3998 := by rw [g2.2.1]; exact nI_ge (a := 3998) (by omega) (by omega)
    have c2 : ¬ τ 0 16 + 2 ≤ 4000 := by rw [g2.2.2, show (2 : Int32) = nI 2 from rfl, nI_add]; exact nI_ge (a := 4000) (by omega) (by omega)
    rw [if_neg c1, if_neg c2]; exact fin6 hI
