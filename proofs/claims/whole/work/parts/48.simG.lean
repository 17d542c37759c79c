/-- what is owed grows, month by month -/
def lg_gr (r v : Nat) : Nat := if v + v * r / 1000 < 2000000000 then v + v * r / 1000 else 2000000000
def lg_it (r : Nat) : Nat → Nat → Nat
  | 0, v => v
  | k + 1, v => lg_it r k (lg_gr r v)
theorem lg_gr_le (r v : Nat) : lg_gr r v ≤ 2000000000 := by unfold lg_gr; split <;> omega
theorem lg_it_le (r : Nat) : ∀ k v, v ≤ 2000000000 → lg_it r k v ≤ 2000000000
  | 0, v, h => h
  | k + 1, v, _ => lg_it_le r k _ (lg_gr_le r v)
theorem lg_it_s (r : Nat) : ∀ k v, lg_it r (k + 1) v = lg_gr r (lg_it r k v)
  | 0, v => rfl
  | k + 1, v => by rw [lg_it, lg_it_s r k, ← lg_it]
theorem lg_long {v r : Nat} (hv : v ≤ 2000000000) (hr : r ≤ 500) : (if (lN v + lN v * lN r / 1000) < 2000000000 then (lN v + lN v * lN r / 1000) else (2000000000 : Int64)) = lN (lg_gr r v) := by
  have hm : v * r ≤ 2000000000 * 500 := Nat.mul_le_mul hv hr
  rw [show (1000 : Int64) = lN 1000 from rfl, lN_mul, pk_lDiv (by omega) (by decide) (by decide), lN_add, show (2000000000 : Int64) = lN 2000000000 from rfl]
  unfold lg_gr
  by_cases h : v + v * r / 1000 < 2000000000
  · rw [if_pos ((pk_lLT (by omega) (by decide)).mpr h), if_pos h]
  · rw [if_neg (fun q => h ((pk_lLT (by omega) (by decide)).mp q)), if_neg h]
theorem grown_v {τ : St} {d r v : Nat} (hd : d < 6) (hr : r ≤ 500) (er : τ 43 d = nI r) (hv : v ≤ 2000000000) : fX11_grown (nI d) (nI v) τ = some (nI (lg_gr r v), τ) := by
  unfold fX11_grown
  rw [rd_nI hd (by decide), er, nI_l (show v < 2 ^ 31 by omega), nI_l (show r < 2 ^ 31 by omega), lg_long hv hr, lN_i]
theorem sum_w {σ : St} {d r : Nat} (hd : d < 6) (hr : r ≤ 500) (er : σ 58 d = nI r) {M : Nat} (hM : M < 2 ^ 31) : ∀ m i n v, i + m = M → m < n → v ≤ 2000000000 → fX2_sumAfter_b37 n (nI d) (nI M) (lN v) (nI i) σ = some (nI (lg_it r m v), σ) := by
  intro m
  induction m with
  | zero =>
    intro i n v hi hn hv
    obtain ⟨n, rfl⟩ : ∃ q, n = q + 1 := ⟨n - 1, by omega⟩
    rw [fX2_sumAfter_b37, if_pos (nI_le (by omega) (by omega)), lN_i]; rfl
  | succ m ih =>
    intro i n v hi hn hv
    obtain ⟨n, rfl⟩ : ∃ q, n = q + 1 := ⟨n - 1, by omega⟩
    rw [fX2_sumAfter_b37, if_neg (nI_ge (by omega) (by omega)), rd_nI hd (by decide), lt_e, er, nI_l (show r < 2 ^ 31 by omega), lg_long hv hr, nI_1]
    exact ih (i + 1) n _ (by omega) (by omega) (lg_gr_le r v)
/-- months that end within n days, at age a -/
def lg_mo (a n : Nat) : Nat := (a + n) / 30 - a / 30
theorem lg_mo_s (a n : Nat) : lg_mo a (n + 1) = if (a + n + 1) % 30 = 0 then lg_mo a n + 1 else lg_mo a n := by
  unfold lg_mo
  split <;> omega
theorem sumAfter_v {σ : St} {d r v D m n : Nat} (hd : d < 6) (hr : r ≤ 500) (er : σ 58 d = nI r) (hv : v ≤ 2000000000) (ev : σ 57 d = nI v) (em : σ 59 d = nI m) (hm : m ≤ D) (hD : D ≤ 4000) (hn : n ≤ 4000) : fX2_sumAfter (nI d) (nI D) (nI n) σ = some (nI (lg_it r (lg_mo (D - m) n) v), σ) := by
  unfold fX2_sumAfter
  rw [rd_nI hd (by decide), lt_e, rd_nI hd (by decide), em, ev, pk_sub hm, nI_add, show (30 : Int32) = nI 30 from rfl, pk_div (by omega) (by decide) (by decide), pk_div (by omega) (by decide) (by decide), pk_sub (Nat.div_le_div_right (by omega)), nI_l (show v < 2 ^ 31 by omega)]
  exact sum_w hd hr er (M := lg_mo (D - m) n) (by unfold lg_mo; omega) (lg_mo (D - m) n) 0 FU v (by omega) (fu_lt (by unfold lg_mo; omega)) hv
/-- the class's days: each debt in its turn -/
theorem passC_w {σ0 : St} {nd D n : Nat} {rn vn mn : Nat → Nat} (hnd : nd ≤ 6) (hD : D ≤ 4000) (hn : n ≤ 4000) (c : σ0 56 3 = nI nd) (hl : ∀ d, d < nd → σ0 58 d = nI (rn d) ∧ rn d ≤ 500 ∧ σ0 59 d = nI (mn d) ∧ mn d ≤ D ∧ vn d ≤ 2000000000) :
    ∀ m j k σ, j + m = nd → m < k → Off [57] σ0 σ → (∀ d, d < nd → σ 57 d = nI (if d < j then lg_it (rn d) (lg_mo (D - mn d) n) (vn d) else vn d)) → ∃ σ', fX2_pass_b2 k (nI D) (nI n) (nI j) σ = some (0, σ') ∧ Off [57] σ0 σ' ∧ ∀ d, d < nd → σ' 57 d = nI (lg_it (rn d) (lg_mo (D - mn d) n) (vn d)) := by
  intro m
  induction m with
  | zero =>
    intro j k σ hj hk ho hv
    obtain ⟨k, rfl⟩ : ∃ q, k = q + 1 := ⟨k - 1, by omega⟩
    have le : σ 56 3 ≤ nI j := by rw [ho 56 (by decide), c]; exact nI_le (by omega) (by omega)
    rw [fX2_pass_b2, if_pos le]
    exact ⟨σ, rfl, ho, fun d hd => by rw [hv d hd, if_pos (by omega)]⟩
  | succ m ih =>
    intro j k σ hj hk ho hv
    obtain ⟨k, rfl⟩ : ∃ q, k = q + 1 := ⟨k - 1, by omega⟩
    have nle : ¬ σ 56 3 ≤ nI j := by rw [ho 56 (by decide), c]; exact nI_ge (by omega) (by omega)
    obtain ⟨l1, l2, l3, l4, l5⟩ := hl j (by omega)
    have hs := sumAfter_v (σ := σ) (d := j) (D := D) (n := n) (by omega) l2 (by rw [ho 58 (by decide)]; exact l1) l5 (by rw [hv j (by omega), if_neg (by omega)]) (by rw [ho 59 (by decide)]; exact l3) l4 hD hn
    rw [fX2_pass_b2, if_neg nle, cal_e hs, wr_nI (show j < 6 by omega) (by decide), nI_1]
    refine ih (j + 1) k _ (by omega) (by omega) (ho.up (by decide) _ _) (fun d hd => ?_)
    rw [up2_if]
    by_cases e : d = j
    · subst e; rw [if_pos rfl, if_pos (by omega)]
    · rw [if_neg e, hv d hd]
      by_cases e2 : d < j
      · rw [if_pos e2, if_pos (by omega)]
      · rw [if_neg e2, if_neg (by omega)]
/-- the reference's day: each debt in its turn -/
theorem goesI_w {τ0 : St} {nd D : Nat} {rn vn mn : Nat → Nat} (hnd : nd ≤ 6) (hD : D ≤ 4000) (c : τ0 0 25 = nI nd) (cd : τ0 0 16 = nI D) (hl : ∀ d, d < nd → τ0 43 d = nI (rn d) ∧ rn d ≤ 500 ∧ τ0 44 d = nI (mn d) ∧ mn d ≤ D ∧ vn d ≤ 2000000000) (k2 : Int32 → Int32 → St → Option (Int32 × St)) (x1 x2 : Int32) :
    ∀ m j k τ, j + m = nd → m < k → Off [42] τ0 τ → (∀ d, d < nd → τ 42 d = nI (if d < j ∧ (D - mn d) % 30 = 0 then lg_gr (rn d) (vn d) else vn d)) → ∃ τ', fX11_goes_b19 k2 k x1 x2 (nI j) τ = k2 x1 (x2 + 1) τ' ∧ Off [42] τ0 τ' ∧ ∀ d, d < nd → τ' 42 d = nI (if (D - mn d) % 30 = 0 then lg_gr (rn d) (vn d) else vn d) := by
  intro m
  induction m with
  | zero =>
    intro j k τ hj hk ho hv
    obtain ⟨k, rfl⟩ : ∃ q, k = q + 1 := ⟨k - 1, by omega⟩
    have le : τ 0 25 ≤ nI j := by rw [ho 0 (by decide), c]; exact nI_le (by omega) (by omega)
    rw [fX11_goes_b19, if_pos le]
    refine ⟨τ, rfl, ho, fun d hd => ?_⟩
    rw [hv d hd]
    by_cases e : (D - mn d) % 30 = 0
    · rw [if_pos ⟨by omega, e⟩, if_pos e]
    · rw [if_neg (fun q => e q.2), if_neg e]
  | succ m ih =>
    intro j k τ hj hk ho hv
    obtain ⟨k, rfl⟩ : ∃ q, k = q + 1 := ⟨k - 1, by omega⟩
    have nle : ¬ τ 0 25 ≤ nI j := by rw [ho 0 (by decide), c]; exact nI_ge (by omega) (by omega)
    obtain ⟨l1, l2, l3, l4, l5⟩ := hl j (by omega)
    have h6 : j < 6 := by omega
    have e44 : τ 44 j = nI (mn j) := by rw [ho 44 (by decide)]; exact l3
    have e16 : τ 0 16 = nI D := by rw [ho 0 (by decide)]; exact cd
    have e42 : τ 42 j = nI (vn j) := by rw [hv j (by omega), if_neg (fun q => absurd q.1 (by omega))]
    rw [fX11_goes_b19, if_neg nle, rd_nI h6 (by decide), e44, e16, pk_sub l4, show (30 : Int32) = nI 30 from rfl, pk_rem (by omega) (by decide) (by decide)]
    by_cases e : (D - mn j) % 30 = 0
    · rw [e, if_pos (show nI 0 = 0 from rfl), rd_nI h6 (by decide), e42, cal_e (grown_v h6 l2 (by rw [ho 43 (by decide)]; exact l1) l5), wr_nI h6 (by decide), nI_1]
      refine ih (j + 1) k _ (by omega) (by omega) (ho.up (by decide) _ _) (fun d hd => ?_)
      rw [up2_if]
      by_cases q : d = j
      · subst q; rw [if_pos rfl, if_pos ⟨by omega, e⟩]
      · rw [if_neg q, hv d hd]
        by_cases q2 : d < j ∧ (D - mn d) % 30 = 0
        · rw [if_pos q2, if_pos ⟨by omega, q2.2⟩]
        · rw [if_neg q2, if_neg (fun q3 => q2 ⟨by omega, q3.2⟩)]
    · rw [if_neg (fun q => e ((nI_eq (by omega) (by decide)).mp (q.trans (show (0 : Int32) = nI 0 from rfl)))), nI_1]
      refine ih (j + 1) k _ (by omega) (by omega) ho (fun d hd => ?_)
      rw [hv d hd]
      by_cases q : d = j
      · subst q; rw [if_neg (fun q => e q.2), if_neg (fun q => e q.2)]
      · by_cases q2 : d < j ∧ (D - mn d) % 30 = 0
        · rw [if_pos q2, if_pos ⟨by omega, q2.2⟩]
        · rw [if_neg q2, if_neg (fun q3 => q2 ⟨by omega, q3.2⟩)]
theorem goes_w {τ0 : St} {nd D0 N : Nat} {rn vn mn : Nat → Nat} (hnd : nd ≤ 6) (hD : D0 + N ≤ 4000) (c : τ0 0 25 = nI nd) (hl : ∀ d, d < nd → τ0 43 d = nI (rn d) ∧ rn d ≤ 500 ∧ τ0 44 d = nI (mn d) ∧ mn d ≤ D0 ∧ vn d ≤ 2000000000) :
    ∀ m k n τ, k + m = N → m < n → (∀ q, q ≠ 0 → q ≠ 42 → τ q = τ0 q) → (∀ i, i ≠ 16 → τ 0 i = τ0 0 i) → τ 0 16 = nI (D0 + k) → (∀ d, d < nd → τ 42 d = nI (lg_it (rn d) (lg_mo (D0 - mn d) k) (vn d))) →
      ∃ τ', fX11_goes_b2 n (nI N) (nI k) τ = some (0, τ') ∧ (∀ q, q ≠ 0 → q ≠ 42 → τ' q = τ0 q) ∧ (∀ i, i ≠ 16 → τ' 0 i = τ0 0 i) ∧ τ' 0 16 = nI (D0 + N) ∧ ∀ d, d < nd → τ' 42 d = nI (lg_it (rn d) (lg_mo (D0 - mn d) N) (vn d)) := by
  intro m
  induction m with
  | zero =>
    intro k n τ hk hn h1 h2 h3 h4
    obtain ⟨n, rfl⟩ : ∃ q, n = q + 1 := ⟨n - 1, by omega⟩
    have e : k = N := by omega
    subst e
    rw [fX11_goes_b2, if_pos (nI_le (by omega) (by omega))]
    exact ⟨τ, rfl, h1, h2, h3, h4⟩
  | succ m ih =>
    intro k n τ hk hn h1 h2 h3 h4
    obtain ⟨n, rfl⟩ : ∃ q, n = q + 1 := ⟨n - 1, by omega⟩
    rw [fX11_goes_b2, if_neg (nI_ge (by omega) (by omega)), pf_e]
    have e16 : up2 τ 0 16 (τ 0 16 + 1) 0 16 = nI (D0 + (k + 1)) := by rw [up2_s, h3, nI_1]; rfl
    obtain ⟨τ', a1, a2, a3⟩ := goesI_w (τ0 := up2 τ 0 16 (τ 0 16 + 1)) (nd := nd) (D := D0 + (k + 1)) (rn := rn) (vn := fun d => lg_it (rn d) (lg_mo (D0 - mn d) k) (vn d)) (mn := mn) hnd (by omega) (by rw [up2_i _ _ _ _ _ (by decide), h2 25 (by decide)]; exact c) e16 (fun d hd => by
        obtain ⟨l1, l2, l3, l4, l5⟩ := hl d hd
        refine ⟨?_, l2, ?_, by omega, lg_it_le _ _ _ l5⟩
        · rw [up2_c _ _ _ _ _ (by decide), h1 43 (by decide) (by decide)]; exact l1
        · rw [up2_c _ _ _ _ _ (by decide), h1 44 (by decide) (by decide)]; exact l3) (fun a0 a1 u => fX11_goes_b2 n a0 a1 u) (nI N) (nI k) nd 0 FU (up2 τ 0 16 (τ 0 16 + 1)) (by omega) (fu_lt (by omega)) (Off.rf _ _) (fun d hd => by
        rw [up2_c _ _ _ _ _ (by decide), h4 d hd, if_neg (fun q => absurd q.1 (by omega))])
    refine (show _ → _ from fun ⟨τ2, b1, b2⟩ => ⟨τ2, a1.trans b1, b2⟩) (?_ : ∃ τ2, fX11_goes_b2 n (nI N) (nI k + 1) τ' = some (0, τ2) ∧ _)
    rw [nI_1]
    refine ih (k + 1) n τ' (by omega) (by omega) (fun q q0 q42 => ?_) (fun i hi => ?_) ?_ (fun d hd => ?_)
    · rw [a2 q (by simp [q42]), up2_c _ _ _ _ _ q0]; exact h1 q q0 q42
    · rw [a2 0 (by decide), up2_i _ _ _ _ _ hi]; exact h2 i hi
    · rw [a2 0 (by decide)]; exact e16
    · rw [a3 d hd]
      obtain ⟨l1, l2, l3, l4, l5⟩ := hl d hd
      congr 1
      rw [lg_mo_s]
      have e : D0 + (k + 1) - mn d = D0 - mn d + k + 1 := by omega
      rw [e]
      by_cases q : (D0 - mn d + k + 1) % 30 = 0
      · rw [if_pos q, if_pos q, lg_it_s]
      · rw [if_neg q, if_neg q]
/-- days pass on both sides -/
theorem pass_sim {dn nb np hh nw nj ns nt nd : Nat} {σ τ : St} (hP : InvP dn nb np hh nw nj ns nt nd σ τ) (N : Nat) (hN : dn + N ≤ 4000) : ∃ σ' τ', fX10_pass (nI N) σ = some (0, σ') ∧ fX11_goes (nI N) τ = some (0, τ') ∧ InvP (dn + N) nb np hh nw nj ns nt nd σ' τ' := by
  obtain ⟨g1, g2, g3, g4, g5, g6, g7, g8, g9, g10, g11, g12, ⟨l1, l2, l3, l4⟩⟩ := hP
  have ch : ∃ rn vn mn : Nat → Nat, ∀ d, d < nd → σ 57 d = nI (vn d) ∧ τ 42 d = nI (vn d) ∧ vn d ≤ 2000000000 ∧ σ 58 d = nI (rn d) ∧ τ 43 d = nI (rn d) ∧ rn d ≤ 500 ∧ σ 59 d = nI (mn d) ∧ τ 44 d = nI (mn d) ∧ mn d ≤ dn := by
    refine ⟨fun d => (σ 58 d).toNatClampNeg, fun d => (σ 57 d).toNatClampNeg, fun d => (σ 59 d).toNatClampNeg, fun d hd => ?_⟩
    obtain ⟨o1, o2, o3, ⟨v, hv, o4⟩, ⟨r, hr, o5⟩, m, hm, o6⟩ := l4 d hd
    have g2' := g2.1
    simp only [o4, o5, o6, nI_clamp (show v < 2 ^ 31 by omega), nI_clamp (show r < 2 ^ 31 by omega), nI_clamp (show m < 2 ^ 31 by omega)]
    exact ⟨trivial, o1.symm.trans o4, hv, trivial, o2.symm.trans o5, hr, trivial, o3.symm.trans o6, hm⟩
  obtain ⟨rn, vn, mn, hc⟩ := ch
  obtain ⟨σ', a1, a2, a3⟩ := passC_w (σ0 := σ) (nd := nd) (D := dn) (n := N) (rn := rn) (vn := vn) (mn := mn) l1 g2.1 (by omega) l2 (fun d hd => by obtain ⟨o1, o2, o3, o4, o5, o6, o7, o8, o9⟩ := hc d hd; exact ⟨o4, o6, o7, o9, o3⟩) nd 0 FU σ (by omega) (fu_lt (by omega)) (Off.rf _ _) (fun d hd => by rw [if_neg (by omega)]; exact (hc d hd).1)
  obtain ⟨τ', b1, b2, b3, b4, b5⟩ := goes_w (τ0 := τ) (nd := nd) (D0 := dn) (N := N) (rn := rn) (vn := vn) (mn := mn) l1 hN l3 (fun d hd => by obtain ⟨o1, o2, o3, o4, o5, o6, o7, o8, o9⟩ := hc d hd; exact ⟨o5, o6, o8, o9, o3⟩) N 0 FU τ (by omega) (fu_lt (by omega)) (fun _ _ _ => rfl) (fun _ _ => rfl) (by rw [g2.2.2]; rfl) (fun d hd => by rw [(hc d hd).2.1]; unfold lg_mo; simp [lg_it])
  refine ⟨up2 σ' 0 11 (σ' 0 11 + nI N), τ', ?_, b1, ?_⟩
  · unfold fX10_pass fX2_pass
    rw [g2.2.1]
    exact cal_e a1
  · have eσ : σ' = va_up σ 57 (σ' 57) := by
      funext q
      by_cases e : q = 57
      · subst e; rfl
      · rw [a2 q (by simp [e]), va_up_ne _ _ e]
    have eτ : τ' = va_up (va_up τ 0 (τ' 0)) 42 (τ' 42) := by
      funext q
      by_cases e : q = 42
      · subst e; rfl
      · rw [va_up_ne _ _ e]
        by_cases e0 : q = 0
        · subst e0; rfl
        · rw [va_up_ne _ _ e0]; exact b2 q e0 e
    have d11 : σ' 0 11 = σ 0 11 := by rw [a2 0 (by decide)]
    have ed : up2 σ' 0 11 (σ' 0 11 + nI N) 0 11 = nI (dn + N) := by rw [up2_s, d11, g2.2.1, nI_add]
    have key : InvP (dn + N) nb np hh nw nj ns nt nd (up2 (va_up σ 57 (σ' 57)) 0 11 (σ' 0 11 + nI N)) (va_up (va_up τ 0 (τ' 0)) 42 (τ' 42)) := by
      refine ⟨g1, ⟨hN, show σ' 0 11 + nI N = nI (dn + N) by rw [d11, g2.2.1, nI_add], b4⟩, g3, ?_, ?_, g6, g7, ?_, ?_, g10, ?_, ?_, ⟨l1, l2, (b3 25 (by decide)).trans l3, fun d hd => ?_⟩⟩
      · exact ⟨g4.1, g4.2.1, (b3 17 (by decide)).trans g4.2.2.1, g4.2.2.2⟩
      · exact ⟨g5.1, g5.2.1, (b3 18 (by decide)).trans g5.2.2.1, g5.2.2.2⟩
      · exact ⟨g8.1, g8.2.1, (b3 19 (by decide)).trans g8.2.2.1, g8.2.2.2.1.trans (b3 20 (by decide)).symm, g8.2.2.2.2⟩
      · exact ⟨g9.1, g9.2.1, (b3 21 (by decide)).trans g9.2.2.1, g9.2.2.2⟩
      · exact ⟨g11.1, g11.2.1, (b3 22 (by decide)).trans g11.2.2.1, g11.2.2.2⟩
      · obtain ⟨t1, t2, t3, t4, t5, t6, hn, fn, sn, an, bn, tn, t7, t8, t9, t10, t11⟩ := g12
        exact ⟨t1, t2, (b3 24 (by decide)).trans t3, t4, t5, (b3 23 (by decide)).trans t6, hn, fn, sn, an, bn, tn, fun k hk => by obtain ⟨u1, u2, u3, u4, u5, u6, u7, u8, u9⟩ := t7 k hk; exact ⟨u1, u2, u3, u4, u5, u6, u7, u8, by omega⟩, t8, t9, fun k hk => by obtain ⟨u1, u2, u3, u4, u5, u6, u7, u8, u9⟩ := t10 k hk; exact ⟨u1, u2, u3, u4, u5, u6, u7, u8, by omega⟩, t11⟩
      · obtain ⟨o1, o2, o3, o4, o5, o6, o7, o8, o9⟩ := hc d hd
        refine ⟨(a3 d hd).trans (b5 d hd).symm, o4.trans o5.symm, o7.trans o8.symm, ⟨_, lg_it_le _ _ _ o3, a3 d hd⟩, ⟨rn d, o6, o4⟩, mn d, by omega, o7⟩
    rw [← eσ, ← eτ] at key
    exact key
theorem sim_days {σ τ : St} (hI : Inv σ τ) (x1 : Int32) : ∃ (r : Int32) (σ1 τ1 : St), fX10_days x1 σ = some (r, σ1) ∧ fX11_days x1 τ = some (r, τ1) ∧ Inv σ1 τ1 := by
  unfold fX10_days fX11_days
  rw [cal_e (wrong_v _ _ _ _)]
  obtain ⟨dn, nb, np, hh, nw, nj, ns, nt, nd, gg⟩ := id hI
  have g2 := gg.2.1
  rw [show τ 0 16 = σ 0 11 from g2.2.2.trans g2.2.1.symm]
  by_cases h1 : (1 : Int32) ≤ x1
  · rw [if_pos h1, if_pos h1]
    by_cases h2 : x1 ≤ 4000 - σ 0 11
    · rw [if_pos h2, if_pos h2, if_pos rfl]
      have e : (4000 : Int32) - σ 0 11 = nI (4000 - dn) := by rw [g2.2.1, show (4000 : Int32) = nI 4000 from rfl, pk_sub g2.1]
      rw [e] at h2
      have h1' : (1 : Int) ≤ x1.toInt := by rw [Int32.le_iff_toInt_le] at h1; exact h1
      obtain ⟨N, hN, rfl⟩ := nI_of2 (x := x1) (M := nI (4000 - dn)) (n := 4000 - dn) (nI_toInt (by omega)) (by rw [Int32.lt_iff_toInt_lt]; have : (0 : Int32).toInt = 0 := rfl; omega) h2
      have hdn := g2.1
      obtain ⟨σ', τ', a1, a2, a3⟩ := pass_sim gg N (by omega)
      refine ⟨nI (dn + N), σ', τ', ?_, ?_, dn + N, nb, np, hh, nw, nj, ns, nt, nd, a3⟩
      · rw [cal_e a1]; exact sp_e a3.2.1.2.1
      · rw [cal_e a2]; exact sp_e a3.2.1.2.2
    · rw [if_neg h2, if_neg h2, if_neg (by decide)]
      exact fin6 hI
  · rw [if_neg h1, if_neg h1, if_neg (by decide)]
    exact fin4 hI
theorem owed_w {τ : St} {d r m D N : Nat} (hd : d < 6) (hr : r ≤ 500) (er : τ 43 d = nI r) (em : τ 44 d = nI m) (hm : m ≤ D) (hD : D ≤ 4000) (hN : N ≤ 4000) (cd : τ 0 16 = nI D) : ∀ q k n v, k + q = N → q < n → v ≤ 2000000000 → fX11_owed_b50 n (nI d) (nI N) (nI v) (nI (D + k + 1)) τ = some (nI (lg_it r ((D - m + N) / 30 - (D - m + k) / 30) v), τ) := by
  intro q
  induction q with
  | zero =>
    intro k n v hk hn hv
    obtain ⟨n, rfl⟩ : ∃ q, n = q + 1 := ⟨n - 1, by omega⟩
    have e : k = N := by omega
    subst e
    have lt : τ 0 16 + nI k < nI (D + k + 1) := by rw [cd, nI_add]; exact nI_lt (by omega) (by omega)
    rw [fX11_owed_b50, if_pos lt, Nat.sub_self]; rfl
  | succ q ih =>
    intro k n v hk hn hv
    obtain ⟨n, rfl⟩ : ∃ q, n = q + 1 := ⟨n - 1, by omega⟩
    have nlt : ¬ τ 0 16 + nI N < nI (D + k + 1) := by rw [cd, nI_add]; exact nI_nlt (by omega) (by omega)
    rw [fX11_owed_b50, if_neg nlt, rd_nI hd (by decide), em, pk_sub (by omega), show (30 : Int32) = nI 30 from rfl, pk_rem (by omega) (by decide) (by decide), nI_1]
    have e1 : D + k + 1 - m = D - m + k + 1 := by omega
    rw [e1]
    by_cases e : (D - m + k + 1) % 30 = 0
    · rw [e, if_pos (show nI 0 = 0 from rfl), cal_e (grown_v hd hr er hv)]
      have := ih (k + 1) n (lg_gr r v) (by omega) (by omega) (lg_gr_le r v)
      rw [show D + k + 1 + 1 = D + (k + 1) + 1 by omega, this]
      have e2 : (D - m + N) / 30 - (D - m + k) / 30 = ((D - m + N) / 30 - (D - m + (k + 1)) / 30) + 1 := by omega
      rw [e2]; rfl
    · rw [if_neg (fun q => e ((nI_eq (by omega) (by decide)).mp (q.trans (show (0 : Int32) = nI 0 from rfl))))]
      have := ih (k + 1) n v (by omega) (by omega) hv
      rw [show D + k + 1 + 1 = D + (k + 1) + 1 by omega, this]
      have e2 : (D - m + N) / 30 - (D - m + k) / 30 = (D - m + N) / 30 - (D - m + (k + 1)) / 30 := by omega
      rw [e2]
theorem sim_owed {σ τ : St} (hI : Inv σ τ) (x1 x2 : Int32) : ∃ (r : Int32) (σ1 τ1 : St), fX10_owed x1 x2 σ = some (r, σ1) ∧ fX11_owed x1 x2 τ = some (r, τ1) ∧ Inv σ1 τ1 := by
  unfold fX10_owed fX11_owed
  obtain ⟨dn, nb, np, hh, nw, nj, ns, nt, nd, g1, g2, g3, g4, g5, g6, g7, g8, g9, g10, g11, g12, ⟨l1, l2, l3, l4⟩⟩ := id hI
  have hc : τ 0 25 = σ 56 3 := l3.trans l2.symm
  by_cases h1 : x1 < 0 ∨ σ 56 3 ≤ x1
  · rw [wi_f h1, is_f (by rw [hc]; exact h1)]
    unfold fX11_owed_b23
    rw [if_neg (by decide)]
    exact fin1 hI
  rw [wi_t h1, is_t (by rw [hc]; exact h1), cal_e (wrong_v _ _ _ _)]
  obtain ⟨d, hd, rfl⟩ := ix_of l2 (by omega) h1
  have hd6 : d < 6 := by omega
  by_cases h2 : (0 : Int32) ≤ x2
  · rw [if_pos h2, if_pos h2]
    by_cases h3 : x2 ≤ 4000
    · rw [if_pos h3, if_pos h3]
      unfold fX11_owed_b23
      rw [if_pos rfl]
      obtain ⟨N, hN, rfl⟩ := nI_of2 (x := x2) (M := 4000) (n := 4000) rfl (i32_nlt.mpr h2) h3
      obtain ⟨o1, o2, o3, ⟨v, hv, o4⟩, ⟨r, hr, o5⟩, m, hm, o6⟩ := l4 d hd
      have hdn := g2.1
      refine ⟨nI (lg_it r (lg_mo (dn - m) N) v), σ, τ, ?_, ?_, hI⟩
      · rw [g2.2.1]; exact cal_e (sumAfter_v hd6 hr o5 hv o4 o6 hm hdn hN)
      · rw [rd_nI hd6 (by decide), g2.2.2, nI_1, ← o1, o4]
        have := owed_w (τ := τ) (d := d) (r := r) (m := m) (D := dn) (N := N) hd6 hr (o2.symm.trans o5) (o3.symm.trans o6) hm hdn hN g2.2.2 N 0 FU v (by omega) (fu_lt (by omega)) hv
        exact this
    · rw [if_neg h3, if_neg h3]
      unfold fX11_owed_b23
      rw [if_neg (by decide)]
      exact fin6 hI
  · rw [if_neg h2, if_neg h2]
    unfold fX11_owed_b23
    rw [if_neg (by decide)]
    exact fin4 hI
