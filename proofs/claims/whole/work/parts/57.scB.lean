/-- the reference's telling -/
theorem mkR.or {a : Nat → Int32} {K : Nat → Nat → Prop} {w u : Nat} (h : mkR a K) (hw : w < 16) (hu : u < 4) : mkR (upd a w (a w ||| nI u)) (fun f x => K f x ∨ (x = w ∧ u.testBit f = true)) := by
  intro x hx
  obtain ⟨v, v1, v2, v3⟩ := h x hx
  by_cases e : x = w
  · subst e
    refine ⟨v ||| u, Nat.or_lt_two_pow (n := 2) v1 hu, ?_, fun f hf => ?_⟩
    · rw [upd_s, v2, bt_or]
    · rw [Nat.testBit_or, Bool.or_eq_true, v3 f hf]
      constructor
      · rintro (y | y)
        · exact Or.inl y
        · exact Or.inr ⟨rfl, y⟩
      · rintro (y | ⟨_, y⟩)
        · exact Or.inl y
        · exact Or.inr y
  · refine ⟨v, v1, ?_, fun f hf => ?_⟩
    · rw [upd_n _ _ e, v2]
    · rw [v3 f hf]
      constructor
      · exact Or.inl
      · rintro (y | ⟨y, _⟩)
        · exact y
        · exact absurd y e
theorem tl_see {D : Nat → Nat → Nat} {σ : St} {K : Nat → Nat → Prop} (k33 : Int32 → Int32 → Int32 → St → Option (Int32 × St)) (x1 x2 : Int32) {d : Nat} (hd : d ≤ 4000) : ∀ q c n (τ : St), c + q = D 6 0 → q < n → scD D σ τ → mkR (τ 40) (fun f h => K f h ∨ ∃ k, k < c ∧ D 2 k = d ∧ D 0 k = h ∧ D 1 k = f) → ∃ τ' : St, fX11_tells_b44 k33 n x1 x2 (nI d) (nI c) τ = fX11_tells_b97 k33 FU x1 x2 (nI d) 0 τ' ∧ Off [40, 41] τ τ' ∧ mkR (τ' 40) (skn D d K) := by
  intro q
  induction q with
  | zero =>
    intro c n τ hc hn hD hK
    obtain ⟨b1, b2, _, c2, _⟩ := hD
    obtain ⟨n, rfl⟩ : ∃ q, n = q + 1 := ⟨n - 1, by omega⟩
    obtain rfl : c = D 6 0 := by omega
    refine ⟨τ, ?_, Off.rf _ _, hK⟩
    rw [fX11_tells_b44, c2, if_pos (nI_le (Nat.le_refl _) (by omega))]
  | succ q ih =>
    intro c n τ hc hn hD hK
    obtain ⟨b1, b2, _, c2, _, c4, c5, _⟩ := id hD
    obtain ⟨n, rfl⟩ : ∃ q, n = q + 1 := ⟨n - 1, by omega⟩
    have l1 : ¬ nI (D 6 0) ≤ nI c := nI_ge (by omega) (by omega)
    obtain ⟨_, k2, _, k4, _, k6, k7, k8, k9⟩ := c5 c (by omega)
    rw [fX11_tells_b44, c2, if_neg l1, rd_nI (by omega) (by decide), k6]
    by_cases e : D 2 c = d
    · rw [if_pos (by rw [e]), rd_nI (by omega) (by decide), k2, rd_nI (by omega) (by decide), rd_nI (by omega) (by decide), k4, wr_nI (by omega) (by decide), bt_shl _ (by omega), nI_1]
      have h2 : 2 ^ D 1 c < 4 := by
        have : 2 ^ D 1 c ≤ 2 ^ 1 := Nat.pow_le_pow_right (by decide) (by omega)
        omega
      obtain ⟨τ', z1, z2, z3⟩ := ih (c + 1) n (up2 τ 40 (D 0 c) (τ 40 (D 0 c) ||| nI (2 ^ D 1 c))) (by omega) (by omega) (hD.offM ((Off.rf _ _).up (by decide) _ _)) ((hK.or k7 h2).cg (fun f w hf hw => by
        rw [Nat.testBit_two_pow, decide_eq_true_eq]
        constructor
        · rintro ((y | ⟨k, y1, y2⟩) | ⟨y1, y2⟩)
          · exact Or.inl y
          · exact Or.inr ⟨k, by omega, y2⟩
          · exact Or.inr ⟨c, by omega, e, y1.symm, y2⟩
        · rintro (y | ⟨k, y1, y2, y3, y4⟩)
          · exact Or.inl (Or.inl y)
          · by_cases ek : k = c
            · subst ek; exact Or.inr ⟨y3.symm, y4⟩
            · exact Or.inl (Or.inr ⟨k, by omega, y2, y3, y4⟩)))
      exact ⟨τ', z1, ((Off.rf [40, 41] τ).up (by decide) _ _).tr z2, z3⟩
    · rw [if_neg (fun q => e ((nI_eq (by omega) (by omega)).mp q)), nI_1]
      refine ih (c + 1) n τ (by omega) (by omega) hD (hK.cg (fun f w hf hw => ?_))
      constructor
      · rintro (y | ⟨k, y1, y2⟩)
        · exact Or.inl y
        · exact Or.inr ⟨k, by omega, y2⟩
      · rintro (y | ⟨k, y1, y2, y3⟩)
        · exact Or.inl y
        · by_cases ek : k = c
          · subst ek; exact absurd y2 e
          · exact Or.inr ⟨k, by omega, y2, y3⟩
theorem tl_cp (k33 : Int32 → Int32 → Int32 → St → Option (Int32 × St)) (x1 x2 x3 : Int32) : ∀ q c n (τ : St), c + q = 16 → q < n → (∀ j, j < c → τ 41 j = τ 40 j) → ∃ τ' : St, fX11_tells_b97 k33 n x1 x2 x3 (nI c) τ = fX11_tells_b127 k33 FU x1 x2 x3 0 τ' ∧ Off [41] τ τ' ∧ ∀ j, j < 16 → τ' 41 j = τ 40 j := by
  intro q
  induction q with
  | zero =>
    intro c n τ hc hn hv
    obtain ⟨n, rfl⟩ : ∃ q, n = q + 1 := ⟨n - 1, by omega⟩
    obtain rfl : c = 16 := by omega
    refine ⟨τ, ?_, Off.rf _ _, hv⟩
    rw [fX11_tells_b97, if_pos (show (16 : Int32) ≤ nI 16 from nI_le (a := 16) (Nat.le_refl _) (by omega))]
  | succ q ih =>
    intro c n τ hc hn hv
    obtain ⟨n, rfl⟩ : ∃ q, n = q + 1 := ⟨n - 1, by omega⟩
    have l1 : ¬ (16 : Int32) ≤ nI c := nI_ge (b := 16) (by omega) (by decide)
    rw [fX11_tells_b97, if_neg l1, rd_nI (by omega) (by decide), wr_nI (by omega) (by decide), nI_1]
    obtain ⟨τ', z1, z2, z3⟩ := ih (c + 1) n (up2 τ 41 c (τ 40 c)) (by omega) (by omega) (fun j hj => by
      show upd (τ 41) c (τ 40 c) j = τ 40 j
      by_cases e : j = c
      · subst e; rw [upd_s]
      · rw [upd_n _ _ e]; exact hv j (by omega))
    exact ⟨τ', z1, ((Off.rf [41] τ).up (by decide) _ _).tr z2, z3⟩
theorem tl_talk {D : Nat → Nat → Nat} {σ : St} {K0 : Nat → Nat → Prop} (k33 : Int32 → Int32 → Int32 → St → Option (Int32 × St)) {x1 : Int32} (x2 : Int32) (hx1 : ∀ k, k < 60 → (nI k = x1 ↔ k = D 6 2)) {d : Nat} (hd : d ≤ 4000) : ∀ q c n (τ : St), c + q = D 6 1 → q < n → scD D σ τ → mkR (τ 41) K0 → mkR (τ 40) (fun f h => K0 f h ∨ ∃ k, k < c ∧ D 5 k = d ∧ k ≠ D 6 2 ∧ (h = D 3 k ∨ h = D 4 k) ∧ (K0 f (D 3 k) ∨ K0 f (D 4 k))) → ∃ τ' : St, fX11_tells_b127 k33 n x1 x2 (nI d) (nI c) τ = fX11_tells_b219 k33 FU x1 x2 (nI d) 0 τ' ∧ Off [40, 41] τ τ' ∧ mkR (τ' 40) (tkn D d K0) := by
  intro q
  induction q with
  | zero =>
    intro c n τ hc hn hD h0 hK
    obtain ⟨b1, b2, _, _, _, c4, _⟩ := hD
    obtain ⟨n, rfl⟩ : ∃ q, n = q + 1 := ⟨n - 1, by omega⟩
    obtain rfl : c = D 6 1 := by omega
    refine ⟨τ, ?_, Off.rf _ _, hK⟩
    rw [fX11_tells_b127, c4, if_pos (nI_le (Nat.le_refl _) (by omega))]
  | succ q ih =>
    intro c n τ hc hn hD h0 hK
    obtain ⟨b1, b2, _, _, _, c4, _, _, c7, _⟩ := id hD
    obtain ⟨n, rfl⟩ : ∃ q, n = q + 1 := ⟨n - 1, by omega⟩
    have l1 : ¬ nI (D 6 1) ≤ nI c := nI_ge (by omega) (by omega)
    obtain ⟨_, k2, _, k4, _, k6, k7, k8, k9⟩ := c7 c (by omega)
    rw [fX11_tells_b127, c4, if_neg l1, rd_nI (by omega) (by decide), k6]
    have skip : (¬ (D 5 c = d ∧ c ≠ D 6 2)) → ∃ τ' : St, fX11_tells_b127 k33 n x1 x2 (nI d) (nI (c + 1)) τ = fX11_tells_b219 k33 FU x1 x2 (nI d) 0 τ' ∧ Off [40, 41] τ τ' ∧ mkR (τ' 40) (tkn D d K0) := by
      intro hno
      refine ih (c + 1) n τ (by omega) (by omega) hD h0 (hK.cg (fun f w hf hw => ?_))
      constructor
      · rintro (y | ⟨k, y1, y2⟩)
        · exact Or.inl y
        · exact Or.inr ⟨k, by omega, y2⟩
      · rintro (y | ⟨k, y1, y2, y3, y4⟩)
        · exact Or.inl y
        · by_cases ek : k = c
          · subst ek; exact absurd ⟨y2, y3⟩ hno
          · exact Or.inr ⟨k, by omega, y2, y3, y4⟩
    by_cases e : D 5 c = d
    · rw [if_pos (by rw [e])]
      by_cases eo : c = D 6 2
      · rw [if_pos ((hx1 c (by omega)).mpr eo), nI_1]
        exact skip (fun h => h.2 eo)
      · rw [if_neg (fun q => eo ((hx1 c (by omega)).mp q)), rd_nI (by omega) (by decide), k2, rd_nI (by omega) (by decide), rd_nI (by omega) (by decide), k4, rd_nI (by omega) (by decide)]
        obtain ⟨ub, ub1, ub2, ub3⟩ := h0 (D 4 c) k8
        obtain ⟨ua, ua1, ua2, ua3⟩ := h0 (D 3 c) k7
        rw [wr_nI (by omega) (by decide), ub2]
        have w38 : up2 τ 40 (D 3 c) (τ 40 (D 3 c) ||| nI ub) 38 c = nI (D 4 c) := k4
        have w37 : up2 τ 40 (D 3 c) (τ 40 (D 3 c) ||| nI ub) 37 c = nI (D 3 c) := k2
        have w41 : up2 τ 40 (D 3 c) (τ 40 (D 3 c) ||| nI ub) 41 (D 3 c) = nI ua := ua2
        rw [rd_nI (by omega) (by decide), w38, rd_nI (by omega) (by decide), rd_nI (by omega) (by decide), w37, rd_nI (by omega) (by decide), w41, wr_nI (by omega) (by decide), nI_1]
        obtain ⟨τ', z1, z2, z3⟩ := ih (c + 1) n (up2 (up2 τ 40 (D 3 c) (τ 40 (D 3 c) ||| nI ub)) 40 (D 4 c) (up2 τ 40 (D 3 c) (τ 40 (D 3 c) ||| nI ub) 40 (D 4 c) ||| nI ua)) (by omega) (by omega) (hD.offM (((Off.rf _ _).up (by decide) _ _).up (by decide) _ _)) h0 (((hK.or k7 ub1).or k8 ua1).cg (fun f w hf hw => by
          rw [ub3 f hf, ua3 f hf]
          constructor
          · rintro (((y | ⟨k, y1, y2⟩) | ⟨y1, y2⟩) | ⟨y1, y2⟩)
            · exact Or.inl y
            · exact Or.inr ⟨k, by omega, y2⟩
            · exact Or.inr ⟨c, by omega, e, eo, Or.inl y1, Or.inr y2⟩
            · exact Or.inr ⟨c, by omega, e, eo, Or.inr y1, Or.inl y2⟩
          · rintro (y | ⟨k, y1, y2, y3, y4, y5⟩)
            · exact Or.inl (Or.inl (Or.inl y))
            · by_cases ek : k = c
              · subst ek
                rcases y4 with y4 | y4
                · rcases y5 with y5 | y5
                  · rw [y4]; exact Or.inl (Or.inl (Or.inl y5))
                  · exact Or.inl (Or.inr ⟨y4, y5⟩)
                · rcases y5 with y5 | y5
                  · exact Or.inr ⟨y4, y5⟩
                  · rw [y4]; exact Or.inl (Or.inl (Or.inl y5))
              · exact Or.inl (Or.inl (Or.inr ⟨k, by omega, y2, y3, y4, y5⟩))))
        exact ⟨τ', z1, (((Off.rf [40, 41] τ).up (by decide) _ _).up (by decide) _ _).tr z2, z3⟩
    · rw [if_neg (fun q => e ((nI_eq (by omega) (by omega)).mp q)), nI_1]
      exact skip (fun h => e h.1)
theorem tl_chk (k33 : Int32 → Int32 → Int32 → St → Option (Int32 × St)) (x1 : Int32) {d : Nat} (hd : d ≤ 4000) (τ : St) : ∀ q c n x2, c + q = 16 → q < n → ∃ x2', fX11_tells_b219 k33 n x1 x2 (nI d) (nI c) τ = cal (fX11_nextDay (nI d) τ) (fun v3 σ2 => k33 x1 x2' v3 σ2) ∧ ((0 : Int32) ≤ x2 → x2' = x2) ∧ (¬ (0 : Int32) ≤ x2 → (x2' = x2 ∧ ∀ w, c ≤ w → w < 16 → ¬ τ 40 w = 3) ∨ (x2' = nI d ∧ ∃ w, w < 16 ∧ τ 40 w = 3)) := by
  intro q
  induction q with
  | zero =>
    intro c n x2 hc hn
    obtain ⟨n, rfl⟩ : ∃ q, n = q + 1 := ⟨n - 1, by omega⟩
    obtain rfl : c = 16 := by omega
    refine ⟨x2, ?_, fun _ => rfl, fun _ => Or.inl ⟨rfl, fun w h1 h2 => by omega⟩⟩
    rw [fX11_tells_b219, if_pos (show (16 : Int32) ≤ nI 16 from nI_le (a := 16) (Nat.le_refl _) (by omega))]
  | succ q ih =>
    intro c n x2 hc hn
    obtain ⟨n, rfl⟩ : ∃ q, n = q + 1 := ⟨n - 1, by omega⟩
    have l1 : ¬ (16 : Int32) ≤ nI c := nI_ge (b := 16) (by omega) (by decide)
    rw [fX11_tells_b219, if_neg l1, rd_nI (by omega) (by decide), nI_1]
    by_cases e : τ 40 c = 3
    · rw [if_pos e]
      by_cases e2 : (0 : Int32) ≤ x2
      · rw [if_pos e2]
        obtain ⟨x2', z1, z2, z3⟩ := ih (c + 1) n x2 (by omega) (by omega)
        exact ⟨x2', z1, z2, fun h => absurd e2 h⟩
      · rw [if_neg e2]
        obtain ⟨x2', z1, z2, z3⟩ := ih (c + 1) n (nI d) (by omega) (by omega)
        exact ⟨x2', z1, fun h => absurd h e2, fun _ => Or.inr ⟨z2 (nI_pos' (by omega)), c, by omega, e⟩⟩
    · rw [if_neg e]
      obtain ⟨x2', z1, z2, z3⟩ := ih (c + 1) n x2 (by omega) (by omega)
      refine ⟨x2', z1, z2, fun h => ?_⟩
      rcases z3 h with ⟨y1, y2⟩ | y
      · refine Or.inl ⟨y1, fun w h1 h2 => ?_⟩
        by_cases ew : w = c
        · subst ew; exact e
        · exact y2 w (by omega) h2
      · exact Or.inr y
theorem mkR.both {a : Nat → Int32} {K : Nat → Nat → Prop} (h : mkR a K) : (∃ w, w < 16 ∧ a w = 3) ↔ both K := by
  have t3 : ∀ v, v < 4 → ((v.testBit 0 = true ∧ v.testBit 1 = true) ↔ v = 3) := by decide
  constructor
  · rintro ⟨w, hw, e⟩
    obtain ⟨v, v1, v2, v3⟩ := h w hw
    have hv : v = 3 := (nI_eq (b := 3) (by omega) (by decide)).mp (v2.symm.trans e)
    have h2 := (t3 v v1).mpr hv
    exact ⟨w, hw, (v3 0 (by omega)).mp h2.1, (v3 1 (by omega)).mp h2.2⟩
  · rintro ⟨w, hw, e0, e1⟩
    obtain ⟨v, v1, v2, v3⟩ := h w hw
    have hv : v = 3 := (t3 v v1).mp ⟨(v3 0 (by omega)).mpr e0, (v3 1 (by omega)).mpr e1⟩
    exact ⟨w, hw, by rw [v2, hv]; rfl⟩
theorem tl_main {D : Nat → Nat → Nat} {σ : St} {x1 : Int32} (hx1 : ∀ k, k < 60 → (nI k = x1 ↔ k = D 6 2)) : ∀ q p n (τ : St) v x2, 4001 ≤ p + q → q < n → p ≤ 4001 → scD D σ τ → mkR (τ 40) (kd D p) → Jr D (kd D p) x2 → nxt p (fun e => (∃ k, k < D 6 0 ∧ D 2 k = e) ∨ ∃ k, k < D 6 1 ∧ D 5 k = e) v → ∃ (r : Int32) (τ' : St), fX11_tells_b33 n x1 x2 v τ = some (r, τ') ∧ Off [40, 41] τ τ' ∧ mkR (τ' 40) (kd D 4001) ∧ Jr D (kd D 4001) r := by
  intro q
  induction q with
  | zero =>
    intro p n τ v x2 hq hn hp hD hK hJ hv
    obtain ⟨n, rfl⟩ : ∃ q, n = q + 1 := ⟨n - 1, by omega⟩
    obtain rfl : p = 4001 := by omega
    rcases hv with ⟨a, b⟩ | ⟨e, a, b, c, d⟩
    · refine ⟨x2, τ, ?_, Off.rf _ _, hK, hJ⟩
      rw [fX11_tells_b33, a, if_pos (by decide)]
    · omega
  | succ q ih =>
    intro p n τ v x2 hq hn hp hD hK hJ hv
    obtain ⟨n, rfl⟩ : ∃ q, n = q + 1 := ⟨n - 1, by omega⟩
    rcases hv with ⟨a, b⟩ | ⟨e, a, b, c, d⟩
    · have hno := kd_no (D := D) (p := p) 4001 hp (fun k hk h => by have := b (D 5 k) (Or.inr ⟨k, hk, rfl⟩); omega) (fun k hk h => by have := b (D 2 k) (Or.inl ⟨k, hk, rfl⟩); omega)
      refine ⟨x2, τ, ?_, Off.rf _ _, hK.cg (fun f w _ _ => (hno f w).symm), ?_⟩
      · rw [fX11_tells_b33, a, if_pos (by decide)]
      · rcases hJ with ⟨j1, j2⟩ | j
        · exact Or.inl ⟨j1, fun z => j2 (both_im (fun f w y => (hno f w).mp y) z)⟩
        · exact Or.inr j
    · have hno := kd_no (D := D) (p := p) e b (fun k hk h => by have := d (D 5 k) (Or.inr ⟨k, hk, rfl⟩); omega) (fun k hk h => by have := d (D 2 k) (Or.inl ⟨k, hk, rfl⟩); omega)
      have b0 := hD.1
      have b1 := hD.2.1
      obtain ⟨τ1, s1, s2, s3⟩ := tl_see (D := D) (K := kd D e) (fun a0 a1 a2 u => fX11_tells_b33 n a0 a1 a2 u) x1 x2 c (D 6 0) 0 FU τ (by omega) (fu_lt (by omega)) hD (hK.cg (fun f w _ _ => by
        rw [hno f w]
        constructor
        · exact Or.inl
        · rintro (y | ⟨k, y, _⟩)
          · exact y
          · omega))
      obtain ⟨τ2, t1, t2, t3⟩ := tl_cp (fun a0 a1 a2 u => fX11_tells_b33 n a0 a1 a2 u) x1 x2 (nI e) 16 0 FU τ1 rfl (fu_lt (by omega)) (fun j h => by omega)
      have o2 : Off [40, 41] τ τ2 := s2.tr (t2.mono (by decide))
      have m2 : mkR (τ2 40) (skn D e (kd D e)) := by rw [t2 40 (by decide)]; exact s3
      have m2' : mkR (τ2 41) (skn D e (kd D e)) := fun w hw => by
        obtain ⟨v, v1, v2, v3⟩ := s3 w hw
        exact ⟨v, v1, (t3 w hw).trans v2, v3⟩
      obtain ⟨τ3, u1, u2, u3⟩ := tl_talk (D := D) (K0 := skn D e (kd D e)) (fun a0 a1 a2 u => fX11_tells_b33 n a0 a1 a2 u) x2 hx1 c (D 6 1) 0 FU τ2 (by omega) (fu_lt (by omega)) (hD.offM o2) m2' (m2.cg (fun f w _ _ => by
        constructor
        · exact Or.inl
        · rintro (y | ⟨k, y, _⟩)
          · exact y
          · omega))
      have o3 : Off [40, 41] τ τ3 := o2.tr u2
      have m3 : mkR (τ3 40) (kd D (e + 1)) := u3
      obtain ⟨x2', w1, w2, w3⟩ := tl_chk (fun a0 a1 a2 u => fX11_tells_b33 n a0 a1 a2 u) x1 c τ3 16 0 FU x2 rfl (fu_lt (by omega))
      obtain ⟨v', y1, y2⟩ := nd_v (hD.offM o3) (p := e + 1) (x := nI e) (fun e' he' => by rw [nI_leI (by omega) (by omega)]; omega)
      have hJ' : Jr D (kd D (e + 1)) x2' := by
        rcases hJ with ⟨j1, j2⟩ | ⟨e0, j1, j2, j3⟩
        · rcases w3 (by rw [j1]; decide) with ⟨z1, z2⟩ | ⟨z1, z2⟩
          · refine Or.inl ⟨z1.trans j1, fun z => ?_⟩
            obtain ⟨w, hw, ew⟩ := m3.both.mpr z
            exact z2 w (Nat.zero_le _) hw ew
          · exact Or.inr ⟨e, c, z1, m3.both.mp z2, fun z => j2 (both_im (fun f w y => (hno f w).mp y) z)⟩
        · rw [w2 (by rw [j2]; exact nI_pos' (by omega))]
          exact Or.inr ⟨e0, j1, j2, j3⟩
      obtain ⟨r, τ', z1, z2, z3, z4⟩ := ih (e + 1) n τ3 v' x2' (by omega) (by omega) (by omega) (hD.offM o3) m3 hJ' y2
      refine ⟨r, τ', ?_, o3.tr z2, z3, z4⟩
      rw [fX11_tells_b33, a, if_neg (nI_pos (by omega))]
      exact s1.trans (t1.trans (u1.trans (w1.trans ((cal_e y1).trans z1))))
theorem tl_clr (x1 x2 : Int32) : ∀ q c n (τ : St), c + q = 16 → q < n → (∀ j, j < c → τ 40 j = 0) → ∃ τ' : St, fX11_tells_b5 n x1 x2 (nI c) τ = cal (fX11_nextDay (-1) τ') (fun v s => fX11_tells_b33 FU x1 x2 v s) ∧ Off [40, 41] τ τ' ∧ ∀ j, j < 16 → τ' 40 j = 0 := by
  intro q
  induction q with
  | zero =>
    intro c n τ hc hn hv
    obtain ⟨n, rfl⟩ : ∃ q, n = q + 1 := ⟨n - 1, by omega⟩
    obtain rfl : c = 16 := by omega
    refine ⟨τ, ?_, Off.rf _ _, hv⟩
    rw [fX11_tells_b5, if_pos (show (16 : Int32) ≤ nI 16 from nI_le (a := 16) (Nat.le_refl _) (by omega))]
  | succ q ih =>
    intro c n τ hc hn hv
    obtain ⟨n, rfl⟩ : ∃ q, n = q + 1 := ⟨n - 1, by omega⟩
    have l1 : ¬ (16 : Int32) ≤ nI c := nI_ge (b := 16) (by omega) (by decide)
    rw [fX11_tells_b5, if_neg l1, wr_nI (by omega) (by decide), nI_1]
    obtain ⟨τ', z1, z2, z3⟩ := ih (c + 1) n (up2 τ 40 c 0) (by omega) (by omega) (fun j hj => by
      show upd (τ 40) c 0 j = 0
      by_cases e : j = c
      · subst e; rw [upd_s]
      · rw [upd_n _ _ e]; exact hv j (by omega))
    exact ⟨τ', z1, ((Off.rf [40, 41] τ).up (by decide) _ _).tr z2, z3⟩
theorem tells_v {D : Nat → Nat → Nat} {σ τ : St} (hD : scD D σ τ) {x1 : Int32} (hx1 : ∀ k, k < 60 → (nI k = x1 ↔ k = D 6 2)) : ∃ (r : Int32) (τ' : St), fX11_tells x1 τ = some (r, τ') ∧ Off [40, 41] τ τ' ∧ mkR (τ' 40) (kd D 4001) ∧ Jr D (kd D 4001) r := by
  obtain ⟨τ1, a1, a2, a3⟩ := tl_clr x1 (-9) 16 0 FU τ rfl (fu_lt (by omega)) (fun j h => by omega)
  obtain ⟨v, b1, b2⟩ := nd_v (hD.offM a2) (p := 0) (x := -1) (fun e he => by
    rw [Int32.le_iff_toInt_le, nI_toInt (by omega), show (-1 : Int32).toInt = -1 from rfl]; omega)
  have hK : mkR (τ1 40) (kd D 0) := fun w hw => ⟨0, by omega, a3 w hw, fun f _ => by rw [Nat.zero_testBit]; exact ⟨fun h => absurd h (by decide), fun h => False.elim h⟩⟩
  obtain ⟨r, τ', c1, c2, c3, c4⟩ := tl_main hx1 4001 0 FU τ1 v (-9) (by omega) (fu_lt (by omega)) (by omega) (hD.offM a2) hK (Or.inl ⟨rfl, fun ⟨_, _, h, _⟩ => h⟩) b2
  refine ⟨r, τ', ?_, a2.tr c2, c3, c4⟩
  unfold fX11_tells
  exact a1.trans ((cal_e b1).trans c1)
