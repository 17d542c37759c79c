/-- talkAllDay, retell -/
def Kt (D : Nat → Nat → Nat) (d : Nat) (K0 : Nat → Nat → Prop) (c : Nat) : Nat → Nat → Prop := fun f h => K0 f h ∨ ∃ k, k < c ∧ D 5 k = d ∧ k ≠ D 6 2 ∧ (h = D 3 k ∨ h = D 4 k) ∧ (K0 f (D 3 k) ∨ K0 f (D 4 k))
theorem ta_w {D : Nat → Nat → Nat} {τ : St} {K0 : Nat → Nat → Prop} {X : Int32} (hX : ∀ k, k < 60 → (nI k = X ↔ k = D 6 2)) {d t : Nat} (hd : d ≤ 4000) (ht : t < D 6 1) (htd : D 5 t = d) (h1 : both (tkn D d K0) → both (kd D (d + 1))) (h2 : ¬ both K0 → ¬ both (kd D d)) : ∀ q c n (σ : St), c + q = D 6 1 → q < n → t ≤ c → (∀ k, k < c → D 5 k ≤ d) → scD D σ τ → ckR (σ 55) K0 → ckR (σ 54) (Kt D d K0 c) → Jr D K0 (σ 47 10) → ∃ (c' : Nat) (σ' : St), fX7_talkAllDay_b34 n X (nI d) (nI c) σ = some (nI c', σ') ∧ oC σ σ' ∧ c' ≤ D 6 1 ∧ (∀ k, k < D 6 1 → (k < c' ↔ D 5 k ≤ d)) ∧ ckR (σ' 54) (tkn D d K0) ∧ Jr D (tkn D d K0) (σ' 47 10) := by
  intro q
  induction q with
  | zero =>
    intro c n σ hc hn htc hl hD h0 hK hJ
    obtain ⟨b1, b2, _, _, c3, _⟩ := id hD
    obtain ⟨n, rfl⟩ : ∃ q, n = q + 1 := ⟨n - 1, by omega⟩
    obtain rfl : c = D 6 1 := by omega
    obtain ⟨σ2, z1, z2, z3, _, z5⟩ := nj_J (D := D) (K := K0) (K' := tkn D d K0) (d := d) hK hJ hd h1 h2
    refine ⟨D 6 1, σ2, ?_, z2, Nat.le_refl _, fun k hk => ⟨fun _ => hl k hk, fun _ => hk⟩, by rw [z3]; exact hK, z5⟩
    rw [fX7_talkAllDay_b34, c3, if_pos (nI_le (Nat.le_refl _) (by omega)), cal_e z1]
  | succ q ih =>
    intro c n σ hc hn htc hl hD h0 hK hJ
    obtain ⟨b1, b2, _, _, c3, _, _, _, c7, c8⟩ := id hD
    obtain ⟨n, rfl⟩ : ∃ q, n = q + 1 := ⟨n - 1, by omega⟩
    have l1 : ¬ nI (D 6 1) ≤ nI c := nI_ge (by omega) (by omega)
    obtain ⟨k1, _, k3, _, k5, _, k7, k8, k9⟩ := c7 c (by omega)
    have l2 : d ≤ D 5 c := by have := c8 t c htc (by omega); omega
    rw [fX7_talkAllDay_b34, c3, if_neg l1, rd_nI (by omega) (by decide), k5]
    by_cases e : D 5 c = d
    · have l3 : ∀ k, k < c + 1 → D 5 k ≤ d := fun k hk => by
        by_cases ek : k = c
        · subst ek; omega
        · exact hl k (by omega)
      rw [if_pos (by rw [e])]
      by_cases eo : c = D 6 2
      · rw [if_pos ((hX c (by omega)).mpr eo), nI_1]
        refine ih (c + 1) n σ (by omega) (by omega) (by omega) l3 hD h0 (hK.cg (fun f w hf hw => ?_)) hJ
        constructor
        · rintro (y | ⟨k, y1, y2⟩)
          · exact Or.inl y
          · exact Or.inr ⟨k, by omega, y2⟩
        · rintro (y | ⟨k, y1, y2, y3, y4⟩)
          · exact Or.inl y
          · by_cases ek : k = c
            · subst ek; exact absurd eo y3
            · exact Or.inr ⟨k, by omega, y2, y3, y4⟩
      · rw [if_neg (fun q => eo ((hX c (by omega)).mp q)), rd_nI (by omega) (by decide), k1, rd_nI (by omega) (by decide), k3]
        obtain ⟨σ2, z1, z2, z3⟩ := ex_v k7 k8 h0 hK
        rw [cal_e z1, nI_1]
        have o2 : oC σ σ2 := oC.o5 (z2.mono (by decide))
        obtain ⟨c', σ', w1, w2, w3, w4, w5, w6⟩ := ih (c + 1) n σ2 (by omega) (by omega) (by omega) l3 (hD.offC o2) (by rw [z2 55 (by decide)]; exact h0) (z3.cg (fun f w hf hw => by
          constructor
          · rintro ((y | ⟨k, y1, y2⟩) | ⟨y1, y2⟩)
            · exact Or.inl y
            · exact Or.inr ⟨k, by omega, y2⟩
            · exact Or.inr ⟨c, by omega, e, eo, y1, y2⟩
          · rintro (y | ⟨k, y1, y2, y3, y4, y5⟩)
            · exact Or.inl (Or.inl y)
            · by_cases ek : k = c
              · subst ek; exact Or.inr ⟨y4, y5⟩
              · exact Or.inl (Or.inr ⟨k, by omega, y2, y3, y4, y5⟩))) (by rw [z2 47 (by decide)]; exact hJ)
        exact ⟨c', σ', w1, o2.tr w2, w3, w4, w5, w6⟩
    · rw [if_neg (fun q => e ((nI_eq (by omega) (by omega)).mp q))]
      have hK' : ckR (σ 54) (tkn D d K0) := hK.cg (fun f w hf hw => by
        constructor
        · rintro (y | ⟨k, y1, y2⟩)
          · exact Or.inl y
          · exact Or.inr ⟨k, by omega, y2⟩
        · rintro (y | ⟨k, y1, y2, y3⟩)
          · exact Or.inl y
          · refine Or.inr ⟨k, ?_, y2, y3⟩
            rcases Nat.lt_or_ge k c with y | y
            · exact y
            · have := c8 c k y y1; omega)
      obtain ⟨σ2, z1, z2, z3, _, z5⟩ := nj_J (D := D) (K := K0) (K' := tkn D d K0) (d := d) hK' hJ hd h1 h2
      rw [cal_e z1]
      refine ⟨c, σ2, rfl, z2, by omega, fun k hk => ⟨fun h => hl k h, fun h => ?_⟩, by rw [z3]; exact hK', z5⟩
      rcases Nat.lt_or_ge k c with y | y
      · exact y
      · have := c8 c k y hk; omega
theorem ta_v {D : Nat → Nat → Nat} {τ σ : St} {K0 : Nat → Nat → Prop} {X : Int32} (hX : ∀ k, k < 60 → (nI k = X ↔ k = D 6 2)) {t : Nat} (ht : t < D 6 1) (hl : ∀ k, k < t → D 5 k < D 5 t) (h1 : both (tkn D (D 5 t) K0) → both (kd D (D 5 t + 1))) (h2 : ¬ both K0 → ¬ both (kd D (D 5 t))) (hD : scD D σ τ) (hK : ckR (σ 54) K0) (hJ : Jr D K0 (σ 47 10)) : ∃ (c' : Nat) (σ' : St), fX7_talkAllDay (nI t) X σ = some (nI c', σ') ∧ oC σ σ' ∧ c' ≤ D 6 1 ∧ (∀ k, k < D 6 1 → (k < c' ↔ D 5 k ≤ D 5 t)) ∧ ckR (σ' 54) (tkn D (D 5 t) K0) ∧ Jr D (tkn D (D 5 t) K0) (σ' 47 10) := by
  obtain ⟨b1, b2, _, _, _, _, _, _, c7, _⟩ := id hD
  obtain ⟨_, _, _, _, k5, _, _, _, k9⟩ := c7 t ht
  unfold fX7_talkAllDay
  rw [rd_nI (by omega) (by decide), k5, rd_e (show (0 : Int32) = nI 0 from rfl) (show 0 < 2 by decide) (by decide), wr_e (show (0 : Int32) = nI 0 from rfl) (show 0 < 2 by decide) (by decide), rd_e (show (1 : Int32) = nI 1 from rfl) (show 1 < 2 by decide) (by decide), wr_e (show (1 : Int32) = nI 1 from rfl) (show 1 < 2 by decide) (by decide)]
  have o1 : oC σ (up2 (up2 σ 55 0 (σ 54 0)) 55 1 (up2 σ 55 0 (σ 54 0) 54 1)) := oC.o5 (((Off.rf _ _).up (by decide) _ _).up (by decide) _ _)
  have h0 : ckR (up2 (up2 σ 55 0 (σ 54 0)) 55 1 (up2 σ 55 0 (σ 54 0) 54 1) 55) K0 := fun f hf => by
    obtain ⟨v, v1, v2, v3⟩ := hK f hf
    refine ⟨v, v1, ?_, v3⟩
    rw [← v2]
    rcases (show f = 0 ∨ f = 1 by omega) with rfl | rfl
    · rfl
    · rfl
  obtain ⟨c', σ', w1, w2, w3⟩ := ta_w (τ := τ) (K0 := K0) hX k9 ht rfl h1 h2 (D 6 1 - t) t FU _ (by omega) (fu_lt (by omega)) (Nat.le_refl _) (fun k hk => Nat.le_of_lt (hl k hk)) (hD.offC o1) h0 (hK.cg (fun f w _ _ => ⟨Or.inl, fun h => h.elim id (fun ⟨k, y1, y2, _⟩ => absurd y2 (by have := hl k y1; omega))⟩)) hJ
  exact ⟨c', σ', w1, o1.tr w2, w3⟩
theorem rt_fin {D : Nat → Nat → Nat} {τ σ : St} {p s : Nat} (hD : scD D σ τ) (hp : p ≤ 4001) (hs : s ≤ D 6 0) (hps : ∀ k, k < D 6 0 → (k < s ↔ D 2 k < p)) (hpt : ∀ k, k < D 6 1 → D 5 k < p) (hK : ckR (σ 54) (kd D p)) (hJ : Jr D (kd D p) (σ 47 10)) : ∃ (r : Int32) (σ' : St), fX7_seeTill (nI s) 4000 σ = some (r, σ') ∧ oC σ σ' ∧ ckR (σ' 54) (kd D 4001) ∧ Jr D (kd D 4001) (σ' 47 10) := by
  obtain ⟨b1, b2, _, _, _, _, c5, _⟩ := id hD
  have cg0 : ∀ f w, f < 2 → w < 16 → (kd D p f w ↔ Ks D p s f w) := fun f w _ _ => ⟨Or.inl, fun h => h.elim id (fun ⟨k, y1, y2, y3⟩ => by
    rw [← y2, ← y3]; exact kd_see (by omega) ((hps k (by omega)).mp y1))⟩
  obtain ⟨s', σ', w1, w2, w3, w4, w5, w6⟩ := st_w (D := D) (τ := τ) (p := p) (L := 4000) (by omega) (fun k hk h => by have := hpt k hk; omega) (D 6 0 - s) s FU σ (by omega) (fu_lt (by omega)) hD (fun k h1 h2 => by
    rcases Nat.lt_or_ge (D 2 k) p with y | y
    · have := (hps k h2).mpr y; omega
    · exact y) (fun k hk => (c5 k (by omega)).2.2.2.2.2.2.2.2) (hK.cg cg0) (hJ.cg cg0)
  have cg1 : ∀ f w, f < 2 → w < 16 → (Ks D p s' f w ↔ kd D 4001 f w) := fun f w _ _ => by
    constructor
    · rintro (y | ⟨k, y1, y2, y3⟩)
      · exact kd_mono _ hp y
      · rw [← y2, ← y3]; exact kd_see (by omega) (by have := (w4 k (by omega)).mp y1; omega)
    · intro y
      rcases kd_l1 4001 hp (fun k hk h => by have := hpt k hk; omega) y with y | ⟨k, y1, y2, y3⟩
      · exact Or.inl y
      · exact Or.inr ⟨k, (w4 k y1).mpr (by omega), y3⟩
  exact ⟨nI s', σ', w1, w2, w5.cg cg1, w6.cg cg1⟩
theorem rt_w {D : Nat → Nat → Nat} {τ : St} {X : Int32} (hX : ∀ k, k < 60 → (nI k = X ↔ k = D 6 2)) : ∀ q t n i s p (σ : St), D 6 1 ≤ t + q → q < n → t ≤ D 6 1 → i ≤ t → p ≤ 4001 → s ≤ D 6 0 → (∀ k, k < D 6 0 → (k < s ↔ D 2 k < p)) → (∀ k, k < D 6 1 → (k < t ↔ D 5 k < p)) → scD D σ τ → ckR (σ 54) (kd D p) → Jr D (kd D p) (σ 47 10) → ∃ (r : Int32) (σ' : St), fX7_retell_b27 n X (nI s) (nI t) (nI i) σ = some (r, σ') ∧ oC σ σ' ∧ ckR (σ' 54) (kd D 4001) ∧ Jr D (kd D 4001) (σ' 47 10) := by
  intro q
  have stop : ∀ t n i s p (σ : St), t = D 6 1 → 0 < n → p ≤ 4001 → s ≤ D 6 0 → (∀ k, k < D 6 0 → (k < s ↔ D 2 k < p)) → (∀ k, k < D 6 1 → (k < t ↔ D 5 k < p)) → scD D σ τ → ckR (σ 54) (kd D p) → Jr D (kd D p) (σ 47 10) → ∃ (r : Int32) (σ' : St), fX7_retell_b27 n X (nI s) (nI t) (nI i) σ = some (r, σ') ∧ oC σ σ' ∧ ckR (σ' 54) (kd D 4001) ∧ Jr D (kd D 4001) (σ' 47 10) := by
    intro t n i s p σ et hn hp hs hps hpt hD hK hJ
    obtain ⟨n, rfl⟩ : ∃ q, n = q + 1 := ⟨n - 1, by omega⟩
    obtain ⟨r, σ', a1, a2, a3, a4⟩ := rt_fin hD hp hs hps (fun k hk => (hpt k hk).mp (by omega)) hK hJ
    obtain ⟨b1, b2, _, _, c3, _⟩ := id hD
    refine ⟨0, σ', ?_, a2, a3, a4⟩
    rw [fX7_retell_b27, cal_e a1, c3, et, if_pos (nI_le (Nat.le_refl (D 6 1)) (by omega))]
    split <;> rfl
  induction q with
  | zero =>
    intro t n i s p σ hq hn ht hi hp hs hps hpt hD hK hJ
    exact stop t n i s p σ (by omega) hn hp hs hps hpt hD hK hJ
  | succ q ih =>
    intro t n i s p σ hq hn ht hi hp hs hps hpt hD hK hJ
    by_cases et : t = D 6 1
    · exact stop t n i s p σ et (by omega) hp hs hps hpt hD hK hJ
    obtain ⟨n, rfl⟩ : ∃ q, n = q + 1 := ⟨n - 1, by omega⟩
    obtain ⟨b1, b2, _, _, c3, _, c5, c6, c7, c8⟩ := id hD
    have htl : t < D 6 1 := by omega
    obtain ⟨_, _, _, _, k5, _, _, _, k9⟩ := c7 t htl
    have l0 : ¬ (60 : Int32) ≤ nI i := nI_ge (b := 60) (by omega) (by decide)
    have l1 : ¬ nI (D 6 1) ≤ nI t := nI_ge (by omega) (by omega)
    have hpd : p ≤ D 5 t := by
      rcases Nat.lt_or_ge (D 5 t) p with y | y
      · have := (hpt t htl).mpr y; omega
      · exact y
    have hlt : ∀ k, k < t → D 5 k < D 5 t := fun k hk => by have := (hpt k (by omega)).mp hk; omega
    have cg0 : ∀ f w, f < 2 → w < 16 → (kd D p f w ↔ Ks D p s f w) := fun f w _ _ => ⟨Or.inl, fun h => h.elim id (fun ⟨k, y1, y2, y3⟩ => by
      rw [← y2, ← y3]; exact kd_see (by omega) ((hps k (by omega)).mp y1))⟩
    have hnt : ∀ k, k < D 6 1 → ¬ (p ≤ D 5 k ∧ D 5 k < D 5 t) := fun k hk h => by
      rcases Nat.lt_or_ge k t with y | y
      · have := (hpt k hk).mp y; omega
      · have := c8 t k y hk; omega
    obtain ⟨s', σ1, w1, w2, w3, w4, w5, w6⟩ := st_w (D := D) (τ := τ) (p := p) (L := D 5 t) k9 hnt (D 6 0 - s) s FU σ (by omega) (fu_lt (by omega)) hD (fun k h1 h2 => by
      rcases Nat.lt_or_ge (D 2 k) p with y | y
      · have := (hps k h2).mpr y; omega
      · exact y) (fun k hk => by have := (hps k (by omega)).mp hk; omega) (hK.cg cg0) (hJ.cg cg0)
    have cg1 : ∀ f w, f < 2 → w < 16 → (Ks D p s' f w ↔ skn D (D 5 t) (kd D (D 5 t)) f w) := fun f w _ _ => by
      constructor
      · rintro (y | ⟨k, y1, y2, y3⟩)
        · exact Or.inl (kd_mono _ hpd y)
        · have y4 := (w4 k (by omega)).mp y1
          by_cases ek : D 2 k = D 5 t
          · exact Or.inr ⟨k, by omega, ek, y2, y3⟩
          · rw [← y2, ← y3]; exact Or.inl (kd_see (by omega) (by omega))
      · rintro (y | ⟨k, y1, y2, y3, y4⟩)
        · rcases kd_l1 (D 5 t) hpd hnt y with y | ⟨k, y1, y2, y3⟩
          · exact Or.inl y
          · exact Or.inr ⟨k, (w4 k y1).mpr (by omega), y3⟩
        · exact Or.inr ⟨k, (w4 k y1).mpr (by omega), y3, y4⟩
    have w1' : fX7_seeTill (nI s) (nI (D 5 t)) σ = some (nI s', σ1) := w1
    obtain ⟨t', σ2, z1, z2, z3, z4, z5, z6⟩ := ta_v (τ := τ) (σ := σ1) (K0 := skn D (D 5 t) (kd D (D 5 t))) hX htl hlt id (fun nz z => nz (both_im (fun f w y => Or.inl y) z)) (hD.offC w2) (w5.cg cg1) (w6.cg cg1)
    have htt : t < t' := (z4 t htl).mpr (Nat.le_refl _)
    obtain ⟨r, σ', y1, y2, y3, y4⟩ := ih t' n (i + 1) s' (D 5 t + 1) σ2 (by omega) (by omega) z3 (by omega) (by omega) w3 (fun k hk => (w4 k hk).trans (by omega)) (fun k hk => (z4 k hk).trans (by omega)) ((hD.offC w2).offC z2) z5 z6
    refine ⟨r, σ', ?_, (w2.tr z2).tr y2, y3, y4⟩
    rw [fX7_retell_b27, if_neg l0, c3, if_neg l1, rd_nI (by omega) (by decide), k5, cal_e w1', cal_e z1, nI_1]
    exact y1
theorem retell_v {D : Nat → Nat → Nat} {σ τ : St} (hD : scD D σ τ) {X : Int32} (hX : ∀ k, k < 60 → (nI k = X ↔ k = D 6 2)) : ∃ (r : Int32) (σ' : St), fX7_retell X σ = some (r, σ') ∧ oC σ σ' ∧ ckR (σ' 54) (kd D 4001) ∧ Jr D (kd D 4001) (σ' 47 10) := by
  unfold fX7_retell
  rw [wr_e (show (0 : Int32) = nI 0 from rfl) (show 0 < 2 by decide) (by decide), wr_e (show (1 : Int32) = nI 1 from rfl) (show 1 < 2 by decide) (by decide), pf_e]
  have o1 : oC σ (up2 (up2 (up2 σ 54 0 0) 54 1 0) 47 10 (-9)) := ⟨(((Off.rf _ _).up (by decide) _ _).up (by decide) _ _).up (by decide) _ _, rfl, rfl⟩
  have hK : ckR (up2 (up2 (up2 σ 54 0 0) 54 1 0) 47 10 (-9) 54) (kd D 0) := fun f hf => by
    refine ⟨0, by omega, ?_, fun h _ => by rw [Nat.zero_testBit]; exact ⟨fun h => absurd h (by decide), fun h => False.elim h⟩⟩
    rcases (show f = 0 ∨ f = 1 by omega) with rfl | rfl
    · rfl
    · rfl
  have hb := hD.2.1
  obtain ⟨r, σ', a1, a2, a3⟩ := rt_w (τ := τ) hX (D 6 1) 0 FU 0 0 0 _ (by omega) (fu_lt (by omega)) (by omega) (by omega) (by omega) (by omega) (fun k _ => by omega) (fun k _ => by omega) (hD.offC o1) hK (Or.inl ⟨rfl, fun ⟨_, _, h, _⟩ => h⟩)
  exact ⟨r, σ', a1, o1.tr a2, a3⟩
