def pj (g : Nat → Nat) (y c : Nat) : Nat → Nat := fun t => if t < y then g t else if t = y then g c else if t ≤ c then g (t - 1) else g t
theorem is_w {s c : Nat} {g : Nat → Nat} (hs : s ≤ 12) (hc : c < s) (hg : ∀ t, t < s → g t < 80) (k2 : Int32 → St → Option (Int32 × St)) : ∀ y n (σ : St), y ≤ c → y < n → (∀ t, t < y → σ 44 t = nI (g t)) → (∀ t, y < t → t ≤ c → σ 44 t = nI (g (t - 1)) ∧ g c < g (t - 1)) → (∀ t, c < t → t < s → σ 44 t = nI (g t)) → ∃ (y' : Nat) (σ' : St), fX3_sortByNumber_b19 k2 n (nI c) (nI (g c)) (nI y) σ = k2 (nI (c + 1)) σ' ∧ Off [44] σ σ' ∧ y' ≤ c ∧ (y' = 0 ∨ g (y' - 1) ≤ g c) ∧ (∀ t, y' ≤ t → t < c → g c < g t) ∧ ∀ t, t < s → σ' 44 t = nI (pj g y' c t) := by
  have fin : ∀ y (σ : St), y ≤ c → (∀ t, t < y → σ 44 t = nI (g t)) → (∀ t, y < t → t ≤ c → σ 44 t = nI (g (t - 1)) ∧ g c < g (t - 1)) → (∀ t, c < t → t < s → σ 44 t = nI (g t)) → (∀ t, y ≤ t → t < c → g c < g t) ∧ ∀ t, t < s → up2 σ 44 y (nI (g c)) 44 t = nI (pj g y c t) := by
    intro y σ hy h1 h2 h3
    constructor
    · intro t t1 t2
      have := (h2 (t + 1) (by omega) (by omega)).2
      rw [show t + 1 - 1 = t by omega] at this
      exact this
    · intro t ht
      rw [up2_if]
      unfold pj
      by_cases e : t = y
      · rw [if_pos e, if_neg (by omega), if_pos e]
      · rw [if_neg e]
        by_cases e1 : t < y
        · rw [if_pos e1]; exact h1 t e1
        · rw [if_neg e1, if_neg e]
          by_cases e2 : t ≤ c
          · rw [if_pos e2]; exact (h2 t (by omega) e2).1
          · rw [if_neg e2]; exact h3 t (by omega) ht
  intro y
  induction y with
  | zero =>
    intro n σ hy hn h1 h2 h3
    obtain ⟨n, rfl⟩ : ∃ q, n = q + 1 := ⟨n - 1, by omega⟩
    obtain ⟨f1, f2⟩ := fin 0 σ hy h1 h2 h3
    refine ⟨0, up2 σ 44 0 (nI (g c)), ?_, (Off.rf _ _).up (by decide) _ _, hy, Or.inl rfl, f1, f2⟩
    rw [fX3_sortByNumber_b19, if_pos (show nI 0 ≤ 0 from nI_le (b := 0) (Nat.le_refl _) (by decide)), wr_nI (by omega) (by decide), nI_1]
  | succ y ih =>
    intro n σ hy hn h1 h2 h3
    obtain ⟨n, rfl⟩ : ∃ q, n = q + 1 := ⟨n - 1, by omega⟩
    have l1 : ¬ nI (y + 1) ≤ 0 := nI_nle (by omega) (by omega)
    have e1 : nI (y + 1) - 1 = nI y := nI_pred y
    have e2 : nI (y + 1) + (-1) = nI y := by rw [sb_m1 (by omega)]; rfl
    have gy := hg y (by omega)
    have gc := hg c hc
    rw [fX3_sortByNumber_b19, if_neg l1, e1, rd_nI (by omega) (by decide), h1 y (by omega)]
    by_cases c1 : g y ≤ g c
    · rw [if_pos (nI_le c1 (by omega)), wr_nI (by omega) (by decide), nI_1]
      obtain ⟨f1, f2⟩ := fin (y + 1) σ hy h1 h2 h3
      exact ⟨y + 1, up2 σ 44 (y + 1) (nI (g c)), rfl, (Off.rf _ _).up (by decide) _ _, hy, Or.inr c1, f1, f2⟩
    · rw [if_neg (nI_ge (by omega) (by omega)), rd_nI (by omega) (by decide), h1 y (by omega), wr_nI (by omega) (by decide), e2]
      obtain ⟨y', σ', z1, z2, z3⟩ := ih n (up2 σ 44 (y + 1) (nI (g y))) (by omega) (by omega) (fun t ht => by
        rw [up2_i _ _ _ _ _ (by omega)]; exact h1 t (by omega)) (fun t t1 t2 => by
        by_cases e : t = y + 1
        · subst e; rw [up2_s]; exact ⟨rfl, by show g c < g y; omega⟩
        · rw [up2_i _ _ _ _ _ e]; exact h2 t (by omega) t2) (fun t t1 t2 => by
        rw [up2_i _ _ _ _ _ (by omega)]; exact h3 t t1 t2)
      exact ⟨y', σ', z1, ((Off.rf [44] σ).up (by decide) _ _).tr z2, z3⟩
def pjx (y c t : Nat) : Nat := if t < y then t else if t = y then c else if t ≤ c then t - 1 else t
theorem pj_x (g : Nat → Nat) (y c t : Nat) : pj g y c t = g (pjx y c t) := by
  unfold pj pjx
  split
  · rfl
  · split
    · rfl
    · split <;> rfl
def SO (g0 g : Nat → Nat) (s c : Nat) : Prop := (∀ a b, a < b → b < c → g a < g b) ∧ (∀ a b, a < s → b < s → g a = g b → a = b) ∧ (∀ t, t < s → ∃ u, u < s ∧ g t = g0 u) ∧ ∀ u, u < s → ∃ t, t < s ∧ g t = g0 u
theorem SO.st {g0 g : Nat → Nat} {s c y : Nat} (h : SO g0 g s c) (hc : c < s) (hy : y ≤ c) (h1 : y = 0 ∨ g (y - 1) ≤ g c) (h2 : ∀ t, y ≤ t → t < c → g c < g t) : SO g0 (pj g y c) s (c + 1) := by
  obtain ⟨q1, q2, q3, q4⟩ := h
  have px : ∀ t, t < s → pjx y c t < s := fun t ht => by unfold pjx; repeat' split
                                                         all_goals omega
  refine ⟨fun a b hab hb => ?_, fun a b ha hb e => ?_, fun t ht => ?_, fun u hu => ?_⟩
  · unfold pj
    rcases (show b < y ∨ b = y ∨ y < b by omega) with e | e | e
    · rw [if_pos (by omega), if_pos e]; exact q1 a b hab (by omega)
    · rw [if_pos (by omega), if_neg (by omega), if_pos e]
      have le : g a ≤ g c := by
        rcases h1 with z | z
        · omega
        · by_cases w : a = y - 1
          · rw [w]; exact z
          · have := q1 a (y - 1) (by omega) (by omega); omega
      have ne : g a ≠ g c := fun z => by have := q2 a c (by omega) hc z; omega
      omega
    · rw [if_neg (show ¬ b < y by omega), if_neg (show ¬ b = y by omega), if_pos (show b ≤ c by omega)]
      rcases (show a < y ∨ a = y ∨ y < a by omega) with e' | e' | e'
      · rw [if_pos e']; exact q1 a (b - 1) (by omega) (by omega)
      · rw [if_neg (by omega), if_pos e']; exact h2 (b - 1) (by omega) (by omega)
      · rw [if_neg (by omega), if_neg (by omega), if_pos (by omega)]; exact q1 (a - 1) (b - 1) (by omega) (by omega)
  · rw [pj_x, pj_x] at e
    have := q2 _ _ (px a ha) (px b hb) e
    unfold pjx at this
    repeat' split at this
    all_goals omega
  · rw [pj_x]; exact q3 _ (px t ht)
  · obtain ⟨t, t1, t2⟩ := q4 u hu
    rcases (show t < y ∨ (y ≤ t ∧ t < c) ∨ t = c ∨ c < t by omega) with e | e | e | e
    · refine ⟨t, t1, ?_⟩
      unfold pj; rw [if_pos e]; exact t2
    · refine ⟨t + 1, by omega, ?_⟩
      unfold pj; rw [if_neg (by omega), if_neg (by omega), if_pos (by omega), show t + 1 - 1 = t by omega]; exact t2
    · refine ⟨y, by omega, ?_⟩
      unfold pj; rw [if_neg (by omega), if_pos rfl, ← e]; exact t2
    · refine ⟨t, t1, ?_⟩
      unfold pj; rw [if_neg (by omega), if_neg (by omega), if_neg (by omega)]; exact t2
theorem so_w {s : Nat} {g0 : Nat → Nat} (hs : s ≤ 12) (hg0 : ∀ t, t < s → g0 t < 80) : ∀ q c n (σ : St) (g : Nat → Nat), c + q = s → q < n → σ 41 5 = nI s → (∀ t, t < s → σ 44 t = nI (g t)) → SO g0 g s c → ∃ (σ' : St) (g' : Nat → Nat), fX3_sortByNumber_b2 n (nI c) σ = some (0, σ') ∧ Off [44] σ σ' ∧ (∀ t, t < s → σ' 44 t = nI (g' t)) ∧ SO g0 g' s s := by
  intro q
  induction q with
  | zero =>
    intro c n σ g hc hn h5 h44 hS
    obtain ⟨n, rfl⟩ : ∃ q, n = q + 1 := ⟨n - 1, by omega⟩
    obtain rfl : c = s := by omega
    exact ⟨σ, g, by rw [fX3_sortByNumber_b2, h5, if_pos (nI_le (Nat.le_refl _) (by omega))], Off.rf _ _, h44, hS⟩
  | succ q ih =>
    intro c n σ g hc hn h5 h44 hS
    obtain ⟨n, rfl⟩ : ∃ q, n = q + 1 := ⟨n - 1, by omega⟩
    have l1 : ¬ nI s ≤ nI c := nI_ge (by omega) (by omega)
    have hg : ∀ t, t < s → g t < 80 := fun t ht => by
      obtain ⟨u, u1, u2⟩ := hS.2.2.1 t ht
      rw [u2]; exact hg0 u u1
    obtain ⟨y', σ1, z1, z2, z3, z4, z5, z6⟩ := is_w (g := g) hs (show c < s by omega) hg (fun a0 u => fX3_sortByNumber_b2 n a0 u) c FU σ (Nat.le_refl _) (fu_lt (by omega)) (fun t ht => h44 t (by omega)) (fun t t1 t2 => by omega) (fun t t1 t2 => h44 t t2)
    obtain ⟨σ2, g2, w1, w2, w3, w4⟩ := ih (c + 1) n σ1 (pj g y' c) (by omega) (by omega) (by rw [z2 41 (by decide)]; exact h5) z6 (hS.st (by omega) z3 z4 z5)
    refine ⟨σ2, g2, ?_, z2.tr w2, w3, w4⟩
    rw [fX3_sortByNumber_b2, h5, if_neg l1, rd_nI (by omega) (by decide), h44 c (by omega), z1]
    exact w1
theorem mm_w {τ : St} {np s : Nat} {g : Nat → Nat} {x4 : Int32} (hnp : np ≤ 80) (h18 : τ 0 18 = nI np) (hs : s ≤ 12) (hgi : ∀ a b, a < b → b < s → g a < g b) (hgn : ∀ t, t < s → g t < np) (hm : ∀ k, k < np → (τ 31 k = 1 ∧ ∃ t, t < s ∧ g t = k) ∨ (τ 31 k = 0 ∧ ∀ t, t < s → g t ≠ k)) : ∀ q p n c, p + q = np → q < n → c ≤ s → (∀ t, t < s → (t < c ↔ g t < p)) → ((∀ j, j < s → c ≤ j → x4 = nI j → fX11_matched_b45 n x4 (nI c) (nI p) τ = some (nI (g j), τ)) ∧ (nI s ≤ x4 → fX11_matched_b45 n x4 (nI c) (nI p) τ = some (-9, τ))) := by
  intro q
  induction q with
  | zero =>
    intro p n c hp hn hc hI
    obtain ⟨n, rfl⟩ : ∃ q, n = q + 1 := ⟨n - 1, by omega⟩
    obtain rfl : p = np := by omega
    refine ⟨fun j hj hcj _ => ?_, fun _ => ?_⟩
    · have := (hI j hj).mpr (hgn j hj)
      omega
    · rw [fX11_matched_b45, h18, if_pos (nI_le (Nat.le_refl _) (by omega))]
  | succ q ih =>
    intro p n c hp hn hc hI
    obtain ⟨n, rfl⟩ : ∃ q, n = q + 1 := ⟨n - 1, by omega⟩
    have l1 : ¬ nI np ≤ nI p := nI_ge (by omega) (by omega)
    rw [fX11_matched_b45, h18, if_neg l1, rd_nI (by omega) (by decide), nI_1, nI_1]
    rcases hm p (by omega) with ⟨m1, t, t1, t2⟩ | ⟨m1, m2⟩
    · have tc : t = c := by
        rcases Nat.lt_trichotomy t c with y | y | y
        · have := (hI t t1).mp y; omega
        · exact y
        · have a := hgi c t y t1
          have := (hI c (by omega)).mpr (by omega); omega
      subst tc
      rw [m1, if_neg (show ¬ (1 : Int32) = 0 by decide)]
      have hI' : ∀ u, u < s → (u < t + 1 ↔ g u < p + 1) := fun u hu => by
        rcases Nat.lt_trichotomy u t with y | y | y
        · have := (hI u hu).mp y; omega
        · subst y; omega
        · have := hgi t u y hu; omega
      obtain ⟨i1, i2⟩ := ih (p + 1) n (t + 1) (by omega) (by omega) (by omega) hI'
      refine ⟨fun j hj hcj e4 => ?_, fun h => ?_⟩
      · by_cases e : t = j
        · subst e
          rw [e4, if_pos rfl, t2]
        · have ne : ¬ nI t = x4 := fun z => by
            rw [e4] at z
            have h := congrArg Int32.toInt z
            rw [nI_toInt (by omega), nI_toInt (by omega)] at h
            omega
          rw [if_neg ne]; exact i1 j hj (by omega) e4
      · have ne : ¬ nI t = x4 := fun z => by
          rw [← z] at h
          exact nI_ge t1 (by omega) h
        rw [if_neg ne]; exact i2 h
    · rw [m1, if_pos rfl]
      refine ih (p + 1) n c (by omega) (by omega) hc (fun t ht => ?_)
      have a := hI t ht
      have b := m2 t ht
      constructor
      · intro z; have := a.mp z; omega
      · intro z; exact a.mpr (by omega)
theorem sim_matched {σ τ : St} (hI : Inv σ τ) (x1 x2 x3 x4 : Int32) : ∃ (r : Int32) (σ1 τ1 : St), fX10_matched x1 x2 x3 x4 σ = some (r, σ1) ∧ fX11_matched x1 x2 x3 x4 τ = some (r, τ1) ∧ Inv σ1 τ1 := by
  unfold fX10_matched fX11_matched
  obtain ⟨v, v1, v2, v3⟩ := sr_v x1 x2 x3 σ τ
  rw [cal_e v1, cal_e v2]
  rcases v3 with e | e | e | ⟨e, s, d, hs1, hs, hd, e2, e3⟩
  · subst e; exact fin1 hI
  · subst e; exact fin4 hI
  · subst e; exact fin6 hI
  · subst e; subst e2; subst e3
    rw [if_pos rfl, if_pos rfl]
    rcases mt_sim hI x1 hs1 hs hd with ⟨σ', τ', a1, a2, a3, a4⟩ | ⟨σ', τ', np, m, i0, r, wh, a1, a2, a3, a4, a5, a6, a7, a8, a9, a10, a11, a12, a13, a14, a15, a16, a17⟩
    · rw [cal_e a1, cal_e a2, if_pos rfl, if_pos (show (-9 : Int32) < 0 by decide)]
      exact ⟨-9, σ', τ', rfl, rfl, hI.scr (a3.mono scC_mt) (a4.mono scM_mt)⟩
    · have lk := lck_le r wh i0 s
      have e18 : τ' 0 18 = nI np := by rw [a4 0 (by decide)]; exact a7
      obtain ⟨σ2, g, b1, b2, b3, b4⟩ := so_w (g0 := fun t => r (i0 + t)) hs (fun t ht => by have := a11 (i0 + t) (by omega); show r (i0 + t) < 80; omega) (s - 1) 1 FU σ' (fun t => r (i0 + t)) (by omega) (fu_lt (by omega)) a14 a16 ⟨fun a b h1 h2 => by omega, fun a b ha hb h => by have := a12 (i0 + a) (i0 + b) (by omega) (by omega) h; omega, fun t ht => ⟨t, ht, rfl⟩, fun t ht => ⟨t, ht, rfl⟩⟩
      have b1' : fX3_sortByNumber σ' = some (0, σ2) := by
        unfold fX3_sortByNumber; exact b1
      have hmk : ∀ k, k < np → (τ' 31 k = 1 ∧ ∃ t, t < s ∧ g t = k) ∨ (τ' 31 k = 0 ∧ ∀ t, t < s → g t ≠ k) := fun k hk => by
        rcases a17 k hk with ⟨y1, t, y2, y3, y4⟩ | ⟨y1, y2⟩
        · left
          obtain ⟨u, u1, u2⟩ := b4.2.2.2 (t - i0) (by omega)
          refine ⟨y1, u, u1, ?_⟩
          rw [u2]
          show r (i0 + (t - i0)) = k
          rw [show i0 + (t - i0) = t by omega]; exact y4
        · right
          refine ⟨y1, fun t ht z => ?_⟩
          obtain ⟨u, u1, u2⟩ := b4.2.2.1 t ht
          exact y2 (i0 + u) (by omega) (by omega) (by rw [← z, u2])
      have hgn : ∀ t, t < s → g t < np := fun t ht => by
        obtain ⟨u, u1, u2⟩ := b4.2.2.1 t ht
        rw [u2]; exact a11 (i0 + u) (by omega)
      obtain ⟨w1, w2⟩ := mm_w (x4 := x4) a5 e18 hs b4.1 hgn hmk np 0 FU 0 (by omega) (fu_lt (by omega)) (by omega) (fun t ht => by omega)
      rw [cal_e a1, cal_e a2, if_neg (show ¬ (1 : Int32) = 0 by decide), if_neg (nI_pos (by omega)), a14]
      by_cases c0 : x4 < 0 ∨ nI s ≤ x4
      · rw [wi_f c0]
        refine ⟨-9, σ', τ', rfl, ?_, hI.scr (a3.mono scC_mt) (a4.mono scM_mt)⟩
        by_cases c1 : x4 < 0
        · rw [if_neg (fun z => i32_nle.mpr c1 z)]
        · rw [if_pos (i32_nlt.mp c1)]
          exact w2 (c0.resolve_left c1)
      · rw [wi_t c0]
        obtain ⟨j, j1, j2⟩ := ix_of rfl (by omega) c0
        have h0 : (0 : Int32) ≤ x4 := i32_nlt.mp (fun z => c0 (Or.inl z))
        rw [if_pos h0, cal_e b1']
        refine ⟨nI (g j), σ2, τ', ?_, w1 j j1 (by omega) j2, hI.scr ((a3.mono scC_mt).tr (b2.mono (by decide))) (a4.mono scM_mt)⟩
        rw [j2, rd_nI (by omega) (by decide), b3 j j1]
