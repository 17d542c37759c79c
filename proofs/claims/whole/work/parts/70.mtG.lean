def cdM (τ : St) (x : Int32) : Nat → Prop := fun k => τ 7 k = x ∧ (τ 9 k = 1 ∨ τ 9 k = 2)
theorem iw_v {τ : St} {k : Nat} (hk : k < 80) (x : Int32) : fX11_isWhole (nI k) x τ = some (if τ 7 k = x ∧ (τ 9 k = 1 ∨ τ 9 k = 2) then 1 else 0, τ) := by
  unfold fX11_isWhole
  rw [rd_nI hk (by decide), rd_nI hk (by decide), rd_nI hk (by decide)]
  by_cases h0 : τ 7 k = x
  · rw [if_pos h0]
    by_cases h1 : τ 9 k = 1
    · rw [if_pos h1, if_pos ⟨h0, Or.inl h1⟩]; rfl
    · rw [if_neg h1]
      by_cases h2 : τ 9 k = 2
      · rw [if_pos h2, if_pos ⟨h0, Or.inr h2⟩]; rfl
      · rw [if_neg h2, if_neg (fun h => h.2.elim h1 h2)]; rfl
  · rw [if_neg h0, if_neg (fun h => h0 h.1)]; rfl
theorem nb0 : vp_nar .boolean 0 = 0 := rfl
theorem nb1 : vp_nar .boolean 1 = 1 := rfl
def mkd (f : Nat → Int32) (r : Nat → Nat) (np a b : Nat) : Prop := ∀ k, k < np → (f k = 1 ∧ ∃ t, a ≤ t ∧ t < b ∧ r t = k) ∨ (f k = 0 ∧ ∀ t, a ≤ t → t < b → r t ≠ k)
def mS (r wh : Nat → Nat) (np m s d w iw c : Nat) (fl : Int32) (f : Nat → Int32) : Prop := c ≤ s ∧ iw + c ≤ m ∧ mkd f r np iw (iw + c) ∧ (∀ t, iw ≤ t → t < iw + c → w ≤ wh (r t) + d) ∧ ((fl = 1 ∧ 0 < c ∧ wh (r iw) = w) ∨ (fl = 0 ∧ ¬ (0 < c ∧ wh (r iw) = w)))
theorem mkd.up {f : Nat → Int32} {r : Nat → Nat} {np a b : Nat} (h : mkd f r np a b) (hab : a ≤ b) : mkd (upd f (r b) 1) r np a (b + 1) := by
  intro k hk
  by_cases e : k = r b
  · subst e
    rw [upd_s]
    exact Or.inl ⟨rfl, b, hab, by omega, rfl⟩
  · rw [upd_n _ _ e]
    rcases h k hk with ⟨h1, t, t1, t2, t3⟩ | ⟨h1, h2⟩
    · exact Or.inl ⟨h1, t, t1, by omega, t3⟩
    · refine Or.inr ⟨h1, fun t t1 t2 => ?_⟩
      by_cases q : t = b
      · rw [q]; exact fun z => e z.symm
      · exact h2 t t1 (by omega)
theorem mS.take {cand : Nat → Prop} {r wh : Nat → Nat} {np m s d w iw c j : Nat} {fl : Int32} {f : Nat → Int32} (hI : rowI cand wh np m r) (hiw : ptr r wh m w 0 iw) (h : mS r wh np m s d w iw c fl f) (hc : c < s) (hm : iw + c < m) (hv : (wh (r (iw + c)) : Int) = (w : Int) - (j : Int)) (hj : j ≤ d) : (j = 0 → mS r wh np m s d w iw (c + 1) 1 (upd f (r (iw + c)) 1)) ∧ (j ≠ 0 → mS r wh np m s d w iw (c + 1) fl (upd f (r (iw + c)) 1)) := by
  obtain ⟨h1, h2, h3, h4, h5⟩ := h
  have h3' := h3.up (by omega)
  have h4' : ∀ t, iw ≤ t → t < iw + (c + 1) → w ≤ wh (r t) + d := fun t t1 t2 => by
    by_cases e : t = iw + c
    · subst e; omega
    · exact h4 t t1 (by omega)
  have so := hI.so iw (iw + c) (by omega) (by omega)
  have i1 := (hiw.2 iw (by omega))
  have top : wh (r iw) ≤ w := by omega
  constructor
  · intro e
    refine ⟨by omega, by omega, h3', h4', Or.inl ⟨rfl, by omega, by omega⟩⟩
  · intro e
    refine ⟨by omega, by omega, h3', h4', ?_⟩
    rcases h5 with ⟨a, b1, b2⟩ | ⟨a, b⟩
    · exact Or.inl ⟨a, by omega, b2⟩
    · refine Or.inr ⟨a, fun q => b ⟨?_, q.2⟩⟩
      rcases Nat.eq_zero_or_pos c with z | z
      · subst z
        rw [Nat.add_zero] at hv
        have := q.2
        omega
      · exact z
theorem i32_ext {a b : Int32} (h : a.toInt = b.toInt) : a = b := Int32.toInt_inj.mp h
theorem ms_k {τ0 : St} {x x4 x9 : Int32} {np m s d w iw j : Nat} {r wh : Nat → Nat} {f31 : Nat → Int32} (hnp : np ≤ 80) (h18 : τ0 0 18 = nI np) (hI : rowI (cdM τ0 x) wh np m r) (hw : ∀ k, k < np → cdM τ0 x k → τ0 12 k = nI (wh k) ∧ wh k ≤ 100) (hs : s ≤ 12) (hw1 : w ≤ 100) (hiw : ptr r wh m w 0 iw) (hj : j ≤ d) (e9 : x9.toInt = (w : Int) - (j : Int)) (k7 : Int32 → Int32 → Int32 → Int32 → Int32 → St → Option (Int32 × St)) (k53 : Int32 → Int32 → Int32 → Int32 → Int32 → Int32 → Int32 → Int32 → Int32 → St → Option (Int32 × St)) : ∀ q k n (τ : St) c (fl : Int32), k + q = np → q < n → Off [31, 32] τ0 τ → τ 31 = f31 → mS r wh np m s d w iw c fl (τ 32) → ptr r wh m ((w : Int) - (j : Int)) k (iw + c) → ∃ (τ' : St) (c' : Nat) (fl' : Int32), fX11_matches_b71 k7 k53 n x (nI s) (nI d) x4 (nI w) (nI (lck r wh iw c)) (nI c) fl x9 (nI k) τ = k53 x (nI s) (nI d) x4 (nI w) (nI (lck r wh iw c')) (nI c') fl' (x9 + (-1)) τ' ∧ Off [31, 32] τ0 τ' ∧ τ' 31 = f31 ∧ mS r wh np m s d w iw c' fl' (τ' 32) ∧ (c' = s ∨ ptr r wh m ((w : Int) - (j : Int) - 1) 0 (iw + c')) := by
  intro q
  induction q with
  | zero =>
    intro k n τ c fl hk hn ho h31 hS hp
    obtain ⟨n, rfl⟩ : ∃ q, n = q + 1 := ⟨n - 1, by omega⟩
    obtain rfl : k = np := by omega
    refine ⟨τ, c, fl, ?_, ho, h31, hS, Or.inr (hp.next hI)⟩
    rw [fX11_matches_b71, ho 0 (by decide), h18, if_pos (nI_le (Nat.le_refl _) (by omega))]
  | succ q ih =>
    intro k n τ c fl hk hn ho h31 hS hp
    obtain ⟨n, rfl⟩ : ∃ q, n = q + 1 := ⟨n - 1, by omega⟩
    have l1 : ¬ nI np ≤ nI k := nI_ge (by omega) (by omega)
    have hcs := hS.1
    rw [fX11_matches_b71, ho 0 (by decide), h18, if_neg l1]
    by_cases c0 : s ≤ c
    · rw [if_pos (nI_le c0 (by omega))]
      exact ⟨τ, c, fl, rfl, ho, h31, hS, Or.inl (by omega)⟩
    · have l2 : ¬ nI s ≤ nI c := nI_ge (by omega) (by omega)
      have e7 : τ 7 = τ0 7 := ho 7 (by decide)
      have e9' : τ 9 = τ0 9 := ho 9 (by decide)
      have e12 : τ 12 = τ0 12 := ho 12 (by decide)
      rw [if_neg l2, cal_e (iw_v (by omega) x), e7, e9', nI_1]
      by_cases c1 : τ0 7 k = x ∧ (τ0 9 k = 1 ∨ τ0 9 k = 2)
      · have hk1 := hw k (by omega) c1
        rw [if_pos c1, if_neg (show ¬ (1 : Int32) = 0 by decide), rd_nI (by omega) (by decide), e12, hk1.1]
        by_cases c2 : nI (wh k) = x9
        · have hv : (wh k : Int) = (w : Int) - (j : Int) := by rw [← e9, ← c2, nI_toInt (by omega)]
          obtain ⟨p1, p2, p3⟩ := ptr.cur hI (by omega) c1 hv hp
          have hv' : (wh (r (iw + c)) : Int) = (w : Int) - (j : Int) := by rw [p2]; exact hv
          obtain ⟨t1, t2⟩ := hS.take hI hiw (by omega) p1 hv' hj
          rw [p2] at t1 t2
          have e100 : (100 : Int32) - x9 = nI (100 - wh k) := by
            rw [← c2, show (100 : Int32) = nI 100 from rfl, pk_sub hk1.2]
          have elk : nI (lck r wh iw c) + nI (100 - wh k) = nI (lck r wh iw (c + 1)) := by
            rw [nI_add, lck, p2]
          have ho' : Off [31, 32] τ0 (up2 τ 32 k 1) := ho.up (by decide) _ _
          rw [if_pos c2, wb_nI (by omega) (by decide), nb1, lt_e, e100, elk, nI_1]
          have p3' : ptr r wh m ((w : Int) - (j : Int)) (k + 1) (iw + (c + 1)) := p3
          by_cases cj : j = 0
          · have e5 : x9 = nI w := by rw [← c2]; congr 1; omega
            have z := ih (k + 1) n (up2 τ 32 k 1) (c + 1) 1 (by omega) (by omega) ho' h31 (t1 cj) p3'
            by_cases f0 : fl = 0
            · rw [if_pos f0, if_pos e5]; exact z
            · rw [if_neg f0]; exact z
          · have e5 : ¬ x9 = nI w := fun z => by
              have : x9.toInt = (w : Int) := by rw [z, nI_toInt (by omega)]
              omega
            have z := ih (k + 1) n (up2 τ 32 k 1) (c + 1) fl (by omega) (by omega) ho' h31 (t2 cj) p3'
            by_cases f0 : fl = 0
            · rw [if_pos f0, if_neg e5]; rw [f0] at z; exact z
            · have f1 : fl = 1 := by
                rcases hS.2.2.2.2 with a | a
                · exact a.1
                · exact absurd a.1 f0
              rw [if_neg f0]; rw [f1] at z; exact z
        · rw [if_neg c2]
          exact ih (k + 1) n τ c fl (by omega) (by omega) ho h31 hS (hp.skip hI (fun z => c2 (i32_ext (by rw [nI_toInt (by omega), e9]; exact z.2))))
      · rw [if_neg c1, if_pos rfl]
        exact ih (k + 1) n τ c fl (by omega) (by omega) ho h31 hS (hp.skip hI (fun z => c1 z.1))
theorem ms_v {τ0 : St} {x x4 : Int32} {np m s d w iw : Nat} {r wh : Nat → Nat} {f31 : Nat → Int32} (hnp : np ≤ 80) (h18 : τ0 0 18 = nI np) (hI : rowI (cdM τ0 x) wh np m r) (hw : ∀ k, k < np → cdM τ0 x k → τ0 12 k = nI (wh k) ∧ wh k ≤ 100) (hs : s ≤ 12) (hd : d ≤ 100) (hw1 : w ≤ 100) (hiw : ptr r wh m w 0 iw) (k7 : Int32 → Int32 → Int32 → Int32 → Int32 → St → Option (Int32 × St)) : ∀ q j n (x9 : Int32) (τ : St) c (fl : Int32), j + q = d + 1 → q < n → x9.toInt = (w : Int) - (j : Int) → Off [31, 32] τ0 τ → τ 31 = f31 → mS r wh np m s d w iw c fl (τ 32) → (c = s ∨ ptr r wh m ((w : Int) - (j : Int)) 0 (iw + c)) → ∃ (τ' : St) (c' : Nat) (fl' : Int32), fX11_matches_b53 k7 n x (nI s) (nI d) x4 (nI w) (nI (lck r wh iw c)) (nI c) fl x9 τ = fX11_matches_b163 k7 x (nI s) (nI d) x4 (nI w) (nI (lck r wh iw c')) (nI c') fl' τ' ∧ Off [31, 32] τ0 τ' ∧ τ' 31 = f31 ∧ mS r wh np m s d w iw c' fl' (τ' 32) ∧ (c' = s ∨ ptr r wh m ((w : Int) - (d : Int) - 1) 0 (iw + c')) := by
  have ewd : (nI w - nI d).toInt = (w : Int) - (d : Int) := by
    rw [i32_sub, nI_toInt (by omega), nI_toInt (by omega)] <;> rw [nI_toInt (by omega), nI_toInt (by omega)] <;> omega
  intro q
  induction q with
  | zero =>
    intro j n x9 τ c fl hj hn e9 ho h31 hS hp
    obtain ⟨n, rfl⟩ : ∃ q, n = q + 1 := ⟨n - 1, by omega⟩
    refine ⟨τ, c, fl, ?_, ho, h31, hS, ?_⟩
    · rw [fX11_matches_b53, if_pos (by rw [Int32.lt_iff_toInt_lt, e9, ewd]; omega)]
    · rcases hp with a | a
      · exact Or.inl a
      · right
        rw [show (w : Int) - (d : Int) - 1 = (w : Int) - (j : Int) by omega]; exact a
  | succ q ih =>
    intro j n x9 τ c fl hj hn e9 ho h31 hS hp
    obtain ⟨n, rfl⟩ : ∃ q, n = q + 1 := ⟨n - 1, by omega⟩
    have hcs := hS.1
    rw [fX11_matches_b53, if_neg (by rw [Int32.lt_iff_toInt_lt, e9, ewd]; omega)]
    by_cases c0 : s ≤ c
    · rw [if_pos (nI_le c0 (by omega))]
      exact ⟨τ, c, fl, rfl, ho, h31, hS, Or.inl (by omega)⟩
    · have hp' : ptr r wh m ((w : Int) - (j : Int)) 0 (iw + c) := by
        rcases hp with a | a
        · omega
        · exact a
      have l2 : ¬ nI s ≤ nI c := nI_ge (by omega) (by omega)
      rw [if_neg l2]
      obtain ⟨τ1, c1, fl1, z1, z2, z3, z4, z5⟩ := ms_k (x4 := x4) (d := d) (f31 := f31) hnp h18 hI hw hs hw1 hiw (show j ≤ d by omega) e9 k7 (fun a0 a1 a2 a3 a4 a5 a6 a7 a8 u => fX11_matches_b53 k7 n a0 a1 a2 a3 a4 a5 a6 a7 a8 u) np 0 FU τ c fl (by omega) (fu_lt (by omega)) ho h31 hS hp'
      have z1' : fX11_matches_b71 k7 (fun a0 a1 a2 a3 a4 a5 a6 a7 a8 u => fX11_matches_b53 k7 n a0 a1 a2 a3 a4 a5 a6 a7 a8 u) FU x (nI s) (nI d) x4 (nI w) (nI (lck r wh iw c)) (nI c) fl x9 0 τ = _ := z1
      rw [z1']
      have em1 : (x9 + (-1)).toInt = (w : Int) - ((j + 1 : Nat) : Int) := by
        have e1 : (-1 : Int32).toInt = -1 := rfl
        rw [i32_add, e1, e9] <;> (try rw [e1, e9]) <;> omega
      exact ih (j + 1) n (x9 + (-1)) τ1 c1 fl1 (by omega) (by omega) em1 z2 z3 z4 (by
        rcases z5 with a | a
        · exact Or.inl a
        · right
          rw [show (w : Int) - ((j + 1 : Nat) : Int) = (w : Int) - (j : Int) - 1 by omega]; exact a)
theorem ms_0 {τ0 : St} {x x2 x3 x4 x5 x6 x7 x8 : Int32} {np : Nat} {f31 : Nat → Int32} (hnp : np ≤ 80) (h18 : τ0 0 18 = nI np) (k7 : Int32 → Int32 → Int32 → Int32 → Int32 → St → Option (Int32 × St)) : ∀ q k n (τ : St), k + q = np → q < n → Off [31, 32] τ0 τ → τ 31 = f31 → (∀ k', k' < k → τ 32 k' = 0) → ∃ τ' : St, fX11_matches_b26 k7 n x x2 x3 x4 x5 x6 x7 x8 (nI k) τ = fX11_matches_b53 k7 FU x x2 x3 x4 x5 x6 x7 x8 x5 τ' ∧ Off [31, 32] τ0 τ' ∧ τ' 31 = f31 ∧ ∀ k', k' < np → τ' 32 k' = 0 := by
  intro q
  induction q with
  | zero =>
    intro k n τ hk hn ho h31 hz
    obtain ⟨n, rfl⟩ : ∃ q, n = q + 1 := ⟨n - 1, by omega⟩
    obtain rfl : k = np := by omega
    refine ⟨τ, ?_, ho, h31, hz⟩
    rw [fX11_matches_b26, ho 0 (by decide), h18, if_pos (nI_le (Nat.le_refl _) (by omega))]
  | succ q ih =>
    intro k n τ hk hn ho h31 hz
    obtain ⟨n, rfl⟩ : ∃ q, n = q + 1 := ⟨n - 1, by omega⟩
    have l1 : ¬ nI np ≤ nI k := nI_ge (by omega) (by omega)
    rw [fX11_matches_b26, ho 0 (by decide), h18, if_neg l1, wb_nI (by omega) (by decide), nb0, nI_1]
    refine ih (k + 1) n (up2 τ 32 k 0) (by omega) (by omega) (ho.up (by decide) _ _) h31 (fun k' hk' => ?_)
    show upd (τ 32) k 0 k' = 0
    by_cases e : k' = k
    · rw [e, upd_s]
    · rw [upd_n _ _ e]; exact hz k' (by omega)
theorem ms_c {τ0 : St} {x x2 x3 x4 x5 : Int32} {np : Nat} (hnp : np ≤ 80) (h18 : τ0 0 18 = nI np) (hz : ∀ k, k < np → τ0 32 k = 0 ∨ τ0 32 k = 1) (k7 : Int32 → Int32 → Int32 → Int32 → Int32 → St → Option (Int32 × St)) : ∀ q k n (τ : St), k + q = np → q < n → Off [31] τ0 τ → (∀ k', k' < k → τ 31 k' = τ0 32 k') → ∃ τ' : St, fX11_matches_b196 k7 n x x2 x3 x4 x5 (nI k) τ = k7 x x2 x3 x4 (x5 + 1) τ' ∧ Off [31] τ0 τ' ∧ ∀ k', k' < np → τ' 31 k' = τ0 32 k' := by
  intro q
  induction q with
  | zero =>
    intro k n τ hk hn ho hc
    obtain ⟨n, rfl⟩ : ∃ q, n = q + 1 := ⟨n - 1, by omega⟩
    obtain rfl : k = np := by omega
    refine ⟨τ, ?_, ho, hc⟩
    rw [fX11_matches_b196, ho 0 (by decide), h18, if_pos (nI_le (Nat.le_refl _) (by omega))]
  | succ q ih =>
    intro k n τ hk hn ho hc
    obtain ⟨n, rfl⟩ : ∃ q, n = q + 1 := ⟨n - 1, by omega⟩
    have l1 : ¬ nI np ≤ nI k := nI_ge (by omega) (by omega)
    have e32 : τ 32 = τ0 32 := ho 32 (by decide)
    have en : vp_nar .boolean (τ0 32 k) = τ0 32 k := by
      rcases hz k (by omega) with a | a
      · rw [a]; rfl
      · rw [a]; rfl
    rw [fX11_matches_b196, ho 0 (by decide), h18, if_neg l1, rd_nI (by omega) (by decide), wb_nI (by omega) (by decide), e32, en, nI_1]
    refine ih (k + 1) n (up2 τ 31 k (τ0 32 k)) (by omega) (by omega) (ho.up (by decide) _ _) (fun k' hk' => ?_)
    show upd (τ 31) k (τ0 32 k) k' = τ0 32 k'
    by_cases e : k' = k
    · rw [e, upd_s]
    · rw [upd_n _ _ e]; exact hc k' (by omega)
