def bst (r wh : Nat → Nat) (np m s d w : Nat) (x4 : Int32) (f : Nat → Int32) : Prop := (x4 = -9 ∧ ∀ w' i', w' < w → ¬ vw r wh m s d w' i') ∨ ∃ w0 i0, w0 < w ∧ vw r wh m s d w0 i0 ∧ x4 = nI (lck r wh i0 s) ∧ mkd f r np i0 (i0 + s) ∧ ∀ w' i', w0 < w' → w' < w → ¬ vw r wh m s d w' i'
theorem bst.no {r wh : Nat → Nat} {np m s d w : Nat} {x4 : Int32} {f : Nat → Int32} (h : bst r wh np m s d w x4 f) (hn : ∀ i', ¬ vw r wh m s d w i') : bst r wh np m s d (w + 1) x4 f := by
  rcases h with ⟨h1, h2⟩ | ⟨w0, i0, h1, h2, h3, h4, h5⟩
  · refine Or.inl ⟨h1, fun w' i' hw => ?_⟩
    by_cases e : w' = w
    · rw [e]; exact hn i'
    · exact h2 w' i' (by omega)
  · refine Or.inr ⟨w0, i0, by omega, h2, h3, h4, fun w' i' ha hw => ?_⟩
    by_cases e : w' = w
    · rw [e]; exact hn i'
    · exact h5 w' i' ha (by omega)
theorem mkd.cp {f g : Nat → Int32} {r : Nat → Nat} {np a b : Nat} (h : mkd f r np a b) (e : ∀ k, k < np → g k = f k) : mkd g r np a b := by
  intro k hk
  rw [e k hk]
  exact h k hk
theorem mw_step {τ0 : St} {x x4 : Int32} {np m s d w : Nat} {r wh : Nat → Nat} (hnp : np ≤ 80) (h18 : τ0 0 18 = nI np) (hI : rowI (cdM τ0 x) wh np m r) (hw : ∀ k, k < np → cdM τ0 x k → τ0 12 k = nI (wh k) ∧ wh k ≤ 100) (hs1 : 1 ≤ s) (hs : s ≤ 12) (hd : d ≤ 100) (hw1 : w ≤ 100) (k7 : Int32 → Int32 → Int32 → Int32 → Int32 → St → Option (Int32 × St)) (τ : St) (ho : Off [31, 32] τ0 τ) (hb : bst r wh np m s d w x4 (τ 31)) : ∃ (τ' : St) (x4' : Int32), fX11_matches_b26 k7 FU x (nI s) (nI d) x4 (nI w) 0 0 0 0 τ = k7 x (nI s) (nI d) x4' (nI (w + 1)) τ' ∧ Off [31, 32] τ0 τ' ∧ bst r wh np m s d (w + 1) x4' (τ' 31) := by
  have hw' : ∀ t, t < m → wh (r t) ≤ 100 := fun t ht => (hw _ (hI.1 t ht).1 (hI.1 t ht).2).2
  obtain ⟨iw, hiw⟩ := ptr.ex hI.so ((w : Nat) : Int)
  obtain ⟨τ1, a1, a2, a3, a4⟩ := ms_0 (x := x) (x2 := nI s) (x3 := nI d) (x4 := x4) (x5 := nI w) (x6 := 0) (x7 := 0) (x8 := 0) (f31 := τ 31) hnp h18 k7 np 0 FU τ (by omega) (fu_lt (by omega)) ho rfl (fun k' h => by omega)
  have a1' : fX11_matches_b26 k7 FU x (nI s) (nI d) x4 (nI w) 0 0 0 0 τ = _ := a1
  have hS0 : mS r wh np m s d w iw 0 0 (τ1 32) := ⟨by omega, hiw.1, fun k hk => Or.inr ⟨a4 k hk, fun t t1 t2 => by omega⟩, fun t t1 t2 => by omega, Or.inr ⟨rfl, fun z => by omega⟩⟩
  have e0 : ((w : Int) - ((0 : Nat) : Int)) = (w : Int) := by omega
  obtain ⟨τ2, c, fl, b1, b2, b3, b4, b5⟩ := ms_v (x4 := x4) (f31 := τ 31) hnp h18 hI hw hs hd hw1 hiw k7 (d + 1) 0 FU (nI w) τ1 0 0 (by omega) (fu_lt (by omega)) (by rw [nI_toInt (by omega), e0]) a2 a3 hS0 (Or.inr (by rw [e0]; exact hiw))
  have b1' : fX11_matches_b53 k7 FU x (nI s) (nI d) x4 (nI w) 0 0 0 (nI w) τ1 = _ := b1
  rw [a1', b1']
  unfold fX11_matches_b163
  rw [nI_1]
  obtain ⟨c1, c2, c3, c4, c5⟩ := b4
  by_cases d1 : c < s
  · rw [if_pos (nI_lt d1 (by omega))]
    refine ⟨τ2, x4, rfl, b2, ?_⟩
    rw [b3]
    refine hb.no (fun i' hv => ?_)
    obtain rfl := ptr.uni hiw hv.1
    rcases b5 with q | q
    · omega
    · have v1 := hv.2.1.1
      have v2 := hv.2.1.2
      have v3 := hv.2.2
      have := (q.2 (iw + s - 1) (by omega)).mpr (Or.inl (by omega))
      omega
  · have ecs : c = s := by omega
    subst ecs
    rw [if_neg (nI_nlt (by omega) (by omega))]
    rcases c5 with ⟨f1, f2, f3⟩ | ⟨f1, f2⟩
    · have hv : vw r wh m c d w iw := ⟨hiw, ⟨c2, by rw [f3]; exact c4 (iw + c - 1) (by omega) (by omega)⟩, f3⟩
      obtain ⟨τ3, g1, g2, g3⟩ := ms_c (x := x) (x2 := nI c) (x3 := nI d) (x4 := nI (lck r wh iw c)) (x5 := nI w) hnp (show τ2 0 18 = nI np by rw [b2 0 (by decide)]; exact h18) (fun k hk => by
        rcases c3 k hk with z | z
        · exact Or.inr z.1
        · exact Or.inl z.1) k7 np 0 FU τ2 (by omega) (fu_lt (by omega)) (Off.rf _ _) (fun k' h => by omega)
      have g1' : fX11_matches_b196 k7 FU x (nI c) (nI d) (nI (lck r wh iw c)) (nI w) 0 τ2 = _ := g1
      have fin : ∃ (τ' : St) (x4' : Int32), fX11_matches_b196 k7 FU x (nI c) (nI d) (nI (lck r wh iw c)) (nI w) 0 τ2 = k7 x (nI c) (nI d) x4' (nI (w + 1)) τ' ∧ Off [31, 32] τ0 τ' ∧ bst r wh np m c d (w + 1) x4' (τ' 31) := by
        refine ⟨τ3, _, by rw [g1', nI_1], b2.tr (g2.mono (by decide)), Or.inr ⟨w, iw, by omega, hv, rfl, c3.cp g3, fun w' i' h1 h2 => by omega⟩⟩
      rw [f1, if_neg (show ¬ (1 : Int32) = 0 by decide)]
      rcases hb with ⟨p1, p2⟩ | ⟨w0, i0, p1, p2, p3, p4, p5⟩
      · rw [p1, if_pos (show (-9 : Int32) < 0 by decide)]
        exact fin
      · have lt0 := vw_mono hs1 hI.so hw' hv p2 p1
        have b0 := lck_le r wh i0 c
        rw [p3, if_neg (nI_pos (by omega)), if_pos (nI_lt lt0 (by omega))]
        exact fin
    · rw [f1, if_pos rfl]
      refine ⟨τ2, x4, rfl, b2, ?_⟩
      rw [b3]
      refine hb.no (fun i' hv => f2 ⟨by omega, ?_⟩)
      obtain rfl := ptr.uni hiw hv.1
      exact hv.2.2
theorem mw_w {τ0 : St} {x : Int32} {np m s d : Nat} {r wh : Nat → Nat} (hnp : np ≤ 80) (h18 : τ0 0 18 = nI np) (hI : rowI (cdM τ0 x) wh np m r) (hw : ∀ k, k < np → cdM τ0 x k → τ0 12 k = nI (wh k) ∧ wh k ≤ 100) (hs1 : 1 ≤ s) (hs : s ≤ 12) (hd : d ≤ 100) : ∀ q w n (τ : St) (x4 : Int32), w + q = 101 → q < n → Off [31, 32] τ0 τ → bst r wh np m s d w x4 (τ 31) → ∃ (τ' : St) (x4' : Int32), fX11_matches_b7 n x (nI s) (nI d) x4 (nI w) τ = some (x4', τ') ∧ Off [31, 32] τ0 τ' ∧ bst r wh np m s d 101 x4' (τ' 31) := by
  intro q
  induction q with
  | zero =>
    intro w n τ x4 hq hn ho hb
    obtain ⟨n, rfl⟩ : ∃ q, n = q + 1 := ⟨n - 1, by omega⟩
    obtain rfl : w = 101 := by omega
    exact ⟨τ, x4, by rw [fX11_matches_b7, if_pos (show (100 : Int32) < nI 101 by decide)], ho, hb⟩
  | succ q ih =>
    intro w n τ x4 hq hn ho hb
    obtain ⟨n, rfl⟩ : ∃ q, n = q + 1 := ⟨n - 1, by omega⟩
    have l1 : ¬ (100 : Int32) < nI w := by
      rw [show (100 : Int32) = nI 100 from rfl]; exact nI_nlt (by omega) (by decide)
    obtain ⟨τ1, x41, z1, z2, z3⟩ := mw_step hnp h18 hI hw hs1 hs hd (show w ≤ 100 by omega) (fun a0 a1 a2 a3 a4 u => fX11_matches_b7 n a0 a1 a2 a3 a4 u) τ ho hb
    obtain ⟨τ2, x42, y1, y2, y3⟩ := ih (w + 1) n τ1 x41 (by omega) (by omega) z2 z3
    refine ⟨τ2, x42, ?_, y2, y3⟩
    rw [fX11_matches_b7, if_neg l1, z1]
    exact y1
theorem matches_v {τ : St} {x : Int32} {np m s d : Nat} {r wh : Nat → Nat} (hnp : np ≤ 80) (h18 : τ 0 18 = nI np) (hI : rowI (cdM τ x) wh np m r) (hw : ∀ k, k < np → cdM τ x k → τ 12 k = nI (wh k) ∧ wh k ≤ 100) (hs1 : 1 ≤ s) (hs : s ≤ 12) (hd : d ≤ 100) : (∃ τ' : St, fX11_matches x (nI s) (nI d) τ = some (-9, τ') ∧ Off [31, 32] τ τ' ∧ ∀ i, ¬ vld r wh m s d i) ∨ ∃ (τ' : St) (i0 : Nat), fX11_matches x (nI s) (nI d) τ = some (nI (lck r wh i0 s), τ') ∧ Off [31, 32] τ τ' ∧ vld r wh m s d i0 ∧ (∀ i', i' < i0 → ¬ vld r wh m s d i') ∧ mkd (τ' 31) r np i0 (i0 + s) := by
  have hw' : ∀ t, t < m → wh (r t) ≤ 100 := fun t ht => (hw _ (hI.1 t ht).1 (hI.1 t ht).2).2
  obtain ⟨τ', x4', z1, z2, z3⟩ := mw_w hnp h18 hI hw hs1 hs hd 101 0 FU τ (-9) (by omega) (fu_lt (by omega)) (Off.rf _ _) (Or.inl ⟨rfl, fun w' i' h => by omega⟩)
  have z1' : fX11_matches x (nI s) (nI d) τ = some (x4', τ') := by
    unfold fX11_matches; exact z1
  have b101 : ∀ w i, vw r wh m s d w i → w < 101 := fun w i hv => by
    have a := hv.2.2
    have := hw' i (by have := hv.2.1.1; omega)
    omega
  rcases z3 with ⟨p1, p2⟩ | ⟨w0, i0, p1, p2, p3, p4, p5⟩
  · left
    refine ⟨τ', by rw [z1', p1], z2, ?_⟩
    have key : ∀ q i, i ≤ q → ¬ vld r wh m s d i := by
      intro q
      induction q with
      | zero =>
        intro i hi hv
        obtain rfl : i = 0 := by omega
        have v := vw_first hs1 hI.so hv (fun i' h => by omega)
        exact p2 _ _ (b101 _ _ v) v
      | succ q ih =>
        intro i hi hv
        have v := vw_first hs1 hI.so hv (fun i' h => ih i' (by omega))
        exact p2 _ _ (b101 _ _ v) v
    exact fun i => key i i (Nat.le_refl _)
  · right
    refine ⟨τ', i0, by rw [z1', p3], z2, p2.2.1, ?_, p4⟩
    exact vw_max hs1 hI.so p2 (fun w' i' h hv => p5 w' i' h (b101 _ _ hv) hv)
