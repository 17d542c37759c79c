/-- the secret: what is known before a day, told by sights and talks; D 0..5: hand, half, day of a sight, one, other, day of a talk; D 6: counts, the talk left out -/
def skn (D : Nat → Nat → Nat) (d : Nat) (K : Nat → Nat → Prop) : Nat → Nat → Prop := fun f h => K f h ∨ ∃ k, k < D 6 0 ∧ D 2 k = d ∧ D 0 k = h ∧ D 1 k = f
def tkn (D : Nat → Nat → Nat) (d : Nat) (K : Nat → Nat → Prop) : Nat → Nat → Prop := fun f h => K f h ∨ ∃ k, k < D 6 1 ∧ D 5 k = d ∧ k ≠ D 6 2 ∧ (h = D 3 k ∨ h = D 4 k) ∧ (K f (D 3 k) ∨ K f (D 4 k))
def kd (D : Nat → Nat → Nat) : Nat → Nat → Nat → Prop
  | 0 => fun _ _ => False
  | d + 1 => tkn D d (skn D d (kd D d))
def both (K : Nat → Nat → Prop) : Prop := ∃ h, h < 16 ∧ K 0 h ∧ K 1 h
theorem kd_up {D : Nat → Nat → Nat} {d f h : Nat} (x : kd D d f h) : kd D (d + 1) f h := Or.inl (Or.inl x)
theorem kd_mono {D : Nat → Nat → Nat} {f h d : Nat} (e : Nat) (hde : d ≤ e) (x : kd D d f h) : kd D e f h := by
  induction e with
  | zero => obtain rfl : d = 0 := by omega
            exact x
  | succ e ih =>
    by_cases q : d = e + 1
    · subst q; exact x
    · exact kd_up (ih (by omega))
theorem kd_see {D : Nat → Nat → Nat} {k : Nat} (hk : k < D 6 0) {e : Nat} (he : D 2 k < e) : kd D e (D 1 k) (D 0 k) := kd_mono (d := D 2 k + 1) e (by omega) (Or.inl (Or.inr ⟨k, hk, rfl, rfl, rfl⟩))
theorem kd_l1 {D : Nat → Nat → Nat} {p f h : Nat} (e : Nat) (hpe : p ≤ e) (hn : ∀ k, k < D 6 1 → ¬ (p ≤ D 5 k ∧ D 5 k < e)) (x : kd D e f h) : kd D p f h ∨ ∃ k, k < D 6 0 ∧ D 2 k < e ∧ D 0 k = h ∧ D 1 k = f := by
  induction e with
  | zero => obtain rfl : p = 0 := by omega
            exact Or.inl x
  | succ e ih =>
    by_cases q : p = e + 1
    · subst q; exact Or.inl x
    · rcases x with (x | ⟨k, k1, k2, k3, k4⟩) | ⟨k, k1, k2, k3⟩
      · rcases ih (by omega) (fun k hk hh => hn k hk (by omega)) x with y | ⟨k, k1, k2, k3⟩
        · exact Or.inl y
        · exact Or.inr ⟨k, k1, by omega, k3⟩
      · exact Or.inr ⟨k, k1, by omega, k3, k4⟩
      · exact absurd (show p ≤ D 5 k ∧ D 5 k < e + 1 by omega) (hn k k1)
theorem kd_no {D : Nat → Nat → Nat} {p : Nat} (e : Nat) (hpe : p ≤ e) (hn : ∀ k, k < D 6 1 → ¬ (p ≤ D 5 k ∧ D 5 k < e)) (hs : ∀ k, k < D 6 0 → ¬ (p ≤ D 2 k ∧ D 2 k < e)) (f h : Nat) : kd D e f h ↔ kd D p f h := by
  constructor
  · intro x
    rcases kd_l1 e hpe hn x with y | ⟨k, k1, k2, rfl, rfl⟩
    · exact y
    · exact kd_see k1 (by have := hs k k1; omega)
  · exact fun x => kd_mono e hpe x
theorem both_im {K K' : Nat → Nat → Prop} (h : ∀ f w, K f w → K' f w) (x : both K) : both K' := by
  obtain ⟨w, h1, h2, h3⟩ := x
  exact ⟨w, h1, h _ _ h2, h _ _ h3⟩
/-- the day of joining, as far as told -/
def Jr (D : Nat → Nat → Nat) (K : Nat → Nat → Prop) (j : Int32) : Prop := (j = -9 ∧ ¬ both K) ∨ ∃ e, e ≤ 4000 ∧ j = nI e ∧ both (kd D (e + 1)) ∧ ¬ both (kd D e)
theorem Jr_same {D : Nat → Nat → Nat} {j j' : Int32} (h : Jr D (kd D 4001) j) (h' : Jr D (kd D 4001) j') : j = j' := by
  have up : ∀ {e}, e ≤ 4000 → both (kd D (e + 1)) → both (kd D 4001) := fun he x => both_im (fun f w q => kd_mono 4001 (by omega) q) x
  rcases h with ⟨a, b⟩ | ⟨e, e1, e2, e3, e4⟩
  · rcases h' with ⟨a', _⟩ | ⟨e', e1, _, e3, _⟩
    · rw [a, a']
    · exact absurd (up e1 e3) b
  · rcases h' with ⟨_, b⟩ | ⟨e', e1', e2', e3', e4'⟩
    · exact absurd (up e1 e3) b
    · have : e = e' := by
        rcases Nat.lt_or_ge e e' with q | q
        · exact absurd (both_im (fun f w z => kd_mono e' (by omega) z) e3) e4'
        · rcases Nat.lt_or_ge e' e with q' | q'
          · exact absurd (both_im (fun f w z => kd_mono e (by omega) z) e3') e4
          · omega
      rw [e2, e2', this]
def mkR (a : Nat → Int32) (K : Nat → Nat → Prop) : Prop := ∀ w, w < 16 → ∃ v, v < 4 ∧ a w = nI v ∧ ∀ f, f < 2 → (v.testBit f = true ↔ K f w)
def ckR (a : Nat → Int32) (K : Nat → Nat → Prop) : Prop := ∀ f, f < 2 → ∃ b, b < 65536 ∧ a f = nI b ∧ ∀ h, h < 16 → (b.testBit h = true ↔ K f h)
theorem mkR.cg {a : Nat → Int32} {K K' : Nat → Nat → Prop} (h : mkR a K) (e : ∀ f w, f < 2 → w < 16 → (K f w ↔ K' f w)) : mkR a K' := fun w hw => by
  obtain ⟨v, v1, v2, v3⟩ := h w hw
  exact ⟨v, v1, v2, fun f hf => (v3 f hf).trans (e f w hf hw)⟩
theorem ckR.cg {a : Nat → Int32} {K K' : Nat → Nat → Prop} (h : ckR a K) (e : ∀ f w, f < 2 → w < 16 → (K f w ↔ K' f w)) : ckR a K' := fun f hf => by
  obtain ⟨v, v1, v2, v3⟩ := h f hf
  exact ⟨v, v1, v2, fun w hw => (v3 w hw).trans (e f w hf hw)⟩
theorem bt_or (a b : Nat) : nI a ||| nI b = nI (a ||| b) := by
  apply Int32.toBitVec_inj.mp
  rw [Int32.toBitVec_or]
  exact BitVec.ofNat_or.symm
/-- the facts of the data that the loops use -/
def scD (D : Nat → Nat → Nat) (σ τ : St) : Prop :=
  D 6 0 ≤ 32 ∧ D 6 1 ≤ 60 ∧ σ 47 8 = nI (D 6 0) ∧ τ 0 24 = nI (D 6 0) ∧ σ 47 9 = nI (D 6 1) ∧ τ 0 23 = nI (D 6 1) ∧
  (∀ k, k < D 6 0 → σ 48 k = nI (D 0 k) ∧ τ 34 k = nI (D 0 k) ∧ σ 49 k = nI (D 1 k) ∧ τ 35 k = nI (D 1 k) ∧ σ 50 k = nI (D 2 k) ∧ τ 36 k = nI (D 2 k) ∧ D 0 k < 16 ∧ D 1 k < 2 ∧ D 2 k ≤ 4000) ∧
  (∀ i j, i ≤ j → j < D 6 0 → D 2 i ≤ D 2 j) ∧
  (∀ k, k < D 6 1 → σ 51 k = nI (D 3 k) ∧ τ 37 k = nI (D 3 k) ∧ σ 52 k = nI (D 4 k) ∧ τ 38 k = nI (D 4 k) ∧ σ 53 k = nI (D 5 k) ∧ τ 39 k = nI (D 5 k) ∧ D 3 k < 16 ∧ D 4 k < 16 ∧ D 5 k ≤ 4000) ∧
  ∀ i j, i ≤ j → j < D 6 1 → D 5 i ≤ D 5 j
theorem scD.offM {D : Nat → Nat → Nat} {σ τ τ' : St} (h : scD D σ τ) (o : Off [40, 41] τ τ') : scD D σ τ' := by
  have e0 := o 0 (by decide)
  have e1 := o 34 (by decide)
  have e2 := o 35 (by decide)
  have e3 := o 36 (by decide)
  have e4 := o 37 (by decide)
  have e5 := o 38 (by decide)
  have e6 := o 39 (by decide)
  unfold scD at h ⊢
  rw [e0, e1, e2, e3, e4, e5, e6]
  exact h
/-- nextDay -/
def nxt (p : Nat) (S : Nat → Prop) (v : Int32) : Prop := (v = -1 ∧ ∀ e, S e → e < p) ∨ ∃ e, v = nI e ∧ p ≤ e ∧ e ≤ 4000 ∧ ∀ e', S e' → e' < p ∨ e ≤ e'
theorem nxt.cg {p : Nat} {S S' : Nat → Prop} {v : Int32} (h : nxt p S v) (e : ∀ x, S' x → S x) : nxt p S' v := by
  rcases h with ⟨a, b⟩ | ⟨q, a, b, c, d⟩
  · exact Or.inl ⟨a, fun x y => b x (e x y)⟩
  · exact Or.inr ⟨q, a, b, c, fun x y => d x (e x y)⟩
theorem nd_t {D : Nat → Nat → Nat} {σ τ : St} (h : scD D σ τ) {p : Nat} {x : Int32} (hx : ∀ e, e ≤ 4000 → (nI e ≤ x ↔ e < p)) : ∀ q c n v, c + q = D 6 1 → q < n → nxt p (fun e => (∃ k, k < D 6 0 ∧ D 2 k = e) ∨ ∃ k, k < c ∧ D 5 k = e) v → ∃ v', fX11_nextDay_b51 n x v (nI c) τ = some (v', τ) ∧ nxt p (fun e => (∃ k, k < D 6 0 ∧ D 2 k = e) ∨ ∃ k, k < D 6 1 ∧ D 5 k = e) v' := by
  obtain ⟨b1, b2, _, _, _, c4, _, _, c7, _⟩ := h
  intro q
  induction q with
  | zero =>
    intro c n v hc hn hv
    obtain ⟨n, rfl⟩ : ∃ q, n = q + 1 := ⟨n - 1, by omega⟩
    obtain rfl : c = D 6 1 := by omega
    refine ⟨v, ?_, hv⟩
    rw [fX11_nextDay_b51, c4, if_pos (nI_le (Nat.le_refl _) (by omega))]
  | succ q ih =>
    intro c n v hc hn hv
    obtain ⟨n, rfl⟩ : ∃ q, n = q + 1 := ⟨n - 1, by omega⟩
    have l1 : ¬ nI (D 6 1) ≤ nI c := nI_ge (by omega) (by omega)
    obtain ⟨_, _, _, _, _, k6, _, _, k9⟩ := c7 c (by omega)
    rw [fX11_nextDay_b51, c4, if_neg l1, rd_nI (by omega) (by decide), rd_nI (by omega) (by decide), rd_nI (by omega) (by decide), k6, nI_1]
    have sp : ∀ {w : Int32} (e : Nat), ((∃ k, k < D 6 0 ∧ D 2 k = e) ∨ ∃ k, k < c + 1 ∧ D 5 k = e) → ((∃ k, k < D 6 0 ∧ D 2 k = e) ∨ ∃ k, k < c ∧ D 5 k = e) ∨ e = D 5 c := by
      rintro w e (h | ⟨k, k1, k2⟩)
      · exact Or.inl (Or.inl h)
      · by_cases ek : k = c
        · subst ek; exact Or.inr k2.symm
        · exact Or.inl (Or.inr ⟨k, by omega, k2⟩)
    by_cases h1 : D 5 c < p
    · rw [if_pos ((hx _ k9).mpr h1)]
      refine ih (c + 1) n v (by omega) (by omega) ?_
      rcases hv with ⟨a, b⟩ | ⟨e0, a, b, c', d⟩
      · refine Or.inl ⟨a, fun e he => ?_⟩
        rcases sp (w := v) e he with y | y
        · exact b e y
        · omega
      · refine Or.inr ⟨e0, a, b, c', fun e he => ?_⟩
        rcases sp (w := v) e he with y | y
        · exact d e y
        · omega
    · rw [if_neg (fun e => h1 ((hx _ k9).mp e))]
      rcases hv with ⟨a, b⟩ | ⟨e0, a, b, c', d⟩
      · rw [a, if_pos (by decide)]
        refine ih (c + 1) n _ (by omega) (by omega) (Or.inr ⟨D 5 c, rfl, by omega, k9, fun e he => ?_⟩)
        rcases sp (w := v) e he with y | y
        · exact Or.inl (b e y)
        · omega
      · rw [a, if_neg (nI_pos (by omega))]
        by_cases h2 : e0 ≤ D 5 c
        · rw [if_pos (nI_le h2 (by omega))]
          refine ih (c + 1) n _ (by omega) (by omega) (Or.inr ⟨e0, rfl, b, c', fun e he => ?_⟩)
          rcases sp (w := v) e he with y | y
          · exact d e y
          · omega
        · rw [if_neg (nI_ge (by omega) (by omega))]
          refine ih (c + 1) n _ (by omega) (by omega) (Or.inr ⟨D 5 c, rfl, by omega, k9, fun e he => ?_⟩)
          rcases sp (w := v) e he with y | y
          · have := d e y; omega
          · omega
theorem nd_s {D : Nat → Nat → Nat} {σ τ : St} (h : scD D σ τ) {p : Nat} {x : Int32} (hx : ∀ e, e ≤ 4000 → (nI e ≤ x ↔ e < p)) : ∀ q c n v, c + q = D 6 0 → q < n → nxt p (fun e => ∃ k, k < c ∧ D 2 k = e) v → ∃ v', fX11_nextDay_b4 n x v (nI c) τ = some (v', τ) ∧ nxt p (fun e => (∃ k, k < D 6 0 ∧ D 2 k = e) ∨ ∃ k, k < D 6 1 ∧ D 5 k = e) v' := by
  obtain ⟨b1, b2, _, c2, _, c4, c5, _, c7, _⟩ := id h
  intro q
  induction q with
  | zero =>
    intro c n v hc hn hv
    obtain ⟨n, rfl⟩ : ∃ q, n = q + 1 := ⟨n - 1, by omega⟩
    obtain rfl : c = D 6 0 := by omega
    rw [fX11_nextDay_b4, c2, if_pos (nI_le (Nat.le_refl _) (by omega))]
    refine nd_t h hx (D 6 1) 0 FU v (by omega) (fu_lt (by omega)) (hv.cg ?_)
    rintro e (y | ⟨k, y, _⟩)
    · exact y
    · omega
  | succ q ih =>
    intro c n v hc hn hv
    obtain ⟨n, rfl⟩ : ∃ q, n = q + 1 := ⟨n - 1, by omega⟩
    have l1 : ¬ nI (D 6 0) ≤ nI c := nI_ge (by omega) (by omega)
    obtain ⟨_, _, _, _, _, k6, _, _, k9⟩ := c5 c (by omega)
    rw [fX11_nextDay_b4, c2, if_neg l1, rd_nI (by omega) (by decide), rd_nI (by omega) (by decide), rd_nI (by omega) (by decide), k6, nI_1]
    have sp : ∀ (e : Nat), (∃ k, k < c + 1 ∧ D 2 k = e) → (∃ k, k < c ∧ D 2 k = e) ∨ e = D 2 c := by
      rintro e ⟨k, k1, k2⟩
      by_cases ek : k = c
      · subst ek; exact Or.inr k2.symm
      · exact Or.inl ⟨k, by omega, k2⟩
    by_cases h1 : D 2 c < p
    · rw [if_pos ((hx _ k9).mpr h1)]
      refine ih (c + 1) n v (by omega) (by omega) ?_
      rcases hv with ⟨a, b⟩ | ⟨e0, a, b, c', d⟩
      · refine Or.inl ⟨a, fun e he => ?_⟩
        rcases sp e he with y | y
        · exact b e y
        · omega
      · refine Or.inr ⟨e0, a, b, c', fun e he => ?_⟩
        rcases sp e he with y | y
        · exact d e y
        · omega
    · rw [if_neg (fun e => h1 ((hx _ k9).mp e))]
      rcases hv with ⟨a, b⟩ | ⟨e0, a, b, c', d⟩
      · rw [a, if_pos (by decide)]
        refine ih (c + 1) n _ (by omega) (by omega) (Or.inr ⟨D 2 c, rfl, by omega, k9, fun e he => ?_⟩)
        rcases sp e he with y | y
        · exact Or.inl (b e y)
        · omega
      · rw [a, if_neg (nI_pos (by omega))]
        by_cases h2 : e0 ≤ D 2 c
        · rw [if_pos (nI_le h2 (by omega))]
          refine ih (c + 1) n _ (by omega) (by omega) (Or.inr ⟨e0, rfl, b, c', fun e he => ?_⟩)
          rcases sp e he with y | y
          · exact d e y
          · omega
        · rw [if_neg (nI_ge (by omega) (by omega))]
          refine ih (c + 1) n _ (by omega) (by omega) (Or.inr ⟨D 2 c, rfl, by omega, k9, fun e he => ?_⟩)
          rcases sp e he with y | y
          · have := d e y; omega
          · omega
theorem nd_v {D : Nat → Nat → Nat} {σ τ : St} (h : scD D σ τ) {p : Nat} {x : Int32} (hx : ∀ e, e ≤ 4000 → (nI e ≤ x ↔ e < p)) : ∃ v', fX11_nextDay x τ = some (v', τ) ∧ nxt p (fun e => (∃ k, k < D 6 0 ∧ D 2 k = e) ∨ ∃ k, k < D 6 1 ∧ D 5 k = e) v' :=
  nd_s h hx (D 6 0) 0 FU (-1) (by omega) (fu_lt (by have := h.1; omega)) (Or.inl ⟨rfl, fun e ⟨k, hk, _⟩ => by omega⟩)
