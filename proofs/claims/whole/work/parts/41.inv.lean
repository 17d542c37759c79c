/-! ===== PURE: what ties the class's state σ to the reference's τ ===== -/
def gRf (a b : Nat → Int32) : Prop := ∀ k, k < 6 → a k = b (k + 1)
def gDy (dn : Nat) (d d' : Int32) : Prop := dn ≤ 4000 ∧ d = nI dn ∧ d' = nI dn
def gTr (a b : Nat → Int32) : Prop := ∀ j, j < 24 → a j = b j ∧ ∃ n, n ≤ 2000 ∧ a j = nI n
def gBt (nb : Nat) (c c' : Int32) (bp bp' pd pd' bd bd' : Nat → Int32) : Prop := nb ≤ 20 ∧ c = nI nb ∧ c' = nI nb ∧ ∀ j, j < 20 → bp j = bp' j ∧ (∃ q, q < 6 ∧ bp j = nI q) ∧ pd j = pd' j ∧ bd j = bd' j
def gPc (nb np : Nat) (c c' : Int32) (pa ki si st sp pk wh bp' pb ki' si' st' sp' pk' wh' : Nat → Int32) : Prop :=
  np ≤ 80 ∧ c = nI np ∧ c' = nI np ∧ (∀ k, np ≤ k → st' k = 0) ∧ ∀ k, k < np → (∃ b, b < nb ∧ pb k = nI b ∧ pa k = bp' b) ∧ ki k = ki' k ∧ si k = si' k ∧ st k = st' k ∧ sp k = sp' k ∧ pk k = pk' k ∧ wh k = wh' k ∧ (sp k = -9 ∨ ∃ p, p < 12 ∧ sp k = nI p) ∧ ((st k = 1 ∨ st k = 2) → ∃ w, w ≤ 100 ∧ wh k = nI w)
def gKt (a g l : Nat → Int32) : Prop := ∀ p, p < 12 → a (2 * p) = g p ∧ a (2 * p + 1) = l p ∧ (∃ n, n ≤ 40 ∧ g p = nI n) ∧ ∃ n, n ≤ 200 ∧ l p = nI n
def gHd (np : Nat) (a b : Nat → Int32) : Prop := ∀ p, p < 12 → a p = b p ∧ (a p = -9 ∨ ∃ k, k < np ∧ a p = nI k)
def gWd (h : Nat) (c c' bu bu' : Int32) (w w' : Nat → Int32) : Prop := h ≤ 48 ∧ c = nI h ∧ c' = nI h ∧ bu = bu' ∧ ∀ j, j < 48 → w j = w' j ∧ ∃ n, n ≤ 50 ∧ w j = nI n
def gSt (np nw : Nat) (c c' : Int32) (to to' wo wo' od : Nat → Int32) : Prop :=
  nw ≤ 8 ∧ c = nI nw ∧ c' = nI nw ∧ ∃ tn wv ord : Nat → Nat, (∀ j, j < nw → to j = nI (tn j) ∧ to' j = nI (tn j) ∧ tn j < np ∧ wo j = nI (wv j) ∧ wo' j = nI (wv j) ∧ wv j ≤ 999) ∧
    (∀ i, i < nw → ord i < nw ∧ od i = nI (ord i)) ∧ (∀ i j, i < nw → j < nw → ord i = ord j → i = j) ∧ ∀ i j, i ≤ j → j < nw → wv (ord j) ≤ wv (ord i)
def gPl (fr to fr' to' : Nat → Int32) : Prop := ∀ c, c < 12 → fr c = fr' c ∧ to c = to' c ∧ ∃ f t, f ≤ t ∧ t ≤ 1000 ∧ fr c = nI f ∧ to c = nI t
/-- a painter's days for a job; the painter of job j by a number in three digits; how long the longest one is; the first best number -/
def wk_days (sn ln : Nat → Nat) (j p : Nat) : Nat := (ln j + sn p - 1) / sn p
def wk_dg (nj code j : Nat) : Nat := code / 3 ^ (nj - 1 - j) % 3
def wk_sum (sn ln : Nat → Nat) (a : Nat → Nat) (p : Nat) : Nat → Nat
  | 0 => 0
  | n + 1 => wk_sum sn ln a p n + if a n = p then wk_days sn ln n p else 0
def wk_cost (sn ln : Nat → Nat) (nj : Nat) (a : Nat → Nat) : Nat := max (wk_sum sn ln a 0 nj) (max (wk_sum sn ln a 1 nj) (wk_sum sn ln a 2 nj))
def wk_best (sn ln : Nat → Nat) (nj code : Nat) : Prop := code < 3 ^ nj ∧ (∀ c, c < code → wk_cost sn ln nj (wk_dg nj code) < wk_cost sn ln nj (wk_dg nj c)) ∧ ∀ c, c < 3 ^ nj → wk_cost sn ln nj (wk_dg nj code) ≤ wk_cost sn ln nj (wk_dg nj c)
def gWk (nj : Nat) (c c' : Int32) (sk sk' lo lo' : Nat → Int32) (shared shortest : Int32) (chosen : Nat → Int32) : Prop :=
  nj ≤ 8 ∧ c = nI nj ∧ c' = nI nj ∧ ∃ sn ln : Nat → Nat, (∀ p, p < 3 → sk p = nI (sn p) ∧ sk' p = nI (sn p) ∧ 1 ≤ sn p ∧ sn p ≤ 20) ∧ (∀ j, j < nj → lo j = nI (ln j) ∧ lo' j = nI (ln j) ∧ 1 ≤ ln j ∧ ln j ≤ 500) ∧
    (shared = 0 ∨ (shared = 1 ∧ ∃ code, wk_best sn ln nj code ∧ shortest = nI (wk_cost sn ln nj (wk_dg nj code)) ∧ ∀ j, j < nj → chosen j = nI (wk_dg nj code j)))
def gSc (dn ns nt : Nat) (cs cs' ct ct' : Int32) (sh sh' sf sf' sd sd' ta ta' tb tb' td td' : Nat → Int32) : Prop :=
  ns ≤ 32 ∧ cs = nI ns ∧ cs' = nI ns ∧ nt ≤ 60 ∧ ct = nI nt ∧ ct' = nI nt ∧ ∃ hn fn sn an bn tn : Nat → Nat,
    (∀ k, k < ns → sh k = nI (hn k) ∧ sh' k = nI (hn k) ∧ sf k = nI (fn k) ∧ sf' k = nI (fn k) ∧ sd k = nI (sn k) ∧ sd' k = nI (sn k) ∧ hn k < 16 ∧ fn k < 2 ∧ sn k ≤ dn) ∧
    (∀ i j, i < ns → j < ns → hn i = hn j → fn i = fn j → i = j) ∧ (∀ i j, i ≤ j → j < ns → sn i ≤ sn j) ∧
    (∀ k, k < nt → ta k = nI (an k) ∧ ta' k = nI (an k) ∧ tb k = nI (bn k) ∧ tb' k = nI (bn k) ∧ td k = nI (tn k) ∧ td' k = nI (tn k) ∧ an k < 16 ∧ bn k < 16 ∧ tn k ≤ dn) ∧ ∀ i j, i ≤ j → j < nt → tn i ≤ tn j
def gLg (dn nd : Nat) (c c' : Int32) (su su' ra ra' ma ma' : Nat → Int32) : Prop :=
  nd ≤ 6 ∧ c = nI nd ∧ c' = nI nd ∧ ∀ d, d < nd → su d = su' d ∧ ra d = ra' d ∧ ma d = ma' d ∧ (∃ v, v ≤ 2000000000 ∧ su d = nI v) ∧ (∃ r, r ≤ 500 ∧ ra d = nI r) ∧ ∃ m, m ≤ dn ∧ ma d = nI m
def InvP (dn nb np h nw nj ns nt nd : Nat) (σ τ : St) : Prop :=
  gRf (σ 1) (τ 1) ∧ gDy dn (σ 0 11) (τ 0 16) ∧ gTr (σ 3) (τ 2) ∧ gBt nb (σ 2 4) (τ 0 17) (σ 4) (τ 3) (σ 5) (τ 4) (σ 6) (τ 5) ∧
  gPc nb np (σ 7 7) (τ 0 18) (σ 8) (σ 9) (σ 10) (σ 11) (σ 12) (σ 13) (σ 14) (τ 3) (τ 6) (τ 7) (τ 8) (τ 9) (τ 10) (τ 11) (τ 12) ∧
  gKt (σ 16) (τ 13) (τ 14) ∧ gHd np (σ 17) (τ 15) ∧ gWd h (σ 15 6) (τ 0 19) (σ 15 7) (τ 0 20) (σ 21) (τ 16) ∧
  gSt np nw (σ 22 8) (τ 0 21) (σ 23) (τ 20) (σ 24) (τ 21) (σ 27) ∧ gPl (σ 32) (σ 33) (τ 24) (τ 25) ∧
  gWk nj (σ 35 5) (τ 0 22) (σ 36) (τ 27) (σ 37) (τ 28) (σ 35 7) (σ 35 6) (σ 39) ∧
  gSc dn ns nt (σ 47 8) (τ 0 24) (σ 47 9) (τ 0 23) (σ 48) (τ 34) (σ 49) (τ 35) (σ 50) (τ 36) (σ 51) (τ 37) (σ 52) (τ 38) (σ 53) (τ 39) ∧
  gLg dn nd (σ 56 3) (τ 0 25) (σ 57) (τ 42) (σ 58) (τ 43) (σ 59) (τ 44)
def Inv (σ τ : St) : Prop := ∃ dn nb np h nw nj ns nt nd, InvP dn nb np h nw nj ns nt nd σ τ
/-- the cells that no later call looks at -/
def scC : List Nat := [18, 19, 20, 25, 26, 28, 29, 30, 34, 38, 40, 41, 42, 43, 44, 46, 54, 55]
def scM : List Nat := [17, 18, 19, 22, 23, 26, 29, 30, 31, 32, 33, 40, 41]
def Off (S : List Nat) (σ σ' : St) : Prop := ∀ c, c ∉ S → σ' c = σ c
theorem Off.rf (S : List Nat) (σ : St) : Off S σ σ := fun _ _ => rfl
theorem Off.up {S : List Nat} {σ σ' : St} (h : Off S σ σ') {c : Nat} (hc : c ∈ S) (j : Nat) (v : Int32) : Off S σ (up2 σ' c j v) := fun d hd => by
  rw [up2_c _ _ _ _ _ (fun e => hd (by rw [e]; exact hc))]
  exact h d hd
theorem Off.tr {S : List Nat} {σ σ' σ'' : St} (h : Off S σ σ') (h' : Off S σ' σ'') : Off S σ σ'' := fun c hc => (h' c hc).trans (h c hc)
theorem Off.mono {S S' : List Nat} {σ σ' : St} (h : Off S σ σ') (hs : ∀ c ∈ S, c ∈ S') : Off S' σ σ' := fun c hc => h c (fun q => hc (hs c q))
theorem Inv.scr {σ τ σ' τ' : St} (h : Inv σ τ) (hσ : Off scC σ σ') (hτ : Off scM τ τ') : Inv σ' τ' := by
  obtain ⟨dn, nb, np, hh, nw, nj, ns, nt, nd, h⟩ := h
  refine ⟨dn, nb, np, hh, nw, nj, ns, nt, nd, ?_⟩
  unfold InvP at h ⊢
  rw [hσ 1 (by decide), hσ 0 (by decide), hσ 3 (by decide), hσ 2 (by decide), hσ 4 (by decide), hσ 5 (by decide), hσ 6 (by decide), hσ 7 (by decide), hσ 8 (by decide), hσ 9 (by decide), hσ 10 (by decide), hσ 11 (by decide), hσ 12 (by decide), hσ 13 (by decide), hσ 14 (by decide), hσ 16 (by decide), hσ 17 (by decide), hσ 15 (by decide), hσ 21 (by decide), hσ 22 (by decide), hσ 23 (by decide), hσ 24 (by decide), hσ 27 (by decide), hσ 32 (by decide), hσ 33 (by decide), hσ 35 (by decide), hσ 36 (by decide), hσ 37 (by decide), hσ 39 (by decide), hσ 47 (by decide), hσ 48 (by decide), hσ 49 (by decide), hσ 50 (by decide), hσ 51 (by decide), hσ 52 (by decide), hσ 53 (by decide), hσ 56 (by decide), hσ 57 (by decide), hσ 58 (by decide), hσ 59 (by decide),
    hτ 1 (by decide), hτ 0 (by decide), hτ 2 (by decide), hτ 3 (by decide), hτ 4 (by decide), hτ 5 (by decide), hτ 6 (by decide), hτ 7 (by decide), hτ 8 (by decide), hτ 9 (by decide), hτ 10 (by decide), hτ 11 (by decide), hτ 12 (by decide), hτ 13 (by decide), hτ 14 (by decide), hτ 15 (by decide), hτ 16 (by decide), hτ 20 (by decide), hτ 21 (by decide), hτ 24 (by decide), hτ 25 (by decide), hτ 27 (by decide), hτ 28 (by decide), hτ 34 (by decide), hτ 35 (by decide), hτ 36 (by decide), hτ 37 (by decide), hτ 38 (by decide), hτ 39 (by decide), hτ 42 (by decide), hτ 43 (by decide), hτ 44 (by decide)]
  exact h
theorem gRf.up {a b : Nat → Int32} (h : gRf a b) (k : Nat) : gRf (upd a k (a k + 1)) (upd b (k + 1) (b (k + 1) + 1)) := by
  intro i hi
  by_cases e : i = k
  · subst e
    simp only [upd, if_true]
    rw [h i hi]
  · simp only [upd, if_neg e, if_neg (show ¬ i + 1 = k + 1 by omega)]
    exact h i hi
theorem Inv.ref {σ τ : St} (hI : Inv σ τ) (k : Nat) : Inv (up2 σ 1 k (σ 1 k + 1)) (up2 τ 1 (k + 1) (τ 1 (k + 1) + 1)) := by
  obtain ⟨dn, nb, np, hh, nw, nj, ns, nt, nd, g1, g2, g3, g4, g5, g6, g7, g8, g9, g10, g11, g12, g13⟩ := hI
  exact ⟨dn, nb, np, hh, nw, nj, ns, nt, nd, g1.up k, g2, g3, g4, g5, g6, g7, g8, g9, g10, g11, g12, g13⟩
/-- both refuse -/
theorem fin1 {σ τ : St} (hI : Inv σ τ) : ∃ (r : Int32) (σ1 τ1 : St), cal (fX10_refuse (-1) σ) (fun v s => some (v, s)) = some (r, σ1) ∧ cal (fX11_refuse (-1) τ) (fun v s => some (v, s)) = some (r, τ1) ∧ Inv σ1 τ1 := ⟨_, _, _, by rw [cal_e (rfC1 σ)], by rw [cal_e (rfM1 τ)], hI.ref 0⟩
theorem fin2 {σ τ : St} (hI : Inv σ τ) : ∃ (r : Int32) (σ1 τ1 : St), cal (fX10_refuse (-2) σ) (fun v s => some (v, s)) = some (r, σ1) ∧ cal (fX11_refuse (-2) τ) (fun v s => some (v, s)) = some (r, τ1) ∧ Inv σ1 τ1 := ⟨_, _, _, by rw [cal_e (rfC2 σ)], by rw [cal_e (rfM2 τ)], hI.ref 1⟩
theorem fin3 {σ τ : St} (hI : Inv σ τ) : ∃ (r : Int32) (σ1 τ1 : St), cal (fX10_refuse (-3) σ) (fun v s => some (v, s)) = some (r, σ1) ∧ cal (fX11_refuse (-3) τ) (fun v s => some (v, s)) = some (r, τ1) ∧ Inv σ1 τ1 := ⟨_, _, _, by rw [cal_e (rfC3 σ)], by rw [cal_e (rfM3 τ)], hI.ref 2⟩
theorem fin4 {σ τ : St} (hI : Inv σ τ) : ∃ (r : Int32) (σ1 τ1 : St), cal (fX10_refuse (-4) σ) (fun v s => some (v, s)) = some (r, σ1) ∧ cal (fX11_refuse (-4) τ) (fun v s => some (v, s)) = some (r, τ1) ∧ Inv σ1 τ1 := ⟨_, _, _, by rw [cal_e (rfC4 σ)], by rw [cal_e (rfM4 τ)], hI.ref 3⟩
theorem fin6 {σ τ : St} (hI : Inv σ τ) : ∃ (r : Int32) (σ1 τ1 : St), cal (fX10_refuse (-6) σ) (fun v s => some (v, s)) = some (r, σ1) ∧ cal (fX11_refuse (-6) τ) (fun v s => some (v, s)) = some (r, τ1) ∧ Inv σ1 τ1 := ⟨_, _, _, by rw [cal_e (rfC6 σ)], by rw [cal_e (rfM6 τ)], hI.ref 5⟩
