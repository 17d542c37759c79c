/-- the reference's pointer into the row -/
def ptr (r wh : Nat → Nat) (m : Nat) (v : Int) (k e : Nat) : Prop := e ≤ m ∧ ∀ t, t < m → (t < e ↔ (v < (wh (r t) : Int) ∨ ((wh (r t) : Int) = v ∧ r t < k)))
theorem rowI.inj {cand : Nat → Prop} {wh : Nat → Nat} {c m : Nat} {r : Nat → Nat} (h : rowI cand wh c m r) {s t : Nat} (hs : s < m) (ht : t < m) (e : r s = r t) : s = t := by
  rcases Nat.lt_trichotomy s t with q | q | q
  · have := h.2.2 s t q ht; rw [e] at this; omega
  · exact q
  · have := h.2.2 t s q hs; rw [e] at this; omega
theorem rowI.so {cand : Nat → Prop} {wh : Nat → Nat} {c m : Nat} {r : Nat → Nat} (h : rowI cand wh c m r) : ∀ a b, a ≤ b → b < m → wh (r b) ≤ wh (r a) := by
  intro a b hab hb
  rcases Nat.lt_or_ge a b with q | q
  · have := h.2.2 a b q hb; omega
  · have e : a = b := by omega
    rw [e]; exact Nat.le_refl _
theorem ptr.cur {cand : Nat → Prop} {wh r : Nat → Nat} {np m k e : Nat} {v : Int} (hI : rowI cand wh np m r) (hk : k < np) (hc : cand k) (hv : (wh k : Int) = v) (h : ptr r wh m v k e) : e < m ∧ r e = k ∧ ptr r wh m v (k + 1) (e + 1) := by
  obtain ⟨t, t1, t2⟩ := hI.2.1 k hk hc
  have a1 := h.2 t t1
  rw [t2] at a1
  have te : t = e := by
    rcases Nat.lt_or_ge e t with q | q
    · have b := hI.2.2 e t q t1
      have a2 := h.2 e (by omega)
      rw [t2] at b
      omega
    · have := h.1
      rcases Nat.lt_or_ge t e with q2 | q2
      · have := a1.mp q2; omega
      · omega
  subst te
  refine ⟨t1, t2, by omega, fun s hs => ?_⟩
  have a3 := h.2 s hs
  by_cases q : s = t
  · subst q
    rw [t2]
    constructor
    · intro _; right; exact ⟨hv, by omega⟩
    · intro _; omega
  · have ne : r s ≠ k := fun x => q (hI.inj hs t1 (by rw [x, t2]))
    constructor
    · intro x
      rcases a3.mp (by omega) with y | y
      · left; exact y
      · right; exact ⟨y.1, by omega⟩
    · intro x
      have := a3.mpr (by rcases x with y | y
                         · left; exact y
                         · right; exact ⟨y.1, by omega⟩)
      omega
theorem ptr.skip {cand : Nat → Prop} {wh r : Nat → Nat} {np m k e : Nat} {v : Int} (hI : rowI cand wh np m r) (hc : ¬ (cand k ∧ (wh k : Int) = v)) (h : ptr r wh m v k e) : ptr r wh m v (k + 1) e := by
  refine ⟨h.1, fun s hs => ?_⟩
  have a3 := h.2 s hs
  constructor
  · intro x
    rcases a3.mp x with y | y
    · left; exact y
    · right; exact ⟨y.1, by omega⟩
  · intro x
    apply a3.mpr
    rcases x with y | y
    · left; exact y
    · right
      refine ⟨y.1, ?_⟩
      have : r s ≠ k := fun z => hc ⟨by rw [← z]; exact (hI.1 s hs).2, by rw [← z]; exact y.1⟩
      omega
theorem ptr.next {cand : Nat → Prop} {wh r : Nat → Nat} {np m e : Nat} {v : Int} (hI : rowI cand wh np m r) (h : ptr r wh m v np e) : ptr r wh m (v - 1) 0 e := by
  refine ⟨h.1, fun s hs => ?_⟩
  have a3 := h.2 s hs
  have := (hI.1 s hs).1
  constructor
  · intro x
    rcases a3.mp x with y | y
    · left; omega
    · left; omega
  · intro x
    apply a3.mpr
    rcases x with y | y
    · by_cases z : v < (wh (r s) : Int)
      · left; exact z
      · right; exact ⟨by omega, this⟩
    · omega
theorem ptr.ex {wh r : Nat → Nat} {m : Nat} (so : ∀ a b, a ≤ b → b < m → wh (r b) ≤ wh (r a)) (v : Int) : ∃ e, ptr r wh m v 0 e := by
  have key : ∀ q, q ≤ m → ∃ e, e ≤ q ∧ ∀ t, t < q → (t < e ↔ v < (wh (r t) : Int)) := by
    intro q
    induction q with
    | zero => intro _; exact ⟨0, Nat.le_refl _, fun t ht => by omega⟩
    | succ q ih =>
      intro hq
      obtain ⟨e, e1, e2⟩ := ih (by omega)
      by_cases c : v < (wh (r q) : Int)
      · refine ⟨q + 1, Nat.le_refl _, fun t ht => ⟨fun _ => ?_, fun _ => ht⟩⟩
        have := so t q (by omega) (by omega)
        omega
      · refine ⟨e, by omega, fun t ht => ?_⟩
        by_cases x : t = q
        · subst x; constructor
          · intro y; omega
          · intro y; exact absurd y c
        · exact e2 t (by omega)
  obtain ⟨e, e1, e2⟩ := key m (Nat.le_refl _)
  refine ⟨e, e1, fun t ht => ?_⟩
  rw [e2 t ht]
  constructor
  · intro x; left; exact x
  · intro x
    rcases x with y | y
    · exact y
    · omega
/-- a window of the row that begins with white w -/
def vw (r wh : Nat → Nat) (m s d w i : Nat) : Prop := ptr r wh m w 0 i ∧ vld r wh m s d i ∧ wh (r i) = w
theorem ptr.uni {wh r : Nat → Nat} {m e e' : Nat} {v : Int} {k : Nat} (h : ptr r wh m v k e) (h' : ptr r wh m v k e') : e = e' := by
  rcases Nat.lt_trichotomy e e' with q | q | q
  · have a := h.2 e (by have := h'.1; omega)
    have b := h'.2 e (by have := h'.1; omega)
    have := a.mpr (b.mp q); omega
  · exact q
  · have a := h.2 e' (by have := h.1; omega)
    have b := h'.2 e' (by have := h.1; omega)
    have := b.mpr (a.mp q); omega
/-- the first window of all begins its white -/
theorem vw_first {wh r : Nat → Nat} {m s d i0 : Nat} (hs1 : 1 ≤ s) (so : ∀ a b, a ≤ b → b < m → wh (r b) ≤ wh (r a)) (h : vld r wh m s d i0) (hm : ∀ i', i' < i0 → ¬ vld r wh m s d i') : vw r wh m s d (wh (r i0)) i0 := by
  obtain ⟨e, he⟩ := ptr.ex so ((wh (r i0) : Nat) : Int)
  have h0 := h.1
  have le : e ≤ i0 := by
    rcases Nat.lt_or_ge i0 e with q | q
    · have := (he.2 i0 (by omega)).mp q; omega
    · exact q
  have v1 : wh (r e) = wh (r i0) := by
    have a := so e i0 le (by omega)
    have b := he.2 e (by omega)
    omega
  have vl : vld r wh m s d e := by
    refine ⟨by omega, ?_⟩
    have a := so (e + s - 1) (i0 + s - 1) (by omega) (by omega)
    have b := h.2
    omega
  have : e = i0 := by
    rcases Nat.lt_or_ge e i0 with q | q
    · exact absurd vl (hm e q)
    · omega
  rw [this] at he
  exact ⟨he, h, rfl⟩
theorem lck_lt {wh r : Nat → Nat} {m i j : Nat} (so : ∀ a b, a ≤ b → b < m → wh (r b) ≤ wh (r a)) (hw : ∀ t, t < m → wh (r t) ≤ 100) (hij : i ≤ j) (h0 : wh (r j) < wh (r i)) : ∀ s, 1 ≤ s → j + s ≤ m → lck r wh i s < lck r wh j s := by
  intro s
  induction s with
  | zero => intro h; omega
  | succ s ih =>
    intro _ hm
    rw [lck, lck]
    have a := so (i + s) (j + s) (by omega) (by omega)
    have b := hw (i + s) (by omega)
    by_cases c : s = 0
    · subst c
      have e1 : lck r wh i 0 = 0 := rfl
      have e2 : lck r wh j 0 = 0 := rfl
      rw [e1, e2]
      simp only [Nat.add_zero] at *
      omega
    · have := ih (by omega) (by omega)
      omega
theorem vw_mono {wh r : Nat → Nat} {m s d w w' i i' : Nat} (hs1 : 1 ≤ s) (so : ∀ a b, a ≤ b → b < m → wh (r b) ≤ wh (r a)) (hw : ∀ t, t < m → wh (r t) ≤ 100) (h : vw r wh m s d w i) (h' : vw r wh m s d w' i') (hl : w' < w) : lck r wh i s < lck r wh i' s := by
  have a := h'.2.2
  have b := h.2.2
  refine lck_lt so hw ?_ (by omega) s hs1 h'.2.1.1
  rcases Nat.lt_or_ge i' i with q | q
  · have := so i' i (by omega) (by have := h.2.1.1; omega); omega
  · exact q
/-- the window with the greatest white is the first one -/
theorem vw_max {wh r : Nat → Nat} {m s d w i : Nat} (hs1 : 1 ≤ s) (so : ∀ a b, a ≤ b → b < m → wh (r b) ≤ wh (r a)) (h : vw r wh m s d w i) (hm : ∀ w' i', w < w' → ¬ vw r wh m s d w' i') : ∀ i', i' < i → ¬ vld r wh m s d i' := by
  have key : ∀ q i', i' ≤ q → i' < i → ¬ vld r wh m s d i' := by
    intro q
    induction q with
    | zero =>
      intro i' h1 h2 hv
      obtain rfl : i' = 0 := by omega
      have hv' := vw_first hs1 so hv (fun x hx => by omega)
      have a := (h.1.2 0 (by have := h.2.1.1; omega)).mp h2
      exact hm _ _ (by omega) hv'
    | succ q ih =>
      intro i' h1 h2 hv
      have hv' := vw_first hs1 so hv (fun x hx => ih x (by omega) (by omega))
      have a := (h.1.2 i' (by have := h.2.1.1; omega)).mp h2
      exact hm _ _ (by omega) hv'
  intro i' h1
  exact key i' i' (Nat.le_refl _) h1
