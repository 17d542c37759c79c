def lt {β α : Type} (v : β) (F : β → Option α) : Option α := F v
theorem pw_rmOK {d d' maxL : Nat} (h : d' + 1 ≤ d) (hm : maxL ≤ 41) : (pw_rm d').cells = 0 ∧ (pw_rm d').slots = 0 ∧ (pw_rm d').frames + 1 ≤ (pw_rm d).frames ∧ 8 + (maxL + 11) + (pw_rm d').locals ≤ (pw_rm d).locals := by
  refine ⟨rfl, rfl, h, ?_⟩
  show 8 + (maxL + 11) + 60 * d' ≤ 60 * d
  omega
theorem pw_fr {d : Nat} (h : 1 ≤ d) : 1 ≤ (pw_rm d).frames := h
theorem pw_lo {d k j : Nat} (hk : k + j ≤ 60) (h : 1 ≤ d) : k + j ≤ (pw_rm d).locals := by
  show k + j ≤ 60 * d
  omega
theorem pw_out6 {x : Int32} (h0 : ¬ x = 0) (h1 : ¬ x = 1) (h2 : ¬ x = 2) (h3 : ¬ x = 3) (h4 : ¬ x = 4) (h5 : ¬ x = 5) (h6 : ¬ x = 6) : x.toInt < 0 ∨ 6 < x.toInt := by
  have n0 : x.toInt ≠ 0 := pw_ne h0
  have n1 : x.toInt ≠ 1 := pw_ne h1
  have n2 : x.toInt ≠ 2 := pw_ne h2
  have n3 : x.toInt ≠ 3 := pw_ne h3
  have n4 : x.toInt ≠ 4 := pw_ne h4
  have n5 : x.toInt ≠ 5 := pw_ne h5
  have n6 : x.toInt ≠ 6 := pw_ne h6
  omega
theorem pw_out10 {x : Int32} (h0 : ¬ x = 0) (h1 : ¬ x = 1) (h2 : ¬ x = 2) (h3 : ¬ x = 3) (h4 : ¬ x = 4) (h5 : ¬ x = 5) (h6 : ¬ x = 6) (h7 : ¬ x = 7) (h8 : ¬ x = 8) (h9 : ¬ x = 9) (h10 : ¬ x = 10) : x.toInt < 0 ∨ 10 < x.toInt := by
  have n0 : x.toInt ≠ 0 := pw_ne h0
  have n1 : x.toInt ≠ 1 := pw_ne h1
  have n2 : x.toInt ≠ 2 := pw_ne h2
  have n3 : x.toInt ≠ 3 := pw_ne h3
  have n4 : x.toInt ≠ 4 := pw_ne h4
  have n5 : x.toInt ≠ 5 := pw_ne h5
  have n6 : x.toInt ≠ 6 := pw_ne h6
  have n7 : x.toInt ≠ 7 := pw_ne h7
  have n8 : x.toInt ≠ 8 := pw_ne h8
  have n9 : x.toInt ≠ 9 := pw_ne h9
  have n10 : x.toInt ≠ 10 := pw_ne h10
  omega
/-- the class's static tables -/
def pw_GT : Nat → Int32 := fun j => if j = 0 then 200 else if j = 1 then 300 else 2000
def pw_LP : Nat → Int32 := fun j => if j = 0 then 1 else 0
def pw_GP : Nat → Int32 := fun j => if j = 0 then 40 else 200
def pw_FT : Nat → Int32 := fun j => if j = 0 then 30 else if j = 1 then 120 else if j = 2 then 1200 else 1400
def pw_FP : Nat → Int32 := fun j => if j = 0 then 10 else 20
def pw_sn (i : Nat) : String := match i with
  | 0 => "GREATEST_TRAITS"
  | 1 => "LEAST_PLACE_TRAITS"
  | 2 => "GREATEST_PLACE_TRAITS"
  | 3 => "FIRST_TRAITS"
  | _ => "FIRST_PLACE_TRAITS"
def pw_sl (i : Nat) : Nat := match i with
  | 0 => 4
  | 1 => 2
  | 2 => 2
  | 3 => 4
  | _ => 2
def pw_sv (i : Nat) : Nat → Int32 := match i with
  | 0 => pw_GT
  | 1 => pw_LP
  | 2 => pw_GP
  | 3 => pw_FT
  | _ => pw_FP
def pw_X (A : Nat → Prop) (U : State) : Prop := ∃ t : Nat → Nat, ∀ i : Nat, i < 5 → va_Z "PorcelainWorks" (pw_sn i) "[I" (.ref (t i)) A U U.heap ∧ va_T .int (t i) (pw_sl i) (fun j => .int (pw_sv i j)) A U U.heap
theorem pw_X.go {A B : Nat → Prop} {s U : State} {H : Heap} {locs : List Loc} (h : pw_X A s) (hS : va_S A s.heap H locs) (hB : ∀ q, B q → A q) (hU : U.heap = H) (hvm : s.vm.Alike U.vm) : pw_X B U := by
  obtain ⟨t, h⟩ := h
  refine ⟨t, fun i hi => ?_⟩
  obtain ⟨h1, h2⟩ := h i hi
  rw [hU]
  exact ⟨((h1.kept (fun a ha hn => hS.2.1 a ha hn)).moved hvm).narrow hB, ((h2.kept (fun a ha hn => hS.2.1 a ha hn)).moved hvm).narrow hB⟩
theorem pw_X.calling {A : Nat → Prop} {U : State} (h : pw_X A U) (g : JFrame) (mk : MethodId) (a : Array Value) : pw_X A (U.calling g mk a) := by
  obtain ⟨t, h⟩ := h
  refine ⟨t, fun i hi => ?_⟩
  obtain ⟨h1, h2⟩ := h i hi
  exact ⟨va_Z.moved (u := U) (U := U.calling g mk a) (Vm.Alike.refl U.vm) h1, va_T.moved (u := U) (U := U.calling g mk a) (Vm.Alike.refl U.vm) h2⟩
def pw_PreS (D : va_G) (cI cZ : ClassId) (w : va_W) (sz : Nat) (U : State) : Prop := pw_Pre D cI cZ w sz U ∧ pw_X (va_A w sz) U
def pw_MIs (l : Launch) (D : va_G) (sh : List Shp) (cI cZ : ClassId) (ad : Nat → Nat) (y : MethodName) (bytes : ByteArray) (maxL : Nat) (ret : Option FieldType) (rm : Room) (av : List Value) (σ : St) (r : Int32) (σ' : St) : Prop :=
  ∀ sz : Nat, Met l y (pw_ws y bytes maxL ret) rm (va_Pc av (pw_PreS D cI cZ (pw_w sh cI cZ ad σ) sz)) (va_Qi (fun (r' : Int32) (u : St) => r' = r ∧ u = σ') (pw_B D (pw_w sh cI cZ ad) (va_A (pw_w sh cI cZ ad σ) sz)) (va_A (pw_w sh cI cZ ad σ) sz)) 0 0 (va_A (pw_w sh cI cZ ad σ) sz)
theorem pw_ofIs {l : Launch} {D : va_G} {sh : List Shp} {cI cZ : ClassId} {ad : Nat → Nat} {y : MethodName} {bytes : ByteArray} {maxL : Nat} {ret : Option FieldType} {rm : Room} {av : List Value} {σ : St} {z : Int32 × St} (hy : plainName y.cls = true) (hav : (lg_sl av).length ≤ maxL)
    (body : ∀ (p : Program) (e : Env) (s : State) (m : MethodId) (args : Array Value) (below : List Frame) (meth : Method) (c : Code) (A : Nat → Prop), pw_C p s m args meth c y.cls bytes maxL ret D cI cZ → pw_H D (pw_w sh cI cZ ad σ) A s.heap s.heap [] → ∀ ls : Array Slot, lv_has ls maxL (lv_args 0 av) → pw_X A s →
      W p l e rm s m args below meth c s.heap [] 0 0 (pw_QI below args s D (pw_w sh cI cZ ad) A z) (F0 m 0 ls [])) : pw_MIs l D sh cI cZ ad y bytes maxL ret rm av σ z.1 z.2 := by
  intro sz
  refine Met.ofW (cc := bytes) (maxL := maxL) (ret := ret) hy rfl ?_
  intro p e s m args below meth c s₁ B hml hv
  obtain ⟨rfl, ⟨hsz, hP, hK, hN, hD0⟩, hX⟩ := hv
  subst hsz
  have C := pw_atC B hml hK hN
  have hl := lv_entry av (n := maxL) hav
  rw [lg_entry_eq]
  exact body p e s m _ below meth c _ C ⟨hP, hD0.self, va_S.rf, fun q h => Or.inr h⟩ _ hl hX
section Rows2
variable {p : Program} {l : Launch} {e : Env} {R : Room} {s : State} {m : MethodId} {args : Array Value} {below : List Frame} {meth : Method} {c : Code} {H H0 : Heap} {locs : List Loc} {cells slots : Nat} {Q : State → Prop}
variable {own : String} {cc : ByteArray} {nL : Nat} {ret : Option FieldType} {D : va_G} {cI cZ : ClassId} {A : Nat → Prop} {pc : Nat} {ls : Array Slot} {rest : List Value} {α : Type} {z : α}
theorem r_leti {v : Int32} {F : Int32 → Option α} (h : lt v F = some z) (kk : ∀ y : Int32, F y = some z → W p l e R s m args below meth c H locs cells slots Q (F0 m pc ls (.int y :: rest))) : W p l e R s m args below meth c H locs cells slots Q (F0 m pc ls (.int v :: rest)) := kk v h
theorem r_letl {v : Int64} {F : Int64 → Option α} (h : lt v F = some z) (kk : ∀ y : Int64, F y = some z → W p l e R s m args below meth c H locs cells slots Q (F0 m pc ls (.long y :: rest))) : W p l e R s m args below meth c H locs cells slots Q (F0 m pc ls (.long v :: rest)) := kk v h
theorem r_tald (C : pw_C p s m args meth c own cc nL ret D cI cZ) {t n : Nat} {f : Nat → Int32} (hT : va_T .int t n (fun j => .int (f j)) A s s.heap) (hS : va_S A s.heap H locs) (hdg : decode cc pc = .ok (.iaload, 1)) {i : Int32} {F : Int32 → Option α} (h : tb f n i F = some z)
    (kk : ∀ v : Int32, F v = some z → W p l e R s m args below meth c H locs cells slots Q (F0 m (pc + 1) ls (.int v :: rest))) : W p l e R s m args below meth c H locs cells slots Q (F0 m pc ls (.int i :: .ref t :: rest)) := by
  unfold tb at h
  by_cases hi : i < 0 ∨ n ≤ i.toNatClampNeg
  · rw [if_pos hi] at h; cases h
  · rw [if_neg hi] at h
    exact va_ti C.1 C.2.1 hT hS hi rfl hdg (kk _ h)
end Rows2
