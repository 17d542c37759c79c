/-! ===== MY FRAME: a side's state is a number for each place of each cell; its world is a list of cells ===== -/
abbrev St : Type := Nat → Nat → Int32
abbrev Shp : Type := (Nat × Bool) ⊕ (Nat × List (Option Nat))
def pw_slot (ad : Nat → Nat) (f : Nat → Int32) (o : Option Nat) (k : Nat) : Value := match o with
  | some c => .ref (ad c)
  | none => .int (f k)
def pw_obj (ad : Nat → Nat) (f : Nat → Int32) : List (Option Nat) → Nat → List Value
  | [], _ => []
  | o :: os, k => pw_slot ad f o k :: pw_obj ad f os (k + 1)
def pw_cell (cI cZ : ClassId) (ad : Nat → Nat) (f : Nat → Int32) (x : Shp) : va_E := match x with
  | .inl (n, false) => .inl (cI, n, .inl f)
  | .inl (n, true) => .inl (cZ, n, .inl f)
  | .inr (ci, fs) => .inr (ci, pw_obj ad f fs 0)
def pw_w (sh : List Shp) (cI cZ : ClassId) (ad : Nat → Nat) (σ : St) : va_W := sh.mapIdx (fun c x => (ad c, pw_cell cI cZ ad (σ c) x))
def up2 (σ : St) (c j : Nat) (v : Int32) : St := va_up σ c (upd (σ c) j v)
theorem pw_get {sh : List Shp} {cI cZ : ClassId} {ad : Nat → Nat} {σ : St} {c : Nat} {x : Shp} (h : sh[c]? = some x) : (pw_w sh cI cZ ad σ)[c]? = some (ad c, pw_cell cI cZ ad (σ c) x) := by
  simp [pw_w, List.getElem?_mapIdx, h]
theorem pw_set {sh : List Shp} {cI cZ : ClassId} {ad : Nat → Nat} {σ : St} {c : Nat} {x : Shp} (h : sh[c]? = some x) {e : va_E} {g : Nat → Int32} (he : pw_cell cI cZ ad g x = e) : (pw_w sh cI cZ ad σ).set c (ad c, e) = pw_w sh cI cZ ad (va_up σ c g) := by
  subst he
  apply List.ext_getElem?
  intro i
  have hc : c < sh.length := (List.getElem?_eq_some_iff.mp h).1
  rw [List.getElem?_set]
  by_cases hi : c = i
  · subst hi
    rw [pw_get (σ := va_up σ c g) h]
    simp [pw_w, hc, va_up]
  · have hi' : ¬ i = c := fun q => hi q.symm
    simp [pw_w, List.getElem?_mapIdx, hi, va_up, hi']
theorem pw_obj_get (ad : Nat → Nat) (f : Nat → Int32) : ∀ (fs : List (Option Nat)) (i k : Nat), (pw_obj ad f fs i)[k]? = fs[k]?.map (fun o => pw_slot ad f o (i + k))
  | [], _, _ => by simp [pw_obj]
  | o :: os, i, 0 => by simp [pw_obj]
  | o :: os, i, k + 1 => by
    have h := pw_obj_get ad f os (i + 1) k
    simp only [pw_obj, List.getElem?_cons_succ, h]
    rw [show i + 1 + k = i + (k + 1) by omega]
theorem pw_obj_len (ad : Nat → Nat) (f : Nat → Int32) : ∀ (fs : List (Option Nat)) (i : Nat), (pw_obj ad f fs i).length = fs.length
  | [], _ => rfl
  | o :: os, i => by simp [pw_obj, pw_obj_len ad f os (i + 1)]
theorem pw_obj_set (ad : Nat → Nat) (f : Nat → Int32) (fs : List (Option Nat)) (k : Nat) (v : Int32) (h : fs[k]? = some none) : (pw_obj ad f fs 0).set k (.int v) = pw_obj ad (upd f k v) fs 0 := by
  apply List.ext_getElem?
  intro i
  rw [List.getElem?_set, pw_obj_get, pw_obj_get, pw_obj_len]
  have hk : k < fs.length := (List.getElem?_eq_some_iff.mp h).1
  by_cases hi : k = i
  · subst hi
    rw [if_pos rfl, if_pos hk, h]
    simp [pw_slot, upd]
  · have hi' : ¬ i = k := fun q => hi q.symm
    simp only [hi, if_false, Nat.zero_add]
    congr 1
    funext o
    cases o <;> simp [pw_slot, upd, hi']
/-- the pure steps: what may fail answers none -/
def rd {α : Type} (σ : St) (k n : Nat) (i : Int32) (F : Int32 → Option α) : Option α := if i < 0 ∨ n ≤ i.toNatClampNeg then none else F (σ k i.toNatClampNeg)
def wr {α : Type} (σ : St) (k n : Nat) (i v : Int32) (F : St → Option α) : Option α := if i < 0 ∨ n ≤ i.toNatClampNeg then none else F (up2 σ k i.toNatClampNeg v)
def wb {α : Type} (σ : St) (k n : Nat) (i v : Int32) (F : St → Option α) : Option α := if i < 0 ∨ n ≤ i.toNatClampNeg then none else F (up2 σ k i.toNatClampNeg (vp_nar .boolean v))
def pf {α : Type} (σ : St) (k j : Nat) (v : Int32) (F : St → Option α) : Option α := F (up2 σ k j v)
def cal {α : Type} (X : Option (Int32 × St)) (F : Int32 → St → Option α) : Option α := X.bind (fun q => F q.1 q.2)
def nz {α : Type} (b : Int32) (F : Option α) : Option α := if b = 0 then none else F
def tb {α : Type} (f : Nat → Int32) (n : Nat) (i : Int32) (F : Int32 → Option α) : Option α := if i < 0 ∨ n ≤ i.toNatClampNeg then none else F (f i.toNatClampNeg)
def zr (v : Int32) (σ : St) : Option (Int32 × St) := if v = 0 ∨ v = 1 then some (v, σ) else none
def FU : Nat := 10000
theorem pw_t {c : Prop} [Decidable c] {α : Type} {A B : Option α} {z : α} (hc : c) (h : (if c then A else B) = some z) : A = some z := by rwa [if_pos hc] at h
theorem pw_f {c : Prop} [Decidable c] {α : Type} {A B : Option α} {z : α} (hc : ¬ c) (h : (if c then A else B) = some z) : B = some z := by rwa [if_neg hc] at h
theorem cal_some {α : Type} {X : Option (Int32 × St)} {F : Int32 → St → Option α} {z : α} (h : cal X F = some z) : ∃ (r : Int32) (σ : St), X = some (r, σ) ∧ F r σ = some z := by
  unfold cal at h
  cases X with
  | none => cases h
  | some q => exact ⟨q.1, q.2, rfl, h⟩
theorem nz_some {α : Type} {b : Int32} {F : Option α} {z : α} (h : nz b F = some z) : ¬ b = 0 ∧ F = some z := by
  unfold nz at h
  by_cases hb : b = 0
  · rw [if_pos hb] at h; cases h
  · rw [if_neg hb] at h; exact ⟨hb, h⟩
theorem zr_some {v : Int32} {σ : St} {z : Int32 × St} (h : zr v σ = some z) : (v = 0 ∨ v = 1) ∧ (v, σ) = z := by
  unfold zr at h
  by_cases hb : v = 0 ∨ v = 1
  · rw [if_pos hb] at h; exact ⟨hb, Option.some.inj h⟩
  · rw [if_neg hb] at h; cases h
/-- the words that every method may use -/
def gT : List Cond := lw_tbl.filter goodWord
theorem in_gT {w : Cond} {i : Nat} (h : tables_1[i]? = some w) (hg : goodWord w = true) : w ∈ gT := List.mem_filter.mpr ⟨List.mem_append_right _ (List.mem_of_getElem? h), hg⟩
theorem in_gS {w : Cond} (h : w ∈ k2_sels lw_privs) (hg : goodWord w = true) : w ∈ gT := List.mem_filter.mpr ⟨List.mem_append_left _ h, hg⟩
def pw_ws (y : MethodName) (bytes : ByteArray) (maxL : Nat) (ret : Option FieldType) : List Cond := Cond.code y bytes maxL ret :: gT
theorem gT_good {w : Cond} (h : w ∈ gT) : (w.onTables && w.keeps) = true ∨ ∃ ty, w = .arrayClass ty := good_of_word (List.mem_filter.mp h).2
theorem gT_in {Ts : List Cond} (hT : ∀ w ∈ gT, w ∈ Ts) {y : MethodName} {bytes : ByteArray} {maxL : Nat} {ret : Option FieldType} (hc : Cond.code y bytes maxL ret ∈ gT) : GoodIn Ts (pw_ws y bytes maxL ret) := by
  intro w hw
  rcases List.mem_cons.mp hw with rfl | h
  · exact ⟨hT _ hc, gT_good hc⟩
  · exact ⟨hT _ h, gT_good h⟩
/-- the links of nest mates, which are carried beside -/
def pw_isn : Cond → Bool
  | .fieldLinkNest _ _ _ _ _ _ => true
  | .methodLinkNest _ _ _ _ => true
  | _ => false
def pw_nw : List Cond := tables_1.filter pw_isn
theorem in_nw {w : Cond} {i : Nat} (h : tables_1[i]? = some w) (hg : pw_isn w = true) : w ∈ pw_nw := List.mem_filter.mpr ⟨List.mem_of_getElem? h, hg⟩
def pw_N (U : State) : Prop := ∀ w ∈ pw_nw, va_Nw w U
theorem pw_isn_cases {w : Cond} (h : pw_isn w = true) : (∃ a i b n d q, w = .fieldLinkNest a i b n d q) ∨ ∃ a i x q, w = .methodLinkNest a i x q := by
  cases w <;> first | exact Or.inl ⟨_, _, _, _, _, _, rfl⟩ | exact Or.inr ⟨_, _, _, _, rfl⟩ | (exact absurd h (by decide)) | (simp [pw_isn] at h)
theorem pw_N.warm {s U : State} (h : pw_N s) (hW : s.WarmedH U.vm) : pw_N U := by
  intro w hw
  rcases pw_isn_cases (List.mem_filter.mp hw).2 with ⟨a, i, b, n, d, q, rfl⟩ | ⟨a, i, x, q, rfl⟩
  · exact va_Nw.warmF hW (h _ hw)
  · exact va_Nw.warmM hW (h _ hw)
theorem pw_N.same {u U : State} (h : pw_N u) (hv : u.vm = U.vm) : pw_N U := by
  intro w hw
  rcases pw_isn_cases (List.mem_filter.mp hw).2 with ⟨a, i, b, n, d, q, rfl⟩ | ⟨a, i, x, q, rfl⟩
  · exact va_Nw.same rfl hv (h _ hw)
  · exact va_Nw.same rfl hv (h _ hw)
abbrev pw_ty (cI cZ : ClassId) : List (ClassId × FieldType) := [(cI, .int), (cZ, .boolean)]
/-- the world at a heap: the cells are there, apart and in A; nothing else changed since H0 -/
def pw_H (D : va_G) (w : va_W) (A : Nat → Prop) (H0 H : Heap) (locs : List Loc) : Prop := va_P D vwCl w H ∧ va_D A w ∧ va_S A H0 H locs ∧ ∀ q : Nat, H0.size ≤ q → A q
def pw_Pre (D : va_G) (cI cZ : ClassId) (w : va_W) (sz : Nat) (U : State) : Prop := U.heap.size = sz ∧ va_P D vwCl w U.heap ∧ va_K D vwCl (pw_ty cI cZ) U ∧ pw_N U ∧ va_D (fun _ => True) w
abbrev pw_B (D : va_G) (wf : St → va_W) (A : Nat → Prop) (u : St) (t : State) : Prop := va_P D vwCl (wf u) t.heap ∧ va_D A (wf u)
/-- the contracts: an int (or a boolean) comes back, or nothing -/
def pw_MI (l : Launch) (D : va_G) (sh : List Shp) (cI cZ : ClassId) (ad : Nat → Nat) (y : MethodName) (bytes : ByteArray) (maxL : Nat) (ret : Option FieldType) (rm : Room) (av : List Value) (σ : St) (r : Int32) (σ' : St) : Prop :=
  ∀ sz : Nat, Met l y (pw_ws y bytes maxL ret) rm (va_Pc av (pw_Pre D cI cZ (pw_w sh cI cZ ad σ) sz)) (va_Qi (fun (r' : Int32) (u : St) => r' = r ∧ u = σ') (pw_B D (pw_w sh cI cZ ad) (va_A (pw_w sh cI cZ ad σ) sz)) (va_A (pw_w sh cI cZ ad σ) sz)) 0 0 (va_A (pw_w sh cI cZ ad σ) sz)
def pw_MV (l : Launch) (D : va_G) (sh : List Shp) (cI cZ : ClassId) (ad : Nat → Nat) (y : MethodName) (bytes : ByteArray) (maxL : Nat) (ret : Option FieldType) (rm : Room) (av : List Value) (σ : St) (σ' : St) : Prop :=
  ∀ sz : Nat, Met l y (pw_ws y bytes maxL ret) rm (va_Pc av (pw_Pre D cI cZ (pw_w sh cI cZ ad σ) sz)) (va_Qv (fun (u : St) => u = σ') (pw_B D (pw_w sh cI cZ ad) (va_A (pw_w sh cI cZ ad σ) sz)) (va_A (pw_w sh cI cZ ad σ) sz)) 0 0 (va_A (pw_w sh cI cZ ad σ) sz)
def pw_rm (d : Nat) : Room := { frames := d, cells := 0, slots := 0, locals := 60 * d }
/-- what holds all through a method's body -/
def pw_C (p : Program) (s : State) (m : MethodId) (args : Array Value) (meth : Method) (c : Code) (own : String) (cc : ByteArray) (maxL : Nat) (ret : Option FieldType) (D : va_G) (cI cZ : ClassId) : Prop :=
  p.tables.exec = Jvm.exec ∧ c.code = cc ∧ meth.sig.returnType = ret ∧ (∀ w ∈ gT, w.before args s = true) ∧ s.vm.findClass own = some m.cls ∧ meth.locks = false ∧ c.maxLocals = maxL ∧ va_K D vwCl (pw_ty cI cZ) s ∧ pw_N s
def pw_QI (below : List Frame) (args : Array Value) (s : State) (D : va_G) (wf : St → va_W) (A : Nat → Prop) (z : Int32 × St) : State → Prop :=
  MQ below (va_Qi (fun (r' : Int32) (u : St) => r' = z.1 ∧ u = z.2) (pw_B D wf A) A) args s 0 0 A
def pw_QV (below : List Frame) (args : Array Value) (s : State) (D : va_G) (wf : St → va_W) (A : Nat → Prop) (z : Int32 × St) : State → Prop :=
  MQ below (va_Qv (fun (u : St) => u = z.2) (pw_B D wf A) A) args s 0 0 A
theorem pw_blind {D : va_G} {cI cZ : ClassId} {w : va_W} {sz : Nat} {av : List Value} : FrameBlind (va_Pc av (pw_Pre D cI cZ w sz)) := by
  intro a U g mk q
  obtain ⟨q0, q1, qP, qK, qN, qD⟩ := q
  exact ⟨q0, q1, qP, va_K.moved (u := U) (U := U.calling g mk a) (Vm.Alike.refl U.vm) qK, qN.same rfl, qD⟩
theorem pw_atC {p : Program} {l : Launch} {y : MethodName} {bytes : ByteArray} {maxL : Nat} {ret : Option FieldType} {rm : Room} {e : Env} {s : State} {m : MethodId} {args : Array Value} {below : List Frame} {meth : Method} {c : Code} {s₁ : State} {D : va_G} {cI cZ : ClassId}
    (B : BodyLoose p l y (headSpec (pw_ws y bytes maxL ret) rm) bytes maxL ret e s m args below meth c s₁) (hml : c.maxLocals = maxL) (hK : va_K D vwCl (pw_ty cI cZ) s) (hN : pw_N s) : pw_C p s m args meth c y.cls bytes maxL ret D cI cZ :=
  ⟨B.exec, B.bytes, B.returns, fun w hw => atoms_spec (ws := pw_ws y bytes maxL ret) B.pre w (List.mem_cons_of_mem _ hw), findClass_of_methodNamed B.named, B.notSynchronized, hml, hK, hN⟩
/-- a contract out of a walk of the body -/
theorem pw_ofI {l : Launch} {D : va_G} {sh : List Shp} {cI cZ : ClassId} {ad : Nat → Nat} {y : MethodName} {bytes : ByteArray} {maxL : Nat} {ret : Option FieldType} {rm : Room} {av : List Value} {σ : St} {z : Int32 × St} (hy : plainName y.cls = true) (hav : (lg_sl av).length ≤ maxL)
    (body : ∀ (p : Program) (e : Env) (s : State) (m : MethodId) (args : Array Value) (below : List Frame) (meth : Method) (c : Code) (A : Nat → Prop), pw_C p s m args meth c y.cls bytes maxL ret D cI cZ → pw_H D (pw_w sh cI cZ ad σ) A s.heap s.heap [] → ∀ ls : Array Slot, lv_has ls maxL (lv_args 0 av) →
      W p l e rm s m args below meth c s.heap [] 0 0 (pw_QI below args s D (pw_w sh cI cZ ad) A z) (F0 m 0 ls [])) : pw_MI l D sh cI cZ ad y bytes maxL ret rm av σ z.1 z.2 := by
  intro sz
  refine Met.ofW (cc := bytes) (maxL := maxL) (ret := ret) hy rfl ?_
  intro p e s m args below meth c s₁ B hml hv
  obtain ⟨rfl, hsz, hP, hK, hN, hD0⟩ := hv
  subst hsz
  have C := pw_atC B hml hK hN
  have hl := lv_entry av (n := maxL) hav
  rw [lg_entry_eq]
  exact body p e s m _ below meth c _ C ⟨hP, hD0.self, va_S.rf, fun q h => Or.inr h⟩ _ hl
theorem pw_ofV {l : Launch} {D : va_G} {sh : List Shp} {cI cZ : ClassId} {ad : Nat → Nat} {y : MethodName} {bytes : ByteArray} {maxL : Nat} {ret : Option FieldType} {rm : Room} {av : List Value} {σ : St} {z : Int32 × St} (hy : plainName y.cls = true) (hav : (lg_sl av).length ≤ maxL)
    (body : ∀ (p : Program) (e : Env) (s : State) (m : MethodId) (args : Array Value) (below : List Frame) (meth : Method) (c : Code) (A : Nat → Prop), pw_C p s m args meth c y.cls bytes maxL ret D cI cZ → pw_H D (pw_w sh cI cZ ad σ) A s.heap s.heap [] → ∀ ls : Array Slot, lv_has ls maxL (lv_args 0 av) →
      W p l e rm s m args below meth c s.heap [] 0 0 (pw_QV below args s D (pw_w sh cI cZ ad) A z) (F0 m 0 ls [])) : pw_MV l D sh cI cZ ad y bytes maxL ret rm av σ z.2 := by
  intro sz
  refine Met.ofW (cc := bytes) (maxL := maxL) (ret := ret) hy rfl ?_
  intro p e s m args below meth c s₁ B hml hv
  obtain ⟨rfl, hsz, hP, hK, hN, hD0⟩ := hv
  subst hsz
  have C := pw_atC B hml hK hN
  have hl := lv_entry av (n := maxL) hav
  rw [lg_entry_eq]
  exact body p e s m _ below meth c _ C ⟨hP, hD0.self, va_S.rf, fun q h => Or.inr h⟩ _ hl
section Rows
variable {p : Program} {l : Launch} {e : Env} {R : Room} {s : State} {m : MethodId} {args : Array Value} {below : List Frame} {meth : Method} {c : Code} {H H0 : Heap} {locs : List Loc} {cells slots : Nat} {Q : State → Prop}
variable {own : String} {cc : ByteArray} {nL : Nat} {ret : Option FieldType} {D : va_G} {cI cZ : ClassId} {sh : List Shp} {ad : Nat → Nat} {σ : St} {A : Nat → Prop} {pc : Nat} {ls : Array Slot} {rest : List Value} {α : Type} {z : α}
theorem r_iald (C : pw_C p s m args meth c own cc nL ret D cI cZ) (hw : pw_H D (pw_w sh cI cZ ad σ) A H0 H locs) {k n : Nat} (hq : sh[k]? = some (.inl (n, false))) (hdg : decode cc pc = .ok (.iaload, 1)) {i : Int32} {F : Int32 → Option α} (h : rd σ k n i F = some z)
    (kk : ∀ v : Int32, F v = some z → W p l e R s m args below meth c H locs cells slots Q (F0 m (pc + 1) ls (.int v :: rest))) : W p l e R s m args below meth c H locs cells slots Q (F0 m pc ls (.int i :: .ref (ad k) :: rest)) := by
  unfold rd at h
  by_cases hi : i < 0 ∨ n ≤ i.toNatClampNeg
  · rw [if_pos hi] at h; cases h
  · rw [if_neg hi] at h
    exact va_iald C.1 C.2.1 C.2.2.2.2.2.2.2.1 hw.1 k 0 (pw_get hq) rfl hi hdg (kk _ h)
theorem r_zald (C : pw_C p s m args meth c own cc nL ret D cI cZ) (hw : pw_H D (pw_w sh cI cZ ad σ) A H0 H locs) {k n : Nat} (hq : sh[k]? = some (.inl (n, true))) (hdg : decode cc pc = .ok (.baload, 1)) {i : Int32} {F : Int32 → Option α} (h : rd σ k n i F = some z)
    (kk : ∀ v : Int32, F v = some z → W p l e R s m args below meth c H locs cells slots Q (F0 m (pc + 1) ls (.int v :: rest))) : W p l e R s m args below meth c H locs cells slots Q (F0 m pc ls (.int i :: .ref (ad k) :: rest)) := by
  unfold rd at h
  by_cases hi : i < 0 ∨ n ≤ i.toNatClampNeg
  · rw [if_pos hi] at h; cases h
  · rw [if_neg hi] at h
    exact va_zald C.1 C.2.1 C.2.2.2.2.2.2.2.1 hw.1 k 1 (pw_get hq) rfl hi hdg (kk _ h)
theorem r_iast (C : pw_C p s m args meth c own cc nL ret D cI cZ) (hw : pw_H D (pw_w sh cI cZ ad σ) A H0 H locs) {k n : Nat} (hq : sh[k]? = some (.inl (n, false))) (hdg : decode cc pc = .ok (.iastore, 1)) {i v : Int32} {F : St → Option α} (h : wr σ k n i v F = some z)
    (kk : ∀ (σ1 : St) (H1 : Heap) (locs1 : List Loc), pw_H D (pw_w sh cI cZ ad σ1) A H0 H1 locs1 → F σ1 = some z → W p l e R s m args below meth c H1 locs1 cells slots Q (F0 m (pc + 1) ls rest)) : W p l e R s m args below meth c H locs cells slots Q (F0 m pc ls (.int v :: .int i :: .ref (ad k) :: rest)) := by
  unfold wr at h
  by_cases hi : i < 0 ∨ n ≤ i.toNatClampNeg
  · rw [if_pos hi] at h; cases h
  · rw [if_neg hi] at h
    refine va_iast C.1 C.2.1 C.2.2.2.2.2.2.2.1 hw.1 hw.2.1 hw.2.2.1 k 0 (pw_get hq) rfl hi hdg (fun H1 locs1 hP hD hS => ?_)
    rw [pw_set hq (e := .inl (cI, n, .inl (upd (σ k) i.toNatClampNeg v))) (g := upd (σ k) i.toNatClampNeg v) rfl] at hP hD
    exact kk _ H1 locs1 ⟨hP, hD, hS, hw.2.2.2⟩ h
theorem r_zast (C : pw_C p s m args meth c own cc nL ret D cI cZ) (hw : pw_H D (pw_w sh cI cZ ad σ) A H0 H locs) {k n : Nat} (hq : sh[k]? = some (.inl (n, true))) (hdg : decode cc pc = .ok (.bastore, 1)) {i v : Int32} {F : St → Option α} (h : wb σ k n i v F = some z)
    (kk : ∀ (σ1 : St) (H1 : Heap) (locs1 : List Loc), pw_H D (pw_w sh cI cZ ad σ1) A H0 H1 locs1 → F σ1 = some z → W p l e R s m args below meth c H1 locs1 cells slots Q (F0 m (pc + 1) ls rest)) : W p l e R s m args below meth c H locs cells slots Q (F0 m pc ls (.int v :: .int i :: .ref (ad k) :: rest)) := by
  unfold wb at h
  by_cases hi : i < 0 ∨ n ≤ i.toNatClampNeg
  · rw [if_pos hi] at h; cases h
  · rw [if_neg hi] at h
    refine va_zast C.1 C.2.1 C.2.2.2.2.2.2.2.1 hw.1 hw.2.1 hw.2.2.1 k 1 (pw_get hq) rfl hi hdg (fun H1 locs1 hP hD hS => ?_)
    rw [pw_set hq (e := .inl (cZ, n, .inl (upd (σ k) i.toNatClampNeg (vp_nar .boolean v)))) (g := upd (σ k) i.toNatClampNeg (vp_nar .boolean v)) rfl] at hP hD
    exact kk _ H1 locs1 ⟨hP, hD, hS, hw.2.2.2⟩ h
/-- a class's own words -/
def pw_cls (ci : Nat) (C : String) (T : u_T) (N : Nat) (ty : Nat → FieldType) : Prop := vwCl[ci]? = some (C, T, N) ∧ (∀ w ∈ u_ws C T N, w ∈ gT) ∧ (∀ k, k < N → parseFieldDescriptor (T k).2.2.1 = some (ty k)) ∧ ∀ a, a < N → ∀ b, b < N → a ≠ b → (T a).2.1 ≠ (T b).2.1
theorem r_get (C : pw_C p s m args meth c own cc nL ret D cI cZ) (hw : pw_H D (pw_w sh cI cZ ad σ) A H0 H locs) {k ci N index : Nat} {fs : List (Option Nat)} {Cn : String} {T : u_T} {ty : Nat → FieldType} (hq : sh[k]? = some (.inr (ci, fs))) (hc : pw_cls ci Cn T N ty) (j : Nat) {o : Option Nat} (hj : fs[j]? = some o) (hN : j < N)
    (hlink : Cond.fieldLink own index (T j).1 (T j).2.1 (T j).2.2.1 ∈ gT) (hdg : decode cc pc = .ok (.getfield index, 3)) {v : Value} (hv : pw_slot ad (σ k) o j = v)
    (kk : W p l e R s m args below meth c H locs cells slots Q (F0 m (pc + 3) ls (v :: rest))) : W p l e R s m args below meth c H locs cells slots Q (F0 m pc ls (.ref (ad k) :: rest)) :=
  va_get C.1 C.2.1 C.2.2.2.1 hc.2.1 C.2.2.2.2.1 C.2.2.2.2.2.2.2.1 hw.1 k (pw_get hq) hc.1 j hN (C.2.2.2.1 _ hlink) (fun _ h => h) (by rw [pw_obj_get, hj, Nat.zero_add]; exact congrArg some hv) hdg kk
theorem r_getN (C : pw_C p s m args meth c own cc nL ret D cI cZ) (hw : pw_H D (pw_w sh cI cZ ad σ) A H0 H locs) {k ci N index : Nat} {fs : List (Option Nat)} {Cn host : String} {T : u_T} {ty : Nat → FieldType} (hq : sh[k]? = some (.inr (ci, fs))) (hc : pw_cls ci Cn T N ty) (j : Nat) {o : Option Nat} (hj : fs[j]? = some o) (hN : j < N)
    (hlink : Cond.fieldLinkNest own index (T j).1 (T j).2.1 (T j).2.2.1 host ∈ pw_nw) (hdg : decode cc pc = .ok (.getfield index, 3)) {v : Value} (hv : pw_slot ad (σ k) o j = v)
    (kk : W p l e R s m args below meth c H locs cells slots Q (F0 m (pc + 3) ls (v :: rest))) : W p l e R s m args below meth c H locs cells slots Q (F0 m pc ls (.ref (ad k) :: rest)) :=
  va_getN C.1 C.2.1 C.2.2.2.1 hc.2.1 C.2.2.2.2.1 C.2.2.2.2.2.2.2.1 hw.1 k (pw_get hq) hc.1 j hN (va_Nw.use rfl (C.2.2.2.2.2.2.2.2 _ hlink)) (fun _ h => h) (by rw [pw_obj_get, hj, Nat.zero_add]; exact congrArg some hv) hdg kk
theorem r_put (C : pw_C p s m args meth c own cc nL ret D cI cZ) (hw : pw_H D (pw_w sh cI cZ ad σ) A H0 H locs) {k ci N index : Nat} {fs : List (Option Nat)} {Cn : String} {T : u_T} {ty : Nat → FieldType} (hq : sh[k]? = some (.inr (ci, fs))) (hc : pw_cls ci Cn T N ty) (j : Nat) (hj : fs[j]? = some none) (hN : j < N)
    (hlink : Cond.fieldLink own index (T j).1 (T j).2.1 (T j).2.2.1 ∈ gT) (hdg : decode cc pc = .ok (.putfield index, 3)) (hfin : (T j).2.2.2 = false) {v : Int32} {F : St → Option α} (hn : narrow (ty j) (.int v) = .int v) (hfit : fits (ty j) (.int v) = true) (h : pf σ k j v F = some z)
    (kk : ∀ (σ1 : St) (H1 : Heap) (locs1 : List Loc), pw_H D (pw_w sh cI cZ ad σ1) A H0 H1 locs1 → F σ1 = some z → W p l e R s m args below meth c H1 locs1 cells slots Q (F0 m (pc + 3) ls rest)) : W p l e R s m args below meth c H locs cells slots Q (F0 m pc ls (.int v :: .ref (ad k) :: rest)) := by
  refine va_put C.1 C.2.1 C.2.2.2.1 hc.2.1 ty hc.2.2.1 hc.2.2.2 C.2.2.2.2.1 C.2.2.2.2.2.2.2.1 hw.1 hw.2.1 hw.2.2.1 k (pw_get hq) hc.1 j hN (C.2.2.2.1 _ hlink) (fun _ h => h) hfin (hc.2.2.1 j hN) hn hfit (by rw [pw_obj_len]; exact (List.getElem?_eq_some_iff.mp hj).1) hdg (fun H1 locs1 hP hD hS => ?_)
  rw [pw_set hq (g := upd (σ k) j v) (by unfold pw_cell; rw [pw_obj_set _ _ _ _ _ hj])] at hP hD
  exact kk _ H1 locs1 ⟨hP, hD, hS, hw.2.2.2⟩ h
theorem r_putN (C : pw_C p s m args meth c own cc nL ret D cI cZ) (hw : pw_H D (pw_w sh cI cZ ad σ) A H0 H locs) {k ci N index : Nat} {fs : List (Option Nat)} {Cn host : String} {T : u_T} {ty : Nat → FieldType} (hq : sh[k]? = some (.inr (ci, fs))) (hc : pw_cls ci Cn T N ty) (j : Nat) (hj : fs[j]? = some none) (hN : j < N)
    (hlink : Cond.fieldLinkNest own index (T j).1 (T j).2.1 (T j).2.2.1 host ∈ pw_nw) (hdg : decode cc pc = .ok (.putfield index, 3)) (hfin : (T j).2.2.2 = false) {v : Int32} {F : St → Option α} (hn : narrow (ty j) (.int v) = .int v) (hfit : fits (ty j) (.int v) = true) (h : pf σ k j v F = some z)
    (kk : ∀ (σ1 : St) (H1 : Heap) (locs1 : List Loc), pw_H D (pw_w sh cI cZ ad σ1) A H0 H1 locs1 → F σ1 = some z → W p l e R s m args below meth c H1 locs1 cells slots Q (F0 m (pc + 3) ls rest)) : W p l e R s m args below meth c H locs cells slots Q (F0 m pc ls (.int v :: .ref (ad k) :: rest)) := by
  refine va_putN C.1 C.2.1 C.2.2.2.1 hc.2.1 ty hc.2.2.1 hc.2.2.2 C.2.2.2.2.1 C.2.2.2.2.2.2.2.1 hw.1 hw.2.1 hw.2.2.1 k (pw_get hq) hc.1 j hN (va_Nw.use rfl (C.2.2.2.2.2.2.2.2 _ hlink)) (fun _ h => h) hfin (hc.2.2.1 j hN) hn hfit (by rw [pw_obj_len]; exact (List.getElem?_eq_some_iff.mp hj).1) hdg (fun H1 locs1 hP hD hS => ?_)
  rw [pw_set hq (g := upd (σ k) j v) (by unfold pw_cell; rw [pw_obj_set _ _ _ _ _ hj])] at hP hD
  exact kk _ H1 locs1 ⟨hP, hD, hS, hw.2.2.2⟩ h
theorem r_iret (C : pw_C p s m args meth c own cc nL (some .int) D cI cZ) {wf : St → va_W} (hw : pw_H D (wf σ) A s.heap H locs) {v : Int32} {y : Int32 × St} (hdg : decode cc pc = .ok (.ireturn, 1)) (h : some (v, σ) = some y) : W p l e R s m args below meth c H locs 0 0 (pw_QI below args s D wf A y) (F0 m pc ls [.int v]) := by
  have e := Option.some.inj h
  subst e
  exact W.iret C.1 C.2.1 C.2.2.1 (fun t ht hW => ⟨⟨v, σ, rfl, ⟨rfl, rfl⟩, by rw [ht]; exact hw.1, hw.2.1⟩, hw.2.2.1.F ht⟩) hw.2.2.1.2.2 hdg C.2.2.2.2.2.1
theorem r_zret (C : pw_C p s m args meth c own cc nL (some .boolean) D cI cZ) {wf : St → va_W} (hw : pw_H D (wf σ) A s.heap H locs) {v : Int32} {y : Int32 × St} (hdg : decode cc pc = .ok (.ireturn, 1)) (h : zr v σ = some y) : W p l e R s m args below meth c H locs 0 0 (pw_QI below args s D wf A y) (F0 m pc ls [.int v]) := by
  obtain ⟨hv, e⟩ := zr_some h
  subst e
  refine W.zret (ty := .boolean) C.1 C.2.1 C.2.2.1 ?_ (fun t ht hW => ⟨⟨v, σ, rfl, ⟨rfl, rfl⟩, by rw [ht]; exact hw.1, hw.2.1⟩, hw.2.2.1.F ht⟩) hw.2.2.1.2.2 hdg C.2.2.2.2.2.1
  rcases hv with rfl | rfl <;> rfl
theorem r_vret (C : pw_C p s m args meth c own cc nL none D cI cZ) {wf : St → va_W} (hw : pw_H D (wf σ) A s.heap H locs) {v : Int32} {y : Int32 × St} (hdg : decode cc pc = .ok (.return_, 1)) (h : some (v, σ) = some y) : W p l e R s m args below meth c H locs 0 0 (pw_QV below args s D wf A y) (F0 m pc ls []) := by
  have e := Option.some.inj h
  subst e
  exact W.vret C.1 C.2.1 C.2.2.1 (fun t ht hW => ⟨⟨σ, rfl, rfl, by rw [ht]; exact hw.1, hw.2.1⟩, hw.2.2.1.F ht⟩) hw.2.2.1.2.2 hdg C.2.2.2.2.2.1
/-- what a call needs of its method: an instance's, or a static one -/
def pw_YV (y : MethodName) (bytes : ByteArray) (maxL : Nat) (ret : Option FieldType) (n : Nat) : Prop := Cond.code y bytes maxL ret ∈ gT ∧ Cond.initialized y.cls ∈ gT ∧ (y.cls ≠ "java/lang/invoke/MethodHandle" ∧ y.cls ≠ "java/lang/invoke/VarHandle" ∧ (parseMethodDescriptor y.desc).map (fun d => d.parameters.length) = some n) ∧ Cond.instanceMethod y ∈ gT ∧ Cond.selects y.cls y y ∈ gT
def pw_YS (y : MethodName) (bytes : ByteArray) (maxL : Nat) (ret : Option FieldType) (n : Nat) : Prop := Cond.code y bytes maxL ret ∈ gT ∧ Cond.initialized y.cls ∈ gT ∧ (y.cls ≠ "java/lang/invoke/MethodHandle" ∧ y.cls ≠ "java/lang/invoke/VarHandle" ∧ (parseMethodDescriptor y.desc).map (fun d => d.parameters.length) = some n) ∧ Cond.static y ∈ gT
theorem pw_free {w : va_W} (hw : pw_H D w A H0 H locs) : ∀ q, va_A w H.size q → A q := by
  intro q h
  rcases h with ⟨k, e, h⟩ | h
  · exact hw.2.1.2 k _ h
  · exact hw.2.2.2 q (Nat.le_trans hw.2.2.1.1 h)
theorem pw_pre (C : pw_C p s m args meth c own cc nL ret D cI cZ) {w : va_W} (hw : pw_H D w A H0 H locs) (av : List Value) : ∀ U : State, U.heap = H → s.WarmedH U.vm → va_Pc av (pw_Pre D cI cZ w H.size) av.toArray U :=
  fun U hU hW => ⟨rfl, by rw [hU], by rw [hU]; exact hw.1, va_K.moved hW.alike C.2.2.2.2.2.2.2.1, C.2.2.2.2.2.2.2.2.warm hW, hw.2.1.weaken (fun _ _ _ _ => trivial)⟩
theorem pw_after {wf : St → va_W} {w : va_W} {H1 : Heap} {locs1 : List Loc} {t : State} {u : St} (hw : pw_H D w A H0 H locs) (ht : t.heap = H1) (hB : pw_B D wf (va_A w H.size) u t) (hS : va_S A H0 H1 locs1) : pw_H D (wf u) A H0 H1 locs1 :=
  ⟨by rw [← ht]; exact hB.1, hB.2.weaken (fun k q _ h => pw_free hw q.1 h), hS, hw.2.2.2⟩
variable {y : MethodName} {bytes : ByteArray} {maxL index n : Nat} {rt : Option FieldType} {rm : Room} {As : List Value} {st0 : List Value} {r : Int32} {σ1 : St} {k ci : Nat} {fs : List (Option Nat)} {T : u_T} {N : Nat} {ty : Nat → FieldType} {host : String}
/-- a call of the class's own instance method, of one of a nest mate, of a static one -/
theorem r_cVI (C : pw_C p s m args meth c own cc nL ret D cI cZ) (hw : pw_H D (pw_w sh cI cZ ad σ) A s.heap H locs) (hM : pw_MI l D sh cI cZ ad y bytes maxL rt rm (.ref (ad k) :: As) σ r σ1) (hY : pw_YV y bytes maxL rt n) (hml : Cond.methodLink own index y ∈ gT) (hq : sh[k]? = some (.inr (ci, fs))) (hc : pw_cls ci y.cls T N ty)
    (hrm : rm.cells = 0 ∧ rm.slots = 0 ∧ rm.frames + 1 ≤ R.frames ∧ 8 + (maxL + 11) + rm.locals ≤ R.locals) (hn : As.length = n) (hls : ls.size = nL) (hst : st0 = As.reverse ++ .ref (ad k) :: rest) (hr : (rest.map fun v => v.category).sum ≤ 8) (hdg : decode cc pc = .ok (.invokevirtual index, 3)) (hcs : cells ≤ R.cells ∧ slots ≤ R.slots)
    (kk : ∀ (H1 : Heap) (locs1 : List Loc), pw_H D (pw_w sh cI cZ ad σ1) A s.heap H1 locs1 → W p l e R s m args below meth c H1 locs1 cells slots Q (F0 m (pc + 3) ls (.int r :: rest))) : W p l e R s m args below meth c H locs cells slots Q (F0 m pc ls st0) := by
  subst hst
  refine va_calli (va_runV (nL := nL) (Ts := gT) (ret := rt) (As := As) (rest := rest) ⟨C.1, C.2.1, C.2.2.2.2.2.2.1, C.2.2.2.2.1, C.2.2.2.1⟩ (hM H.size) ⟨callB_of n C.2.2.2.1 (gT_in (fun _ h => h) hY.1) rfl hrm.1 hrm.2.1 (C.2.2.2.1 _ hY.2.1) (C.2.2.2.1 _ hml) hY.2.2.1 hrm.2.2, C.2.2.2.1 _ hY.2.2.2.1, C.2.2.2.1 _ hY.2.2.2.2⟩
    ⟨pw_blind, va_recv C.2.2.2.2.2.2.2.1 hw.1 hc.1 (pw_get hq), pw_pre C hw _⟩ rfl hn hls rfl (lv_room hr) hdg hcs) hw.2.2.1 (fun q _ h => pw_free hw q h) (pw_free hw) (fun r1 u t H1 locs1 ht hvm hp hB hz1 hk1 hS => ?_)
  obtain ⟨rfl, rfl⟩ := hp
  exact kk H1 locs1 (pw_after (wf := pw_w sh cI cZ ad) hw ht hB hS)
theorem r_cVV (C : pw_C p s m args meth c own cc nL ret D cI cZ) (hw : pw_H D (pw_w sh cI cZ ad σ) A s.heap H locs) (hM : pw_MV l D sh cI cZ ad y bytes maxL rt rm (.ref (ad k) :: As) σ σ1) (hY : pw_YV y bytes maxL rt n) (hml : Cond.methodLink own index y ∈ gT) (hq : sh[k]? = some (.inr (ci, fs))) (hc : pw_cls ci y.cls T N ty)
    (hrm : rm.cells = 0 ∧ rm.slots = 0 ∧ rm.frames + 1 ≤ R.frames ∧ 8 + (maxL + 11) + rm.locals ≤ R.locals) (hn : As.length = n) (hls : ls.size = nL) (hst : st0 = As.reverse ++ .ref (ad k) :: rest) (hr : (rest.map fun v => v.category).sum ≤ 8) (hdg : decode cc pc = .ok (.invokevirtual index, 3)) (hcs : cells ≤ R.cells ∧ slots ≤ R.slots)
    (kk : ∀ (H1 : Heap) (locs1 : List Loc), pw_H D (pw_w sh cI cZ ad σ1) A s.heap H1 locs1 → W p l e R s m args below meth c H1 locs1 cells slots Q (F0 m (pc + 3) ls rest)) : W p l e R s m args below meth c H locs cells slots Q (F0 m pc ls st0) := by
  subst hst
  refine va_callv (va_runV (nL := nL) (Ts := gT) (ret := rt) (As := As) (rest := rest) ⟨C.1, C.2.1, C.2.2.2.2.2.2.1, C.2.2.2.2.1, C.2.2.2.1⟩ (hM H.size) ⟨callB_of n C.2.2.2.1 (gT_in (fun _ h => h) hY.1) rfl hrm.1 hrm.2.1 (C.2.2.2.1 _ hY.2.1) (C.2.2.2.1 _ hml) hY.2.2.1 hrm.2.2, C.2.2.2.1 _ hY.2.2.2.1, C.2.2.2.1 _ hY.2.2.2.2⟩
    ⟨pw_blind, va_recv C.2.2.2.2.2.2.2.1 hw.1 hc.1 (pw_get hq), pw_pre C hw _⟩ rfl hn hls rfl (lv_room hr) hdg hcs) hw.2.2.1 (fun q _ h => pw_free hw q h) (pw_free hw) (fun u t H1 locs1 ht hvm hp hB hz1 hk1 hS => ?_)
  subst hp
  exact kk H1 locs1 (pw_after (wf := pw_w sh cI cZ ad) hw ht hB hS)
theorem r_cNI (C : pw_C p s m args meth c own cc nL ret D cI cZ) (hw : pw_H D (pw_w sh cI cZ ad σ) A s.heap H locs) (hM : pw_MI l D sh cI cZ ad y bytes maxL rt rm (.ref (ad k) :: As) σ r σ1) (hY : pw_YV y bytes maxL rt n) (hml : Cond.methodLinkNest own index y host ∈ pw_nw) (hq : sh[k]? = some (.inr (ci, fs))) (hc : pw_cls ci y.cls T N ty)
    (hrm : rm.cells = 0 ∧ rm.slots = 0 ∧ rm.frames + 1 ≤ R.frames ∧ 8 + (maxL + 11) + rm.locals ≤ R.locals) (hn : As.length = n) (hls : ls.size = nL) (hst : st0 = As.reverse ++ .ref (ad k) :: rest) (hr : (rest.map fun v => v.category).sum ≤ 8) (hdg : decode cc pc = .ok (.invokevirtual index, 3)) (hcs : cells ≤ R.cells ∧ slots ≤ R.slots)
    (kk : ∀ (H1 : Heap) (locs1 : List Loc), pw_H D (pw_w sh cI cZ ad σ1) A s.heap H1 locs1 → W p l e R s m args below meth c H1 locs1 cells slots Q (F0 m (pc + 3) ls (.int r :: rest))) : W p l e R s m args below meth c H locs cells slots Q (F0 m pc ls st0) := by
  subst hst
  refine va_calli (va_runVN (nL := nL) (Ts := gT) (ret := rt) (As := As) (rest := rest) ⟨C.1, C.2.1, C.2.2.2.2.2.2.1, C.2.2.2.2.1, C.2.2.2.1⟩ (hM H.size) ⟨va_cnB n C.2.2.2.1 (gT_in (fun _ h => h) hY.1) rfl hrm.1 hrm.2.1 (C.2.2.2.2.2.2.2.2 _ hml) (C.2.2.2.1 _ hY.2.1) hY.2.2.1 hrm.2.2, C.2.2.2.1 _ hY.2.2.2.1, C.2.2.2.1 _ hY.2.2.2.2⟩
    ⟨pw_blind, va_recv C.2.2.2.2.2.2.2.1 hw.1 hc.1 (pw_get hq), pw_pre C hw _⟩ rfl hn hls rfl (lv_room hr) hdg hcs) hw.2.2.1 (fun q _ h => pw_free hw q h) (pw_free hw) (fun r1 u t H1 locs1 ht hvm hp hB hz1 hk1 hS => ?_)
  obtain ⟨rfl, rfl⟩ := hp
  exact kk H1 locs1 (pw_after (wf := pw_w sh cI cZ ad) hw ht hB hS)
theorem r_cNV (C : pw_C p s m args meth c own cc nL ret D cI cZ) (hw : pw_H D (pw_w sh cI cZ ad σ) A s.heap H locs) (hM : pw_MV l D sh cI cZ ad y bytes maxL rt rm (.ref (ad k) :: As) σ σ1) (hY : pw_YV y bytes maxL rt n) (hml : Cond.methodLinkNest own index y host ∈ pw_nw) (hq : sh[k]? = some (.inr (ci, fs))) (hc : pw_cls ci y.cls T N ty)
    (hrm : rm.cells = 0 ∧ rm.slots = 0 ∧ rm.frames + 1 ≤ R.frames ∧ 8 + (maxL + 11) + rm.locals ≤ R.locals) (hn : As.length = n) (hls : ls.size = nL) (hst : st0 = As.reverse ++ .ref (ad k) :: rest) (hr : (rest.map fun v => v.category).sum ≤ 8) (hdg : decode cc pc = .ok (.invokevirtual index, 3)) (hcs : cells ≤ R.cells ∧ slots ≤ R.slots)
    (kk : ∀ (H1 : Heap) (locs1 : List Loc), pw_H D (pw_w sh cI cZ ad σ1) A s.heap H1 locs1 → W p l e R s m args below meth c H1 locs1 cells slots Q (F0 m (pc + 3) ls rest)) : W p l e R s m args below meth c H locs cells slots Q (F0 m pc ls st0) := by
  subst hst
  refine va_callv (va_runVN (nL := nL) (Ts := gT) (ret := rt) (As := As) (rest := rest) ⟨C.1, C.2.1, C.2.2.2.2.2.2.1, C.2.2.2.2.1, C.2.2.2.1⟩ (hM H.size) ⟨va_cnB n C.2.2.2.1 (gT_in (fun _ h => h) hY.1) rfl hrm.1 hrm.2.1 (C.2.2.2.2.2.2.2.2 _ hml) (C.2.2.2.1 _ hY.2.1) hY.2.2.1 hrm.2.2, C.2.2.2.1 _ hY.2.2.2.1, C.2.2.2.1 _ hY.2.2.2.2⟩
    ⟨pw_blind, va_recv C.2.2.2.2.2.2.2.1 hw.1 hc.1 (pw_get hq), pw_pre C hw _⟩ rfl hn hls rfl (lv_room hr) hdg hcs) hw.2.2.1 (fun q _ h => pw_free hw q h) (pw_free hw) (fun u t H1 locs1 ht hvm hp hB hz1 hk1 hS => ?_)
  subst hp
  exact kk H1 locs1 (pw_after (wf := pw_w sh cI cZ ad) hw ht hB hS)
theorem r_cSI (C : pw_C p s m args meth c own cc nL ret D cI cZ) (hw : pw_H D (pw_w sh cI cZ ad σ) A s.heap H locs) (hM : pw_MI l D sh cI cZ ad y bytes maxL rt rm As σ r σ1) (hY : pw_YS y bytes maxL rt n) (hml : Cond.methodLink own index y ∈ gT)
    (hrm : rm.cells = 0 ∧ rm.slots = 0 ∧ rm.frames + 1 ≤ R.frames ∧ 8 + (maxL + 11) + rm.locals ≤ R.locals) (hn : As.length = n) (hls : ls.size = nL) (hst : st0 = As.reverse ++ rest) (hr : (rest.map fun v => v.category).sum ≤ 8) (hdg : decode cc pc = .ok (.invokestatic index, 3)) (hcs : cells ≤ R.cells ∧ slots ≤ R.slots)
    (kk : ∀ (H1 : Heap) (locs1 : List Loc), pw_H D (pw_w sh cI cZ ad σ1) A s.heap H1 locs1 → W p l e R s m args below meth c H1 locs1 cells slots Q (F0 m (pc + 3) ls (.int r :: rest))) : W p l e R s m args below meth c H locs cells slots Q (F0 m pc ls st0) := by
  subst hst
  refine va_calli (va_runS (nL := nL) (Ts := gT) (ret := rt) (As := As) (rest := rest) ⟨C.1, C.2.1, C.2.2.2.2.2.2.1, C.2.2.2.2.1, C.2.2.2.1⟩ (hM H.size) ⟨callB_of n C.2.2.2.1 (gT_in (fun _ h => h) hY.1) rfl hrm.1 hrm.2.1 (C.2.2.2.1 _ hY.2.1) (C.2.2.2.1 _ hml) hY.2.2.1 hrm.2.2, C.2.2.2.1 _ hY.2.2.2⟩
    ⟨pw_blind, pw_pre C hw _⟩ rfl hn hls rfl (lv_room hr) hdg hcs) hw.2.2.1 (fun q _ h => pw_free hw q h) (pw_free hw) (fun r1 u t H1 locs1 ht hvm hp hB hz1 hk1 hS => ?_)
  obtain ⟨rfl, rfl⟩ := hp
  exact kk H1 locs1 (pw_after (wf := pw_w sh cI cZ ad) hw ht hB hS)
theorem r_cSV (C : pw_C p s m args meth c own cc nL ret D cI cZ) (hw : pw_H D (pw_w sh cI cZ ad σ) A s.heap H locs) (hM : pw_MV l D sh cI cZ ad y bytes maxL rt rm As σ σ1) (hY : pw_YS y bytes maxL rt n) (hml : Cond.methodLink own index y ∈ gT)
    (hrm : rm.cells = 0 ∧ rm.slots = 0 ∧ rm.frames + 1 ≤ R.frames ∧ 8 + (maxL + 11) + rm.locals ≤ R.locals) (hn : As.length = n) (hls : ls.size = nL) (hst : st0 = As.reverse ++ rest) (hr : (rest.map fun v => v.category).sum ≤ 8) (hdg : decode cc pc = .ok (.invokestatic index, 3)) (hcs : cells ≤ R.cells ∧ slots ≤ R.slots)
    (kk : ∀ (H1 : Heap) (locs1 : List Loc), pw_H D (pw_w sh cI cZ ad σ1) A s.heap H1 locs1 → W p l e R s m args below meth c H1 locs1 cells slots Q (F0 m (pc + 3) ls rest)) : W p l e R s m args below meth c H locs cells slots Q (F0 m pc ls st0) := by
  subst hst
  refine va_callv (va_runS (nL := nL) (Ts := gT) (ret := rt) (As := As) (rest := rest) ⟨C.1, C.2.1, C.2.2.2.2.2.2.1, C.2.2.2.2.1, C.2.2.2.1⟩ (hM H.size) ⟨callB_of n C.2.2.2.1 (gT_in (fun _ h => h) hY.1) rfl hrm.1 hrm.2.1 (C.2.2.2.1 _ hY.2.1) (C.2.2.2.1 _ hml) hY.2.2.1 hrm.2.2, C.2.2.2.1 _ hY.2.2.2⟩
    ⟨pw_blind, pw_pre C hw _⟩ rfl hn hls rfl (lv_room hr) hdg hcs) hw.2.2.1 (fun q _ h => pw_free hw q h) (pw_free hw) (fun u t H1 locs1 ht hvm hp hB hz1 hk1 hS => ?_)
  subst hp
  exact kk H1 locs1 (pw_after (wf := pw_w sh cI cZ ad) hw ht hB hS)
theorem pw_ne {x k : Int32} (h : ¬ x = k) : x.toInt ≠ k.toInt := fun q => h (Int32.toInt_inj.mp q)
end Rows
