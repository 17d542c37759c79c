/-! ===== constructors ===== -/
def pw_PreK (D : va_G) (cI cZ : ClassId) (h0 ci : Nat) (fs : List Value) (sz : Nat) (U : State) : Prop := U.heap.size = sz ∧ va_P D vwCl [(h0, .inr (ci, fs))] U.heap ∧ va_K D vwCl (pw_ty cI cZ) U ∧ pw_N U ∧ va_D (fun _ => True) [(h0, .inr (ci, fs))] ∧ pw_X (va_A [(h0, .inr (ci, fs))] sz) U
abbrev pw_BK (D : va_G) (wf : (Nat → Nat) → va_W) (A : Nat → Prop) (u : Nat → Nat) (t : State) : Prop := va_P D vwCl (wf u) t.heap ∧ va_D A (wf u)
def pw_MK (l : Launch) (D : va_G) (cI cZ : ClassId) (y : MethodName) (bytes : ByteArray) (maxL : Nat) (rm : Room) (mc ms ci : Nat) (fs : List Value) (sh : List Shp) (σ0 : St) : Prop :=
  ∀ h0 sz : Nat, Met l y (pw_ws y bytes maxL none) rm (va_Pc [.ref h0] (pw_PreK D cI cZ h0 ci fs sz)) (va_Qv (fun u : Nat → Nat => u 0 = h0) (pw_BK D (fun u => pw_w sh cI cZ u σ0) (va_A [(h0, .inr (ci, fs))] sz)) (va_A [(h0, .inr (ci, fs))] sz)) mc ms (va_A [(h0, .inr (ci, fs))] sz)
def pw_QK (below : List Frame) (args : Array Value) (s : State) (D : va_G) (cI cZ : ClassId) (sh : List Shp) (σ0 : St) (h0 : Nat) (A : Nat → Prop) (mc ms : Nat) : State → Prop :=
  MQ below (va_Qv (fun u : Nat → Nat => u 0 = h0) (pw_BK D (fun u => pw_w sh cI cZ u σ0) A) A) args s mc ms A
def pw_rk (d mc ms : Nat) : Room := { frames := d, cells := mc, slots := ms, locals := 60 * d }
theorem pw_blindK {D : va_G} {cI cZ : ClassId} {h0 ci : Nat} {fs : List Value} {sz : Nat} {av : List Value} : FrameBlind (va_Pc av (pw_PreK D cI cZ h0 ci fs sz)) := by
  intro a U g mk q
  obtain ⟨q0, q1, qP, qK, qN, qD, qX⟩ := q
  exact ⟨q0, q1, qP, va_K.moved (u := U) (U := U.calling g mk a) (Vm.Alike.refl U.vm) qK, qN.same rfl, qD, qX.calling g mk a⟩
theorem pw_ofK {l : Launch} {D : va_G} {cI cZ : ClassId} {y : MethodName} {bytes : ByteArray} {maxL : Nat} {rm : Room} {mc ms ci : Nat} {fs : List Value} {sh : List Shp} {σ0 : St} (hy : plainName y.cls = true) (hyn : y.name = "<init>") (hm : 1 ≤ maxL)
    (body : ∀ (h0 : Nat) (p : Program) (e : Env) (s : State) (m : MethodId) (args : Array Value) (below : List Frame) (meth : Method) (c : Code) (A : Nat → Prop), pw_C p s m args meth c y.cls bytes maxL none D cI cZ → meth.name = "<init>" → pw_X A s → pw_H D [(h0, .inr (ci, fs))] A s.heap s.heap [] → ∀ ls : Array Slot, lv_has ls maxL [(0, .ref h0)] →
      W p l e rm s m args below meth c s.heap [] 0 0 (pw_QK below args s D cI cZ sh σ0 h0 A mc ms) (F0 m 0 ls [])) : pw_MK l D cI cZ y bytes maxL rm mc ms ci fs sh σ0 := by
  intro h0 sz
  refine Met.ofW (cc := bytes) (maxL := maxL) (ret := none) hy rfl ?_
  intro p e s m args below meth c s₁ B hml hv
  obtain ⟨rfl, hsz, hP, hK, hN, hD0, hX⟩ := hv
  subst hsz
  have C := pw_atC B hml hK hN
  have hin : meth.name = "<init>" := (name_of_methodNamed B.named B.method).1.trans hyn
  have hl := lv_entry [.ref h0] (n := maxL) (show 1 ≤ maxL from hm)
  rw [lg_entry_eq]
  exact body h0 p e s m _ below meth c _ C hin hX ⟨hP, hD0.self, va_S.rf, fun q h => Or.inr h⟩ _ hl
section CRows
variable {p : Program} {l : Launch} {e : Env} {R : Room} {s : State} {m : MethodId} {args : Array Value} {below : List Frame} {meth : Method} {c : Code} {H : Heap} {locs : List Loc} {cells slots : Nat} {Q : State → Prop}
variable {own : String} {cc : ByteArray} {nL : Nat} {ret : Option FieldType} {D : va_G} {cI cZ : ClassId} {A : Nat → Prop} {pc : Nat} {ls : Array Slot} {rest : List Value}
theorem r_kret {sh : List Shp} {ad : Nat → Nat} {σ : St} (C : pw_C p s m args meth c own cc nL none D cI cZ) (hw : pw_H D (pw_w sh cI cZ ad σ) A s.heap H locs) {v : Int32} {z : Int32 × St} (hdg : decode cc pc = .ok (.return_, 1)) (h : some (v, σ) = some z) : W p l e R s m args below meth c H locs cells slots (pw_QK below args s D cI cZ sh z.2 (ad 0) A cells slots) (F0 m pc ls []) := by
  have e := Option.some.inj h
  subst e
  exact W.vret C.1 C.2.1 C.2.2.1 (fun t ht hW => ⟨⟨ad, rfl, rfl, by rw [ht]; exact hw.1, hw.2.1⟩, hw.2.2.1.F ht⟩) hw.2.2.1.2.2 hdg C.2.2.2.2.2.1
theorem pw_sameI (hK : va_K D vwCl (pw_ty cI cZ) s) {cA : ClassId} (h : va_K D vwCl (pw_ty cI cZ ++ [(cA, .int)]) s) : cA = cI := by
  have h1 : s.vm.findClass ("[" ++ FieldType.int.toString) = some cA := (h.2 2 _ rfl).2
  have h2 : s.vm.findClass ("[" ++ FieldType.int.toString) = some cI := (hK.2 0 _ rfl).2
  exact Option.some.inj (h1.symm.trans h2)
theorem pw_sameZ (hK : va_K D vwCl (pw_ty cI cZ) s) {cA : ClassId} (h : va_K D vwCl (pw_ty cI cZ ++ [(cA, .boolean)]) s) : cA = cZ := by
  have h1 : s.vm.findClass ("[" ++ FieldType.boolean.toString) = some cA := (h.2 2 _ rfl).2
  have h2 : s.vm.findClass ("[" ++ FieldType.boolean.toString) = some cZ := (hK.2 1 _ rfl).2
  exact Option.some.inj (h1.symm.trans h2)
/-- a new array goes into a final field of the object that is made -/
theorem r_newI (C : pw_C p s m args meth c own cc nL ret D cI cZ) {h0 ci : Nat} {fs : List Value} {arrs : va_W} (hw : pw_H D ((h0, .inr (ci, fs)) :: arrs) A s.heap H locs) {Cn : String} {T : u_T} {N : Nat} {ty : Nat → FieldType} (hc : pw_cls ci Cn T N ty) (hin : meth.name = "<init>") (j : Nat) {idx : Nat} (hj : j < N) (hlen : fs.length = N) (hfin : (T j).2.2.2 = true) (hdecl : (T j).1 = own) (hty : ty j = .array .int)
    (hlink : Cond.fieldLink own idx (T j).1 (T j).2.1 (T j).2.2.1 ∈ gT) (ha : Cond.arrayClass .int ∈ gT) {n : Int32} (K : Nat) (hn : ¬ n < 0) (hN : n.toNatClampNeg = K) (hb : K * componentBytes .int ≤ 536870912) (hcells : cells + 1 ≤ R.cells) (hslots : slots + K ≤ R.slots) (d1 : decode cc pc = .ok (.newarray .int, 2)) (d2 : decode cc (pc + 2) = .ok (.putfield idx, 3))
    (kk : ∀ (q : Nat) (fs1 : List Value) (arrs1 : va_W) (H1 : Heap) (locs1 : List Loc), fs1 = fs.set j (.ref q) → arrs1 = arrs ++ [(q, .inl (cI, K, .inl (fun _ => 0)))] → fs1.length = N → pw_H D ((h0, .inr (ci, fs1)) :: arrs1) A s.heap H1 locs1 → W p l e R s m args below meth c H1 locs1 (cells + 1) (slots + K) Q (F0 m (pc + 2 + 3) ls rest)) : W p l e R s m args below meth c H locs cells slots Q (F0 m pc ls (.int n :: .ref h0 :: rest)) := by
  refine va_newa C.1 C.2.1 (atype := .int) (C.2.2.2.1 _ ha) (ty := .int) rfl C.2.2.2.2.2.2.2.1 hw.1 hw.2.1 hw.2.2.1 hw.2.2.2 (a0 := (K, .inl (fun _ => 0))) (fun _ => rfl) hn hN hb hcells hslots d1 (fun q cA H1 hK1 hP hD hS => ?_)
  have e := pw_sameI C.2.2.2.2.2.2.2.1 hK1
  subst e
  refine va_putF C.1 C.2.1 C.2.2.2.1 hc.2.1 ty hc.2.2.1 hc.2.2.2 C.2.2.2.2.1 C.2.2.2.2.2.2.2.1 hP hD hS 0 rfl hc.1 j hj (C.2.2.2.1 _ hlink) (fun _ h => h) hfin hin hdecl (hc.2.2.1 j hj) (by rw [hty]; rfl) (by rw [hty]; rfl) (by rw [hlen]; exact hj) d2 (fun H2 locs2 hP hD hS => ?_)
  exact kk q _ _ H2 locs2 rfl rfl (by rw [List.length_set]; exact hlen) ⟨hP, hD, hS, hw.2.2.2⟩
theorem r_newZ (C : pw_C p s m args meth c own cc nL ret D cI cZ) {h0 ci : Nat} {fs : List Value} {arrs : va_W} (hw : pw_H D ((h0, .inr (ci, fs)) :: arrs) A s.heap H locs) {Cn : String} {T : u_T} {N : Nat} {ty : Nat → FieldType} (hc : pw_cls ci Cn T N ty) (hin : meth.name = "<init>") (j : Nat) {idx : Nat} (hj : j < N) (hlen : fs.length = N) (hfin : (T j).2.2.2 = true) (hdecl : (T j).1 = own) (hty : ty j = .array .boolean)
    (hlink : Cond.fieldLink own idx (T j).1 (T j).2.1 (T j).2.2.1 ∈ gT) (ha : Cond.arrayClass .boolean ∈ gT) {n : Int32} (K : Nat) (hn : ¬ n < 0) (hN : n.toNatClampNeg = K) (hb : K * componentBytes .boolean ≤ 536870912) (hcells : cells + 1 ≤ R.cells) (hslots : slots + K ≤ R.slots) (d1 : decode cc pc = .ok (.newarray .boolean, 2)) (d2 : decode cc (pc + 2) = .ok (.putfield idx, 3))
    (kk : ∀ (q : Nat) (fs1 : List Value) (arrs1 : va_W) (H1 : Heap) (locs1 : List Loc), fs1 = fs.set j (.ref q) → arrs1 = arrs ++ [(q, .inl (cZ, K, .inl (fun _ => 0)))] → fs1.length = N → pw_H D ((h0, .inr (ci, fs1)) :: arrs1) A s.heap H1 locs1 → W p l e R s m args below meth c H1 locs1 (cells + 1) (slots + K) Q (F0 m (pc + 2 + 3) ls rest)) : W p l e R s m args below meth c H locs cells slots Q (F0 m pc ls (.int n :: .ref h0 :: rest)) := by
  refine va_newa C.1 C.2.1 (atype := .boolean) (C.2.2.2.1 _ ha) (ty := .boolean) rfl C.2.2.2.2.2.2.2.1 hw.1 hw.2.1 hw.2.2.1 hw.2.2.2 (a0 := (K, .inl (fun _ => 0))) (fun _ => rfl) hn hN hb hcells hslots d1 (fun q cA H1 hK1 hP hD hS => ?_)
  have e := pw_sameZ C.2.2.2.2.2.2.2.1 hK1
  subst e
  refine va_putF C.1 C.2.1 C.2.2.2.1 hc.2.1 ty hc.2.2.1 hc.2.2.2 C.2.2.2.2.1 C.2.2.2.2.2.2.2.1 hP hD hS 0 rfl hc.1 j hj (C.2.2.2.1 _ hlink) (fun _ h => h) hfin hin hdecl (hc.2.2.1 j hj) (by rw [hty]; rfl) (by rw [hty]; rfl) (by rw [hlen]; exact hj) d2 (fun H2 locs2 hP hD hS => ?_)
  exact kk q _ _ H2 locs2 rfl rfl (by rw [List.length_set]; exact hlen) ⟨hP, hD, hS, hw.2.2.2⟩
/-- behind a call that had a part of the world: the rest stays -/
theorem pw_join {A0 : Nat → Prop} {L wc w1 : va_W} {H1 : Heap} (hP : va_P D vwCl (L ++ wc) H) (hD : va_D A0 (L ++ wc)) (hk : ∀ q : Nat, q < H.size → ¬ va_A wc H.size q → H1[q]? = H[q]?) (hF : ∀ q, va_A wc H.size q → A0 q) (hP1 : va_P D vwCl w1 H1) (hD1 : va_D (va_A wc H.size) w1) : va_P D vwCl (L ++ w1) H1 ∧ va_D A0 (L ++ w1) := by
  have inL : ∀ (k : Nat) (q : Nat × va_E), L[k]? = some q → (L ++ wc)[k]? = some q := fun k q h => by
    rw [List.getElem?_append_left (List.getElem?_eq_some_iff.mp h).1]; exact h
  have inC : ∀ (k : Nat) (q : Nat × va_E), wc[k]? = some q → (L ++ wc)[L.length + k]? = some q := fun k q h => by
    rw [List.getElem?_append_right (Nat.le_add_right _ _), Nat.add_sub_cancel_left]; exact h
  have apart : ∀ (k : Nat) (q : Nat × va_E), L[k]? = some q → q.1 < H.size ∧ ¬ va_A wc H.size q.1 := by
    intro k q hq
    have hl := (hP k q (inL k q hq)).lt
    refine ⟨hl, fun h => ?_⟩
    rcases h with ⟨k2, e, h⟩ | h
    · have hij := hD.1 k (L.length + k2) q (q.1, e) (inL k q hq) (inC k2 _ h) rfl
      have := (List.getElem?_eq_some_iff.mp hq).1
      omega
    · omega
  refine ⟨va_P.app (fun k q hq => (hP k q (inL k q hq)).kept (hk q.1 (apart k q hq).1 (apart k q hq).2)) hP1, va_D.app ⟨fun i j x y hx hy hxy => hD.1 i j x y (inL i x hx) (inL j y hy) hxy, fun k q hq => hD.2 k q (inL k q hq)⟩ (hD1.weaken (fun k q _ h => hF q.1 h)) (fun i j x y hx hy hxy => ?_)⟩
  exact (apart i x hx).2 (by rw [hxy]; exact hD1.2 j y hy)
def pw_YK (y : MethodName) (bytes : ByteArray) (maxL : Nat) : Prop := Cond.code y bytes maxL none ∈ gT ∧ Cond.initialized y.cls ∈ gT ∧ (y.cls ≠ "java/lang/invoke/MethodHandle" ∧ y.cls ≠ "java/lang/invoke/VarHandle" ∧ (parseMethodDescriptor y.desc).map (fun d => d.parameters.length) = some 0) ∧ Cond.instanceMethod y ∈ gT ∧ y.name = "<init>" ∧ Cond.instantiable y.cls 0 = Cond.instantiable y.cls 0
/-- a new object of a nest mate, with its constructor, goes into a final field of the object that is made -/
theorem r_newO (C : pw_C p s m args meth c own cc nL ret D cI cZ) (hX : pw_X A s) {h0 ci : Nat} {fs : List Value} {arrs : va_W} (hw : pw_H D ((h0, .inr (ci, fs)) :: arrs) A s.heap H locs) {Cn : String} {T : u_T} {N : Nat} {ty : Nat → FieldType} (hc : pw_cls ci Cn T N ty) (hin : meth.name = "<init>") (j : Nat) {idx : Nat} (hj : j < N) (hlen : fs.length = N) (hfin : (T j).2.2.2 = true) (hdecl : (T j).1 = own) {On : String} (hty : ty j = .object On) (hlink : Cond.fieldLink own idx (T j).1 (T j).2.1 (T j).2.2.1 ∈ gT)
    {y : MethodName} {bytes : ByteArray} {maxL : Nat} {rm : Room} {mc ms ci' : Nat} {fs' : List Value} {sh : List Shp} {σ0 : St} {T' : u_T} {N' : Nat} {ty' : Nat → FieldType} {ix ix2 : Nat} {host : String} (hM : pw_MK l D cI cZ y bytes maxL rm mc ms ci' fs' sh σ0) (hc' : pw_cls ci' y.cls T' N' ty') (hY : pw_YK y bytes maxL) (hcl : Cond.classLink own ix y.cls ∈ gT) (hinst : Cond.instantiable y.cls N' ∈ gT) (hfs : ∀ k, k < N' → defaultValue (ty' k) = vp_V fs' k) (hml : Cond.methodLinkNest own ix2 y host ∈ pw_nw)
    (hrm : rm.cells = mc ∧ rm.slots = ms ∧ rm.frames + 1 ≤ R.frames ∧ 8 + (maxL + 11) + rm.locals ≤ R.locals) (hls : ls.size = nL) (hcells : cells + 1 + mc ≤ R.cells) (hslots : slots + N' + ms ≤ R.slots) (hr : ((Value.ref h0 :: rest).map fun v => v.category).sum + 1 ≤ 8)
    (d1 : decode cc pc = .ok (.new ix, 3)) (d2 : decode cc (pc + 3) = .ok (.dup, 1)) (d3 : decode cc (pc + 3 + 1) = .ok (.invokespecial ix2, 3)) (d4 : decode cc (pc + 3 + 1 + 3) = .ok (.putfield idx, 3))
    (kk : ∀ (u : Nat → Nat) (fs1 : List Value) (arrs1 : va_W) (H1 : Heap) (locs1 : List Loc), fs1 = fs.set j (.ref (u 0)) → arrs1 = arrs ++ pw_w sh cI cZ u σ0 → fs1.length = N → pw_H D ((h0, .inr (ci, fs1)) :: arrs1) A s.heap H1 locs1 → W p l e R s m args below meth c H1 locs1 (cells + 1 + mc) (slots + N' + ms) Q (F0 m (pc + 3 + 1 + 3 + 3) ls rest)) : W p l e R s m args below meth c H locs cells slots Q (F0 m pc ls (.ref h0 :: rest)) := by
  refine va_new (ci := ci') (fs := fs') C.1 C.2.1 C.2.2.2.1 hc'.2.1 ty' hc'.2.2.1 C.2.2.2.2.1 (C.2.2.2.1 _ hcl) (C.2.2.2.1 _ hinst) (C.2.2.2.1 _ hY.2.1) C.2.2.2.2.2.2.2.1 hw.1 hw.2.1 hw.2.2.1 hw.2.2.2 hc'.1 hfs (by omega) (by omega) d1 (fun q H1 hP hD hS => ?_)
  have hP : va_P D vwCl (((h0, .inr (ci, fs)) :: arrs) ++ [(q, .inr (ci', fs'))]) H1 := hP
  refine lv_dup C.1 C.2.1 d2 rfl ?_
  have hPc : va_P D vwCl [(q, .inr (ci', fs'))] H1 := fun k x hx => hP (((h0, (Sum.inr (ci, fs) : va_E)) :: arrs).length + k) x (by rw [List.getElem?_append_right (Nat.le_add_right _ _), Nat.add_sub_cancel_left]; exact hx)
  have hDc : va_D A [(q, .inr (ci', fs'))] := ⟨fun i j x y hx hy _ => by
      have h1 : i < 1 := (List.getElem?_eq_some_iff.mp hx).1
      have h2 : j < 1 := (List.getElem?_eq_some_iff.mp hy).1
      omega, fun k x hx => hD.2 (((h0, (Sum.inr (ci, fs) : va_E)) :: arrs).length + k) x (by rw [List.getElem?_append_right (Nat.le_add_right _ _), Nat.add_sub_cancel_left]; exact hx)⟩
  have hF : ∀ x, va_A [(q, (Sum.inr (ci', fs') : va_E))] H1.size x → A x := by
    intro x h
    rcases h with ⟨k, e, h⟩ | h
    · exact hDc.2 k _ h
    · exact hw.2.2.2 x (Nat.le_trans hS.1 h)
  refine va_callv (va_runIN (nL := nL) (Ts := gT) (As := []) (rest := .ref q :: .ref h0 :: rest) ⟨C.1, C.2.1, C.2.2.2.2.2.2.1, C.2.2.2.2.1, C.2.2.2.1⟩ (hM q H1.size) ⟨va_cnB 0 C.2.2.2.1 (gT_in (fun _ h => h) hY.1) rfl hrm.1 hrm.2.1 (C.2.2.2.2.2.2.2.2 _ hml) (C.2.2.2.1 _ hY.2.1) hY.2.2.1 hrm.2.2, hY.2.2.2.2.1, C.2.2.2.1 _ hY.2.2.2.1⟩
    ⟨pw_blindK, fun U hU hW => ⟨rfl, by rw [hU], by rw [hU]; exact hPc, va_K.moved hW.alike C.2.2.2.2.2.2.2.1, C.2.2.2.2.2.2.2.2.warm hW, hDc.weaken (fun _ _ _ _ => trivial), hX.go hS hF hU hW.alike⟩⟩ rfl rfl hls rfl (lv_room (by simp only [List.map_cons, List.sum_cons] at hr ⊢; have e1 : (Value.ref q).category = 1 := rfl; omega)) d3 ⟨by omega, by omega⟩) hS (fun x _ h => hF x h) hF (fun u t H2 locs2 ht hvm hp hB hz1 hk1 hS => ?_)
  subst hp
  obtain ⟨hP2, hD2⟩ := pw_join hP hD hk1 hF (by rw [← ht]; exact hB.1) hB.2
  refine va_putF C.1 C.2.1 C.2.2.2.1 hc.2.1 ty hc.2.2.1 hc.2.2.2 C.2.2.2.2.1 C.2.2.2.2.2.2.2.1 hP2 hD2 hS 0 rfl hc.1 j hj (C.2.2.2.1 _ hlink) (fun _ h => h) hfin hin hdecl (hc.2.2.1 j hj) (by rw [hty]; rfl) (by rw [hty]; rfl) (by rw [hlen]; exact hj) d4 (fun H3 locs3 hP hD hS => ?_)
  exact kk u _ _ H3 locs3 rfl rfl (by rw [List.length_set]; exact hlen) ⟨hP, hD, hS, hw.2.2.2⟩
end CRows
/-- the world as a list laid cell by cell -/
def pw_wr (cI cZ : ClassId) (ad : Nat → Nat) (σ : St) : List Shp → Nat → va_W
  | [], _ => []
  | x :: xs, c => (ad c, pw_cell cI cZ ad (σ c) x) :: pw_wr cI cZ ad σ xs (c + 1)
theorem pw_wr_get (cI cZ : ClassId) (ad : Nat → Nat) (σ : St) : ∀ (sh : List Shp) (c k : Nat), (pw_wr cI cZ ad σ sh c)[k]? = sh[k]?.map (fun x => (ad (c + k), pw_cell cI cZ ad (σ (c + k)) x))
  | [], _, _ => by simp [pw_wr]
  | x :: xs, c, 0 => by simp [pw_wr]
  | x :: xs, c, k + 1 => by
    have h := pw_wr_get cI cZ ad σ xs (c + 1) k
    simp only [pw_wr, List.getElem?_cons_succ, h]
    rw [show c + 1 + k = c + (k + 1) by omega]
theorem pw_w_eq (sh : List Shp) (cI cZ : ClassId) (ad : Nat → Nat) (σ : St) : pw_w sh cI cZ ad σ = pw_wr cI cZ ad σ sh 0 := by
  apply List.ext_getElem?
  intro i
  rw [pw_wr_get]
  simp [pw_w, List.getElem?_mapIdx]
theorem pw_H.of {D : va_G} {w w' : va_W} {A : Nat → Prop} {H0 H : Heap} {locs : List Loc} (h : pw_H D w A H0 H locs) (e : w = w') : pw_H D w' A H0 H locs := e ▸ h
def pw_nth : List Nat → Nat → Nat
  | [], _ => 0
  | a :: _, 0 => a
  | _ :: as, k + 1 => pw_nth as k
def pw_nthF : List (Nat → Int32) → Nat → Nat → Int32
  | [], _ => fun _ => 0
  | a :: _, 0 => a
  | _ :: as, k + 1 => pw_nthF as k
