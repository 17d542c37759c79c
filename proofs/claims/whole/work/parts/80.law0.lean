/-! ===== the law: two worlds side by side ===== -/
section LRows
variable {p : Program} {l : Launch} {e : Env} {R : Room} {s : State} {m : MethodId} {args : Array Value} {below : List Frame} {meth : Method} {c : Code} {H : Heap} {locs : List Loc} {cells slots : Nat} {Q : State → Prop}
variable {own : String} {cc : ByteArray} {nL : Nat} {ret : Option FieldType} {D : va_G} {cI cZ : ClassId} {A : Nat → Prop} {pc : Nat} {ls : Array Slot} {rest : List Value} {sh : List Shp} {ad : Nat → Nat} {σ : St}
def pw_apart (w w2 : va_W) : Prop := ∀ (j k : Nat) (x q : Nat × va_E), w[j]? = some x → w2[k]? = some q → x.1 ≠ q.1
/-- the other world stays, for its cells are none of the callee's -/
theorem pw_stays {w w2 : va_W} {H1 : Heap} {locs1 : List Loc} (h2 : pw_H D w2 A s.heap H locs) (hd : pw_apart w w2) (hk : ∀ q : Nat, q < H.size → ¬ va_A w H.size q → H1[q]? = H[q]?) (hS : va_S A s.heap H1 locs1) : pw_H D w2 A s.heap H1 locs1 := by
  refine ⟨h2.1.kept (fun k q hq => hk q.1 (h2.1 k q hq).lt (fun h => ?_)), h2.2.1, hS, h2.2.2.2⟩
  rcases h with ⟨j, e, h⟩ | h
  · exact hd j k _ q h hq rfl
  · exact absurd (h2.1 k q hq).lt (Nat.not_lt.mpr h)
variable {y : MethodName} {bytes : ByteArray} {maxL index n : Nat} {rt : Option FieldType} {rm : Room} {As : List Value} {st0 : List Value} {r : Int32} {σ1 : St} {k ci : Nat} {fs : List (Option Nat)} {T : u_T} {N : Nat} {ty : Nat → FieldType} {w2 : va_W}
theorem r_c2I (C : pw_C p s m args meth c own cc nL ret D cI cZ) (hw : pw_H D (pw_w sh cI cZ ad σ) A s.heap H locs) (h2 : pw_H D w2 A s.heap H locs) (hd : pw_apart (pw_w sh cI cZ ad σ) w2) (hM : pw_MI l D sh cI cZ ad y bytes maxL rt rm (.ref (ad k) :: As) σ r σ1) (hY : pw_YV y bytes maxL rt n) (hml : Cond.methodLink own index y ∈ gT) (hq : sh[k]? = some (.inr (ci, fs))) (hc : pw_cls ci y.cls T N ty)
    (hrm : rm.cells = 0 ∧ rm.slots = 0 ∧ rm.frames + 1 ≤ R.frames ∧ 8 + (maxL + 11) + rm.locals ≤ R.locals) (hn : As.length = n) (hls : ls.size = nL) (hst : st0 = As.reverse ++ .ref (ad k) :: rest) (hr : (rest.map fun v => v.category).sum ≤ 8) (hdg : decode cc pc = .ok (.invokevirtual index, 3)) (hcs : cells ≤ R.cells ∧ slots ≤ R.slots)
    (kk : ∀ (H1 : Heap) (locs1 : List Loc), pw_H D (pw_w sh cI cZ ad σ1) A s.heap H1 locs1 → pw_H D w2 A s.heap H1 locs1 → W p l e R s m args below meth c H1 locs1 cells slots Q (F0 m (pc + 3) ls (.int r :: rest))) : W p l e R s m args below meth c H locs cells slots Q (F0 m pc ls st0) := by
  subst hst
  refine va_calli (va_runV (nL := nL) (Ts := gT) (ret := rt) (As := As) (rest := rest) ⟨C.1, C.2.1, C.2.2.2.2.2.2.1, C.2.2.2.2.1, C.2.2.2.1⟩ (hM H.size) ⟨callB_of n C.2.2.2.1 (gT_in (fun _ h => h) hY.1) rfl hrm.1 hrm.2.1 (C.2.2.2.1 _ hY.2.1) (C.2.2.2.1 _ hml) hY.2.2.1 hrm.2.2, C.2.2.2.1 _ hY.2.2.2.1, C.2.2.2.1 _ hY.2.2.2.2⟩
    ⟨pw_blind, va_recv C.2.2.2.2.2.2.2.1 hw.1 hc.1 (pw_get hq), pw_pre C hw _⟩ rfl hn hls rfl (lv_room hr) hdg hcs) hw.2.2.1 (fun q _ h => pw_free hw q h) (pw_free hw) (fun r1 u t H1 locs1 ht hvm hp hB hz1 hk1 hS => ?_)
  obtain ⟨rfl, rfl⟩ := hp
  exact kk H1 locs1 (pw_after (wf := pw_w sh cI cZ ad) hw ht hB hS) (pw_stays h2 hd hk1 hS)
theorem pw_blindS {w : va_W} {sz : Nat} {av : List Value} : FrameBlind (va_Pc av (pw_PreS D cI cZ w sz)) := by
  intro a U g mk q
  obtain ⟨q0, ⟨q1, qP, qK, qN, qD⟩, qX⟩ := q
  exact ⟨q0, ⟨q1, qP, va_K.moved (u := U) (U := U.calling g mk a) (Vm.Alike.refl U.vm) qK, qN.same rfl, qD⟩, qX.calling g mk a⟩
theorem r_c2S (C : pw_C p s m args meth c own cc nL ret D cI cZ) (hX : pw_X A s) (hw : pw_H D (pw_w sh cI cZ ad σ) A s.heap H locs) (h2 : pw_H D w2 A s.heap H locs) (hd : pw_apart (pw_w sh cI cZ ad σ) w2) (hM : pw_MIs l D sh cI cZ ad y bytes maxL rt rm (.ref (ad k) :: As) σ r σ1) (hY : pw_YV y bytes maxL rt n) (hml : Cond.methodLink own index y ∈ gT) (hq : sh[k]? = some (.inr (ci, fs))) (hc : pw_cls ci y.cls T N ty)
    (hrm : rm.cells = 0 ∧ rm.slots = 0 ∧ rm.frames + 1 ≤ R.frames ∧ 8 + (maxL + 11) + rm.locals ≤ R.locals) (hn : As.length = n) (hls : ls.size = nL) (hst : st0 = As.reverse ++ .ref (ad k) :: rest) (hr : (rest.map fun v => v.category).sum ≤ 8) (hdg : decode cc pc = .ok (.invokevirtual index, 3)) (hcs : cells ≤ R.cells ∧ slots ≤ R.slots)
    (kk : ∀ (H1 : Heap) (locs1 : List Loc), pw_H D (pw_w sh cI cZ ad σ1) A s.heap H1 locs1 → pw_H D w2 A s.heap H1 locs1 → W p l e R s m args below meth c H1 locs1 cells slots Q (F0 m (pc + 3) ls (.int r :: rest))) : W p l e R s m args below meth c H locs cells slots Q (F0 m pc ls st0) := by
  subst hst
  refine va_calli (va_runV (nL := nL) (Ts := gT) (ret := rt) (As := As) (rest := rest) ⟨C.1, C.2.1, C.2.2.2.2.2.2.1, C.2.2.2.2.1, C.2.2.2.1⟩ (hM H.size) ⟨callB_of n C.2.2.2.1 (gT_in (fun _ h => h) hY.1) rfl hrm.1 hrm.2.1 (C.2.2.2.1 _ hY.2.1) (C.2.2.2.1 _ hml) hY.2.2.1 hrm.2.2, C.2.2.2.1 _ hY.2.2.2.1, C.2.2.2.1 _ hY.2.2.2.2⟩
    ⟨pw_blindS, va_recv C.2.2.2.2.2.2.2.1 hw.1 hc.1 (pw_get hq), fun U hU hW => ⟨rfl, (pw_pre C hw (.ref (ad k) :: As) U hU hW).2, hX.go hw.2.2.1 (pw_free hw) hU hW.alike⟩⟩ rfl hn hls rfl (lv_room hr) hdg hcs) hw.2.2.1 (fun q _ h => pw_free hw q h) (pw_free hw) (fun r1 u t H1 locs1 ht hvm hp hB hz1 hk1 hS => ?_)
  obtain ⟨rfl, rfl⟩ := hp
  exact kk H1 locs1 (pw_after (wf := pw_w sh cI cZ ad) hw ht hB hS) (pw_stays h2 hd hk1 hS)
/-- the law makes an object beside what is there -/
theorem r_newL (C : pw_C p s m args meth c own cc nL ret D cI cZ) (hX : pw_X A s) {L : va_W} (hw : pw_H D L A s.heap H locs) {mc ms ci' : Nat} {fs' : List Value} {σ0 : St} {T' : u_T} {N' : Nat} {ty' : Nat → FieldType} {ix ix2 : Nat} (hM : pw_MK l D cI cZ y bytes maxL rm mc ms ci' fs' sh σ0) (hc' : pw_cls ci' y.cls T' N' ty') (hY : pw_YK y bytes maxL) (hcl : Cond.classLink own ix y.cls ∈ gT) (hinst : Cond.instantiable y.cls N' ∈ gT) (hfs : ∀ k, k < N' → defaultValue (ty' k) = vp_V fs' k) (hml : Cond.methodLink own ix2 y ∈ gT)
    (hrm : rm.cells = mc ∧ rm.slots = ms ∧ rm.frames + 1 ≤ R.frames ∧ 8 + (maxL + 11) + rm.locals ≤ R.locals) (hls : ls.size = nL) (hcells : cells + 1 + mc ≤ R.cells) (hslots : slots + N' + ms ≤ R.slots) (d1 : decode cc pc = .ok (.new ix, 3)) (d2 : decode cc (pc + 3) = .ok (.dup, 1)) (d3 : decode cc (pc + 3 + 1) = .ok (.invokespecial ix2, 3))
    (kk : ∀ (u : Nat → Nat) (H1 : Heap) (locs1 : List Loc), pw_H D (L ++ pw_w sh cI cZ u σ0) A s.heap H1 locs1 → W p l e R s m args below meth c H1 locs1 (cells + 1 + mc) (slots + N' + ms) Q (F0 m (pc + 3 + 1 + 3) ls [.ref (u 0)])) : W p l e R s m args below meth c H locs cells slots Q (F0 m pc ls []) := by
  refine va_new (ci := ci') (fs := fs') C.1 C.2.1 C.2.2.2.1 hc'.2.1 ty' hc'.2.2.1 C.2.2.2.2.1 (C.2.2.2.1 _ hcl) (C.2.2.2.1 _ hinst) (C.2.2.2.1 _ hY.2.1) C.2.2.2.2.2.2.2.1 hw.1 hw.2.1 hw.2.2.1 hw.2.2.2 hc'.1 hfs (by omega) (by omega) d1 (fun q H1 hP hD hS => ?_)
  refine lv_dup C.1 C.2.1 d2 rfl ?_
  have hPc : va_P D vwCl [(q, .inr (ci', fs'))] H1 := fun k x hx => hP (L.length + k) x (by rw [List.getElem?_append_right (Nat.le_add_right _ _), Nat.add_sub_cancel_left]; exact hx)
  have hDc : va_D A [(q, .inr (ci', fs'))] := ⟨fun i j x y hx hy _ => by
      have h1 : i < 1 := (List.getElem?_eq_some_iff.mp hx).1
      have h2 : j < 1 := (List.getElem?_eq_some_iff.mp hy).1
      omega, fun k x hx => hD.2 (L.length + k) x (by rw [List.getElem?_append_right (Nat.le_add_right _ _), Nat.add_sub_cancel_left]; exact hx)⟩
  have hF : ∀ x, va_A [(q, (Sum.inr (ci', fs') : va_E))] H1.size x → A x := by
    intro x h
    rcases h with ⟨k, e, h⟩ | h
    · exact hDc.2 k _ h
    · exact hw.2.2.2 x (Nat.le_trans hS.1 h)
  refine va_callv (va_runI (nL := nL) (Ts := gT) (As := []) (rest := [.ref q]) ⟨C.1, C.2.1, C.2.2.2.2.2.2.1, C.2.2.2.2.1, C.2.2.2.1⟩ (hM q H1.size) ⟨callB_of 0 C.2.2.2.1 (gT_in (fun _ h => h) hY.1) rfl hrm.1 hrm.2.1 (C.2.2.2.1 _ hY.2.1) (C.2.2.2.1 _ hml) hY.2.2.1 hrm.2.2, hY.2.2.2.2.1, C.2.2.2.1 _ hY.2.2.2.1⟩
    ⟨pw_blindK, fun U hU hW => ⟨rfl, by rw [hU], by rw [hU]; exact hPc, va_K.moved hW.alike C.2.2.2.2.2.2.2.1, C.2.2.2.2.2.2.2.2.warm hW, hDc.weaken (fun _ _ _ _ => trivial), hX.go hS hF hU hW.alike⟩⟩ rfl rfl hls rfl (lv_room (Nat.le_of_ble_eq_true rfl)) d3 ⟨by omega, by omega⟩) hS (fun x _ h => hF x h) hF (fun u t H2 locs2 ht hvm hp hB hz1 hk1 hS => ?_)
  subst hp
  obtain ⟨hP2, hD2⟩ := pw_join hP hD hk1 hF (by rw [← ht]; exact hB.1) hB.2
  exact kk u H2 locs2 ⟨hP2, hD2, hS, hw.2.2.2⟩
theorem pw_split {w w2 : va_W} (h : pw_H D (w ++ w2) A s.heap H locs) : pw_H D w A s.heap H locs ∧ pw_H D w2 A s.heap H locs ∧ pw_apart w w2 := by
  have i1 : ∀ (k : Nat) (q : Nat × va_E), w[k]? = some q → (w ++ w2)[k]? = some q := fun k q hq => by
    rw [List.getElem?_append_left (List.getElem?_eq_some_iff.mp hq).1]; exact hq
  have i2 : ∀ (k : Nat) (q : Nat × va_E), w2[k]? = some q → (w ++ w2)[w.length + k]? = some q := fun k q hq => by
    rw [List.getElem?_append_right (Nat.le_add_right _ _), Nat.add_sub_cancel_left]; exact hq
  obtain ⟨hP, hD, hS, hA⟩ := h
  refine ⟨⟨fun k q hq => hP k q (i1 k q hq), ⟨fun i j x y hx hy e => hD.1 i j x y (i1 i x hx) (i1 j y hy) e, fun k q hq => hD.2 k q (i1 k q hq)⟩, hS, hA⟩, ⟨fun k q hq => hP _ q (i2 k q hq), ⟨fun i j x y hx hy e => ?_, fun k q hq => hD.2 _ q (i2 k q hq)⟩, hS, hA⟩, ?_⟩
  · have := hD.1 _ _ x y (i2 i x hx) (i2 j y hy) e
    omega
  · intro j k x q hx hq e
    have h1 := hD.1 _ _ x q (i1 j x hx) (i2 k q hq) e
    have := (List.getElem?_eq_some_iff.mp hx).1
    omega
end LRows
/-- apart, whatever the two states are -/
def pw_off (sh1 sh2 : List Shp) (ad1 ad2 : Nat → Nat) : Prop := ∀ c d : Nat, c < sh1.length → d < sh2.length → ad1 c ≠ ad2 d
theorem pw_off.apart {sh1 sh2 : List Shp} {ad1 ad2 : Nat → Nat} (h : pw_off sh1 sh2 ad1 ad2) (cI cZ : ClassId) (σ τ : St) : pw_apart (pw_w sh1 cI cZ ad1 σ) (pw_w sh2 cI cZ ad2 τ) := by
  intro j k x q hx hq
  have l1 : j < sh1.length := by have := (List.getElem?_eq_some_iff.mp hx).1; simpa [pw_w] using this
  have l2 : k < sh2.length := by have := (List.getElem?_eq_some_iff.mp hq).1; simpa [pw_w] using this
  rw [pw_get (List.getElem?_eq_getElem l1)] at hx
  rw [pw_get (List.getElem?_eq_getElem l2)] at hq
  cases hx
  cases hq
  exact h j k l1 l2
theorem pw_off.of {sh1 sh2 : List Shp} {ad1 ad2 : Nat → Nat} {cI cZ : ClassId} {σ τ : St} (h : pw_apart (pw_w sh1 cI cZ ad1 σ) (pw_w sh2 cI cZ ad2 τ)) : pw_off sh1 sh2 ad1 ad2 := by
  intro c d hc hd
  exact h c d _ _ (pw_get (List.getElem?_eq_getElem hc)) (pw_get (List.getElem?_eq_getElem hd))
theorem pw_off.symm {sh1 sh2 : List Shp} {ad1 ad2 : Nat → Nat} (h : pw_off sh1 sh2 ad1 ad2) : pw_off sh2 sh1 ad2 ad1 := fun c d hc hd e => h d c hd hc e.symm
theorem pw_scr {x : Int32} {j k L : Nat} {K : Int32} (ex : x = nI j) (hk : K = nI k) (h : j + k < L) (hL : L ≤ 2560) : vp_in (x + K) L := by
  rw [ex, hk, nI_add]
  exact vp_in_nI h (by omega)
theorem pw_more {x : Int32} {j L : Nat} (ex : x = nI j) (hj : j ≤ L + 5) (hL : L ≤ 2560) (h : ¬ (Int32.ofNat L - 5 < x)) : j + 5 ≤ L := by
  have h1 : (nI L - nI 5).toInt = (L : Int) - (5 : Nat) := pk_sub_toInt (by omega) (by omega)
  have h2 : (nI j).toInt = (j : Int) := nI_toInt (by omega)
  rw [Int32.lt_iff_toInt_lt, ex, show (Int32.ofNat L - 5 : Int32) = nI L - nI 5 from rfl, h1, h2] at h
  omega
