set_option maxRecDepth 100000 in
set_option maxHeartbeats 4000000 in
theorem wX5_stillUnfixed_b5 {p : Program} {l : Launch} {e : Env} {s : State} {m : MethodId} {args : Array Value} {below : List Frame} {meth : Method} {c : Code} {D : va_G} {cI cZ : ClassId} {ad : Nat → Nat} {A : Nat → Prop} {z : Int32 × St}  (C : pw_C p s m args meth c yX5_stillUnfixed.cls cX5_stillUnfixed 5 (some .int) D cI cZ) : ∀ (n : Nat) (x2 : Int32) (x3 : Int32) (x4 : Int32) (σ : St) (H : Heap) (locs : List Loc) (ls : Array Slot), pw_H D (pw_w shC cI cZ ad σ) A s.heap H locs → lv_has ls 5 [(0, .ref (ad 31)), (2, .int x2), (3, .int x3), (4, .int x4)] → fX5_stillUnfixed_b5  n x2 x3 x4 σ = some z → W p l e (pw_rm 0) s m args below meth c H locs 0 0 (pw_QI below args s D (pw_w shC cI cZ ad) A z) (F0 m 5 ls []) := by
  obtain ⟨hx, hb, hr, hts, hown, hlk, hml, hK, hN⟩ := id C
  intro n
  induction n with
  | zero =>
    intro x2 x3 x4 σ H locs ls hw hl h
    exact absurd h (by simp [fX5_stillUnfixed_b5])
  | succ n ih =>
    intro x2 x3 x4 σ H locs ls hw hl h
    rw [fX5_stillUnfixed_b5] at h
    refine lv_iload hx hb dX5_stillUnfixed_5 (lv_at hl 3 rfl) ?_
    refine lv_bipush (v := 12) hx hb dX5_stillUnfixed_7 (by decide) ?_
    refine lv_icmp_ge (tgt := 49) hx hb dX5_stillUnfixed_9 (by decide) (fun hc => ?_) (fun hc => ?_)
    · replace h := pw_t hc h
      refine lv_iload_n hx hb dX5_stillUnfixed_49 rfl (lv_at hl 2 rfl) ?_
      exact r_iret C hw dX5_stillUnfixed_50 h
    · replace h := pw_f hc h
      refine lv_aload_n hx hb dX5_stillUnfixed_12 rfl (lv_at hl 0 rfl) ?_
      refine r_get C hw qC_31 clsX5 0 rfl (by decide) fl_X5_9 dX5_stillUnfixed_13 (v := .ref (ad 32)) rfl ?_
      refine lv_iload hx hb dX5_stillUnfixed_16 (lv_at hl 3 rfl) ?_
      refine r_iald C hw qC_32 dX5_stillUnfixed_18 h (fun v1 h => ?_)
      refine lv_iload_n hx hb dX5_stillUnfixed_19 rfl (lv_at hl 1 rfl) ?_
      refine lv_icmp_gt (tgt := 43) hx hb dX5_stillUnfixed_20 (by decide) (fun hc => ?_) (fun hc => ?_)
      · replace h := pw_t hc h
        refine lv_iinc (v := (x4 + 1)) (lv' := [(4, .int (x4 + 1)), (0, .ref (ad 31)), (2, .int x2), (3, .int x3)]) hx hb dX5_stillUnfixed_43 hl (k := 3) rfl rfl (by decide) rfl (fun ls hl => ?_)
        refine lv_goto (tgt := 5) hx hb dX5_stillUnfixed_46 (by decide) ?_
        exact ih _ _ _ _ _ _ _ hw (lv_sub hl [1, 2, 3, 0] rfl) h
      · replace h := pw_f hc h
        refine lv_iload_n hx hb dX5_stillUnfixed_23 rfl (lv_at hl 1 rfl) ?_
        refine lv_aload_n hx hb dX5_stillUnfixed_24 rfl (lv_at hl 0 rfl) ?_
        refine r_get C hw qC_31 clsX5 1 rfl (by decide) fl_X5_15 dX5_stillUnfixed_25 (v := .ref (ad 33)) rfl ?_
        refine lv_iload hx hb dX5_stillUnfixed_28 (lv_at hl 3 rfl) ?_
        refine r_iald C hw qC_33 dX5_stillUnfixed_30 h (fun v2 h => ?_)
        refine lv_icmp_gt (tgt := 43) hx hb dX5_stillUnfixed_31 (by decide) (fun hc => ?_) (fun hc => ?_)
        · replace h := pw_t hc h
          refine lv_iinc (v := (x4 + 1)) (lv' := [(4, .int (x4 + 1)), (0, .ref (ad 31)), (2, .int x2), (3, .int x3)]) hx hb dX5_stillUnfixed_43 hl (k := 3) rfl rfl (by decide) rfl (fun ls hl => ?_)
          refine lv_goto (tgt := 5) hx hb dX5_stillUnfixed_46 (by decide) ?_
          exact ih _ _ _ _ _ _ _ hw (lv_sub hl [1, 2, 3, 0] rfl) h
        · replace h := pw_f hc h
          refine lv_iload_n hx hb dX5_stillUnfixed_34 rfl (lv_at hl 2 rfl) ?_
          refine lv_iconst (v := 1) hx hb dX5_stillUnfixed_35 (by decide) ?_
          refine lv_iload hx hb dX5_stillUnfixed_36 (lv_at hl 3 rfl) ?_
          refine lv_ishl hx hb dX5_stillUnfixed_38 ?_
          refine lv_iconst (v := (-1)) hx hb dX5_stillUnfixed_39 (by decide) ?_
          refine lv_ixor hx hb dX5_stillUnfixed_40 ?_
          refine lv_iand hx hb dX5_stillUnfixed_41 ?_
          refine r_leti h (fun v3 h => ?_)
          refine lv_istore_n (lv' := [(3, .int v3), (0, .ref (ad 31)), (2, .int x2), (4, .int x4)]) hx hb dX5_stillUnfixed_42 rfl hl (by decide) rfl (fun ls hl => ?_)
          refine lv_iinc (v := (x4 + 1)) (lv' := [(4, .int (x4 + 1)), (3, .int v3), (0, .ref (ad 31)), (2, .int x2)]) hx hb dX5_stillUnfixed_43 hl (k := 3) rfl rfl (by decide) rfl (fun ls hl => ?_)
          refine lv_goto (tgt := 5) hx hb dX5_stillUnfixed_46 (by decide) ?_
          exact ih _ _ _ _ _ _ _ hw (lv_sub hl [2, 3, 1, 0] rfl) h
set_option maxRecDepth 100000 in
set_option maxHeartbeats 4000000 in
theorem kX5_stillUnfixed (l : Launch) (D : va_G) (cI cZ : ClassId) (ad : Nat → Nat) (x1 : Int32) (x2 : Int32) (σ : St) (z : Int32 × St) (h : fX5_stillUnfixed x1 x2 σ = some z) : pw_MI l D shC cI cZ ad yX5_stillUnfixed cX5_stillUnfixed 5 (some .int) (pw_rm 0) [.ref (ad 31), .int x1, .int x2] σ z.1 z.2 := by
  refine pw_ofI (by decide) (Nat.le_of_ble_eq_true rfl) ?_
  intro p e s m args below meth c A C hw ls hl
  obtain ⟨hx, hb, hr, hts, hown, hlk, hml, hK, hN⟩ := id C
  have hl : lv_has ls 5 [(0, .ref (ad 31)), (1, .int x1), (2, .int x2)] := hl
  unfold fX5_stillUnfixed at h
  refine lv_iload_n hx hb dX5_stillUnfixed_0 rfl (lv_at hl 1 rfl) ?_
  refine lv_istore_n (lv' := [(3, .int x1), (0, .ref (ad 31)), (1, .int x1), (2, .int x2)]) hx hb dX5_stillUnfixed_1 rfl hl (by decide) rfl (fun ls hl => ?_)
  refine lv_iconst (v := 0) hx hb dX5_stillUnfixed_2 (by decide) ?_
  refine lv_istore (lv' := [(4, .int 0), (3, .int x1), (0, .ref (ad 31)), (1, .int x1), (2, .int x2)]) hx hb dX5_stillUnfixed_3 hl (by decide) rfl (fun ls hl => ?_)
  exact wX5_stillUnfixed_b5 C  _ _ _ _ _ _ _ _ hw (lv_sub hl [2, 4, 1, 0] rfl) h
set_option maxRecDepth 100000 in
set_option maxHeartbeats 4000000 in
theorem wX5_plan_b7 {p : Program} {l : Launch} {e : Env} {s : State} {m : MethodId} {args : Array Value} {below : List Frame} {meth : Method} {c : Code} {D : va_G} {cI cZ : ClassId} {ad : Nat → Nat} {A : Nat → Prop} {z : Int32 × St}  (C : pw_C p s m args meth c yX5_plan.cls cX5_plan 6 (some .int) D cI cZ) : ∀ (n : Nat) (x2 : Int32) (x3 : Int32) (x4 : Int32) (σ : St) (H : Heap) (locs : List Loc) (ls : Array Slot), pw_H D (pw_w shC cI cZ ad σ) A s.heap H locs → lv_has ls 6 [(0, .ref (ad 31)), (2, .int x2), (3, .int x3), (4, .int x4)] → fX5_plan_b7  n x2 x3 x4 σ = some z → W p l e (pw_rm 2) s m args below meth c H locs 0 0 (pw_QI below args s D (pw_w shC cI cZ ad) A z) (F0 m 7 ls []) := by
  obtain ⟨hx, hb, hr, hts, hown, hlk, hml, hK, hN⟩ := id C
  intro n
  induction n with
  | zero =>
    intro x2 x3 x4 σ H locs ls hw hl h
    exact absurd h (by simp [fX5_plan_b7])
  | succ n ih =>
    intro x2 x3 x4 σ H locs ls hw hl h
    rw [fX5_plan_b7] at h
    refine lv_iload hx hb dX5_plan_7 (lv_at hl 3 rfl) ?_
    refine lv_bipush (v := 12) hx hb dX5_plan_9 (by decide) ?_
    refine lv_icmp_ge (tgt := 50) hx hb dX5_plan_11 (by decide) (fun hc => ?_) (fun hc => ?_)
    · replace h := pw_t hc h
      refine lv_iload_n hx hb dX5_plan_50 rfl (lv_at hl 2 rfl) ?_
      exact r_iret C hw dX5_plan_51 h
    · replace h := pw_f hc h
      refine lv_iload_n hx hb dX5_plan_14 rfl (lv_at hl 1 rfl) ?_
      refine lv_if_eq (tgt := 50) hx hb dX5_plan_15 (by decide) (fun hc => ?_) (fun hc => ?_)
      · replace h := pw_t hc h
        refine lv_iload_n hx hb dX5_plan_50 rfl (lv_at hl 2 rfl) ?_
        exact r_iret C hw dX5_plan_51 h
      · replace h := pw_f hc h
        refine lv_aload_n hx hb dX5_plan_18 rfl (lv_at hl 0 rfl) ?_
        refine lv_iload_n hx hb dX5_plan_19 rfl (lv_at hl 1 rfl) ?_
        obtain ⟨v3, σ2, e1, h⟩ := cal_some h
        refine r_cVI C hw (As := [.int x2]) (rest := []) (kX5_greatestFrom l D cI cZ ad _ _ _ e1) YX5_greatestFrom ml_X5_21 qC_31 clsX5 (pw_rmOK (by omega) (by decide)) rfl hl.1 rfl (Nat.le_of_ble_eq_true rfl) dX5_plan_20 ⟨Nat.zero_le _, Nat.zero_le _⟩ (fun H locs hw => ?_)
        refine lv_istore (lv' := [(5, .int v3), (0, .ref (ad 31)), (2, .int x2), (3, .int x3), (4, .int x4)]) hx hb dX5_plan_23 hl (by decide) rfl (fun ls hl => ?_)
        refine lv_aload_n hx hb dX5_plan_25 rfl (lv_at hl 1 rfl) ?_
        refine r_get C hw qC_31 clsX5 2 rfl (by decide) fl_X5_18 dX5_plan_26 (v := .ref (ad 34)) rfl ?_
        refine lv_iload_n hx hb dX5_plan_29 rfl (lv_at hl 3 rfl) ?_
        refine lv_iload hx hb dX5_plan_30 (lv_at hl 0 rfl) ?_
        refine r_iast C hw qC_34 dX5_plan_32 h (fun σ4 H locs hw h => ?_)
        refine lv_iinc (v := (x3 + 1)) (lv' := [(3, .int (x3 + 1)), (5, .int v3), (0, .ref (ad 31)), (2, .int x2), (4, .int x4)]) hx hb dX5_plan_33 hl (k := 3) rfl rfl (by decide) rfl (fun ls hl => ?_)
        refine lv_aload_n hx hb dX5_plan_36 rfl (lv_at hl 2 rfl) ?_
        refine lv_iload_n hx hb dX5_plan_37 rfl (lv_at hl 3 rfl) ?_
        refine lv_iload hx hb dX5_plan_38 (lv_at hl 1 rfl) ?_
        obtain ⟨v7, σ6, e5, h⟩ := cal_some h
        refine r_cVI C hw (As := [.int x2, .int v3]) (rest := []) (kX5_stillUnfixed l D cI cZ ad _ _ _ _ e5) YX5_stillUnfixed ml_X5_25 qC_31 clsX5 (pw_rmOK (by omega) (by decide)) rfl hl.1 rfl (Nat.le_of_ble_eq_true rfl) dX5_plan_40 ⟨Nat.zero_le _, Nat.zero_le _⟩ (fun H locs hw => ?_)
        refine lv_istore_n (lv' := [(2, .int v7), (3, .int (x3 + 1)), (5, .int v3), (0, .ref (ad 31)), (4, .int x4)]) hx hb dX5_plan_43 rfl hl (by decide) rfl (fun ls hl => ?_)
        refine lv_iinc (v := (x4 + 1)) (lv' := [(4, .int (x4 + 1)), (2, .int v7), (3, .int (x3 + 1)), (5, .int v3), (0, .ref (ad 31))]) hx hb dX5_plan_44 hl (k := 4) rfl rfl (by decide) rfl (fun ls hl => ?_)
        refine lv_goto (tgt := 7) hx hb dX5_plan_47 (by decide) ?_
        exact ih _ _ _ _ _ _ _ hw (lv_sub hl [4, 1, 2, 0] rfl) h
set_option maxRecDepth 100000 in
set_option maxHeartbeats 4000000 in
theorem kX5_plan (l : Launch) (D : va_G) (cI cZ : ClassId) (ad : Nat → Nat) (x1 : Int32) (σ : St) (z : Int32 × St) (h : fX5_plan x1 σ = some z) : pw_MI l D shC cI cZ ad yX5_plan cX5_plan 6 (some .int) (pw_rm 2) [.ref (ad 31), .int x1] σ z.1 z.2 := by
  refine pw_ofI (by decide) (Nat.le_of_ble_eq_true rfl) ?_
  intro p e s m args below meth c A C hw ls hl
  obtain ⟨hx, hb, hr, hts, hown, hlk, hml, hK, hN⟩ := id C
  have hl : lv_has ls 6 [(0, .ref (ad 31)), (1, .int x1)] := hl
  unfold fX5_plan at h
  refine lv_iload_n hx hb dX5_plan_0 rfl (lv_at hl 1 rfl) ?_
  refine lv_istore_n (lv' := [(2, .int x1), (0, .ref (ad 31)), (1, .int x1)]) hx hb dX5_plan_1 rfl hl (by decide) rfl (fun ls hl => ?_)
  refine lv_iconst (v := 0) hx hb dX5_plan_2 (by decide) ?_
  refine lv_istore_n (lv' := [(3, .int 0), (2, .int x1), (0, .ref (ad 31)), (1, .int x1)]) hx hb dX5_plan_3 rfl hl (by decide) rfl (fun ls hl => ?_)
  refine lv_iconst (v := 0) hx hb dX5_plan_4 (by decide) ?_
  refine lv_istore (lv' := [(4, .int 0), (3, .int 0), (2, .int x1), (0, .ref (ad 31)), (1, .int x1)]) hx hb dX5_plan_5 hl (by decide) rfl (fun ls hl => ?_)
  exact wX5_plan_b7 C  _ _ _ _ _ _ _ _ hw (lv_sub hl [3, 2, 1, 0] rfl) h
set_option maxRecDepth 100000 in
set_option maxHeartbeats 4000000 in
theorem kX10_fires (l : Launch) (D : va_G) (cI cZ : ClassId) (ad : Nat → Nat) (x1 : Int32) (σ : St) (z : Int32 × St) (h : fX10_fires x1 σ = some z) : pw_MI l D shC cI cZ ad yX10_fires cX10_fires 2 (some .int) (pw_rm 3) [.ref (ad 0), .int x1] σ z.1 z.2 := by
  refine pw_ofI (by decide) (Nat.le_of_ble_eq_true rfl) ?_
  intro p e s m args below meth c A C hw ls hl
  obtain ⟨hx, hb, hr, hts, hown, hlk, hml, hK, hN⟩ := id C
  have hl : lv_has ls 2 [(0, .ref (ad 0)), (1, .int x1)] := hl
  unfold fX10_fires at h
  refine lv_iload_n hx hb dX10_fires_0 rfl (lv_at hl 1 rfl) ?_
  obtain ⟨v3, σ2, e1, h⟩ := cal_some h
  refine r_cSI C hw (sh := shC) (ad := ad) (As := [.int x1]) (rest := []) (kX10_isColourSet l D cI cZ ad _ _ _ e1) YX10_isColourSet ml_X10_205 (pw_rmOK (by omega) (by decide)) rfl hl.1 rfl (Nat.le_of_ble_eq_true rfl) dX10_fires_1 ⟨Nat.zero_le _, Nat.zero_le _⟩ (fun H locs hw => ?_)
  refine lv_if_ne (tgt := 13) hx hb dX10_fires_4 (by decide) (fun hc => ?_) (fun hc => ?_)
  · replace h := pw_f hc h
    refine lv_aload_n hx hb dX10_fires_13 rfl (lv_at hl 0 rfl) ?_
    refine r_get C hw qC_0 clsX10 5 rfl (by decide) fl_X10_44 dX10_fires_14 (v := .ref (ad 31)) rfl ?_
    refine lv_iload_n hx hb dX10_fires_17 rfl (lv_at hl 1 rfl) ?_
    obtain ⟨v6, σ5, e4, h⟩ := cal_some h
    refine r_cNI C hw (As := [.int x1]) (rest := []) (kX5_plan l D cI cZ ad _ _ _ e4) YX5_plan mn_X10_208 qC_31 clsX5 (pw_rmOK (by omega) (by decide)) rfl hl.1 rfl (Nat.le_of_ble_eq_true rfl) dX10_fires_18 ⟨Nat.zero_le _, Nat.zero_le _⟩ (fun H locs hw => ?_)
    exact r_iret C hw dX10_fires_21 h
  · replace h := pw_t hc h
    refine lv_aload_n hx hb dX10_fires_7 rfl (lv_at hl 0 rfl) ?_
    refine lv_iconst (v := (-1)) hx hb dX10_fires_8 (by decide) ?_
    obtain ⟨v9, σ8, e7, h⟩ := cal_some h
    refine r_cVI C hw (As := [.int (-1)]) (rest := []) (kX10_refuse l D cI cZ ad _ _ _ e7) YX10_refuse ml_X10_91 qC_0 clsX10 (pw_rmOK (by omega) (by decide)) rfl hl.1 rfl (Nat.le_of_ble_eq_true rfl) dX10_fires_9 ⟨Nat.zero_le _, Nat.zero_le _⟩ (fun H locs hw => ?_)
    exact r_iret C hw dX10_fires_12 h
set_option maxRecDepth 100000 in
set_option maxHeartbeats 4000000 in
theorem kX10_fireHeat (l : Launch) (D : va_G) (cI cZ : ClassId) (ad : Nat → Nat) (x1 : Int32) (x2 : Int32) (σ : St) (z : Int32 × St) (h : fX10_fireHeat x1 x2 σ = some z) : pw_MI l D shC cI cZ ad yX10_fireHeat cX10_fireHeat 3 (some .int) (pw_rm 3) [.ref (ad 0), .int x1, .int x2] σ z.1 z.2 := by
  refine pw_ofI (by decide) (Nat.le_of_ble_eq_true rfl) ?_
  intro p e s m args below meth c A C hw ls hl
  obtain ⟨hx, hb, hr, hts, hown, hlk, hml, hK, hN⟩ := id C
  have hl : lv_has ls 3 [(0, .ref (ad 0)), (1, .int x1), (2, .int x2)] := hl
  unfold fX10_fireHeat at h
  refine lv_iload_n hx hb dX10_fireHeat_0 rfl (lv_at hl 1 rfl) ?_
  obtain ⟨v3, σ2, e1, h⟩ := cal_some h
  refine r_cSI C hw (sh := shC) (ad := ad) (As := [.int x1]) (rest := []) (kX10_isColourSet l D cI cZ ad _ _ _ e1) YX10_isColourSet ml_X10_205 (pw_rmOK (by omega) (by decide)) rfl hl.1 rfl (Nat.le_of_ble_eq_true rfl) dX10_fireHeat_1 ⟨Nat.zero_le _, Nat.zero_le _⟩ (fun H locs hw => ?_)
  refine lv_if_eq (tgt := 22) hx hb dX10_fireHeat_4 (by decide) (fun hc => ?_) (fun hc => ?_)
  · replace h := pw_t hc h
    refine lv_aload_n hx hb dX10_fireHeat_22 rfl (lv_at hl 0 rfl) ?_
    refine lv_iconst (v := (-1)) hx hb dX10_fireHeat_23 (by decide) ?_
    obtain ⟨v6, σ5, e4, h⟩ := cal_some h
    refine r_cVI C hw (As := [.int (-1)]) (rest := []) (kX10_refuse l D cI cZ ad _ _ _ e4) YX10_refuse ml_X10_91 qC_0 clsX10 (pw_rmOK (by omega) (by decide)) rfl hl.1 rfl (Nat.le_of_ble_eq_true rfl) dX10_fireHeat_24 ⟨Nat.zero_le _, Nat.zero_le _⟩ (fun H locs hw => ?_)
    exact r_iret C hw dX10_fireHeat_27 h
  · replace h := pw_f hc h
    refine lv_iload_n hx hb dX10_fireHeat_7 rfl (lv_at hl 2 rfl) ?_
    refine lv_aload_n hx hb dX10_fireHeat_8 rfl (lv_at hl 0 rfl) ?_
    refine r_get C hw qC_0 clsX10 5 rfl (by decide) fl_X10_44 dX10_fireHeat_9 (v := .ref (ad 31)) rfl ?_
    refine lv_iload_n hx hb dX10_fireHeat_12 rfl (lv_at hl 1 rfl) ?_
    obtain ⟨v9, σ8, e7, h⟩ := cal_some h
    refine r_cNI C hw (As := [.int x1]) (rest := [.int x2]) (kX5_plan l D cI cZ ad _ _ _ e7) YX5_plan mn_X10_208 qC_31 clsX5 (pw_rmOK (by omega) (by decide)) rfl hl.1 rfl (Nat.le_of_ble_eq_true rfl) dX10_fireHeat_13 ⟨Nat.zero_le _, Nat.zero_le _⟩ (fun H locs hw => ?_)
    obtain ⟨v12, σ11, e10, h⟩ := cal_some h
    refine r_cSI C hw (sh := shC) (ad := ad) (As := [.int x2, .int v9]) (rest := []) (kX10_within l D cI cZ ad _ _ _ _ e10) YX10_within ml_X10_87 (pw_rmOK (by omega) (by decide)) rfl hl.1 rfl (Nat.le_of_ble_eq_true rfl) dX10_fireHeat_16 ⟨Nat.zero_le _, Nat.zero_le _⟩ (fun H locs hw => ?_)
    refine lv_if_ne (tgt := 28) hx hb dX10_fireHeat_19 (by decide) (fun hc => ?_) (fun hc => ?_)
    · replace h := pw_f hc h
      refine lv_aload_n hx hb dX10_fireHeat_28 rfl (lv_at hl 0 rfl) ?_
      refine r_get C hw qC_0 clsX10 5 rfl (by decide) fl_X10_44 dX10_fireHeat_29 (v := .ref (ad 31)) rfl ?_
      refine r_getN C hw qC_31 clsX5 2 rfl (by decide) fn_X10_211 dX10_fireHeat_32 (v := .ref (ad 34)) rfl ?_
      refine lv_iload_n hx hb dX10_fireHeat_35 rfl (lv_at hl 2 rfl) ?_
      refine r_iald C hw qC_34 dX10_fireHeat_36 h (fun v13 h => ?_)
      exact r_iret C hw dX10_fireHeat_37 h
    · replace h := pw_t hc h
      refine lv_aload_n hx hb dX10_fireHeat_22 rfl (lv_at hl 0 rfl) ?_
      refine lv_iconst (v := (-1)) hx hb dX10_fireHeat_23 (by decide) ?_
      obtain ⟨v16, σ15, e14, h⟩ := cal_some h
      refine r_cVI C hw (As := [.int (-1)]) (rest := []) (kX10_refuse l D cI cZ ad _ _ _ e14) YX10_refuse ml_X10_91 qC_0 clsX10 (pw_rmOK (by omega) (by decide)) rfl hl.1 rfl (Nat.le_of_ble_eq_true rfl) dX10_fireHeat_24 ⟨Nat.zero_le _, Nat.zero_le _⟩ (fun H locs hw => ?_)
      exact r_iret C hw dX10_fireHeat_27 h
set_option maxRecDepth 100000 in
set_option maxHeartbeats 4000000 in
theorem kX9_changeSkill (l : Launch) (D : va_G) (cI cZ : ClassId) (ad : Nat → Nat) (x1 : Int32) (x2 : Int32) (σ : St) (z : Int32 × St) (h : fX9_changeSkill x1 x2 σ = some z) : pw_MI l D shC cI cZ ad yX9_changeSkill cX9_changeSkill 4 (some .int) (pw_rm 0) [.ref (ad 35), .int x1, .int x2] σ z.1 z.2 := by
  refine pw_ofI (by decide) (Nat.le_of_ble_eq_true rfl) ?_
  intro p e s m args below meth c A C hw ls hl
  obtain ⟨hx, hb, hr, hts, hown, hlk, hml, hK, hN⟩ := id C
  have hl : lv_has ls 4 [(0, .ref (ad 35)), (1, .int x1), (2, .int x2)] := hl
  unfold fX9_changeSkill at h
  refine lv_aload_n hx hb dX9_changeSkill_0 rfl (lv_at hl 0 rfl) ?_
  refine r_get C hw qC_35 clsX9 0 rfl (by decide) fl_X9_9 dX9_changeSkill_1 (v := .ref (ad 36)) rfl ?_
  refine lv_iload_n hx hb dX9_changeSkill_4 rfl (lv_at hl 1 rfl) ?_
  refine r_iald C hw qC_36 dX9_changeSkill_5 h (fun v1 h => ?_)
  refine lv_istore_n (lv' := [(3, .int v1), (0, .ref (ad 35)), (1, .int x1), (2, .int x2)]) hx hb dX9_changeSkill_6 rfl hl (by decide) rfl (fun ls hl => ?_)
  refine lv_aload_n hx hb dX9_changeSkill_7 rfl (lv_at hl 1 rfl) ?_
  refine r_get C hw qC_35 clsX9 0 rfl (by decide) fl_X9_9 dX9_changeSkill_8 (v := .ref (ad 36)) rfl ?_
  refine lv_iload_n hx hb dX9_changeSkill_11 rfl (lv_at hl 2 rfl) ?_
  refine lv_iload_n hx hb dX9_changeSkill_12 rfl (lv_at hl 3 rfl) ?_
  refine r_iast C hw qC_36 dX9_changeSkill_13 h (fun σ2 H locs hw h => ?_)
  refine lv_aload_n hx hb dX9_changeSkill_14 rfl (lv_at hl 1 rfl) ?_
  refine lv_iconst (v := 0) hx hb dX9_changeSkill_15 (by decide) ?_
  refine r_put C hw qC_35 clsX9 7 rfl (by decide) fl_X9_34 dX9_changeSkill_16 rfl rfl rfl h (fun σ3 H locs hw h => ?_)
  refine lv_iload_n hx hb dX9_changeSkill_19 rfl (lv_at hl 0 rfl) ?_
  exact r_iret C hw dX9_changeSkill_20 h
set_option maxRecDepth 100000 in
set_option maxHeartbeats 4000000 in
theorem kX10_skill (l : Launch) (D : va_G) (cI cZ : ClassId) (ad : Nat → Nat) (x1 : Int32) (x2 : Int32) (σ : St) (z : Int32 × St) (h : fX10_skill x1 x2 σ = some z) : pw_MI l D shC cI cZ ad yX10_skill cX10_skill 3 (some .int) (pw_rm 2) [.ref (ad 0), .int x1, .int x2] σ z.1 z.2 := by
  refine pw_ofI (by decide) (Nat.le_of_ble_eq_true rfl) ?_
  intro p e s m args below meth c A C hw ls hl
  obtain ⟨hx, hb, hr, hts, hown, hlk, hml, hK, hN⟩ := id C
  have hl : lv_has ls 3 [(0, .ref (ad 0)), (1, .int x1), (2, .int x2)] := hl
  unfold fX10_skill at h
  refine lv_iload_n hx hb dX10_skill_0 rfl (lv_at hl 1 rfl) ?_
  refine lv_iconst (v := 3) hx hb dX10_skill_1 (by decide) ?_
  obtain ⟨v3, σ2, e1, h⟩ := cal_some h
  refine r_cSI C hw (sh := shC) (ad := ad) (As := [.int x1, .int 3]) (rest := []) (kX10_within l D cI cZ ad _ _ _ _ e1) YX10_within ml_X10_87 (pw_rmOK (by omega) (by decide)) rfl hl.1 rfl (Nat.le_of_ble_eq_true rfl) dX10_skill_2 ⟨Nat.zero_le _, Nat.zero_le _⟩ (fun H locs hw => ?_)
  refine lv_if_ne (tgt := 14) hx hb dX10_skill_5 (by decide) (fun hc => ?_) (fun hc => ?_)
  · replace h := pw_f hc h
    refine lv_iload_n hx hb dX10_skill_14 rfl (lv_at hl 2 rfl) ?_
    refine lv_iconst (v := 1) hx hb dX10_skill_15 (by decide) ?_
    refine lv_icmp_ge (tgt := 26) hx hb dX10_skill_16 (by decide) (fun hc => ?_) (fun hc => ?_)
    · replace h := pw_t hc h
      refine lv_iload_n hx hb dX10_skill_26 rfl (lv_at hl 2 rfl) ?_
      refine lv_bipush (v := 20) hx hb dX10_skill_27 (by decide) ?_
      refine lv_icmp_le (tgt := 39) hx hb dX10_skill_29 (by decide) (fun hc => ?_) (fun hc => ?_)
      · replace h := pw_t hc h
        refine lv_aload_n hx hb dX10_skill_39 rfl (lv_at hl 0 rfl) ?_
        refine r_get C hw qC_0 clsX10 6 rfl (by decide) fl_X10_51 dX10_skill_40 (v := .ref (ad 35)) rfl ?_
        refine lv_iload_n hx hb dX10_skill_43 rfl (lv_at hl 1 rfl) ?_
        refine lv_iload_n hx hb dX10_skill_44 rfl (lv_at hl 2 rfl) ?_
        obtain ⟨v6, σ5, e4, h⟩ := cal_some h
        refine r_cNI C hw (As := [.int x1, .int x2]) (rest := []) (kX9_changeSkill l D cI cZ ad _ _ _ _ e4) YX9_changeSkill mn_X10_214 qC_35 clsX9 (pw_rmOK (by omega) (by decide)) rfl hl.1 rfl (Nat.le_of_ble_eq_true rfl) dX10_skill_45 ⟨Nat.zero_le _, Nat.zero_le _⟩ (fun H locs hw => ?_)
        exact r_iret C hw dX10_skill_48 h
      · replace h := pw_f hc h
        refine lv_aload_n hx hb dX10_skill_32 rfl (lv_at hl 0 rfl) ?_
        refine lv_bipush (v := (-6)) hx hb dX10_skill_33 (by decide) ?_
        obtain ⟨v9, σ8, e7, h⟩ := cal_some h
        refine r_cVI C hw (As := [.int (-6)]) (rest := []) (kX10_refuse l D cI cZ ad _ _ _ e7) YX10_refuse ml_X10_91 qC_0 clsX10 (pw_rmOK (by omega) (by decide)) rfl hl.1 rfl (Nat.le_of_ble_eq_true rfl) dX10_skill_35 ⟨Nat.zero_le _, Nat.zero_le _⟩ (fun H locs hw => ?_)
        exact r_iret C hw dX10_skill_38 h
    · replace h := pw_f hc h
      refine lv_aload_n hx hb dX10_skill_19 rfl (lv_at hl 0 rfl) ?_
      refine lv_bipush (v := (-4)) hx hb dX10_skill_20 (by decide) ?_
      obtain ⟨v12, σ11, e10, h⟩ := cal_some h
      refine r_cVI C hw (As := [.int (-4)]) (rest := []) (kX10_refuse l D cI cZ ad _ _ _ e10) YX10_refuse ml_X10_91 qC_0 clsX10 (pw_rmOK (by omega) (by decide)) rfl hl.1 rfl (Nat.le_of_ble_eq_true rfl) dX10_skill_22 ⟨Nat.zero_le _, Nat.zero_le _⟩ (fun H locs hw => ?_)
      exact r_iret C hw dX10_skill_25 h
  · replace h := pw_t hc h
    refine lv_aload_n hx hb dX10_skill_8 rfl (lv_at hl 0 rfl) ?_
    refine lv_iconst (v := (-1)) hx hb dX10_skill_9 (by decide) ?_
    obtain ⟨v15, σ14, e13, h⟩ := cal_some h
    refine r_cVI C hw (As := [.int (-1)]) (rest := []) (kX10_refuse l D cI cZ ad _ _ _ e13) YX10_refuse ml_X10_91 qC_0 clsX10 (pw_rmOK (by omega) (by decide)) rfl hl.1 rfl (Nat.le_of_ble_eq_true rfl) dX10_skill_10 ⟨Nat.zero_le _, Nat.zero_le _⟩ (fun H locs hw => ?_)
    exact r_iret C hw dX10_skill_13 h
set_option maxRecDepth 100000 in
set_option maxHeartbeats 4000000 in
theorem kX9_addJob (l : Launch) (D : va_G) (cI cZ : ClassId) (ad : Nat → Nat) (x1 : Int32) (σ : St) (z : Int32 × St) (h : fX9_addJob x1 σ = some z) : pw_MI l D shC cI cZ ad yX9_addJob cX9_addJob 2 (some .int) (pw_rm 0) [.ref (ad 35), .int x1] σ z.1 z.2 := by
  refine pw_ofI (by decide) (Nat.le_of_ble_eq_true rfl) ?_
  intro p e s m args below meth c A C hw ls hl
  obtain ⟨hx, hb, hr, hts, hown, hlk, hml, hK, hN⟩ := id C
  have hl : lv_has ls 2 [(0, .ref (ad 35)), (1, .int x1)] := hl
  unfold fX9_addJob at h
  refine lv_aload_n hx hb dX9_addJob_0 rfl (lv_at hl 0 rfl) ?_
  refine r_get C hw qC_35 clsX9 1 rfl (by decide) fl_X9_15 dX9_addJob_1 (v := .ref (ad 37)) rfl ?_
  refine lv_aload_n hx hb dX9_addJob_4 rfl (lv_at hl 0 rfl) ?_
  refine r_get C hw qC_35 clsX9 5 rfl (by decide) fl_X9_27 dX9_addJob_5 (v := .int (σ 35 5)) rfl ?_
  refine lv_iload_n hx hb dX9_addJob_8 rfl (lv_at hl 1 rfl) ?_
  refine r_iast C hw qC_37 dX9_addJob_9 h (fun σ1 H locs hw h => ?_)
  refine lv_aload_n hx hb dX9_addJob_10 rfl (lv_at hl 0 rfl) ?_
  refine lv_dup hx hb dX9_addJob_11 rfl ?_
  refine r_get C hw qC_35 clsX9 5 rfl (by decide) fl_X9_27 dX9_addJob_12 (v := .int (σ1 35 5)) rfl ?_
  refine lv_iconst (v := 1) hx hb dX9_addJob_15 (by decide) ?_
  refine lv_iadd hx hb dX9_addJob_16 ?_
  refine r_put C hw qC_35 clsX9 5 rfl (by decide) fl_X9_27 dX9_addJob_17 rfl rfl rfl h (fun σ2 H locs hw h => ?_)
  refine lv_aload_n hx hb dX9_addJob_20 rfl (lv_at hl 0 rfl) ?_
  refine lv_iconst (v := 0) hx hb dX9_addJob_21 (by decide) ?_
  refine r_put C hw qC_35 clsX9 7 rfl (by decide) fl_X9_34 dX9_addJob_22 rfl rfl rfl h (fun σ3 H locs hw h => ?_)
  refine lv_aload_n hx hb dX9_addJob_25 rfl (lv_at hl 0 rfl) ?_
  refine r_get C hw qC_35 clsX9 5 rfl (by decide) fl_X9_27 dX9_addJob_26 (v := .int (σ3 35 5)) rfl ?_
  refine lv_iconst (v := 1) hx hb dX9_addJob_29 (by decide) ?_
  refine lv_isub hx hb dX9_addJob_30 ?_
  exact r_iret C hw dX9_addJob_31 h
set_option maxRecDepth 100000 in
set_option maxHeartbeats 4000000 in
theorem kX10_job (l : Launch) (D : va_G) (cI cZ : ClassId) (ad : Nat → Nat) (x1 : Int32) (σ : St) (z : Int32 × St) (h : fX10_job x1 σ = some z) : pw_MI l D shC cI cZ ad yX10_job cX10_job 2 (some .int) (pw_rm 2) [.ref (ad 0), .int x1] σ z.1 z.2 := by
  refine pw_ofI (by decide) (Nat.le_of_ble_eq_true rfl) ?_
  intro p e s m args below meth c A C hw ls hl
  obtain ⟨hx, hb, hr, hts, hown, hlk, hml, hK, hN⟩ := id C
  have hl : lv_has ls 2 [(0, .ref (ad 0)), (1, .int x1)] := hl
  unfold fX10_job at h
  refine lv_iload_n hx hb dX10_job_0 rfl (lv_at hl 1 rfl) ?_
  refine lv_iconst (v := 1) hx hb dX10_job_1 (by decide) ?_
  refine lv_icmp_ge (tgt := 12) hx hb dX10_job_2 (by decide) (fun hc => ?_) (fun hc => ?_)
  · replace h := pw_t hc h
    refine lv_iload_n hx hb dX10_job_12 rfl (lv_at hl 1 rfl) ?_
    refine lv_sipush (v := 500) hx hb dX10_job_13 (by decide) ?_
    refine lv_icmp_gt (tgt := 31) hx hb dX10_job_16 (by decide) (fun hc => ?_) (fun hc => ?_)
    · replace h := pw_t hc h
      refine lv_aload_n hx hb dX10_job_31 rfl (lv_at hl 0 rfl) ?_
      refine lv_bipush (v := (-6)) hx hb dX10_job_32 (by decide) ?_
      obtain ⟨v3, σ2, e1, h⟩ := cal_some h
      refine r_cVI C hw (As := [.int (-6)]) (rest := []) (kX10_refuse l D cI cZ ad _ _ _ e1) YX10_refuse ml_X10_91 qC_0 clsX10 (pw_rmOK (by omega) (by decide)) rfl hl.1 rfl (Nat.le_of_ble_eq_true rfl) dX10_job_34 ⟨Nat.zero_le _, Nat.zero_le _⟩ (fun H locs hw => ?_)
      exact r_iret C hw dX10_job_37 h
    · replace h := pw_f hc h
      refine lv_aload_n hx hb dX10_job_19 rfl (lv_at hl 0 rfl) ?_
      refine r_get C hw qC_0 clsX10 6 rfl (by decide) fl_X10_51 dX10_job_20 (v := .ref (ad 35)) rfl ?_
      refine r_getN C hw qC_35 clsX9 5 rfl (by decide) fn_X10_217 dX10_job_23 (v := .int (σ 35 5)) rfl ?_
      refine lv_bipush (v := 8) hx hb dX10_job_26 (by decide) ?_
      refine lv_icmp_lt (tgt := 38) hx hb dX10_job_28 (by decide) (fun hc => ?_) (fun hc => ?_)
      · replace h := pw_t hc h
        refine lv_aload_n hx hb dX10_job_38 rfl (lv_at hl 0 rfl) ?_
        refine r_get C hw qC_0 clsX10 6 rfl (by decide) fl_X10_51 dX10_job_39 (v := .ref (ad 35)) rfl ?_
        refine lv_iload_n hx hb dX10_job_42 rfl (lv_at hl 1 rfl) ?_
        obtain ⟨v6, σ5, e4, h⟩ := cal_some h
        refine r_cNI C hw (As := [.int x1]) (rest := []) (kX9_addJob l D cI cZ ad _ _ _ e4) YX9_addJob mn_X10_220 qC_35 clsX9 (pw_rmOK (by omega) (by decide)) rfl hl.1 rfl (Nat.le_of_ble_eq_true rfl) dX10_job_43 ⟨Nat.zero_le _, Nat.zero_le _⟩ (fun H locs hw => ?_)
        exact r_iret C hw dX10_job_46 h
      · replace h := pw_f hc h
        refine lv_aload_n hx hb dX10_job_31 rfl (lv_at hl 0 rfl) ?_
        refine lv_bipush (v := (-6)) hx hb dX10_job_32 (by decide) ?_
        obtain ⟨v9, σ8, e7, h⟩ := cal_some h
        refine r_cVI C hw (As := [.int (-6)]) (rest := []) (kX10_refuse l D cI cZ ad _ _ _ e7) YX10_refuse ml_X10_91 qC_0 clsX10 (pw_rmOK (by omega) (by decide)) rfl hl.1 rfl (Nat.le_of_ble_eq_true rfl) dX10_job_34 ⟨Nat.zero_le _, Nat.zero_le _⟩ (fun H locs hw => ?_)
        exact r_iret C hw dX10_job_37 h
  · replace h := pw_f hc h
    refine lv_aload_n hx hb dX10_job_5 rfl (lv_at hl 0 rfl) ?_
    refine lv_bipush (v := (-4)) hx hb dX10_job_6 (by decide) ?_
    obtain ⟨v12, σ11, e10, h⟩ := cal_some h
    refine r_cVI C hw (As := [.int (-4)]) (rest := []) (kX10_refuse l D cI cZ ad _ _ _ e10) YX10_refuse ml_X10_91 qC_0 clsX10 (pw_rmOK (by omega) (by decide)) rfl hl.1 rfl (Nat.le_of_ble_eq_true rfl) dX10_job_8 ⟨Nat.zero_le _, Nat.zero_le _⟩ (fun H locs hw => ?_)
    exact r_iret C hw dX10_job_11 h
set_option maxRecDepth 100000 in
set_option maxHeartbeats 4000000 in
theorem kX9_daysFor (l : Launch) (D : va_G) (cI cZ : ClassId) (ad : Nat → Nat) (x1 : Int32) (x2 : Int32) (σ : St) (z : Int32 × St) (h : fX9_daysFor x1 x2 σ = some z) : pw_MI l D shC cI cZ ad yX9_daysFor cX9_daysFor 4 (some .int) (pw_rm 1) [.ref (ad 35), .int x1, .int x2] σ z.1 z.2 := by
  refine pw_ofI (by decide) (Nat.le_of_ble_eq_true rfl) ?_
  intro p e s m args below meth c A C hw ls hl
  obtain ⟨hx, hb, hr, hts, hown, hlk, hml, hK, hN⟩ := id C
  have hl : lv_has ls 4 [(0, .ref (ad 35)), (1, .int x1), (2, .int x2)] := hl
  unfold fX9_daysFor at h
  refine lv_iconst (v := 1) hx hb dX9_daysFor_0 (by decide) ?_
  refine lv_aload_n hx hb dX9_daysFor_1 rfl (lv_at hl 0 rfl) ?_
  refine r_get C hw qC_35 clsX9 0 rfl (by decide) fl_X9_9 dX9_daysFor_2 (v := .ref (ad 36)) rfl ?_
  refine lv_iload_n hx hb dX9_daysFor_5 rfl (lv_at hl 2 rfl) ?_
  refine r_iald C hw qC_36 dX9_daysFor_6 h (fun v1 h => ?_)
  refine va_mmax hx hb (hml.trans hl.1.symm) hown (hts _ ml_X9_50) (hts _ ls_max) (hts _ li_Math) (hts _ lc_max) (pw_fr (by omega)) (pw_lo (Nat.le_of_ble_eq_true rfl) (by omega)) (Nat.zero_le _) (Nat.zero_le _) dX9_daysFor_7 ?_
  refine r_leti h (fun v2 h => ?_)
  refine lv_istore_n (lv' := [(3, .int v2), (0, .ref (ad 35)), (1, .int x1), (2, .int x2)]) hx hb dX9_daysFor_10 rfl hl (by decide) rfl (fun ls hl => ?_)
  refine lv_aload_n hx hb dX9_daysFor_11 rfl (lv_at hl 1 rfl) ?_
  refine r_get C hw qC_35 clsX9 1 rfl (by decide) fl_X9_15 dX9_daysFor_12 (v := .ref (ad 37)) rfl ?_
  refine lv_iload_n hx hb dX9_daysFor_15 rfl (lv_at hl 2 rfl) ?_
  refine r_iald C hw qC_37 dX9_daysFor_16 h (fun v3 h => ?_)
  refine lv_iload_n hx hb dX9_daysFor_17 rfl (lv_at hl 0 rfl) ?_
  refine lv_iadd hx hb dX9_daysFor_18 ?_
  refine lv_iconst (v := 1) hx hb dX9_daysFor_19 (by decide) ?_
  refine lv_isub hx hb dX9_daysFor_20 ?_
  refine lv_iload_n hx hb dX9_daysFor_21 rfl (lv_at hl 0 rfl) ?_
  obtain ⟨hnz, h⟩ := nz_some h
  refine lv_idiv hx hb dX9_daysFor_22 hnz ?_
  exact r_iret C hw dX9_daysFor_23 h
set_option maxRecDepth 100000 in
set_option maxHeartbeats 4000000 in
theorem wX9_keepTrial_b7 {p : Program} {l : Launch} {e : Env} {s : State} {m : MethodId} {args : Array Value} {below : List Frame} {meth : Method} {c : Code} {D : va_G} {cI cZ : ClassId} {ad : Nat → Nat} {A : Nat → Prop} {z : Int32 × St}  (C : pw_C p s m args meth c yX9_keepTrial.cls cX9_keepTrial 3 none D cI cZ) : ∀ (n : Nat) (x2 : Int32) (σ : St) (H : Heap) (locs : List Loc) (ls : Array Slot), pw_H D (pw_w shC cI cZ ad σ) A s.heap H locs → lv_has ls 3 [(0, .ref (ad 35)), (2, .int x2)] → fX9_keepTrial_b7  n x2 σ = some z → W p l e (pw_rm 0) s m args below meth c H locs 0 0 (pw_QV below args s D (pw_w shC cI cZ ad) A z) (F0 m 7 ls []) := by
  obtain ⟨hx, hb, hr, hts, hown, hlk, hml, hK, hN⟩ := id C
  intro n
  induction n with
  | zero =>
    intro x2 σ H locs ls hw hl h
    exact absurd h (by simp [fX9_keepTrial_b7])
  | succ n ih =>
    intro x2 σ H locs ls hw hl h
    rw [fX9_keepTrial_b7] at h
    refine lv_iload_n hx hb dX9_keepTrial_7 rfl (lv_at hl 1 rfl) ?_
    refine lv_aload_n hx hb dX9_keepTrial_8 rfl (lv_at hl 0 rfl) ?_
    refine r_get C hw qC_35 clsX9 5 rfl (by decide) fl_X9_27 dX9_keepTrial_9 (v := .int (σ 35 5)) rfl ?_
    refine lv_icmp_ge (tgt := 33) hx hb dX9_keepTrial_12 (by decide) (fun hc => ?_) (fun hc => ?_)
    · replace h := pw_t hc h
      exact r_vret C hw dX9_keepTrial_33 h
    · replace h := pw_f hc h
      refine lv_aload_n hx hb dX9_keepTrial_15 rfl (lv_at hl 0 rfl) ?_
      refine r_get C hw qC_35 clsX9 3 rfl (by decide) fl_X9_21 dX9_keepTrial_16 (v := .ref (ad 39)) rfl ?_
      refine lv_iload_n hx hb dX9_keepTrial_19 rfl (lv_at hl 1 rfl) ?_
      refine lv_aload_n hx hb dX9_keepTrial_20 rfl (lv_at hl 0 rfl) ?_
      refine r_get C hw qC_35 clsX9 2 rfl (by decide) fl_X9_18 dX9_keepTrial_21 (v := .ref (ad 38)) rfl ?_
      refine lv_iload_n hx hb dX9_keepTrial_24 rfl (lv_at hl 1 rfl) ?_
      refine r_iald C hw qC_38 dX9_keepTrial_25 h (fun v1 h => ?_)
      refine r_iast C hw qC_39 dX9_keepTrial_26 h (fun σ2 H locs hw h => ?_)
      refine lv_iinc (v := (x2 + 1)) (lv' := [(2, .int (x2 + 1)), (0, .ref (ad 35))]) hx hb dX9_keepTrial_27 hl (k := 1) rfl rfl (by decide) rfl (fun ls hl => ?_)
      refine lv_goto (tgt := 7) hx hb dX9_keepTrial_30 (by decide) ?_
      exact ih _ _ _ _ _ hw (lv_sub hl [1, 0] rfl) h
set_option maxRecDepth 100000 in
set_option maxHeartbeats 4000000 in
theorem kX9_keepTrial (l : Launch) (D : va_G) (cI cZ : ClassId) (ad : Nat → Nat) (x1 : Int32) (σ : St) (z : Int32 × St) (h : fX9_keepTrial x1 σ = some z) : pw_MV l D shC cI cZ ad yX9_keepTrial cX9_keepTrial 3 none (pw_rm 0) [.ref (ad 35), .int x1] σ z.2 := by
  refine pw_ofV (by decide) (Nat.le_of_ble_eq_true rfl) ?_
  intro p e s m args below meth c A C hw ls hl
  obtain ⟨hx, hb, hr, hts, hown, hlk, hml, hK, hN⟩ := id C
  have hl : lv_has ls 3 [(0, .ref (ad 35)), (1, .int x1)] := hl
  unfold fX9_keepTrial at h
  refine lv_aload_n hx hb dX9_keepTrial_0 rfl (lv_at hl 0 rfl) ?_
  refine lv_iload_n hx hb dX9_keepTrial_1 rfl (lv_at hl 1 rfl) ?_
  refine r_put C hw qC_35 clsX9 6 rfl (by decide) fl_X9_31 dX9_keepTrial_2 rfl rfl rfl h (fun σ3 H locs hw h => ?_)
  refine lv_iconst (v := 0) hx hb dX9_keepTrial_5 (by decide) ?_
  refine lv_istore_n (lv' := [(2, .int 0), (0, .ref (ad 35)), (1, .int x1)]) hx hb dX9_keepTrial_6 rfl hl (by decide) rfl (fun ls hl => ?_)
  exact wX9_keepTrial_b7 C  _ _ _ _ _ _ hw (lv_sub hl [1, 0] rfl) h
set_option maxRecDepth 100000 in
set_option maxHeartbeats 4000000 in
theorem wX9_shareFrom_b31 {p : Program} {l : Launch} {e : Env} {s : State} {m : MethodId} {args : Array Value} {below : List Frame} {meth : Method} {c : Code} {D : va_G} {cI cZ : ClassId} {ad : Nat → Nat} {A : Nat → Prop} {z : Int32 × St} {d : Nat} {rec : Int32 → Int32 → St → Option (Int32 × St)}  (C : pw_C p s m args meth c yX9_shareFrom.cls cX9_shareFrom 5 none D cI cZ) (hrec : ∀ (x1 x2 : Int32) (σ : St) (z : Int32 × St), rec x1 x2 σ = some z → pw_MV l D shC cI cZ ad yX9_shareFrom cX9_shareFrom 5 none (pw_rm (d + 2)) [.ref (ad 35), .int x1, .int x2] σ z.2) : ∀ (n : Nat) (x1 : Int32) (x2 : Int32) (x3 : Int32) (σ : St) (H : Heap) (locs : List Loc) (ls : Array Slot), pw_H D (pw_w shC cI cZ ad σ) A s.heap H locs → lv_has ls 5 [(0, .ref (ad 35)), (1, .int x1), (2, .int x2), (3, .int x3)] → fX9_shareFrom_b31 rec n x1 x2 x3 σ = some z → W p l e (pw_rm (d + 3)) s m args below meth c H locs 0 0 (pw_QV below args s D (pw_w shC cI cZ ad) A z) (F0 m 31 ls []) := by
  obtain ⟨hx, hb, hr, hts, hown, hlk, hml, hK, hN⟩ := id C
  intro n
  induction n with
  | zero =>
    intro x1 x2 x3 σ H locs ls hw hl h
    exact absurd h (by simp [fX9_shareFrom_b31])
  | succ n ih =>
    intro x1 x2 x3 σ H locs ls hw hl h
    rw [fX9_shareFrom_b31] at h
    refine lv_iload_n hx hb dX9_shareFrom_31 rfl (lv_at hl 3 rfl) ?_
    refine lv_iconst (v := 3) hx hb dX9_shareFrom_32 (by decide) ?_
    refine lv_icmp_ge (tgt := 96) hx hb dX9_shareFrom_33 (by decide) (fun hc => ?_) (fun hc => ?_)
    · replace h := pw_t hc h
      exact r_vret C hw dX9_shareFrom_96 h
    · replace h := pw_f hc h
      refine lv_aload_n hx hb dX9_shareFrom_36 rfl (lv_at hl 0 rfl) ?_
      refine lv_iload_n hx hb dX9_shareFrom_37 rfl (lv_at hl 1 rfl) ?_
      refine lv_iload_n hx hb dX9_shareFrom_38 rfl (lv_at hl 3 rfl) ?_
      obtain ⟨v3, σ2, e1, h⟩ := cal_some h
      refine r_cVI C hw (As := [.int x1, .int x3]) (rest := []) (kX9_daysFor l D cI cZ ad _ _ _ _ e1) YX9_daysFor ml_X9_46 qC_35 clsX9 (pw_rmOK (by omega) (by decide)) rfl hl.1 rfl (Nat.le_of_ble_eq_true rfl) dX9_shareFrom_39 ⟨Nat.zero_le _, Nat.zero_le _⟩ (fun H locs hw => ?_)
      refine lv_istore (lv' := [(4, .int v3), (0, .ref (ad 35)), (1, .int x1), (2, .int x2), (3, .int x3)]) hx hb dX9_shareFrom_42 hl (by decide) rfl (fun ls hl => ?_)
      refine lv_aload_n hx hb dX9_shareFrom_44 rfl (lv_at hl 1 rfl) ?_
      refine r_get C hw qC_35 clsX9 2 rfl (by decide) fl_X9_18 dX9_shareFrom_45 (v := .ref (ad 38)) rfl ?_
      refine lv_iload_n hx hb dX9_shareFrom_48 rfl (lv_at hl 2 rfl) ?_
      refine lv_iload_n hx hb dX9_shareFrom_49 rfl (lv_at hl 4 rfl) ?_
      refine r_iast C hw qC_38 dX9_shareFrom_50 h (fun σ4 H locs hw h => ?_)
      refine lv_aload_n hx hb dX9_shareFrom_51 rfl (lv_at hl 1 rfl) ?_
      refine r_get C hw qC_35 clsX9 4 rfl (by decide) fl_X9_24 dX9_shareFrom_52 (v := .ref (ad 40)) rfl ?_
      refine lv_iload_n hx hb dX9_shareFrom_55 rfl (lv_at hl 4 rfl) ?_
      refine lv_dup2_11 hx hb dX9_shareFrom_56 rfl rfl ?_
      refine r_iald C hw qC_40 dX9_shareFrom_57 h (fun v5 h => ?_)
      refine lv_iload hx hb dX9_shareFrom_58 (lv_at hl 0 rfl) ?_
      refine lv_iadd hx hb dX9_shareFrom_60 ?_
      refine r_iast C hw qC_40 dX9_shareFrom_61 h (fun σ6 H locs hw h => ?_)
      refine lv_aload_n hx hb dX9_shareFrom_62 rfl (lv_at hl 1 rfl) ?_
      refine lv_iload_n hx hb dX9_shareFrom_63 rfl (lv_at hl 2 rfl) ?_
      refine lv_iconst (v := 1) hx hb dX9_shareFrom_64 (by decide) ?_
      refine lv_iadd hx hb dX9_shareFrom_65 ?_
      refine lv_iload_n hx hb dX9_shareFrom_66 rfl (lv_at hl 3 rfl) ?_
      refine lv_aload_n hx hb dX9_shareFrom_67 rfl (lv_at hl 1 rfl) ?_
      refine r_get C hw qC_35 clsX9 4 rfl (by decide) fl_X9_24 dX9_shareFrom_68 (v := .ref (ad 40)) rfl ?_
      refine lv_iload_n hx hb dX9_shareFrom_71 rfl (lv_at hl 4 rfl) ?_
      refine r_iald C hw qC_40 dX9_shareFrom_72 h (fun v7 h => ?_)
      refine va_mmax hx hb (hml.trans hl.1.symm) hown (hts _ ml_X9_50) (hts _ ls_max) (hts _ li_Math) (hts _ lc_max) (pw_fr (by omega)) (pw_lo (Nat.le_of_ble_eq_true rfl) (by omega)) (Nat.zero_le _) (Nat.zero_le _) dX9_shareFrom_73 ?_
      obtain ⟨r10, σ9, e8, h⟩ := cal_some h
      refine r_cSV C hw (sh := shC) (ad := ad) (As := [.ref (ad 35), .int (x1 + 1), .int (if x2 < v7 then v7 else x2)]) (rest := []) (hrec _ _ _ _ e8) YX9_shareFrom ml_X9_38 (pw_rmOK (by omega) (by decide)) rfl hl.1 rfl (Nat.le_of_ble_eq_true rfl) dX9_shareFrom_76 ⟨Nat.zero_le _, Nat.zero_le _⟩ (fun H locs hw => ?_)
      refine lv_aload_n hx hb dX9_shareFrom_79 rfl (lv_at hl 1 rfl) ?_
      refine r_get C hw qC_35 clsX9 4 rfl (by decide) fl_X9_24 dX9_shareFrom_80 (v := .ref (ad 40)) rfl ?_
      refine lv_iload_n hx hb dX9_shareFrom_83 rfl (lv_at hl 4 rfl) ?_
      refine lv_dup2_11 hx hb dX9_shareFrom_84 rfl rfl ?_
      refine r_iald C hw qC_40 dX9_shareFrom_85 h (fun v11 h => ?_)
      refine lv_iload hx hb dX9_shareFrom_86 (lv_at hl 0 rfl) ?_
      refine lv_isub hx hb dX9_shareFrom_88 ?_
      refine r_iast C hw qC_40 dX9_shareFrom_89 h (fun σ12 H locs hw h => ?_)
      refine lv_iinc (v := (x3 + 1)) (lv' := [(3, .int (x3 + 1)), (4, .int v3), (0, .ref (ad 35)), (1, .int x1), (2, .int x2)]) hx hb dX9_shareFrom_90 hl (k := 4) rfl rfl (by decide) rfl (fun ls hl => ?_)
      refine lv_goto (tgt := 31) hx hb dX9_shareFrom_93 (by decide) ?_
      exact ih _ _ _ _ _ _ _ hw (lv_sub hl [2, 3, 4, 0] rfl) h
set_option maxRecDepth 100000 in
set_option maxHeartbeats 4000000 in
theorem kX9_shareFrom_e (l : Launch) (D : va_G) (cI cZ : ClassId) (ad : Nat → Nat) (d : Nat) (rec : Int32 → Int32 → St → Option (Int32 × St)) (hrec : ∀ (x1 x2 : Int32) (σ : St) (z : Int32 × St), rec x1 x2 σ = some z → pw_MV l D shC cI cZ ad yX9_shareFrom cX9_shareFrom 5 none (pw_rm (d + 2)) [.ref (ad 35), .int x1, .int x2] σ z.2) (x1 : Int32) (x2 : Int32) (σ : St) (z : Int32 × St) (h : fX9_shareFrom_e rec x1 x2 σ = some z) : pw_MV l D shC cI cZ ad yX9_shareFrom cX9_shareFrom 5 none (pw_rm (d + 3)) [.ref (ad 35), .int x1, .int x2] σ z.2 := by
  refine pw_ofV (by decide) (Nat.le_of_ble_eq_true rfl) ?_
  intro p e s m args below meth c A C hw ls hl
  obtain ⟨hx, hb, hr, hts, hown, hlk, hml, hK, hN⟩ := id C
  have hl : lv_has ls 5 [(0, .ref (ad 35)), (1, .int x1), (2, .int x2)] := hl
  unfold fX9_shareFrom_e at h
  refine lv_iload_n hx hb dX9_shareFrom_0 rfl (lv_at hl 2 rfl) ?_
  refine lv_aload_n hx hb dX9_shareFrom_1 rfl (lv_at hl 0 rfl) ?_
  refine r_get C hw qC_35 clsX9 6 rfl (by decide) fl_X9_31 dX9_shareFrom_2 (v := .int (σ 35 6)) rfl ?_
  refine lv_icmp_lt (tgt := 9) hx hb dX9_shareFrom_5 (by decide) (fun hc => ?_) (fun hc => ?_)
  · replace h := pw_t hc h
    refine lv_iload_n hx hb dX9_shareFrom_9 rfl (lv_at hl 1 rfl) ?_
    refine lv_aload_n hx hb dX9_shareFrom_10 rfl (lv_at hl 0 rfl) ?_
    refine r_get C hw qC_35 clsX9 5 rfl (by decide) fl_X9_27 dX9_shareFrom_11 (v := .int (σ 35 5)) rfl ?_
    refine lv_icmp_ge (tgt := 23) hx hb dX9_shareFrom_14 (by decide) (fun hc => ?_) (fun hc => ?_)
    · replace h := pw_t hc h
      refine lv_aload_n hx hb dX9_shareFrom_23 rfl (lv_at hl 0 rfl) ?_
      refine lv_iload_n hx hb dX9_shareFrom_24 rfl (lv_at hl 2 rfl) ?_
      obtain ⟨r15, σ14, e13, h⟩ := cal_some h
      refine r_cVV C hw (As := [.int x2]) (rest := []) (kX9_keepTrial l D cI cZ ad _ _ _ e13) YX9_keepTrial ml_X9_42 qC_35 clsX9 (pw_rmOK (by omega) (by decide)) rfl hl.1 rfl (Nat.le_of_ble_eq_true rfl) dX9_shareFrom_25 ⟨Nat.zero_le _, Nat.zero_le _⟩ (fun H locs hw => ?_)
      exact r_vret C hw dX9_shareFrom_28 h
    · replace h := pw_f hc h
      refine lv_iload_n hx hb dX9_shareFrom_17 rfl (lv_at hl 1 rfl) ?_
      refine lv_bipush (v := 8) hx hb dX9_shareFrom_18 (by decide) ?_
      refine lv_icmp_lt (tgt := 29) hx hb dX9_shareFrom_20 (by decide) (fun hc => ?_) (fun hc => ?_)
      · replace h := pw_t hc h
        refine lv_iconst (v := 0) hx hb dX9_shareFrom_29 (by decide) ?_
        refine lv_istore_n (lv' := [(3, .int 0), (0, .ref (ad 35)), (1, .int x1), (2, .int x2)]) hx hb dX9_shareFrom_30 rfl hl (by decide) rfl (fun ls hl => ?_)
        exact wX9_shareFrom_b31 C hrec _ _ _ _ _ _ _ _ hw (lv_sub hl [1, 2, 3, 0] rfl) h
      · replace h := pw_f hc h
        refine lv_aload_n hx hb dX9_shareFrom_23 rfl (lv_at hl 0 rfl) ?_
        refine lv_iload_n hx hb dX9_shareFrom_24 rfl (lv_at hl 2 rfl) ?_
        obtain ⟨r18, σ17, e16, h⟩ := cal_some h
        refine r_cVV C hw (As := [.int x2]) (rest := []) (kX9_keepTrial l D cI cZ ad _ _ _ e16) YX9_keepTrial ml_X9_42 qC_35 clsX9 (pw_rmOK (by omega) (by decide)) rfl hl.1 rfl (Nat.le_of_ble_eq_true rfl) dX9_shareFrom_25 ⟨Nat.zero_le _, Nat.zero_le _⟩ (fun H locs hw => ?_)
        exact r_vret C hw dX9_shareFrom_28 h
  · replace h := pw_f hc h
    exact r_vret C hw dX9_shareFrom_8 h
theorem kX9_shareFrom (l : Launch) (D : va_G) (cI cZ : ClassId) (ad : Nat → Nat) : ∀ (d : Nat) (x1 : Int32) (x2 : Int32) (σ : St) (z : Int32 × St), fX9_shareFrom d x1 x2 σ = some z → pw_MV l D shC cI cZ ad yX9_shareFrom cX9_shareFrom 5 none (pw_rm (d + 2)) [.ref (ad 35), .int x1, .int x2] σ z.2 := by
  intro d
  induction d with
  | zero => intro x1 x2 σ z h; exact absurd h (by simp [fX9_shareFrom])
  | succ d ih =>
    intro x1 x2 σ z h
    rw [fX9_shareFrom] at h
    exact kX9_shareFrom_e l D cI cZ ad d _ ih x1 x2 σ z h
set_option maxRecDepth 100000 in
set_option maxHeartbeats 4000000 in
theorem wX9_share_b10 {p : Program} {l : Launch} {e : Env} {s : State} {m : MethodId} {args : Array Value} {below : List Frame} {meth : Method} {c : Code} {D : va_G} {cI cZ : ClassId} {ad : Nat → Nat} {A : Nat → Prop} {z : Int32 × St}  (C : pw_C p s m args meth c yX9_share.cls cX9_share 2 none D cI cZ) : ∀ (n : Nat) (x1 : Int32) (σ : St) (H : Heap) (locs : List Loc) (ls : Array Slot), pw_H D (pw_w shC cI cZ ad σ) A s.heap H locs → lv_has ls 2 [(0, .ref (ad 35)), (1, .int x1)] → fX9_share_b10  n x1 σ = some z → W p l e (pw_rm 15) s m args below meth c H locs 0 0 (pw_QV below args s D (pw_w shC cI cZ ad) A z) (F0 m 10 ls []) := by
  obtain ⟨hx, hb, hr, hts, hown, hlk, hml, hK, hN⟩ := id C
  intro n
  induction n with
  | zero =>
    intro x1 σ H locs ls hw hl h
    exact absurd h (by simp [fX9_share_b10])
  | succ n ih =>
    intro x1 σ H locs ls hw hl h
    rw [fX9_share_b10] at h
    refine lv_iload_n hx hb dX9_share_10 rfl (lv_at hl 1 rfl) ?_
    refine lv_iconst (v := 3) hx hb dX9_share_11 (by decide) ?_
    refine lv_icmp_ge (tgt := 28) hx hb dX9_share_12 (by decide) (fun hc => ?_) (fun hc => ?_)
    · replace h := pw_t hc h
      refine lv_aload_n hx hb dX9_share_28 rfl (lv_at hl 0 rfl) ?_
      refine lv_sipush (v := 4001) hx hb dX9_share_29 (by decide) ?_
      refine r_put C hw qC_35 clsX9 6 rfl (by decide) fl_X9_31 dX9_share_32 rfl rfl rfl h (fun σ1 H locs hw h => ?_)
      refine lv_aload_n hx hb dX9_share_35 rfl (lv_at hl 0 rfl) ?_
      refine lv_iconst (v := 0) hx hb dX9_share_36 (by decide) ?_
      refine lv_iconst (v := 0) hx hb dX9_share_37 (by decide) ?_
      obtain ⟨r4, σ3, e2, h⟩ := cal_some h
      refine r_cSV C hw (sh := shC) (ad := ad) (As := [.ref (ad 35), .int 0, .int 0]) (rest := []) (kX9_shareFrom l D cI cZ ad 12 _ _ _ _ e2) YX9_shareFrom ml_X9_38 (pw_rmOK (by omega) (by decide)) rfl hl.1 rfl (Nat.le_of_ble_eq_true rfl) dX9_share_38 ⟨Nat.zero_le _, Nat.zero_le _⟩ (fun H locs hw => ?_)
      refine lv_aload_n hx hb dX9_share_41 rfl (lv_at hl 0 rfl) ?_
      refine lv_iconst (v := 1) hx hb dX9_share_42 (by decide) ?_
      refine r_put C hw qC_35 clsX9 7 rfl (by decide) fl_X9_34 dX9_share_43 rfl rfl rfl h (fun σ5 H locs hw h => ?_)
      exact r_vret C hw dX9_share_46 h
    · replace h := pw_f hc h
      refine lv_aload_n hx hb dX9_share_15 rfl (lv_at hl 0 rfl) ?_
      refine r_get C hw qC_35 clsX9 4 rfl (by decide) fl_X9_24 dX9_share_16 (v := .ref (ad 40)) rfl ?_
      refine lv_iload_n hx hb dX9_share_19 rfl (lv_at hl 1 rfl) ?_
      refine lv_iconst (v := 0) hx hb dX9_share_20 (by decide) ?_
      refine r_iast C hw qC_40 dX9_share_21 h (fun σ6 H locs hw h => ?_)
      refine lv_iinc (v := (x1 + 1)) (lv' := [(1, .int (x1 + 1)), (0, .ref (ad 35))]) hx hb dX9_share_22 hl (k := 1) rfl rfl (by decide) rfl (fun ls hl => ?_)
      refine lv_goto (tgt := 10) hx hb dX9_share_25 (by decide) ?_
      exact ih _ _ _ _ _ hw (lv_sub hl [1, 0] rfl) h
set_option maxRecDepth 100000 in
set_option maxHeartbeats 4000000 in
theorem kX9_share (l : Launch) (D : va_G) (cI cZ : ClassId) (ad : Nat → Nat)  (σ : St) (z : Int32 × St) (h : fX9_share  σ = some z) : pw_MV l D shC cI cZ ad yX9_share cX9_share 2 none (pw_rm 15) [.ref (ad 35)] σ z.2 := by
  refine pw_ofV (by decide) (Nat.le_of_ble_eq_true rfl) ?_
  intro p e s m args below meth c A C hw ls hl
  obtain ⟨hx, hb, hr, hts, hown, hlk, hml, hK, hN⟩ := id C
  have hl : lv_has ls 2 [(0, .ref (ad 35))] := hl
  unfold fX9_share at h
  refine lv_aload_n hx hb dX9_share_0 rfl (lv_at hl 0 rfl) ?_
  refine r_get C hw qC_35 clsX9 7 rfl (by decide) fl_X9_34 dX9_share_1 (v := .int (σ 35 7)) rfl ?_
  refine lv_if_eq (tgt := 8) hx hb dX9_share_4 (by decide) (fun hc => ?_) (fun hc => ?_)
  · replace h := pw_t hc h
    refine lv_iconst (v := 0) hx hb dX9_share_8 (by decide) ?_
    refine lv_istore_n (lv' := [(1, .int 0), (0, .ref (ad 35))]) hx hb dX9_share_9 rfl hl (by decide) rfl (fun ls hl => ?_)
    exact wX9_share_b10 C  _ _ _ _ _ _ hw (lv_sub hl [1, 0] rfl) h
  · replace h := pw_f hc h
    exact r_vret C hw dX9_share_7 h
set_option maxRecDepth 100000 in
set_option maxHeartbeats 4000000 in
theorem kX10_least (l : Launch) (D : va_G) (cI cZ : ClassId) (ad : Nat → Nat)  (σ : St) (z : Int32 × St) (h : fX10_least  σ = some z) : pw_MI l D shC cI cZ ad yX10_least cX10_least 1 (some .int) (pw_rm 16) [.ref (ad 0)] σ z.1 z.2 := by
  refine pw_ofI (by decide) (Nat.le_of_ble_eq_true rfl) ?_
  intro p e s m args below meth c A C hw ls hl
  obtain ⟨hx, hb, hr, hts, hown, hlk, hml, hK, hN⟩ := id C
  have hl : lv_has ls 1 [(0, .ref (ad 0))] := hl
  unfold fX10_least at h
  refine lv_aload_n hx hb dX10_least_0 rfl (lv_at hl 0 rfl) ?_
  refine r_get C hw qC_0 clsX10 6 rfl (by decide) fl_X10_51 dX10_least_1 (v := .ref (ad 35)) rfl ?_
  obtain ⟨r3, σ2, e1, h⟩ := cal_some h
  refine r_cNV C hw (As := []) (rest := []) (kX9_share l D cI cZ ad _ _ e1) YX9_share mn_X10_223 qC_35 clsX9 (pw_rmOK (by omega) (by decide)) rfl hl.1 rfl (Nat.le_of_ble_eq_true rfl) dX10_least_4 ⟨Nat.zero_le _, Nat.zero_le _⟩ (fun H locs hw => ?_)
  refine lv_aload_n hx hb dX10_least_7 rfl (lv_at hl 0 rfl) ?_
  refine r_get C hw qC_0 clsX10 6 rfl (by decide) fl_X10_51 dX10_least_8 (v := .ref (ad 35)) rfl ?_
  refine r_getN C hw qC_35 clsX9 6 rfl (by decide) fn_X10_226 dX10_least_11 (v := .int (σ2 35 6)) rfl ?_
  exact r_iret C hw dX10_least_14 h
set_option maxRecDepth 100000 in
set_option maxHeartbeats 4000000 in
theorem kX10_painter (l : Launch) (D : va_G) (cI cZ : ClassId) (ad : Nat → Nat) (x1 : Int32) (σ : St) (z : Int32 × St) (h : fX10_painter x1 σ = some z) : pw_MI l D shC cI cZ ad yX10_painter cX10_painter 2 (some .int) (pw_rm 16) [.ref (ad 0), .int x1] σ z.1 z.2 := by
  refine pw_ofI (by decide) (Nat.le_of_ble_eq_true rfl) ?_
  intro p e s m args below meth c A C hw ls hl
  obtain ⟨hx, hb, hr, hts, hown, hlk, hml, hK, hN⟩ := id C
  have hl : lv_has ls 2 [(0, .ref (ad 0)), (1, .int x1)] := hl
  unfold fX10_painter at h
  refine lv_iload_n hx hb dX10_painter_0 rfl (lv_at hl 1 rfl) ?_
  refine lv_aload_n hx hb dX10_painter_1 rfl (lv_at hl 0 rfl) ?_
  refine r_get C hw qC_0 clsX10 6 rfl (by decide) fl_X10_51 dX10_painter_2 (v := .ref (ad 35)) rfl ?_
  refine r_getN C hw qC_35 clsX9 5 rfl (by decide) fn_X10_217 dX10_painter_5 (v := .int (σ 35 5)) rfl ?_
  obtain ⟨v3, σ2, e1, h⟩ := cal_some h
  refine r_cSI C hw (sh := shC) (ad := ad) (As := [.int x1, .int (σ 35 5)]) (rest := []) (kX10_within l D cI cZ ad _ _ _ _ e1) YX10_within ml_X10_87 (pw_rmOK (by omega) (by decide)) rfl hl.1 rfl (Nat.le_of_ble_eq_true rfl) dX10_painter_8 ⟨Nat.zero_le _, Nat.zero_le _⟩ (fun H locs hw => ?_)
  refine lv_if_ne (tgt := 17) hx hb dX10_painter_11 (by decide) (fun hc => ?_) (fun hc => ?_)
  · replace h := pw_f hc h
    refine lv_aload_n hx hb dX10_painter_17 rfl (lv_at hl 0 rfl) ?_
    refine r_get C hw qC_0 clsX10 6 rfl (by decide) fl_X10_51 dX10_painter_18 (v := .ref (ad 35)) rfl ?_
    obtain ⟨r6, σ5, e4, h⟩ := cal_some h
    refine r_cNV C hw (As := []) (rest := []) (kX9_share l D cI cZ ad _ _ e4) YX9_share mn_X10_223 qC_35 clsX9 (pw_rmOK (by omega) (by decide)) rfl hl.1 rfl (Nat.le_of_ble_eq_true rfl) dX10_painter_21 ⟨Nat.zero_le _, Nat.zero_le _⟩ (fun H locs hw => ?_)
    refine lv_aload_n hx hb dX10_painter_24 rfl (lv_at hl 0 rfl) ?_
    refine r_get C hw qC_0 clsX10 6 rfl (by decide) fl_X10_51 dX10_painter_25 (v := .ref (ad 35)) rfl ?_
    refine r_getN C hw qC_35 clsX9 3 rfl (by decide) fn_X10_229 dX10_painter_28 (v := .ref (ad 39)) rfl ?_
    refine lv_iload_n hx hb dX10_painter_31 rfl (lv_at hl 1 rfl) ?_
    refine r_iald C hw qC_39 dX10_painter_32 h (fun v7 h => ?_)
    exact r_iret C hw dX10_painter_33 h
  · replace h := pw_t hc h
    refine lv_bipush (v := (-9)) hx hb dX10_painter_14 (by decide) ?_
    exact r_iret C hw dX10_painter_16 h
set_option maxRecDepth 100000 in
set_option maxHeartbeats 4000000 in
theorem kX10_paint (l : Launch) (D : va_G) (cI cZ : ClassId) (ad : Nat → Nat) (x1 : Int32) (σ : St) (z : Int32 × St) (h : fX10_paint x1 σ = some z) : pw_MI l D shC cI cZ ad yX10_paint cX10_paint 2 (some .int) (pw_rm 2) [.ref (ad 0), .int x1] σ z.1 z.2 := by
  refine pw_ofI (by decide) (Nat.le_of_ble_eq_true rfl) ?_
  intro p e s m args below meth c A C hw ls hl
  obtain ⟨hx, hb, hr, hts, hown, hlk, hml, hK, hN⟩ := id C
  have hl : lv_has ls 2 [(0, .ref (ad 0)), (1, .int x1)] := hl
  unfold fX10_paint at h
  refine lv_iload_n hx hb dX10_paint_0 rfl (lv_at hl 1 rfl) ?_
  refine lv_aload_n hx hb dX10_paint_1 rfl (lv_at hl 0 rfl) ?_
  refine r_get C hw qC_0 clsX10 2 rfl (by decide) fl_X10_23 dX10_paint_2 (v := .ref (ad 7)) rfl ?_
  refine r_getN C hw qC_7 clsX6 7 rfl (by decide) fn_X10_118 dX10_paint_5 (v := .int (σ 7 7)) rfl ?_
  obtain ⟨v3, σ2, e1, h⟩ := cal_some h
  refine r_cSI C hw (sh := shC) (ad := ad) (As := [.int x1, .int (σ 7 7)]) (rest := []) (kX10_within l D cI cZ ad _ _ _ _ e1) YX10_within ml_X10_87 (pw_rmOK (by omega) (by decide)) rfl hl.1 rfl (Nat.le_of_ble_eq_true rfl) dX10_paint_8 ⟨Nat.zero_le _, Nat.zero_le _⟩ (fun H locs hw => ?_)
  refine lv_if_ne (tgt := 20) hx hb dX10_paint_11 (by decide) (fun hc => ?_) (fun hc => ?_)
  · replace h := pw_f hc h
    refine lv_aload_n hx hb dX10_paint_20 rfl (lv_at hl 0 rfl) ?_
    refine r_get C hw qC_0 clsX10 2 rfl (by decide) fl_X10_23 dX10_paint_21 (v := .ref (ad 7)) rfl ?_
    refine r_getN C hw qC_7 clsX6 3 rfl (by decide) fn_X10_232 dX10_paint_24 (v := .ref (ad 11)) rfl ?_
    refine lv_iload_n hx hb dX10_paint_27 rfl (lv_at hl 1 rfl) ?_
    refine r_iald C hw qC_11 dX10_paint_28 h (fun v4 h => ?_)
    refine lv_iconst (v := 1) hx hb dX10_paint_29 (by decide) ?_
    refine lv_icmp_eq (tgt := 40) hx hb dX10_paint_30 (by decide) (fun hc => ?_) (fun hc => ?_)
    · replace h := pw_t hc h
      refine lv_aload_n hx hb dX10_paint_40 rfl (lv_at hl 0 rfl) ?_
      refine r_get C hw qC_0 clsX10 2 rfl (by decide) fl_X10_23 dX10_paint_41 (v := .ref (ad 7)) rfl ?_
      refine r_getN C hw qC_7 clsX6 3 rfl (by decide) fn_X10_232 dX10_paint_44 (v := .ref (ad 11)) rfl ?_
      refine lv_iload_n hx hb dX10_paint_47 rfl (lv_at hl 1 rfl) ?_
      refine lv_iconst (v := 2) hx hb dX10_paint_48 (by decide) ?_
      refine r_iast C hw qC_11 dX10_paint_49 h (fun σ5 H locs hw h => ?_)
      refine lv_iconst (v := 1) hx hb dX10_paint_50 (by decide) ?_
      exact r_iret C hw dX10_paint_51 h
    · replace h := pw_f hc h
      refine lv_aload_n hx hb dX10_paint_33 rfl (lv_at hl 0 rfl) ?_
      refine lv_bipush (v := (-3)) hx hb dX10_paint_34 (by decide) ?_
      obtain ⟨v8, σ7, e6, h⟩ := cal_some h
      refine r_cVI C hw (As := [.int (-3)]) (rest := []) (kX10_refuse l D cI cZ ad _ _ _ e6) YX10_refuse ml_X10_91 qC_0 clsX10 (pw_rmOK (by omega) (by decide)) rfl hl.1 rfl (Nat.le_of_ble_eq_true rfl) dX10_paint_36 ⟨Nat.zero_le _, Nat.zero_le _⟩ (fun H locs hw => ?_)
      exact r_iret C hw dX10_paint_39 h
  · replace h := pw_t hc h
    refine lv_aload_n hx hb dX10_paint_14 rfl (lv_at hl 0 rfl) ?_
    refine lv_iconst (v := (-1)) hx hb dX10_paint_15 (by decide) ?_
    obtain ⟨v11, σ10, e9, h⟩ := cal_some h
    refine r_cVI C hw (As := [.int (-1)]) (rest := []) (kX10_refuse l D cI cZ ad _ _ _ e9) YX10_refuse ml_X10_91 qC_0 clsX10 (pw_rmOK (by omega) (by decide)) rfl hl.1 rfl (Nat.le_of_ble_eq_true rfl) dX10_paint_16 ⟨Nat.zero_le _, Nat.zero_le _⟩ (fun H locs hw => ?_)
    exact r_iret C hw dX10_paint_19 h
set_option maxRecDepth 100000 in
set_option maxHeartbeats 4000000 in
theorem kX10_serviceRefusal (l : Launch) (D : va_G) (cI cZ : ClassId) (ad : Nat → Nat) (x0 : Int32) (x1 : Int32) (x2 : Int32) (σ : St) (z : Int32 × St) (h : fX10_serviceRefusal x0 x1 x2 σ = some z) : pw_MI l D shC cI cZ ad yX10_serviceRefusal cX10_serviceRefusal 3 (some .int) (pw_rm 1) [.int x0, .int x1, .int x2] σ z.1 z.2 := by
  refine pw_ofI (by decide) (Nat.le_of_ble_eq_true rfl) ?_
  intro p e s m args below meth c A C hw ls hl
  obtain ⟨hx, hb, hr, hts, hown, hlk, hml, hK, hN⟩ := id C
  have hl : lv_has ls 3 [(0, .int x0), (1, .int x1), (2, .int x2)] := hl
  unfold fX10_serviceRefusal at h
  refine lv_iload_n hx hb dX10_serviceRefusal_0 rfl (lv_at hl 0 rfl) ?_
  refine lv_bipush (v := 10) hx hb dX10_serviceRefusal_1 (by decide) ?_
  obtain ⟨v3, σ2, e1, h⟩ := cal_some h
  refine r_cSI C hw (sh := shC) (ad := ad) (As := [.int x0, .int 10]) (rest := []) (kX10_within l D cI cZ ad _ _ _ _ e1) YX10_within ml_X10_87 (pw_rmOK (by omega) (by decide)) rfl hl.1 rfl (Nat.le_of_ble_eq_true rfl) dX10_serviceRefusal_3 ⟨Nat.zero_le _, Nat.zero_le _⟩ (fun H locs hw => ?_)
  refine lv_if_ne (tgt := 11) hx hb dX10_serviceRefusal_6 (by decide) (fun hc => ?_) (fun hc => ?_)
  · replace h := pw_f hc h
    refine lv_iload_n hx hb dX10_serviceRefusal_11 rfl (lv_at hl 1 rfl) ?_
    refine lv_iconst (v := 1) hx hb dX10_serviceRefusal_12 (by decide) ?_
    refine lv_icmp_lt (tgt := 20) hx hb dX10_serviceRefusal_13 (by decide) (fun hc => ?_) (fun hc => ?_)
    · replace h := pw_t hc h
      refine lv_bipush (v := (-4)) hx hb dX10_serviceRefusal_20 (by decide) ?_
      exact r_iret C hw dX10_serviceRefusal_22 h
    · replace h := pw_f hc h
      refine lv_iload_n hx hb dX10_serviceRefusal_16 rfl (lv_at hl 2 rfl) ?_
      refine lv_if_ge (tgt := 23) hx hb dX10_serviceRefusal_17 (by decide) (fun hc => ?_) (fun hc => ?_)
      · replace h := pw_t hc h
        refine lv_iload_n hx hb dX10_serviceRefusal_23 rfl (lv_at hl 1 rfl) ?_
        refine lv_bipush (v := 12) hx hb dX10_serviceRefusal_24 (by decide) ?_
        refine lv_icmp_gt (tgt := 35) hx hb dX10_serviceRefusal_26 (by decide) (fun hc => ?_) (fun hc => ?_)
        · replace h := pw_t hc h
          refine lv_bipush (v := (-6)) hx hb dX10_serviceRefusal_35 (by decide) ?_
          exact r_iret C hw dX10_serviceRefusal_37 h
        · replace h := pw_f hc h
          refine lv_iload_n hx hb dX10_serviceRefusal_29 rfl (lv_at hl 2 rfl) ?_
          refine lv_bipush (v := 100) hx hb dX10_serviceRefusal_30 (by decide) ?_
          refine lv_icmp_le (tgt := 38) hx hb dX10_serviceRefusal_32 (by decide) (fun hc => ?_) (fun hc => ?_)
          · replace h := pw_t hc h
            refine lv_iconst (v := 0) hx hb dX10_serviceRefusal_38 (by decide) ?_
            exact r_iret C hw dX10_serviceRefusal_39 h
          · replace h := pw_f hc h
            refine lv_bipush (v := (-6)) hx hb dX10_serviceRefusal_35 (by decide) ?_
            exact r_iret C hw dX10_serviceRefusal_37 h
      · replace h := pw_f hc h
        refine lv_bipush (v := (-4)) hx hb dX10_serviceRefusal_20 (by decide) ?_
        exact r_iret C hw dX10_serviceRefusal_22 h
  · replace h := pw_t hc h
    refine lv_iconst (v := (-1)) hx hb dX10_serviceRefusal_9 (by decide) ?_
    exact r_iret C hw dX10_serviceRefusal_10 h
set_option maxRecDepth 100000 in
set_option maxHeartbeats 4000000 in
theorem wX3_insert_b55 {p : Program} {l : Launch} {e : Env} {s : State} {m : MethodId} {args : Array Value} {below : List Frame} {meth : Method} {c : Code} {D : va_G} {cI cZ : ClassId} {ad : Nat → Nat} {A : Nat → Prop} {z : Int32 × St}  (C : pw_C p s m args meth c yX3_insert.cls cX3_insert 4 none D cI cZ) : ∀ (x1 : Int32) (x2 : Int32) (x3 : Int32) (σ : St) (H : Heap) (locs : List Loc) (ls : Array Slot), pw_H D (pw_w shC cI cZ ad σ) A s.heap H locs → lv_has ls 4 [(0, .ref (ad 41)), (1, .int x1), (2, .int x2), (3, .int x3)] → fX3_insert_b55  x1 x2 x3 σ = some z → W p l e (pw_rm 0) s m args below meth c H locs 0 0 (pw_QV below args s D (pw_w shC cI cZ ad) A z) (F0 m 55 ls []) := by
  obtain ⟨hx, hb, hr, hts, hown, hlk, hml, hK, hN⟩ := id C
  intro x1 x2 x3 σ H locs ls hw hl h
  unfold fX3_insert_b55 at h
  refine lv_aload_n hx hb dX3_insert_55 rfl (lv_at hl 0 rfl) ?_
  refine r_get C hw qC_41 clsX3 0 rfl (by decide) fl_X3_9 dX3_insert_56 (v := .ref (ad 42)) rfl ?_
  refine lv_iload_n hx hb dX3_insert_59 rfl (lv_at hl 3 rfl) ?_
  refine lv_iload_n hx hb dX3_insert_60 rfl (lv_at hl 1 rfl) ?_
  refine r_iast C hw qC_42 dX3_insert_61 h (fun σ1 H locs hw h => ?_)
  refine lv_aload_n hx hb dX3_insert_62 rfl (lv_at hl 0 rfl) ?_
  refine r_get C hw qC_41 clsX3 1 rfl (by decide) fl_X3_15 dX3_insert_63 (v := .ref (ad 43)) rfl ?_
  refine lv_iload_n hx hb dX3_insert_66 rfl (lv_at hl 3 rfl) ?_
  refine lv_iload_n hx hb dX3_insert_67 rfl (lv_at hl 2 rfl) ?_
  refine r_iast C hw qC_43 dX3_insert_68 h (fun σ2 H locs hw h => ?_)
  refine lv_aload_n hx hb dX3_insert_69 rfl (lv_at hl 0 rfl) ?_
  refine lv_dup hx hb dX3_insert_70 rfl ?_
  refine r_get C hw qC_41 clsX3 3 rfl (by decide) fl_X3_21 dX3_insert_71 (v := .int (σ2 41 3)) rfl ?_
  refine lv_iconst (v := 1) hx hb dX3_insert_74 (by decide) ?_
  refine lv_iadd hx hb dX3_insert_75 ?_
  refine r_put C hw qC_41 clsX3 3 rfl (by decide) fl_X3_21 dX3_insert_76 rfl rfl rfl h (fun σ3 H locs hw h => ?_)
  exact r_vret C hw dX3_insert_79 h
set_option maxRecDepth 100000 in
set_option maxHeartbeats 4000000 in
theorem wX3_insert_b5 {p : Program} {l : Launch} {e : Env} {s : State} {m : MethodId} {args : Array Value} {below : List Frame} {meth : Method} {c : Code} {D : va_G} {cI cZ : ClassId} {ad : Nat → Nat} {A : Nat → Prop} {z : Int32 × St}  (C : pw_C p s m args meth c yX3_insert.cls cX3_insert 4 none D cI cZ) : ∀ (n : Nat) (x1 : Int32) (x2 : Int32) (x3 : Int32) (σ : St) (H : Heap) (locs : List Loc) (ls : Array Slot), pw_H D (pw_w shC cI cZ ad σ) A s.heap H locs → lv_has ls 4 [(0, .ref (ad 41)), (1, .int x1), (2, .int x2), (3, .int x3)] → fX3_insert_b5  n x1 x2 x3 σ = some z → W p l e (pw_rm 0) s m args below meth c H locs 0 0 (pw_QV below args s D (pw_w shC cI cZ ad) A z) (F0 m 5 ls []) := by
  obtain ⟨hx, hb, hr, hts, hown, hlk, hml, hK, hN⟩ := id C
  intro n
  induction n with
  | zero =>
    intro x1 x2 x3 σ H locs ls hw hl h
    exact absurd h (by simp [fX3_insert_b5])
  | succ n ih =>
    intro x1 x2 x3 σ H locs ls hw hl h
    rw [fX3_insert_b5] at h
    refine lv_iload_n hx hb dX3_insert_5 rfl (lv_at hl 3 rfl) ?_
    refine lv_if_le (tgt := 55) hx hb dX3_insert_6 (by decide) (fun hc => ?_) (fun hc => ?_)
    · replace h := pw_t hc h
      exact wX3_insert_b55 C  _ _ _ _ _ _ _ hw (lv_sub hl [0, 1, 2, 3] rfl) h
    · replace h := pw_f hc h
      refine lv_aload_n hx hb dX3_insert_9 rfl (lv_at hl 0 rfl) ?_
      refine r_get C hw qC_41 clsX3 1 rfl (by decide) fl_X3_15 dX3_insert_10 (v := .ref (ad 43)) rfl ?_
      refine lv_iload_n hx hb dX3_insert_13 rfl (lv_at hl 3 rfl) ?_
      refine lv_iconst (v := 1) hx hb dX3_insert_14 (by decide) ?_
      refine lv_isub hx hb dX3_insert_15 ?_
      refine r_iald C hw qC_43 dX3_insert_16 h (fun v4 h => ?_)
      refine lv_iload_n hx hb dX3_insert_17 rfl (lv_at hl 2 rfl) ?_
      refine lv_icmp_ge (tgt := 55) hx hb dX3_insert_18 (by decide) (fun hc => ?_) (fun hc => ?_)
      · replace h := pw_t hc h
        exact wX3_insert_b55 C  _ _ _ _ _ _ _ hw (lv_sub hl [0, 1, 2, 3] rfl) h
      · replace h := pw_f hc h
        refine lv_aload_n hx hb dX3_insert_21 rfl (lv_at hl 0 rfl) ?_
        refine r_get C hw qC_41 clsX3 0 rfl (by decide) fl_X3_9 dX3_insert_22 (v := .ref (ad 42)) rfl ?_
        refine lv_iload_n hx hb dX3_insert_25 rfl (lv_at hl 3 rfl) ?_
        refine lv_aload_n hx hb dX3_insert_26 rfl (lv_at hl 0 rfl) ?_
        refine r_get C hw qC_41 clsX3 0 rfl (by decide) fl_X3_9 dX3_insert_27 (v := .ref (ad 42)) rfl ?_
        refine lv_iload_n hx hb dX3_insert_30 rfl (lv_at hl 3 rfl) ?_
        refine lv_iconst (v := 1) hx hb dX3_insert_31 (by decide) ?_
        refine lv_isub hx hb dX3_insert_32 ?_
        refine r_iald C hw qC_42 dX3_insert_33 h (fun v5 h => ?_)
        refine r_iast C hw qC_42 dX3_insert_34 h (fun σ6 H locs hw h => ?_)
        refine lv_aload_n hx hb dX3_insert_35 rfl (lv_at hl 0 rfl) ?_
        refine r_get C hw qC_41 clsX3 1 rfl (by decide) fl_X3_15 dX3_insert_36 (v := .ref (ad 43)) rfl ?_
        refine lv_iload_n hx hb dX3_insert_39 rfl (lv_at hl 3 rfl) ?_
        refine lv_aload_n hx hb dX3_insert_40 rfl (lv_at hl 0 rfl) ?_
        refine r_get C hw qC_41 clsX3 1 rfl (by decide) fl_X3_15 dX3_insert_41 (v := .ref (ad 43)) rfl ?_
        refine lv_iload_n hx hb dX3_insert_44 rfl (lv_at hl 3 rfl) ?_
        refine lv_iconst (v := 1) hx hb dX3_insert_45 (by decide) ?_
        refine lv_isub hx hb dX3_insert_46 ?_
        refine r_iald C hw qC_43 dX3_insert_47 h (fun v7 h => ?_)
        refine r_iast C hw qC_43 dX3_insert_48 h (fun σ8 H locs hw h => ?_)
        refine lv_iinc (v := (x3 + (-1))) (lv' := [(3, .int (x3 + (-1))), (0, .ref (ad 41)), (1, .int x1), (2, .int x2)]) hx hb dX3_insert_49 hl (k := 3) rfl rfl (by decide) rfl (fun ls hl => ?_)
        refine lv_goto (tgt := 5) hx hb dX3_insert_52 (by decide) ?_
        exact ih _ _ _ _ _ _ _ hw (lv_sub hl [1, 2, 3, 0] rfl) h
set_option maxRecDepth 100000 in
set_option maxHeartbeats 4000000 in
theorem kX3_insert (l : Launch) (D : va_G) (cI cZ : ClassId) (ad : Nat → Nat) (x1 : Int32) (x2 : Int32) (σ : St) (z : Int32 × St) (h : fX3_insert x1 x2 σ = some z) : pw_MV l D shC cI cZ ad yX3_insert cX3_insert 4 none (pw_rm 0) [.ref (ad 41), .int x1, .int x2] σ z.2 := by
  refine pw_ofV (by decide) (Nat.le_of_ble_eq_true rfl) ?_
  intro p e s m args below meth c A C hw ls hl
  obtain ⟨hx, hb, hr, hts, hown, hlk, hml, hK, hN⟩ := id C
  have hl : lv_has ls 4 [(0, .ref (ad 41)), (1, .int x1), (2, .int x2)] := hl
  unfold fX3_insert at h
  refine lv_aload_n hx hb dX3_insert_0 rfl (lv_at hl 0 rfl) ?_
  refine r_get C hw qC_41 clsX3 3 rfl (by decide) fl_X3_21 dX3_insert_1 (v := .int (σ 41 3)) rfl ?_
  refine lv_istore_n (lv' := [(3, .int (σ 41 3)), (0, .ref (ad 41)), (1, .int x1), (2, .int x2)]) hx hb dX3_insert_4 rfl hl (by decide) rfl (fun ls hl => ?_)
  exact wX3_insert_b5 C  _ _ _ _ _ _ _ _ hw (lv_sub hl [1, 2, 3, 0] rfl) h
set_option maxRecDepth 100000 in
set_option maxHeartbeats 4000000 in
theorem kX6_isForSale (l : Launch) (D : va_G) (cI cZ : ClassId) (ad : Nat → Nat) (x1 : Int32) (σ : St) (z : Int32 × St) (h : fX6_isForSale x1 σ = some z) : pw_MI l D shC cI cZ ad yX6_isForSale cX6_isForSale 2 (some .boolean) (pw_rm 0) [.ref (ad 7), .int x1] σ z.1 z.2 := by
  refine pw_ofI (by decide) (Nat.le_of_ble_eq_true rfl) ?_
  intro p e s m args below meth c A C hw ls hl
  obtain ⟨hx, hb, hr, hts, hown, hlk, hml, hK, hN⟩ := id C
  have hl : lv_has ls 2 [(0, .ref (ad 7)), (1, .int x1)] := hl
  unfold fX6_isForSale at h
  refine lv_aload_n hx hb dX6_isForSale_0 rfl (lv_at hl 0 rfl) ?_
  refine r_get C hw qC_7 clsX6 3 rfl (by decide) fl_X6_21 dX6_isForSale_1 (v := .ref (ad 11)) rfl ?_
  refine lv_iload_n hx hb dX6_isForSale_4 rfl (lv_at hl 1 rfl) ?_
  refine r_iald C hw qC_11 dX6_isForSale_5 h (fun v1 h => ?_)
  refine lv_iconst (v := 1) hx hb dX6_isForSale_6 (by decide) ?_
  refine lv_icmp_eq (tgt := 20) hx hb dX6_isForSale_7 (by decide) (fun hc => ?_) (fun hc => ?_)
  · replace h := pw_t hc h
    refine lv_iconst (v := 1) hx hb dX6_isForSale_20 (by decide) ?_
    refine lv_goto (tgt := 25) hx hb dX6_isForSale_21 (by decide) ?_
    exact r_zret C hw dX6_isForSale_25 h
  · replace h := pw_f hc h
    refine lv_aload_n hx hb dX6_isForSale_10 rfl (lv_at hl 0 rfl) ?_
    refine r_get C hw qC_7 clsX6 3 rfl (by decide) fl_X6_21 dX6_isForSale_11 (v := .ref (ad 11)) rfl ?_
    refine lv_iload_n hx hb dX6_isForSale_14 rfl (lv_at hl 1 rfl) ?_
    refine r_iald C hw qC_11 dX6_isForSale_15 h (fun v2 h => ?_)
    refine lv_iconst (v := 2) hx hb dX6_isForSale_16 (by decide) ?_
    refine lv_icmp_ne (tgt := 24) hx hb dX6_isForSale_17 (by decide) (fun hc => ?_) (fun hc => ?_)
    · replace h := pw_f hc h
      refine lv_iconst (v := 0) hx hb dX6_isForSale_24 (by decide) ?_
      exact r_zret C hw dX6_isForSale_25 h
    · replace h := pw_t hc h
      refine lv_iconst (v := 1) hx hb dX6_isForSale_20 (by decide) ?_
      refine lv_goto (tgt := 25) hx hb dX6_isForSale_21 (by decide) ?_
      exact r_zret C hw dX6_isForSale_25 h
set_option maxRecDepth 100000 in
set_option maxHeartbeats 4000000 in
theorem wX3_gather_b7 {p : Program} {l : Launch} {e : Env} {s : State} {m : MethodId} {args : Array Value} {below : List Frame} {meth : Method} {c : Code} {D : va_G} {cI cZ : ClassId} {ad : Nat → Nat} {A : Nat → Prop} {z : Int32 × St}  (C : pw_C p s m args meth c yX3_gather.cls cX3_gather 4 none D cI cZ) : ∀ (n : Nat) (x1 : Int32) (x3 : Int32) (σ : St) (H : Heap) (locs : List Loc) (ls : Array Slot), pw_H D (pw_w shC cI cZ ad σ) A s.heap H locs → lv_has ls 4 [(0, .ref (ad 41)), (1, .int x1), (2, .ref (ad 7)), (3, .int x3)] → fX3_gather_b7  n x1 x3 σ = some z → W p l e (pw_rm 1) s m args below meth c H locs 0 0 (pw_QV below args s D (pw_w shC cI cZ ad) A z) (F0 m 7 ls []) := by
  obtain ⟨hx, hb, hr, hts, hown, hlk, hml, hK, hN⟩ := id C
  intro n
  induction n with
  | zero =>
    intro x1 x3 σ H locs ls hw hl h
    exact absurd h (by simp [fX3_gather_b7])
  | succ n ih =>
    intro x1 x3 σ H locs ls hw hl h
    rw [fX3_gather_b7] at h
    refine lv_iload_n hx hb dX3_gather_7 rfl (lv_at hl 3 rfl) ?_
    refine lv_aload_n hx hb dX3_gather_8 rfl (lv_at hl 2 rfl) ?_
    refine r_getN C hw qC_7 clsX6 7 rfl (by decide) fn_X3_39 dX3_gather_9 (v := .int (σ 7 7)) rfl ?_
    refine lv_icmp_ge (tgt := 50) hx hb dX3_gather_12 (by decide) (fun hc => ?_) (fun hc => ?_)
    · replace h := pw_t hc h
      exact r_vret C hw dX3_gather_50 h
    · replace h := pw_f hc h
      refine lv_aload_n hx hb dX3_gather_15 rfl (lv_at hl 2 rfl) ?_
      refine r_getN C hw qC_7 clsX6 1 rfl (by decide) fn_X3_44 dX3_gather_16 (v := .ref (ad 9)) rfl ?_
      refine lv_iload_n hx hb dX3_gather_19 rfl (lv_at hl 3 rfl) ?_
      refine r_iald C hw qC_9 dX3_gather_20 h (fun v1 h => ?_)
      refine lv_iload_n hx hb dX3_gather_21 rfl (lv_at hl 1 rfl) ?_
      refine lv_icmp_ne (tgt := 44) hx hb dX3_gather_22 (by decide) (fun hc => ?_) (fun hc => ?_)
      · replace h := pw_f hc h
        refine lv_iinc (v := (x3 + 1)) (lv' := [(3, .int (x3 + 1)), (0, .ref (ad 41)), (1, .int x1), (2, .ref (ad 7))]) hx hb dX3_gather_44 hl (k := 3) rfl rfl (by decide) rfl (fun ls hl => ?_)
        refine lv_goto (tgt := 7) hx hb dX3_gather_47 (by decide) ?_
        exact ih _ _ _ _ _ _ hw (lv_sub hl [1, 2, 3, 0] rfl) h
      · replace h := pw_t hc h
        refine lv_aload_n hx hb dX3_gather_25 rfl (lv_at hl 2 rfl) ?_
        refine lv_iload_n hx hb dX3_gather_26 rfl (lv_at hl 3 rfl) ?_
        obtain ⟨v4, σ3, e2, h⟩ := cal_some h
        refine r_cNI C hw (As := [.int x3]) (rest := []) (kX6_isForSale l D cI cZ ad _ _ _ e2) YX6_isForSale mn_X3_47 qC_7 clsX6 (pw_rmOK (by omega) (by decide)) rfl hl.1 rfl (Nat.le_of_ble_eq_true rfl) dX3_gather_27 ⟨Nat.zero_le _, Nat.zero_le _⟩ (fun H locs hw => ?_)
        refine lv_if_eq (tgt := 44) hx hb dX3_gather_30 (by decide) (fun hc => ?_) (fun hc => ?_)
        · replace h := pw_t hc h
          refine lv_iinc (v := (x3 + 1)) (lv' := [(3, .int (x3 + 1)), (0, .ref (ad 41)), (1, .int x1), (2, .ref (ad 7))]) hx hb dX3_gather_44 hl (k := 3) rfl rfl (by decide) rfl (fun ls hl => ?_)
          refine lv_goto (tgt := 7) hx hb dX3_gather_47 (by decide) ?_
          exact ih _ _ _ _ _ _ hw (lv_sub hl [1, 2, 3, 0] rfl) h
        · replace h := pw_f hc h
          refine lv_aload_n hx hb dX3_gather_33 rfl (lv_at hl 0 rfl) ?_
          refine lv_iload_n hx hb dX3_gather_34 rfl (lv_at hl 3 rfl) ?_
          refine lv_aload_n hx hb dX3_gather_35 rfl (lv_at hl 2 rfl) ?_
          refine r_getN C hw qC_7 clsX6 6 rfl (by decide) fn_X3_51 dX3_gather_36 (v := .ref (ad 14)) rfl ?_
          refine lv_iload_n hx hb dX3_gather_39 rfl (lv_at hl 3 rfl) ?_
          refine r_iald C hw qC_14 dX3_gather_40 h (fun v5 h => ?_)
          obtain ⟨r8, σ7, e6, h⟩ := cal_some h
          refine r_cVV C hw (As := [.int x3, .int v5]) (rest := []) (kX3_insert l D cI cZ ad _ _ _ _ e6) YX3_insert ml_X3_52 qC_41 clsX3 (pw_rmOK (by omega) (by decide)) rfl hl.1 rfl (Nat.le_of_ble_eq_true rfl) dX3_gather_41 ⟨Nat.zero_le _, Nat.zero_le _⟩ (fun H locs hw => ?_)
          refine lv_iinc (v := (x3 + 1)) (lv' := [(3, .int (x3 + 1)), (0, .ref (ad 41)), (1, .int x1), (2, .ref (ad 7))]) hx hb dX3_gather_44 hl (k := 3) rfl rfl (by decide) rfl (fun ls hl => ?_)
          refine lv_goto (tgt := 7) hx hb dX3_gather_47 (by decide) ?_
          exact ih _ _ _ _ _ _ hw (lv_sub hl [1, 2, 3, 0] rfl) h
set_option maxRecDepth 100000 in
set_option maxHeartbeats 4000000 in
theorem kX3_gather (l : Launch) (D : va_G) (cI cZ : ClassId) (ad : Nat → Nat) (x1 : Int32) (σ : St) (z : Int32 × St) (h : fX3_gather x1 σ = some z) : pw_MV l D shC cI cZ ad yX3_gather cX3_gather 4 none (pw_rm 1) [.ref (ad 41), .int x1, .ref (ad 7)] σ z.2 := by
  refine pw_ofV (by decide) (Nat.le_of_ble_eq_true rfl) ?_
  intro p e s m args below meth c A C hw ls hl
  obtain ⟨hx, hb, hr, hts, hown, hlk, hml, hK, hN⟩ := id C
  have hl : lv_has ls 4 [(0, .ref (ad 41)), (1, .int x1), (2, .ref (ad 7))] := hl
  unfold fX3_gather at h
  refine lv_aload_n hx hb dX3_gather_0 rfl (lv_at hl 0 rfl) ?_
  refine lv_iconst (v := 0) hx hb dX3_gather_1 (by decide) ?_
  refine r_put C hw qC_41 clsX3 3 rfl (by decide) fl_X3_21 dX3_gather_2 rfl rfl rfl h (fun σ9 H locs hw h => ?_)
  refine lv_iconst (v := 0) hx hb dX3_gather_5 (by decide) ?_
  refine lv_istore_n (lv' := [(3, .int 0), (0, .ref (ad 41)), (1, .int x1), (2, .ref (ad 7))]) hx hb dX3_gather_6 rfl hl (by decide) rfl (fun ls hl => ?_)
  exact wX3_gather_b7 C  _ _ _ _ _ _ _ hw (lv_sub hl [1, 2, 3, 0] rfl) h
set_option maxRecDepth 100000 in
set_option maxHeartbeats 4000000 in
theorem wX3_take_b2 {p : Program} {l : Launch} {e : Env} {s : State} {m : MethodId} {args : Array Value} {below : List Frame} {meth : Method} {c : Code} {D : va_G} {cI cZ : ClassId} {ad : Nat → Nat} {A : Nat → Prop} {z : Int32 × St}  (C : pw_C p s m args meth c yX3_take.cls cX3_take 3 none D cI cZ) : ∀ (n : Nat) (x1 : Int32) (x2 : Int32) (σ : St) (H : Heap) (locs : List Loc) (ls : Array Slot), pw_H D (pw_w shC cI cZ ad σ) A s.heap H locs → lv_has ls 3 [(0, .ref (ad 41)), (1, .int x1), (2, .int x2)] → fX3_take_b2  n x1 x2 σ = some z → W p l e (pw_rm 0) s m args below meth c H locs 0 0 (pw_QV below args s D (pw_w shC cI cZ ad) A z) (F0 m 2 ls []) := by
  obtain ⟨hx, hb, hr, hts, hown, hlk, hml, hK, hN⟩ := id C
  intro n
  induction n with
  | zero =>
    intro x1 x2 σ H locs ls hw hl h
    exact absurd h (by simp [fX3_take_b2])
  | succ n ih =>
    intro x1 x2 σ H locs ls hw hl h
    rw [fX3_take_b2] at h
    refine lv_iload_n hx hb dX3_take_2 rfl (lv_at hl 2 rfl) ?_
    refine lv_iload_n hx hb dX3_take_3 rfl (lv_at hl 1 rfl) ?_
    refine lv_icmp_ge (tgt := 30) hx hb dX3_take_4 (by decide) (fun hc => ?_) (fun hc => ?_)
    · replace h := pw_t hc h
      refine lv_aload_n hx hb dX3_take_30 rfl (lv_at hl 0 rfl) ?_
      refine lv_iload_n hx hb dX3_take_31 rfl (lv_at hl 1 rfl) ?_
      refine r_put C hw qC_41 clsX3 5 rfl (by decide) fl_X3_28 dX3_take_32 rfl rfl rfl h (fun σ1 H locs hw h => ?_)
      exact r_vret C hw dX3_take_35 h
    · replace h := pw_f hc h
      refine lv_aload_n hx hb dX3_take_7 rfl (lv_at hl 0 rfl) ?_
      refine r_get C hw qC_41 clsX3 2 rfl (by decide) fl_X3_18 dX3_take_8 (v := .ref (ad 44)) rfl ?_
      refine lv_iload_n hx hb dX3_take_11 rfl (lv_at hl 2 rfl) ?_
      refine lv_aload_n hx hb dX3_take_12 rfl (lv_at hl 0 rfl) ?_
      refine r_get C hw qC_41 clsX3 0 rfl (by decide) fl_X3_9 dX3_take_13 (v := .ref (ad 42)) rfl ?_
      refine lv_aload_n hx hb dX3_take_16 rfl (lv_at hl 0 rfl) ?_
      refine r_get C hw qC_41 clsX3 4 rfl (by decide) fl_X3_25 dX3_take_17 (v := .int (σ 41 4)) rfl ?_
      refine lv_iload_n hx hb dX3_take_20 rfl (lv_at hl 2 rfl) ?_
      refine lv_iadd hx hb dX3_take_21 ?_
      refine r_iald C hw qC_42 dX3_take_22 h (fun v2 h => ?_)
      refine r_iast C hw qC_44 dX3_take_23 h (fun σ3 H locs hw h => ?_)
      refine lv_iinc (v := (x2 + 1)) (lv' := [(2, .int (x2 + 1)), (0, .ref (ad 41)), (1, .int x1)]) hx hb dX3_take_24 hl (k := 2) rfl rfl (by decide) rfl (fun ls hl => ?_)
      refine lv_goto (tgt := 2) hx hb dX3_take_27 (by decide) ?_
      exact ih _ _ _ _ _ _ hw (lv_sub hl [1, 2, 0] rfl) h
set_option maxRecDepth 100000 in
set_option maxHeartbeats 4000000 in
theorem kX3_take (l : Launch) (D : va_G) (cI cZ : ClassId) (ad : Nat → Nat) (x1 : Int32) (σ : St) (z : Int32 × St) (h : fX3_take x1 σ = some z) : pw_MV l D shC cI cZ ad yX3_take cX3_take 3 none (pw_rm 0) [.ref (ad 41), .int x1] σ z.2 := by
  refine pw_ofV (by decide) (Nat.le_of_ble_eq_true rfl) ?_
  intro p e s m args below meth c A C hw ls hl
  obtain ⟨hx, hb, hr, hts, hown, hlk, hml, hK, hN⟩ := id C
  have hl : lv_has ls 3 [(0, .ref (ad 41)), (1, .int x1)] := hl
  unfold fX3_take at h
  refine lv_iconst (v := 0) hx hb dX3_take_0 (by decide) ?_
  refine lv_istore_n (lv' := [(2, .int 0), (0, .ref (ad 41)), (1, .int x1)]) hx hb dX3_take_1 rfl hl (by decide) rfl (fun ls hl => ?_)
  exact wX3_take_b2 C  _ _ _ _ _ _ _ hw (lv_sub hl [1, 2, 0] rfl) h
set_option maxRecDepth 100000 in
set_option maxHeartbeats 4000000 in
theorem wX3_find_b15 {p : Program} {l : Launch} {e : Env} {s : State} {m : MethodId} {args : Array Value} {below : List Frame} {meth : Method} {c : Code} {D : va_G} {cI cZ : ClassId} {ad : Nat → Nat} {A : Nat → Prop} {z : Int32 × St}  (C : pw_C p s m args meth c yX3_find.cls cX3_find 6 (some .boolean) D cI cZ) : ∀ (n : Nat) (x2 : Int32) (x3 : Int32) (x5 : Int32) (σ : St) (H : Heap) (locs : List Loc) (ls : Array Slot), pw_H D (pw_w shC cI cZ ad σ) A s.heap H locs → lv_has ls 6 [(0, .ref (ad 41)), (2, .int x2), (3, .int x3), (5, .int x5)] → fX3_find_b15  n x2 x3 x5 σ = some z → W p l e (pw_rm 2) s m args below meth c H locs 0 0 (pw_QI below args s D (pw_w shC cI cZ ad) A z) (F0 m 15 ls []) := by
  obtain ⟨hx, hb, hr, hts, hown, hlk, hml, hK, hN⟩ := id C
  intro n
  induction n with
  | zero =>
    intro x2 x3 x5 σ H locs ls hw hl h
    exact absurd h (by simp [fX3_find_b15])
  | succ n ih =>
    intro x2 x3 x5 σ H locs ls hw hl h
    rw [fX3_find_b15] at h
    refine lv_iload hx hb dX3_find_15 (lv_at hl 3 rfl) ?_
    refine lv_iload_n hx hb dX3_find_17 rfl (lv_at hl 1 rfl) ?_
    refine lv_iadd hx hb dX3_find_18 ?_
    refine lv_aload_n hx hb dX3_find_19 rfl (lv_at hl 0 rfl) ?_
    refine r_get C hw qC_41 clsX3 3 rfl (by decide) fl_X3_21 dX3_find_20 (v := .int (σ 41 3)) rfl ?_
    refine lv_icmp_gt (tgt := 68) hx hb dX3_find_23 (by decide) (fun hc => ?_) (fun hc => ?_)
    · replace h := pw_t hc h
      refine lv_iconst (v := 0) hx hb dX3_find_68 (by decide) ?_
      exact r_zret C hw dX3_find_69 h
    · replace h := pw_f hc h
      refine lv_aload_n hx hb dX3_find_26 rfl (lv_at hl 0 rfl) ?_
      refine r_get C hw qC_41 clsX3 1 rfl (by decide) fl_X3_15 dX3_find_27 (v := .ref (ad 43)) rfl ?_
      refine lv_iload hx hb dX3_find_30 (lv_at hl 3 rfl) ?_
      refine r_iald C hw qC_43 dX3_find_32 h (fun v1 h => ?_)
      refine lv_aload_n hx hb dX3_find_33 rfl (lv_at hl 0 rfl) ?_
      refine r_get C hw qC_41 clsX3 1 rfl (by decide) fl_X3_15 dX3_find_34 (v := .ref (ad 43)) rfl ?_
      refine lv_iload hx hb dX3_find_37 (lv_at hl 3 rfl) ?_
      refine lv_iload_n hx hb dX3_find_39 rfl (lv_at hl 1 rfl) ?_
      refine lv_iadd hx hb dX3_find_40 ?_
      refine lv_iconst (v := 1) hx hb dX3_find_41 (by decide) ?_
      refine lv_isub hx hb dX3_find_42 ?_
      refine r_iald C hw qC_43 dX3_find_43 h (fun v2 h => ?_)
      refine lv_isub hx hb dX3_find_44 ?_
      refine lv_iload_n hx hb dX3_find_45 rfl (lv_at hl 2 rfl) ?_
      refine lv_icmp_gt (tgt := 62) hx hb dX3_find_46 (by decide) (fun hc => ?_) (fun hc => ?_)
      · replace h := pw_t hc h
        refine lv_iinc (v := (x5 + 1)) (lv' := [(5, .int (x5 + 1)), (0, .ref (ad 41)), (2, .int x2), (3, .int x3)]) hx hb dX3_find_62 hl (k := 3) rfl rfl (by decide) rfl (fun ls hl => ?_)
        refine lv_goto (tgt := 15) hx hb dX3_find_65 (by decide) ?_
        exact ih _ _ _ _ _ _ _ hw (lv_sub hl [1, 2, 3, 0] rfl) h
      · replace h := pw_f hc h
        refine lv_aload_n hx hb dX3_find_49 rfl (lv_at hl 0 rfl) ?_
        refine lv_iload hx hb dX3_find_50 (lv_at hl 3 rfl) ?_
        refine r_put C hw qC_41 clsX3 4 rfl (by decide) fl_X3_25 dX3_find_52 rfl rfl rfl h (fun σ3 H locs hw h => ?_)
        refine lv_aload_n hx hb dX3_find_55 rfl (lv_at hl 0 rfl) ?_
        refine lv_iload_n hx hb dX3_find_56 rfl (lv_at hl 1 rfl) ?_
        obtain ⟨r6, σ5, e4, h⟩ := cal_some h
        refine r_cVV C hw (As := [.int x2]) (rest := []) (kX3_take l D cI cZ ad _ _ _ e4) YX3_take ml_X3_35 qC_41 clsX3 (pw_rmOK (by omega) (by decide)) rfl hl.1 rfl (Nat.le_of_ble_eq_true rfl) dX3_find_57 ⟨Nat.zero_le _, Nat.zero_le _⟩ (fun H locs hw => ?_)
        refine lv_iconst (v := 1) hx hb dX3_find_60 (by decide) ?_
        exact r_zret C hw dX3_find_61 h
set_option maxRecDepth 100000 in
set_option maxHeartbeats 4000000 in
theorem kX3_find (l : Launch) (D : va_G) (cI cZ : ClassId) (ad : Nat → Nat) (x1 : Int32) (x2 : Int32) (x3 : Int32) (σ : St) (z : Int32 × St) (h : fX3_find x1 x2 x3 σ = some z) : pw_MI l D shC cI cZ ad yX3_find cX3_find 6 (some .boolean) (pw_rm 2) [.ref (ad 41), .int x1, .int x2, .int x3, .ref (ad 7)] σ z.1 z.2 := by
  refine pw_ofI (by decide) (Nat.le_of_ble_eq_true rfl) ?_
  intro p e s m args below meth c A C hw ls hl
  obtain ⟨hx, hb, hr, hts, hown, hlk, hml, hK, hN⟩ := id C
  have hl : lv_has ls 6 [(0, .ref (ad 41)), (1, .int x1), (2, .int x2), (3, .int x3), (4, .ref (ad 7))] := hl
  unfold fX3_find at h
  refine lv_aload_n hx hb dX3_find_0 rfl (lv_at hl 0 rfl) ?_
  refine lv_iload_n hx hb dX3_find_1 rfl (lv_at hl 1 rfl) ?_
  refine lv_aload hx hb dX3_find_2 (lv_at hl 4 rfl) ?_
  obtain ⟨r9, σ8, e7, h⟩ := cal_some h
  refine r_cVV C hw (As := [.int x1, .ref (ad 7)]) (rest := []) (kX3_gather l D cI cZ ad _ _ _ e7) YX3_gather ml_X3_31 qC_41 clsX3 (pw_rmOK (by omega) (by decide)) rfl hl.1 rfl (Nat.le_of_ble_eq_true rfl) dX3_find_4 ⟨Nat.zero_le _, Nat.zero_le _⟩ (fun H locs hw => ?_)
  refine lv_aload_n hx hb dX3_find_7 rfl (lv_at hl 0 rfl) ?_
  refine lv_iconst (v := 0) hx hb dX3_find_8 (by decide) ?_
  refine r_put C hw qC_41 clsX3 5 rfl (by decide) fl_X3_28 dX3_find_9 rfl rfl rfl h (fun σ10 H locs hw h => ?_)
  refine lv_iconst (v := 0) hx hb dX3_find_12 (by decide) ?_
  refine lv_istore (lv' := [(5, .int 0), (0, .ref (ad 41)), (1, .int x1), (2, .int x2), (3, .int x3), (4, .ref (ad 7))]) hx hb dX3_find_13 hl (by decide) rfl (fun ls hl => ?_)
  exact wX3_find_b15 C  _ _ _ _ _ _ _ _ hw (lv_sub hl [1, 3, 4, 0] rfl) h
set_option maxRecDepth 100000 in
set_option maxHeartbeats 4000000 in
theorem wX3_lacking_b4 {p : Program} {l : Launch} {e : Env} {s : State} {m : MethodId} {args : Array Value} {below : List Frame} {meth : Method} {c : Code} {D : va_G} {cI cZ : ClassId} {ad : Nat → Nat} {A : Nat → Prop} {z : Int32 × St}  (C : pw_C p s m args meth c yX3_lacking.cls cX3_lacking 3 (some .int) D cI cZ) : ∀ (n : Nat) (x1 : Int32) (x2 : Int32) (σ : St) (H : Heap) (locs : List Loc) (ls : Array Slot), pw_H D (pw_w shC cI cZ ad σ) A s.heap H locs → lv_has ls 3 [(0, .ref (ad 41)), (1, .int x1), (2, .int x2)] → fX3_lacking_b4  n x1 x2 σ = some z → W p l e (pw_rm 0) s m args below meth c H locs 0 0 (pw_QI below args s D (pw_w shC cI cZ ad) A z) (F0 m 4 ls []) := by
  obtain ⟨hx, hb, hr, hts, hown, hlk, hml, hK, hN⟩ := id C
  intro n
  induction n with
  | zero =>
    intro x1 x2 σ H locs ls hw hl h
    exact absurd h (by simp [fX3_lacking_b4])
  | succ n ih =>
    intro x1 x2 σ H locs ls hw hl h
    rw [fX3_lacking_b4] at h
    refine lv_iload_n hx hb dX3_lacking_4 rfl (lv_at hl 2 rfl) ?_
    refine lv_aload_n hx hb dX3_lacking_5 rfl (lv_at hl 0 rfl) ?_
    refine r_get C hw qC_41 clsX3 5 rfl (by decide) fl_X3_28 dX3_lacking_6 (v := .int (σ 41 5)) rfl ?_
    refine lv_icmp_ge (tgt := 35) hx hb dX3_lacking_9 (by decide) (fun hc => ?_) (fun hc => ?_)
    · replace h := pw_t hc h
      refine lv_iload_n hx hb dX3_lacking_35 rfl (lv_at hl 1 rfl) ?_
      exact r_iret C hw dX3_lacking_36 h
    · replace h := pw_f hc h
      refine lv_iload_n hx hb dX3_lacking_12 rfl (lv_at hl 1 rfl) ?_
      refine lv_bipush (v := 100) hx hb dX3_lacking_13 (by decide) ?_
      refine lv_aload_n hx hb dX3_lacking_15 rfl (lv_at hl 0 rfl) ?_
      refine r_get C hw qC_41 clsX3 1 rfl (by decide) fl_X3_15 dX3_lacking_16 (v := .ref (ad 43)) rfl ?_
      refine lv_aload_n hx hb dX3_lacking_19 rfl (lv_at hl 0 rfl) ?_
      refine r_get C hw qC_41 clsX3 4 rfl (by decide) fl_X3_25 dX3_lacking_20 (v := .int (σ 41 4)) rfl ?_
      refine lv_iload_n hx hb dX3_lacking_23 rfl (lv_at hl 2 rfl) ?_
      refine lv_iadd hx hb dX3_lacking_24 ?_
      refine r_iald C hw qC_43 dX3_lacking_25 h (fun v1 h => ?_)
      refine lv_isub hx hb dX3_lacking_26 ?_
      refine lv_iadd hx hb dX3_lacking_27 ?_
      refine r_leti h (fun v2 h => ?_)
      refine lv_istore_n (lv' := [(1, .int v2), (0, .ref (ad 41)), (2, .int x2)]) hx hb dX3_lacking_28 rfl hl (by decide) rfl (fun ls hl => ?_)
      refine lv_iinc (v := (x2 + 1)) (lv' := [(2, .int (x2 + 1)), (1, .int v2), (0, .ref (ad 41))]) hx hb dX3_lacking_29 hl (k := 2) rfl rfl (by decide) rfl (fun ls hl => ?_)
      refine lv_goto (tgt := 4) hx hb dX3_lacking_32 (by decide) ?_
      exact ih _ _ _ _ _ _ hw (lv_sub hl [2, 1, 0] rfl) h
set_option maxRecDepth 100000 in
set_option maxHeartbeats 4000000 in
theorem kX3_lacking (l : Launch) (D : va_G) (cI cZ : ClassId) (ad : Nat → Nat)  (σ : St) (z : Int32 × St) (h : fX3_lacking  σ = some z) : pw_MI l D shC cI cZ ad yX3_lacking cX3_lacking 3 (some .int) (pw_rm 0) [.ref (ad 41)] σ z.1 z.2 := by
  refine pw_ofI (by decide) (Nat.le_of_ble_eq_true rfl) ?_
  intro p e s m args below meth c A C hw ls hl
  obtain ⟨hx, hb, hr, hts, hown, hlk, hml, hK, hN⟩ := id C
  have hl : lv_has ls 3 [(0, .ref (ad 41))] := hl
  unfold fX3_lacking at h
  refine lv_iconst (v := 0) hx hb dX3_lacking_0 (by decide) ?_
  refine lv_istore_n (lv' := [(1, .int 0), (0, .ref (ad 41))]) hx hb dX3_lacking_1 rfl hl (by decide) rfl (fun ls hl => ?_)
  refine lv_iconst (v := 0) hx hb dX3_lacking_2 (by decide) ?_
  refine lv_istore_n (lv' := [(2, .int 0), (1, .int 0), (0, .ref (ad 41))]) hx hb dX3_lacking_3 rfl hl (by decide) rfl (fun ls hl => ?_)
  exact wX3_lacking_b4 C  _ _ _ _ _ _ _ hw (lv_sub hl [2, 1, 0] rfl) h
set_option maxRecDepth 100000 in
set_option maxHeartbeats 4000000 in
theorem kX10_service (l : Launch) (D : va_G) (cI cZ : ClassId) (ad : Nat → Nat) (x1 : Int32) (x2 : Int32) (x3 : Int32) (σ : St) (z : Int32 × St) (h : fX10_service x1 x2 x3 σ = some z) : pw_MI l D shC cI cZ ad yX10_service cX10_service 5 (some .int) (pw_rm 3) [.ref (ad 0), .int x1, .int x2, .int x3] σ z.1 z.2 := by
  refine pw_ofI (by decide) (Nat.le_of_ble_eq_true rfl) ?_
  intro p e s m args below meth c A C hw ls hl
  obtain ⟨hx, hb, hr, hts, hown, hlk, hml, hK, hN⟩ := id C
  have hl : lv_has ls 5 [(0, .ref (ad 0)), (1, .int x1), (2, .int x2), (3, .int x3)] := hl
  unfold fX10_service at h
  refine lv_iload_n hx hb dX10_service_0 rfl (lv_at hl 1 rfl) ?_
  refine lv_iload_n hx hb dX10_service_1 rfl (lv_at hl 2 rfl) ?_
  refine lv_iload_n hx hb dX10_service_2 rfl (lv_at hl 3 rfl) ?_
  obtain ⟨v3, σ2, e1, h⟩ := cal_some h
  refine r_cSI C hw (sh := shC) (ad := ad) (As := [.int x1, .int x2, .int x3]) (rest := []) (kX10_serviceRefusal l D cI cZ ad _ _ _ _ _ e1) YX10_serviceRefusal ml_X10_235 (pw_rmOK (by omega) (by decide)) rfl hl.1 rfl (Nat.le_of_ble_eq_true rfl) dX10_service_3 ⟨Nat.zero_le _, Nat.zero_le _⟩ (fun H locs hw => ?_)
  refine lv_istore (lv' := [(4, .int v3), (0, .ref (ad 0)), (1, .int x1), (2, .int x2), (3, .int x3)]) hx hb dX10_service_6 hl (by decide) rfl (fun ls hl => ?_)
  refine lv_iload hx hb dX10_service_8 (lv_at hl 0 rfl) ?_
  refine lv_if_eq (tgt := 20) hx hb dX10_service_10 (by decide) (fun hc => ?_) (fun hc => ?_)
  · replace h := pw_t hc h
    refine lv_aload_n hx hb dX10_service_20 rfl (lv_at hl 1 rfl) ?_
    refine r_get C hw qC_0 clsX10 7 rfl (by decide) fl_X10_58 dX10_service_21 (v := .ref (ad 41)) rfl ?_
    refine lv_iload_n hx hb dX10_service_24 rfl (lv_at hl 2 rfl) ?_
    refine lv_iload_n hx hb dX10_service_25 rfl (lv_at hl 3 rfl) ?_
    refine lv_iload_n hx hb dX10_service_26 rfl (lv_at hl 4 rfl) ?_
    refine lv_aload_n hx hb dX10_service_27 rfl (lv_at hl 1 rfl) ?_
    refine r_get C hw qC_0 clsX10 2 rfl (by decide) fl_X10_23 dX10_service_28 (v := .ref (ad 7)) rfl ?_
    obtain ⟨v6, σ5, e4, h⟩ := cal_some h
    refine r_cNI C hw (As := [.int x1, .int x2, .int x3, .ref (ad 7)]) (rest := []) (kX3_find l D cI cZ ad _ _ _ _ _ e4) YX3_find mn_X10_238 qC_41 clsX3 (pw_rmOK (by omega) (by decide)) rfl hl.1 rfl (Nat.le_of_ble_eq_true rfl) dX10_service_31 ⟨Nat.zero_le _, Nat.zero_le _⟩ (fun H locs hw => ?_)
    refine lv_if_eq (tgt := 47) hx hb dX10_service_34 (by decide) (fun hc => ?_) (fun hc => ?_)
    · replace h := pw_t hc h
      refine lv_bipush (v := (-9)) hx hb dX10_service_47 (by decide) ?_
      exact r_iret C hw dX10_service_49 h
    · replace h := pw_f hc h
      refine lv_aload_n hx hb dX10_service_37 rfl (lv_at hl 1 rfl) ?_
      refine r_get C hw qC_0 clsX10 7 rfl (by decide) fl_X10_58 dX10_service_38 (v := .ref (ad 41)) rfl ?_
      obtain ⟨v9, σ8, e7, h⟩ := cal_some h
      refine r_cNI C hw (As := []) (rest := []) (kX3_lacking l D cI cZ ad _ _ e7) YX3_lacking mn_X10_242 qC_41 clsX3 (pw_rmOK (by omega) (by decide)) rfl hl.1 rfl (Nat.le_of_ble_eq_true rfl) dX10_service_41 ⟨Nat.zero_le _, Nat.zero_le _⟩ (fun H locs hw => ?_)
      refine lv_goto (tgt := 49) hx hb dX10_service_44 (by decide) ?_
      exact r_iret C hw dX10_service_49 h
  · replace h := pw_f hc h
    refine lv_aload_n hx hb dX10_service_13 rfl (lv_at hl 1 rfl) ?_
    refine lv_iload hx hb dX10_service_14 (lv_at hl 0 rfl) ?_
    obtain ⟨v12, σ11, e10, h⟩ := cal_some h
    refine r_cVI C hw (As := [.int v3]) (rest := []) (kX10_refuse l D cI cZ ad _ _ _ e10) YX10_refuse ml_X10_91 qC_0 clsX10 (pw_rmOK (by omega) (by decide)) rfl hl.1 rfl (Nat.le_of_ble_eq_true rfl) dX10_service_16 ⟨Nat.zero_le _, Nat.zero_le _⟩ (fun H locs hw => ?_)
    exact r_iret C hw dX10_service_19 h
set_option maxRecDepth 100000 in
set_option maxHeartbeats 4000000 in
theorem wX3_sortByNumber_b19 {p : Program} {l : Launch} {e : Env} {s : State} {m : MethodId} {args : Array Value} {below : List Frame} {meth : Method} {c : Code} {D : va_G} {cI cZ : ClassId} {ad : Nat → Nat} {A : Nat → Prop} {z : Int32 × St} {k2 : Int32 → St → Option (Int32 × St)} (C : pw_C p s m args meth c yX3_sortByNumber.cls cX3_sortByNumber 4 none D cI cZ) (hk2 : ∀ (x1 : Int32) (σ : St) (H : Heap) (locs : List Loc) (ls : Array Slot), pw_H D (pw_w shC cI cZ ad σ) A s.heap H locs → lv_has ls 4 [(0, .ref (ad 41)), (1, .int x1)] → k2 x1 σ = some z → W p l e (pw_rm 0) s m args below meth c H locs 0 0 (pw_QV below args s D (pw_w shC cI cZ ad) A z) (F0 m 2 ls [])) : ∀ (n : Nat) (x1 : Int32) (x2 : Int32) (x3 : Int32) (σ : St) (H : Heap) (locs : List Loc) (ls : Array Slot), pw_H D (pw_w shC cI cZ ad σ) A s.heap H locs → lv_has ls 4 [(0, .ref (ad 41)), (1, .int x1), (2, .int x2), (3, .int x3)] → fX3_sortByNumber_b19 k2 n x1 x2 x3 σ = some z → W p l e (pw_rm 0) s m args below meth c H locs 0 0 (pw_QV below args s D (pw_w shC cI cZ ad) A z) (F0 m 19 ls []) := by
  obtain ⟨hx, hb, hr, hts, hown, hlk, hml, hK, hN⟩ := id C
  intro n
  induction n with
  | zero =>
    intro x1 x2 x3 σ H locs ls hw hl h
    exact absurd h (by simp [fX3_sortByNumber_b19])
  | succ n ih =>
    intro x1 x2 x3 σ H locs ls hw hl h
    rw [fX3_sortByNumber_b19] at h
    refine lv_iload_n hx hb dX3_sortByNumber_19 rfl (lv_at hl 3 rfl) ?_
    refine lv_if_le (tgt := 55) hx hb dX3_sortByNumber_20 (by decide) (fun hc => ?_) (fun hc => ?_)
    · replace h := pw_t hc h
      refine lv_aload_n hx hb dX3_sortByNumber_55 rfl (lv_at hl 0 rfl) ?_
      refine r_get C hw qC_41 clsX3 2 rfl (by decide) fl_X3_18 dX3_sortByNumber_56 (v := .ref (ad 44)) rfl ?_
      refine lv_iload_n hx hb dX3_sortByNumber_59 rfl (lv_at hl 3 rfl) ?_
      refine lv_iload_n hx hb dX3_sortByNumber_60 rfl (lv_at hl 2 rfl) ?_
      refine r_iast C hw qC_44 dX3_sortByNumber_61 h (fun σ1 H locs hw h => ?_)
      refine lv_iinc (v := (x1 + 1)) (lv' := [(1, .int (x1 + 1)), (0, .ref (ad 41)), (2, .int x2), (3, .int x3)]) hx hb dX3_sortByNumber_62 hl (k := 1) rfl rfl (by decide) rfl (fun ls hl => ?_)
      refine lv_goto (tgt := 2) hx hb dX3_sortByNumber_65 (by decide) ?_
      exact hk2 _ _ _ _ _ hw (lv_sub hl [1, 0] rfl) h
    · replace h := pw_f hc h
      refine lv_aload_n hx hb dX3_sortByNumber_23 rfl (lv_at hl 0 rfl) ?_
      refine r_get C hw qC_41 clsX3 2 rfl (by decide) fl_X3_18 dX3_sortByNumber_24 (v := .ref (ad 44)) rfl ?_
      refine lv_iload_n hx hb dX3_sortByNumber_27 rfl (lv_at hl 3 rfl) ?_
      refine lv_iconst (v := 1) hx hb dX3_sortByNumber_28 (by decide) ?_
      refine lv_isub hx hb dX3_sortByNumber_29 ?_
      refine r_iald C hw qC_44 dX3_sortByNumber_30 h (fun v2 h => ?_)
      refine lv_iload_n hx hb dX3_sortByNumber_31 rfl (lv_at hl 2 rfl) ?_
      refine lv_icmp_le (tgt := 55) hx hb dX3_sortByNumber_32 (by decide) (fun hc => ?_) (fun hc => ?_)
      · replace h := pw_t hc h
        refine lv_aload_n hx hb dX3_sortByNumber_55 rfl (lv_at hl 0 rfl) ?_
        refine r_get C hw qC_41 clsX3 2 rfl (by decide) fl_X3_18 dX3_sortByNumber_56 (v := .ref (ad 44)) rfl ?_
        refine lv_iload_n hx hb dX3_sortByNumber_59 rfl (lv_at hl 3 rfl) ?_
        refine lv_iload_n hx hb dX3_sortByNumber_60 rfl (lv_at hl 2 rfl) ?_
        refine r_iast C hw qC_44 dX3_sortByNumber_61 h (fun σ3 H locs hw h => ?_)
        refine lv_iinc (v := (x1 + 1)) (lv' := [(1, .int (x1 + 1)), (0, .ref (ad 41)), (2, .int x2), (3, .int x3)]) hx hb dX3_sortByNumber_62 hl (k := 1) rfl rfl (by decide) rfl (fun ls hl => ?_)
        refine lv_goto (tgt := 2) hx hb dX3_sortByNumber_65 (by decide) ?_
        exact hk2 _ _ _ _ _ hw (lv_sub hl [1, 0] rfl) h
      · replace h := pw_f hc h
        refine lv_aload_n hx hb dX3_sortByNumber_35 rfl (lv_at hl 0 rfl) ?_
        refine r_get C hw qC_41 clsX3 2 rfl (by decide) fl_X3_18 dX3_sortByNumber_36 (v := .ref (ad 44)) rfl ?_
        refine lv_iload_n hx hb dX3_sortByNumber_39 rfl (lv_at hl 3 rfl) ?_
        refine lv_aload_n hx hb dX3_sortByNumber_40 rfl (lv_at hl 0 rfl) ?_
        refine r_get C hw qC_41 clsX3 2 rfl (by decide) fl_X3_18 dX3_sortByNumber_41 (v := .ref (ad 44)) rfl ?_
        refine lv_iload_n hx hb dX3_sortByNumber_44 rfl (lv_at hl 3 rfl) ?_
        refine lv_iconst (v := 1) hx hb dX3_sortByNumber_45 (by decide) ?_
        refine lv_isub hx hb dX3_sortByNumber_46 ?_
        refine r_iald C hw qC_44 dX3_sortByNumber_47 h (fun v4 h => ?_)
        refine r_iast C hw qC_44 dX3_sortByNumber_48 h (fun σ5 H locs hw h => ?_)
        refine lv_iinc (v := (x3 + (-1))) (lv' := [(3, .int (x3 + (-1))), (0, .ref (ad 41)), (1, .int x1), (2, .int x2)]) hx hb dX3_sortByNumber_49 hl (k := 3) rfl rfl (by decide) rfl (fun ls hl => ?_)
        refine lv_goto (tgt := 19) hx hb dX3_sortByNumber_52 (by decide) ?_
        exact ih _ _ _ _ _ _ _ hw (lv_sub hl [1, 2, 3, 0] rfl) h
set_option maxRecDepth 100000 in
set_option maxHeartbeats 4000000 in
theorem wX3_sortByNumber_b2 {p : Program} {l : Launch} {e : Env} {s : State} {m : MethodId} {args : Array Value} {below : List Frame} {meth : Method} {c : Code} {D : va_G} {cI cZ : ClassId} {ad : Nat → Nat} {A : Nat → Prop} {z : Int32 × St}  (C : pw_C p s m args meth c yX3_sortByNumber.cls cX3_sortByNumber 4 none D cI cZ) : ∀ (n : Nat) (x1 : Int32) (σ : St) (H : Heap) (locs : List Loc) (ls : Array Slot), pw_H D (pw_w shC cI cZ ad σ) A s.heap H locs → lv_has ls 4 [(0, .ref (ad 41)), (1, .int x1)] → fX3_sortByNumber_b2  n x1 σ = some z → W p l e (pw_rm 0) s m args below meth c H locs 0 0 (pw_QV below args s D (pw_w shC cI cZ ad) A z) (F0 m 2 ls []) := by
  obtain ⟨hx, hb, hr, hts, hown, hlk, hml, hK, hN⟩ := id C
  intro n
  induction n with
  | zero =>
    intro x1 σ H locs ls hw hl h
    exact absurd h (by simp [fX3_sortByNumber_b2])
  | succ n ih =>
    intro x1 σ H locs ls hw hl h
    rw [fX3_sortByNumber_b2] at h
    refine lv_iload_n hx hb dX3_sortByNumber_2 rfl (lv_at hl 1 rfl) ?_
    refine lv_aload_n hx hb dX3_sortByNumber_3 rfl (lv_at hl 0 rfl) ?_
    refine r_get C hw qC_41 clsX3 5 rfl (by decide) fl_X3_28 dX3_sortByNumber_4 (v := .int (σ 41 5)) rfl ?_
    refine lv_icmp_ge (tgt := 68) hx hb dX3_sortByNumber_7 (by decide) (fun hc => ?_) (fun hc => ?_)
    · replace h := pw_t hc h
      exact r_vret C hw dX3_sortByNumber_68 h
    · replace h := pw_f hc h
      refine lv_aload_n hx hb dX3_sortByNumber_10 rfl (lv_at hl 0 rfl) ?_
      refine r_get C hw qC_41 clsX3 2 rfl (by decide) fl_X3_18 dX3_sortByNumber_11 (v := .ref (ad 44)) rfl ?_
      refine lv_iload_n hx hb dX3_sortByNumber_14 rfl (lv_at hl 1 rfl) ?_
      refine r_iald C hw qC_44 dX3_sortByNumber_15 h (fun v6 h => ?_)
      refine lv_istore_n (lv' := [(2, .int v6), (0, .ref (ad 41)), (1, .int x1)]) hx hb dX3_sortByNumber_16 rfl hl (by decide) rfl (fun ls hl => ?_)
      refine lv_iload_n hx hb dX3_sortByNumber_17 rfl (lv_at hl 2 rfl) ?_
      refine lv_istore_n (lv' := [(3, .int x1), (2, .int v6), (0, .ref (ad 41)), (1, .int x1)]) hx hb dX3_sortByNumber_18 rfl hl (by decide) rfl (fun ls hl => ?_)
      exact wX3_sortByNumber_b19 C ih _ _ _ _ _ _ _ _ hw (lv_sub hl [2, 3, 1, 0] rfl) h
set_option maxRecDepth 100000 in
set_option maxHeartbeats 4000000 in
theorem kX3_sortByNumber (l : Launch) (D : va_G) (cI cZ : ClassId) (ad : Nat → Nat)  (σ : St) (z : Int32 × St) (h : fX3_sortByNumber  σ = some z) : pw_MV l D shC cI cZ ad yX3_sortByNumber cX3_sortByNumber 4 none (pw_rm 0) [.ref (ad 41)] σ z.2 := by
  refine pw_ofV (by decide) (Nat.le_of_ble_eq_true rfl) ?_
  intro p e s m args below meth c A C hw ls hl
  obtain ⟨hx, hb, hr, hts, hown, hlk, hml, hK, hN⟩ := id C
  have hl : lv_has ls 4 [(0, .ref (ad 41))] := hl
  unfold fX3_sortByNumber at h
  refine lv_iconst (v := 1) hx hb dX3_sortByNumber_0 (by decide) ?_
  refine lv_istore_n (lv' := [(1, .int 1), (0, .ref (ad 41))]) hx hb dX3_sortByNumber_1 rfl hl (by decide) rfl (fun ls hl => ?_)
  exact wX3_sortByNumber_b2 C  _ _ _ _ _ _ hw (lv_sub hl [1, 0] rfl) h
set_option maxRecDepth 100000 in
set_option maxHeartbeats 4000000 in
theorem kX10_matched (l : Launch) (D : va_G) (cI cZ : ClassId) (ad : Nat → Nat) (x1 : Int32) (x2 : Int32) (x3 : Int32) (x4 : Int32) (σ : St) (z : Int32 × St) (h : fX10_matched x1 x2 x3 x4 σ = some z) : pw_MI l D shC cI cZ ad yX10_matched cX10_matched 6 (some .int) (pw_rm 3) [.ref (ad 0), .int x1, .int x2, .int x3, .int x4] σ z.1 z.2 := by
  refine pw_ofI (by decide) (Nat.le_of_ble_eq_true rfl) ?_
  intro p e s m args below meth c A C hw ls hl
  obtain ⟨hx, hb, hr, hts, hown, hlk, hml, hK, hN⟩ := id C
  have hl : lv_has ls 6 [(0, .ref (ad 0)), (1, .int x1), (2, .int x2), (3, .int x3), (4, .int x4)] := hl
  unfold fX10_matched at h
  refine lv_iload_n hx hb dX10_matched_0 rfl (lv_at hl 1 rfl) ?_
  refine lv_iload_n hx hb dX10_matched_1 rfl (lv_at hl 2 rfl) ?_
  refine lv_iload_n hx hb dX10_matched_2 rfl (lv_at hl 3 rfl) ?_
  obtain ⟨v3, σ2, e1, h⟩ := cal_some h
  refine r_cSI C hw (sh := shC) (ad := ad) (As := [.int x1, .int x2, .int x3]) (rest := []) (kX10_serviceRefusal l D cI cZ ad _ _ _ _ _ e1) YX10_serviceRefusal ml_X10_235 (pw_rmOK (by omega) (by decide)) rfl hl.1 rfl (Nat.le_of_ble_eq_true rfl) dX10_matched_3 ⟨Nat.zero_le _, Nat.zero_le _⟩ (fun H locs hw => ?_)
  refine lv_istore (lv' := [(5, .int v3), (0, .ref (ad 0)), (1, .int x1), (2, .int x2), (3, .int x3), (4, .int x4)]) hx hb dX10_matched_6 hl (by decide) rfl (fun ls hl => ?_)
  refine lv_iload hx hb dX10_matched_8 (lv_at hl 0 rfl) ?_
  refine lv_if_eq (tgt := 20) hx hb dX10_matched_10 (by decide) (fun hc => ?_) (fun hc => ?_)
  · replace h := pw_t hc h
    refine lv_aload_n hx hb dX10_matched_20 rfl (lv_at hl 1 rfl) ?_
    refine r_get C hw qC_0 clsX10 7 rfl (by decide) fl_X10_58 dX10_matched_21 (v := .ref (ad 41)) rfl ?_
    refine lv_iload_n hx hb dX10_matched_24 rfl (lv_at hl 2 rfl) ?_
    refine lv_iload_n hx hb dX10_matched_25 rfl (lv_at hl 3 rfl) ?_
    refine lv_iload_n hx hb dX10_matched_26 rfl (lv_at hl 4 rfl) ?_
    refine lv_aload_n hx hb dX10_matched_27 rfl (lv_at hl 1 rfl) ?_
    refine r_get C hw qC_0 clsX10 2 rfl (by decide) fl_X10_23 dX10_matched_28 (v := .ref (ad 7)) rfl ?_
    obtain ⟨v6, σ5, e4, h⟩ := cal_some h
    refine r_cNI C hw (As := [.int x1, .int x2, .int x3, .ref (ad 7)]) (rest := []) (kX3_find l D cI cZ ad _ _ _ _ _ e4) YX3_find mn_X10_238 qC_41 clsX3 (pw_rmOK (by omega) (by decide)) rfl hl.1 rfl (Nat.le_of_ble_eq_true rfl) dX10_matched_31 ⟨Nat.zero_le _, Nat.zero_le _⟩ (fun H locs hw => ?_)
    refine lv_if_eq (tgt := 52) hx hb dX10_matched_34 (by decide) (fun hc => ?_) (fun hc => ?_)
    · replace h := pw_t hc h
      refine lv_bipush (v := (-9)) hx hb dX10_matched_52 (by decide) ?_
      exact r_iret C hw dX10_matched_54 h
    · replace h := pw_f hc h
      refine lv_iload hx hb dX10_matched_37 (lv_at hl 5 rfl) ?_
      refine lv_aload_n hx hb dX10_matched_39 rfl (lv_at hl 1 rfl) ?_
      refine r_get C hw qC_0 clsX10 7 rfl (by decide) fl_X10_58 dX10_matched_40 (v := .ref (ad 41)) rfl ?_
      refine r_getN C hw qC_41 clsX3 5 rfl (by decide) fn_X10_245 dX10_matched_43 (v := .int (σ5 41 5)) rfl ?_
      obtain ⟨v9, σ8, e7, h⟩ := cal_some h
      refine r_cSI C hw (sh := shC) (ad := ad) (As := [.int x4, .int (σ5 41 5)]) (rest := []) (kX10_within l D cI cZ ad _ _ _ _ e7) YX10_within ml_X10_87 (pw_rmOK (by omega) (by decide)) rfl hl.1 rfl (Nat.le_of_ble_eq_true rfl) dX10_matched_46 ⟨Nat.zero_le _, Nat.zero_le _⟩ (fun H locs hw => ?_)
      refine lv_if_ne (tgt := 55) hx hb dX10_matched_49 (by decide) (fun hc => ?_) (fun hc => ?_)
      · replace h := pw_f hc h
        refine lv_aload_n hx hb dX10_matched_55 rfl (lv_at hl 1 rfl) ?_
        refine r_get C hw qC_0 clsX10 7 rfl (by decide) fl_X10_58 dX10_matched_56 (v := .ref (ad 41)) rfl ?_
        obtain ⟨r12, σ11, e10, h⟩ := cal_some h
        refine r_cNV C hw (As := []) (rest := []) (kX3_sortByNumber l D cI cZ ad _ _ e10) YX3_sortByNumber mn_X10_248 qC_41 clsX3 (pw_rmOK (by omega) (by decide)) rfl hl.1 rfl (Nat.le_of_ble_eq_true rfl) dX10_matched_59 ⟨Nat.zero_le _, Nat.zero_le _⟩ (fun H locs hw => ?_)
        refine lv_aload_n hx hb dX10_matched_62 rfl (lv_at hl 1 rfl) ?_
        refine r_get C hw qC_0 clsX10 7 rfl (by decide) fl_X10_58 dX10_matched_63 (v := .ref (ad 41)) rfl ?_
        refine r_getN C hw qC_41 clsX3 2 rfl (by decide) fn_X10_251 dX10_matched_66 (v := .ref (ad 44)) rfl ?_
        refine lv_iload hx hb dX10_matched_69 (lv_at hl 5 rfl) ?_
        refine r_iald C hw qC_44 dX10_matched_71 h (fun v13 h => ?_)
        exact r_iret C hw dX10_matched_72 h
      · replace h := pw_t hc h
        refine lv_bipush (v := (-9)) hx hb dX10_matched_52 (by decide) ?_
        exact r_iret C hw dX10_matched_54 h
  · replace h := pw_f hc h
    refine lv_aload_n hx hb dX10_matched_13 rfl (lv_at hl 1 rfl) ?_
    refine lv_iload hx hb dX10_matched_14 (lv_at hl 0 rfl) ?_
    obtain ⟨v16, σ15, e14, h⟩ := cal_some h
    refine r_cVI C hw (As := [.int v3]) (rest := []) (kX10_refuse l D cI cZ ad _ _ _ e14) YX10_refuse ml_X10_91 qC_0 clsX10 (pw_rmOK (by omega) (by decide)) rfl hl.1 rfl (Nat.le_of_ble_eq_true rfl) dX10_matched_16 ⟨Nat.zero_le _, Nat.zero_le _⟩ (fun H locs hw => ?_)
    exact r_iret C hw dX10_matched_19 h
set_option maxRecDepth 100000 in
set_option maxHeartbeats 4000000 in
theorem wX10_sell_b47 {p : Program} {l : Launch} {e : Env} {s : State} {m : MethodId} {args : Array Value} {below : List Frame} {meth : Method} {c : Code} {D : va_G} {cI cZ : ClassId} {ad : Nat → Nat} {A : Nat → Prop} {z : Int32 × St}  (C : pw_C p s m args meth c yX10_sell.cls cX10_sell 6 (some .int) D cI cZ) : ∀ (n : Nat) (x2 : Int32) (x5 : Int32) (σ : St) (H : Heap) (locs : List Loc) (ls : Array Slot), pw_H D (pw_w shC cI cZ ad σ) A s.heap H locs → lv_has ls 6 [(0, .ref (ad 0)), (2, .int x2), (5, .int x5)] → fX10_sell_b47  n x2 x5 σ = some z → W p l e (pw_rm 3) s m args below meth c H locs 0 0 (pw_QI below args s D (pw_w shC cI cZ ad) A z) (F0 m 47 ls []) := by
  obtain ⟨hx, hb, hr, hts, hown, hlk, hml, hK, hN⟩ := id C
  intro n
  induction n with
  | zero =>
    intro x2 x5 σ H locs ls hw hl h
    exact absurd h (by simp [fX10_sell_b47])
  | succ n ih =>
    intro x2 x5 σ H locs ls hw hl h
    rw [fX10_sell_b47] at h
    refine lv_iload hx hb dX10_sell_47 (lv_at hl 2 rfl) ?_
    refine lv_aload_n hx hb dX10_sell_49 rfl (lv_at hl 0 rfl) ?_
    refine r_get C hw qC_0 clsX10 7 rfl (by decide) fl_X10_58 dX10_sell_50 (v := .ref (ad 41)) rfl ?_
    refine r_getN C hw qC_41 clsX3 5 rfl (by decide) fn_X10_245 dX10_sell_53 (v := .int (σ 41 5)) rfl ?_
    refine lv_icmp_ge (tgt := 84) hx hb dX10_sell_56 (by decide) (fun hc => ?_) (fun hc => ?_)
    · replace h := pw_t hc h
      refine lv_iload_n hx hb dX10_sell_84 rfl (lv_at hl 1 rfl) ?_
      exact r_iret C hw dX10_sell_85 h
    · replace h := pw_f hc h
      refine lv_aload_n hx hb dX10_sell_59 rfl (lv_at hl 0 rfl) ?_
      refine r_get C hw qC_0 clsX10 2 rfl (by decide) fl_X10_23 dX10_sell_60 (v := .ref (ad 7)) rfl ?_
      refine r_getN C hw qC_7 clsX6 3 rfl (by decide) fn_X10_232 dX10_sell_63 (v := .ref (ad 11)) rfl ?_
      refine lv_aload_n hx hb dX10_sell_66 rfl (lv_at hl 0 rfl) ?_
      refine r_get C hw qC_0 clsX10 7 rfl (by decide) fl_X10_58 dX10_sell_67 (v := .ref (ad 41)) rfl ?_
      refine r_getN C hw qC_41 clsX3 2 rfl (by decide) fn_X10_251 dX10_sell_70 (v := .ref (ad 44)) rfl ?_
      refine lv_iload hx hb dX10_sell_73 (lv_at hl 2 rfl) ?_
      refine r_iald C hw qC_44 dX10_sell_75 h (fun v1 h => ?_)
      refine lv_iconst (v := 4) hx hb dX10_sell_76 (by decide) ?_
      refine r_iast C hw qC_11 dX10_sell_77 h (fun σ2 H locs hw h => ?_)
      refine lv_iinc (v := (x5 + 1)) (lv' := [(5, .int (x5 + 1)), (0, .ref (ad 0)), (2, .int x2)]) hx hb dX10_sell_78 hl (k := 2) rfl rfl (by decide) rfl (fun ls hl => ?_)
      refine lv_goto (tgt := 47) hx hb dX10_sell_81 (by decide) ?_
      exact ih _ _ _ _ _ _ hw (lv_sub hl [1, 2, 0] rfl) h
set_option maxRecDepth 100000 in
set_option maxHeartbeats 4000000 in
theorem kX10_sell (l : Launch) (D : va_G) (cI cZ : ClassId) (ad : Nat → Nat) (x1 : Int32) (x2 : Int32) (x3 : Int32) (σ : St) (z : Int32 × St) (h : fX10_sell x1 x2 x3 σ = some z) : pw_MI l D shC cI cZ ad yX10_sell cX10_sell 6 (some .int) (pw_rm 3) [.ref (ad 0), .int x1, .int x2, .int x3] σ z.1 z.2 := by
  refine pw_ofI (by decide) (Nat.le_of_ble_eq_true rfl) ?_
  intro p e s m args below meth c A C hw ls hl
  obtain ⟨hx, hb, hr, hts, hown, hlk, hml, hK, hN⟩ := id C
  have hl : lv_has ls 6 [(0, .ref (ad 0)), (1, .int x1), (2, .int x2), (3, .int x3)] := hl
  unfold fX10_sell at h
  refine lv_iload_n hx hb dX10_sell_0 rfl (lv_at hl 1 rfl) ?_
  refine lv_iload_n hx hb dX10_sell_1 rfl (lv_at hl 2 rfl) ?_
  refine lv_iload_n hx hb dX10_sell_2 rfl (lv_at hl 3 rfl) ?_
  obtain ⟨v5, σ4, e3, h⟩ := cal_some h
  refine r_cSI C hw (sh := shC) (ad := ad) (As := [.int x1, .int x2, .int x3]) (rest := []) (kX10_serviceRefusal l D cI cZ ad _ _ _ _ _ e3) YX10_serviceRefusal ml_X10_235 (pw_rmOK (by omega) (by decide)) rfl hl.1 rfl (Nat.le_of_ble_eq_true rfl) dX10_sell_3 ⟨Nat.zero_le _, Nat.zero_le _⟩ (fun H locs hw => ?_)
  refine lv_istore (lv' := [(4, .int v5), (0, .ref (ad 0)), (1, .int x1), (2, .int x2), (3, .int x3)]) hx hb dX10_sell_6 hl (by decide) rfl (fun ls hl => ?_)
  refine lv_iload hx hb dX10_sell_8 (lv_at hl 0 rfl) ?_
  refine lv_if_eq (tgt := 20) hx hb dX10_sell_10 (by decide) (fun hc => ?_) (fun hc => ?_)
  · replace h := pw_t hc h
    refine lv_aload_n hx hb dX10_sell_20 rfl (lv_at hl 1 rfl) ?_
    refine r_get C hw qC_0 clsX10 7 rfl (by decide) fl_X10_58 dX10_sell_21 (v := .ref (ad 41)) rfl ?_
    refine lv_iload_n hx hb dX10_sell_24 rfl (lv_at hl 2 rfl) ?_
    refine lv_iload_n hx hb dX10_sell_25 rfl (lv_at hl 3 rfl) ?_
    refine lv_iload_n hx hb dX10_sell_26 rfl (lv_at hl 4 rfl) ?_
    refine lv_aload_n hx hb dX10_sell_27 rfl (lv_at hl 1 rfl) ?_
    refine r_get C hw qC_0 clsX10 2 rfl (by decide) fl_X10_23 dX10_sell_28 (v := .ref (ad 7)) rfl ?_
    obtain ⟨v8, σ7, e6, h⟩ := cal_some h
    refine r_cNI C hw (As := [.int x1, .int x2, .int x3, .ref (ad 7)]) (rest := []) (kX3_find l D cI cZ ad _ _ _ _ _ e6) YX3_find mn_X10_238 qC_41 clsX3 (pw_rmOK (by omega) (by decide)) rfl hl.1 rfl (Nat.le_of_ble_eq_true rfl) dX10_sell_31 ⟨Nat.zero_le _, Nat.zero_le _⟩ (fun H locs hw => ?_)
    refine lv_if_ne (tgt := 44) hx hb dX10_sell_34 (by decide) (fun hc => ?_) (fun hc => ?_)
    · replace h := pw_f hc h
      refine lv_iconst (v := 0) hx hb dX10_sell_44 (by decide) ?_
      refine lv_istore (lv' := [(5, .int 0), (4, .int v5), (0, .ref (ad 0)), (1, .int x1), (2, .int x2), (3, .int x3)]) hx hb dX10_sell_45 hl (by decide) rfl (fun ls hl => ?_)
      exact wX10_sell_b47 C  _ _ _ _ _ _ _ hw (lv_sub hl [2, 4, 0] rfl) h
    · replace h := pw_t hc h
      refine lv_aload_n hx hb dX10_sell_37 rfl (lv_at hl 1 rfl) ?_
      refine lv_bipush (v := (-3)) hx hb dX10_sell_38 (by decide) ?_
      obtain ⟨v11, σ10, e9, h⟩ := cal_some h
      refine r_cVI C hw (As := [.int (-3)]) (rest := []) (kX10_refuse l D cI cZ ad _ _ _ e9) YX10_refuse ml_X10_91 qC_0 clsX10 (pw_rmOK (by omega) (by decide)) rfl hl.1 rfl (Nat.le_of_ble_eq_true rfl) dX10_sell_40 ⟨Nat.zero_le _, Nat.zero_le _⟩ (fun H locs hw => ?_)
      exact r_iret C hw dX10_sell_43 h
  · replace h := pw_f hc h
    refine lv_aload_n hx hb dX10_sell_13 rfl (lv_at hl 1 rfl) ?_
    refine lv_iload hx hb dX10_sell_14 (lv_at hl 0 rfl) ?_
    obtain ⟨v14, σ13, e12, h⟩ := cal_some h
    refine r_cVI C hw (As := [.int v5]) (rest := []) (kX10_refuse l D cI cZ ad _ _ _ e12) YX10_refuse ml_X10_91 qC_0 clsX10 (pw_rmOK (by omega) (by decide)) rfl hl.1 rfl (Nat.le_of_ble_eq_true rfl) dX10_sell_16 ⟨Nat.zero_le _, Nat.zero_le _⟩ (fun H locs hw => ?_)
    exact r_iret C hw dX10_sell_19 h
set_option maxRecDepth 100000 in
set_option maxHeartbeats 4000000 in
theorem wX4_begin_b2 {p : Program} {l : Launch} {e : Env} {s : State} {m : MethodId} {args : Array Value} {below : List Frame} {meth : Method} {c : Code} {D : va_G} {cI cZ : ClassId} {ad : Nat → Nat} {A : Nat → Prop} {z : Int32 × St}  (C : pw_C p s m args meth c yX4_begin.cls cX4_begin 2 none D cI cZ) : ∀ (n : Nat) (x1 : Int32) (σ : St) (H : Heap) (locs : List Loc) (ls : Array Slot), pw_H D (pw_w shC cI cZ ad σ) A s.heap H locs → lv_has ls 2 [(0, .ref (ad 45)), (1, .int x1)] → fX4_begin_b2  n x1 σ = some z → W p l e (pw_rm 0) s m args below meth c H locs 0 0 (pw_QV below args s D (pw_w shC cI cZ ad) A z) (F0 m 2 ls []) := by
  obtain ⟨hx, hb, hr, hts, hown, hlk, hml, hK, hN⟩ := id C
  intro n
  induction n with
  | zero =>
    intro x1 σ H locs ls hw hl h
    exact absurd h (by simp [fX4_begin_b2])
  | succ n ih =>
    intro x1 σ H locs ls hw hl h
    rw [fX4_begin_b2] at h
    refine lv_iload_n hx hb dX4_begin_2 rfl (lv_at hl 1 rfl) ?_
    refine lv_sipush (v := 200) hx hb dX4_begin_3 (by decide) ?_
    refine lv_icmp_gt (tgt := 22) hx hb dX4_begin_6 (by decide) (fun hc => ?_) (fun hc => ?_)
    · replace h := pw_t hc h
      refine lv_aload_n hx hb dX4_begin_22 rfl (lv_at hl 0 rfl) ?_
      refine r_get C hw qC_45 clsX4 0 rfl (by decide) fl_X4_9 dX4_begin_23 (v := .ref (ad 46)) rfl ?_
      refine lv_iconst (v := 0) hx hb dX4_begin_26 (by decide) ?_
      refine lv_ldc (v := 1048576) hx hb hown (hts _ ct_X4_26) dX4_begin_27 ?_
      refine r_iast C hw qC_46 dX4_begin_29 h (fun σ1 H locs hw h => ?_)
      exact r_vret C hw dX4_begin_30 h
    · replace h := pw_f hc h
      refine lv_aload_n hx hb dX4_begin_9 rfl (lv_at hl 0 rfl) ?_
      refine r_get C hw qC_45 clsX4 0 rfl (by decide) fl_X4_9 dX4_begin_10 (v := .ref (ad 46)) rfl ?_
      refine lv_iload_n hx hb dX4_begin_13 rfl (lv_at hl 1 rfl) ?_
      refine lv_iconst (v := 0) hx hb dX4_begin_14 (by decide) ?_
      refine r_iast C hw qC_46 dX4_begin_15 h (fun σ2 H locs hw h => ?_)
      refine lv_iinc (v := (x1 + 1)) (lv' := [(1, .int (x1 + 1)), (0, .ref (ad 45))]) hx hb dX4_begin_16 hl (k := 1) rfl rfl (by decide) rfl (fun ls hl => ?_)
      refine lv_goto (tgt := 2) hx hb dX4_begin_19 (by decide) ?_
      exact ih _ _ _ _ _ hw (lv_sub hl [1, 0] rfl) h
set_option maxRecDepth 100000 in
set_option maxHeartbeats 4000000 in
theorem kX4_begin (l : Launch) (D : va_G) (cI cZ : ClassId) (ad : Nat → Nat)  (σ : St) (z : Int32 × St) (h : fX4_begin  σ = some z) : pw_MV l D shC cI cZ ad yX4_begin cX4_begin 2 none (pw_rm 0) [.ref (ad 45)] σ z.2 := by
  refine pw_ofV (by decide) (Nat.le_of_ble_eq_true rfl) ?_
  intro p e s m args below meth c A C hw ls hl
  obtain ⟨hx, hb, hr, hts, hown, hlk, hml, hK, hN⟩ := id C
  have hl : lv_has ls 2 [(0, .ref (ad 45))] := hl
  unfold fX4_begin at h
  refine lv_iconst (v := 0) hx hb dX4_begin_0 (by decide) ?_
  refine lv_istore_n (lv' := [(1, .int 0), (0, .ref (ad 45))]) hx hb dX4_begin_1 rfl hl (by decide) rfl (fun ls hl => ?_)
  exact wX4_begin_b2 C  _ _ _ _ _ _ hw (lv_sub hl [1, 0] rfl) h
set_option maxRecDepth 100000 in
set_option maxHeartbeats 4000000 in
theorem wX4_makeOneMore_b9 {p : Program} {l : Launch} {e : Env} {s : State} {m : MethodId} {args : Array Value} {below : List Frame} {meth : Method} {c : Code} {D : va_G} {cI cZ : ClassId} {ad : Nat → Nat} {A : Nat → Prop} {z : Int32 × St}  (C : pw_C p s m args meth c yX4_makeOneMore.cls cX4_makeOneMore 5 none D cI cZ) : ∀ (n : Nat) (x2 : Int32) (x3 : Int32) (x4 : Int32) (σ : St) (H : Heap) (locs : List Loc) (ls : Array Slot), pw_H D (pw_w shC cI cZ ad σ) A s.heap H locs → lv_has ls 5 [(0, .ref (ad 45)), (2, .int x2), (3, .int x3), (4, .int x4)] → fX4_makeOneMore_b9  n x2 x3 x4 σ = some z → W p l e (pw_rm 0) s m args below meth c H locs 0 0 (pw_QV below args s D (pw_w shC cI cZ ad) A z) (F0 m 9 ls []) := by
  obtain ⟨hx, hb, hr, hts, hown, hlk, hml, hK, hN⟩ := id C
  intro n
  induction n with
  | zero =>
    intro x2 x3 x4 σ H locs ls hw hl h
    exact absurd h (by simp [fX4_makeOneMore_b9])
  | succ n ih =>
    intro x2 x3 x4 σ H locs ls hw hl h
    rw [fX4_makeOneMore_b9] at h
    refine lv_iload hx hb dX4_makeOneMore_9 (lv_at hl 3 rfl) ?_
    refine lv_iconst (v := 1) hx hb dX4_makeOneMore_11 (by decide) ?_
    refine lv_icmp_lt (tgt := 53) hx hb dX4_makeOneMore_12 (by decide) (fun hc => ?_) (fun hc => ?_)
    · replace h := pw_t hc h
      refine lv_aload_n hx hb dX4_makeOneMore_53 rfl (lv_at hl 0 rfl) ?_
      refine r_get C hw qC_45 clsX4 0 rfl (by decide) fl_X4_9 dX4_makeOneMore_54 (v := .ref (ad 46)) rfl ?_
      refine lv_iconst (v := 0) hx hb dX4_makeOneMore_57 (by decide) ?_
      refine lv_aload_n hx hb dX4_makeOneMore_58 rfl (lv_at hl 0 rfl) ?_
      refine r_get C hw qC_45 clsX4 0 rfl (by decide) fl_X4_9 dX4_makeOneMore_59 (v := .ref (ad 46)) rfl ?_
      refine lv_iconst (v := 0) hx hb dX4_makeOneMore_62 (by decide) ?_
      refine r_iald C hw qC_46 dX4_makeOneMore_63 h (fun v1 h => ?_)
      refine lv_iload_n hx hb dX4_makeOneMore_64 rfl (lv_at hl 2 rfl) ?_
      refine lv_imul hx hb dX4_makeOneMore_65 ?_
      refine lv_sipush (v := 1024) hx hb dX4_makeOneMore_66 (by decide) ?_
      refine lv_idiv hx hb dX4_makeOneMore_69 (by decide) ?_
      refine r_iast C hw qC_46 dX4_makeOneMore_70 h (fun σ2 H locs hw h => ?_)
      exact r_vret C hw dX4_makeOneMore_71 h
    · replace h := pw_f hc h
      refine lv_aload_n hx hb dX4_makeOneMore_15 rfl (lv_at hl 0 rfl) ?_
      refine r_get C hw qC_45 clsX4 0 rfl (by decide) fl_X4_9 dX4_makeOneMore_16 (v := .ref (ad 46)) rfl ?_
      refine lv_iload hx hb dX4_makeOneMore_19 (lv_at hl 3 rfl) ?_
      refine lv_aload_n hx hb dX4_makeOneMore_21 rfl (lv_at hl 0 rfl) ?_
      refine r_get C hw qC_45 clsX4 0 rfl (by decide) fl_X4_9 dX4_makeOneMore_22 (v := .ref (ad 46)) rfl ?_
      refine lv_iload hx hb dX4_makeOneMore_25 (lv_at hl 3 rfl) ?_
      refine r_iald C hw qC_46 dX4_makeOneMore_27 h (fun v3 h => ?_)
      refine lv_iload_n hx hb dX4_makeOneMore_28 rfl (lv_at hl 2 rfl) ?_
      refine lv_imul hx hb dX4_makeOneMore_29 ?_
      refine lv_aload_n hx hb dX4_makeOneMore_30 rfl (lv_at hl 0 rfl) ?_
      refine r_get C hw qC_45 clsX4 0 rfl (by decide) fl_X4_9 dX4_makeOneMore_31 (v := .ref (ad 46)) rfl ?_
      refine lv_iload hx hb dX4_makeOneMore_34 (lv_at hl 3 rfl) ?_
      refine lv_iconst (v := 1) hx hb dX4_makeOneMore_36 (by decide) ?_
      refine lv_isub hx hb dX4_makeOneMore_37 ?_
      refine r_iald C hw qC_46 dX4_makeOneMore_38 h (fun v4 h => ?_)
      refine lv_iload_n hx hb dX4_makeOneMore_39 rfl (lv_at hl 1 rfl) ?_
      refine lv_imul hx hb dX4_makeOneMore_40 ?_
      refine lv_iadd hx hb dX4_makeOneMore_41 ?_
      refine lv_sipush (v := 1024) hx hb dX4_makeOneMore_42 (by decide) ?_
      refine lv_idiv hx hb dX4_makeOneMore_45 (by decide) ?_
      refine r_iast C hw qC_46 dX4_makeOneMore_46 h (fun σ5 H locs hw h => ?_)
      refine lv_iinc (v := (x4 + (-1))) (lv' := [(4, .int (x4 + (-1))), (0, .ref (ad 45)), (2, .int x2), (3, .int x3)]) hx hb dX4_makeOneMore_47 hl (k := 3) rfl rfl (by decide) rfl (fun ls hl => ?_)
      refine lv_goto (tgt := 9) hx hb dX4_makeOneMore_50 (by decide) ?_
      exact ih _ _ _ _ _ _ _ hw (lv_sub hl [1, 2, 3, 0] rfl) h
set_option maxRecDepth 100000 in
set_option maxHeartbeats 4000000 in
theorem kX4_makeOneMore (l : Launch) (D : va_G) (cI cZ : ClassId) (ad : Nat → Nat) (x1 : Int32) (x2 : Int32) (σ : St) (z : Int32 × St) (h : fX4_makeOneMore x1 x2 σ = some z) : pw_MV l D shC cI cZ ad yX4_makeOneMore cX4_makeOneMore 5 none (pw_rm 0) [.ref (ad 45), .int x1, .int x2] σ z.2 := by
  refine pw_ofV (by decide) (Nat.le_of_ble_eq_true rfl) ?_
  intro p e s m args below meth c A C hw ls hl
  obtain ⟨hx, hb, hr, hts, hown, hlk, hml, hK, hN⟩ := id C
  have hl : lv_has ls 5 [(0, .ref (ad 45)), (1, .int x1), (2, .int x2)] := hl
  unfold fX4_makeOneMore at h
  refine lv_sipush (v := 1024) hx hb dX4_makeOneMore_0 (by decide) ?_
  refine lv_iload_n hx hb dX4_makeOneMore_3 rfl (lv_at hl 2 rfl) ?_
  refine lv_isub hx hb dX4_makeOneMore_4 ?_
  refine lv_istore_n (lv' := [(3, .int (1024 - x2)), (0, .ref (ad 45)), (1, .int x1), (2, .int x2)]) hx hb dX4_makeOneMore_5 rfl hl (by decide) rfl (fun ls hl => ?_)
  refine lv_iload_n hx hb dX4_makeOneMore_6 rfl (lv_at hl 2 rfl) ?_
  refine lv_istore (lv' := [(4, .int x1), (3, .int (1024 - x2)), (0, .ref (ad 45)), (1, .int x1), (2, .int x2)]) hx hb dX4_makeOneMore_7 hl (by decide) rfl (fun ls hl => ?_)
  exact wX4_makeOneMore_b9 C  _ _ _ _ _ _ _ _ hw (lv_sub hl [2, 4, 1, 0] rfl) h
set_option maxRecDepth 100000 in
set_option maxHeartbeats 4000000 in
theorem wX4_orMore_b5 {p : Program} {l : Launch} {e : Env} {s : State} {m : MethodId} {args : Array Value} {below : List Frame} {meth : Method} {c : Code} {D : va_G} {cI cZ : ClassId} {ad : Nat → Nat} {A : Nat → Prop} {z : Int32 × St}  (C : pw_C p s m args meth c yX4_orMore.cls cX4_orMore 5 (some .int) D cI cZ) : ∀ (n : Nat) (x2 : Int32) (x3 : Int32) (x4 : Int32) (σ : St) (H : Heap) (locs : List Loc) (ls : Array Slot), pw_H D (pw_w shC cI cZ ad σ) A s.heap H locs → lv_has ls 5 [(0, .ref (ad 45)), (2, .int x2), (3, .int x3), (4, .int x4)] → fX4_orMore_b5  n x2 x3 x4 σ = some z → W p l e (pw_rm 0) s m args below meth c H locs 0 0 (pw_QI below args s D (pw_w shC cI cZ ad) A z) (F0 m 5 ls []) := by
  obtain ⟨hx, hb, hr, hts, hown, hlk, hml, hK, hN⟩ := id C
  intro n
  induction n with
  | zero =>
    intro x2 x3 x4 σ H locs ls hw hl h
    exact absurd h (by simp [fX4_orMore_b5])
  | succ n ih =>
    intro x2 x3 x4 σ H locs ls hw hl h
    rw [fX4_orMore_b5] at h
    refine lv_iload hx hb dX4_orMore_5 (lv_at hl 3 rfl) ?_
    refine lv_iload_n hx hb dX4_orMore_7 rfl (lv_at hl 1 rfl) ?_
    refine lv_icmp_gt (tgt := 27) hx hb dX4_orMore_8 (by decide) (fun hc => ?_) (fun hc => ?_)
    · replace h := pw_t hc h
      refine lv_iload_n hx hb dX4_orMore_27 rfl (lv_at hl 2 rfl) ?_
      exact r_iret C hw dX4_orMore_28 h
    · replace h := pw_f hc h
      refine lv_iload_n hx hb dX4_orMore_11 rfl (lv_at hl 2 rfl) ?_
      refine lv_aload_n hx hb dX4_orMore_12 rfl (lv_at hl 0 rfl) ?_
      refine r_get C hw qC_45 clsX4 0 rfl (by decide) fl_X4_9 dX4_orMore_13 (v := .ref (ad 46)) rfl ?_
      refine lv_iload hx hb dX4_orMore_16 (lv_at hl 3 rfl) ?_
      refine r_iald C hw qC_46 dX4_orMore_18 h (fun v1 h => ?_)
      refine lv_iadd hx hb dX4_orMore_19 ?_
      refine lv_istore_n (lv' := [(3, .int (x3 + v1)), (0, .ref (ad 45)), (2, .int x2), (4, .int x4)]) hx hb dX4_orMore_20 rfl hl (by decide) rfl (fun ls hl => ?_)
      refine lv_iinc (v := (x4 + 1)) (lv' := [(4, .int (x4 + 1)), (3, .int (x3 + v1)), (0, .ref (ad 45)), (2, .int x2)]) hx hb dX4_orMore_21 hl (k := 3) rfl rfl (by decide) rfl (fun ls hl => ?_)
      refine lv_goto (tgt := 5) hx hb dX4_orMore_24 (by decide) ?_
      exact ih _ _ _ _ _ _ _ hw (lv_sub hl [2, 3, 1, 0] rfl) h
set_option maxRecDepth 100000 in
set_option maxHeartbeats 4000000 in
theorem kX4_orMore (l : Launch) (D : va_G) (cI cZ : ClassId) (ad : Nat → Nat) (x1 : Int32) (x2 : Int32) (σ : St) (z : Int32 × St) (h : fX4_orMore x1 x2 σ = some z) : pw_MI l D shC cI cZ ad yX4_orMore cX4_orMore 5 (some .int) (pw_rm 0) [.ref (ad 45), .int x1, .int x2] σ z.1 z.2 := by
  refine pw_ofI (by decide) (Nat.le_of_ble_eq_true rfl) ?_
  intro p e s m args below meth c A C hw ls hl
  obtain ⟨hx, hb, hr, hts, hown, hlk, hml, hK, hN⟩ := id C
  have hl : lv_has ls 5 [(0, .ref (ad 45)), (1, .int x1), (2, .int x2)] := hl
  unfold fX4_orMore at h
  refine lv_iconst (v := 0) hx hb dX4_orMore_0 (by decide) ?_
  refine lv_istore_n (lv' := [(3, .int 0), (0, .ref (ad 45)), (1, .int x1), (2, .int x2)]) hx hb dX4_orMore_1 rfl hl (by decide) rfl (fun ls hl => ?_)
  refine lv_iload_n hx hb dX4_orMore_2 rfl (lv_at hl 2 rfl) ?_
  refine lv_istore (lv' := [(4, .int x1), (3, .int 0), (0, .ref (ad 45)), (1, .int x1), (2, .int x2)]) hx hb dX4_orMore_3 hl (by decide) rfl (fun ls hl => ?_)
  exact wX4_orMore_b5 C  _ _ _ _ _ _ _ _ hw (lv_sub hl [2, 4, 1, 0] rfl) h
