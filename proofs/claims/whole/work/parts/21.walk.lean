set_option maxRecDepth 100000 in
set_option maxHeartbeats 4000000 in
theorem kX0_bears (l : Launch) (D : va_G) (cI cZ : ClassId) (ad : Nat → Nat) (x1 : Int32) (x2 : Int32) (σ : St) (z : Int32 × St) (h : fX0_bears x1 x2 σ = some z) : pw_MI l D shC cI cZ ad yX0_bears cX0_bears 3 (some .boolean) (pw_rm 1) [.ref (ad 2), .int x1, .int x2] σ z.1 z.2 := by
  refine pw_ofI (by decide) (Nat.le_of_ble_eq_true rfl) ?_
  intro p e s m args below meth c A C hw ls hl
  obtain ⟨hx, hb, hr, hts, hown, hlk, hml, hK, hN⟩ := id C
  have hl : lv_has ls 3 [(0, .ref (ad 2)), (1, .int x1), (2, .int x2)] := hl
  unfold fX0_bears at h
  refine lv_iload_n hx hb dX0_bears_0 rfl (lv_at hl 2 rfl) ?_
  refine lv_aload_n hx hb dX0_bears_1 rfl (lv_at hl 0 rfl) ?_
  refine lv_iload_n hx hb dX0_bears_2 rfl (lv_at hl 1 rfl) ?_
  refine lv_iconst (v := 2) hx hb dX0_bears_3 (by decide) ?_
  obtain ⟨v3, σ2, e1, h⟩ := cal_some h
  refine r_cVI C hw (As := [.int x1, .int 2]) (rest := [.int x2]) (kX0_trait l D cI cZ ad _ _ _ _ e1) YX0_trait ml_X0_31 qC_2 clsX0 (pw_rmOK (by omega) (by decide)) rfl hl.1 rfl (Nat.le_of_ble_eq_true rfl) dX0_bears_4 ⟨Nat.zero_le _, Nat.zero_le _⟩ (fun H locs hw => ?_)
  refine lv_icmp_lt (tgt := 24) hx hb dX0_bears_7 (by decide) (fun hc => ?_) (fun hc => ?_)
  · replace h := pw_t hc h
    refine lv_iconst (v := 0) hx hb dX0_bears_24 (by decide) ?_
    exact r_zret C hw dX0_bears_25 h
  · replace h := pw_f hc h
    refine lv_iload_n hx hb dX0_bears_10 rfl (lv_at hl 2 rfl) ?_
    refine lv_aload_n hx hb dX0_bears_11 rfl (lv_at hl 0 rfl) ?_
    refine lv_iload_n hx hb dX0_bears_12 rfl (lv_at hl 1 rfl) ?_
    refine lv_iconst (v := 3) hx hb dX0_bears_13 (by decide) ?_
    obtain ⟨v6, σ5, e4, h⟩ := cal_some h
    refine r_cVI C hw (As := [.int x1, .int 3]) (rest := [.int x2]) (kX0_trait l D cI cZ ad _ _ _ _ e4) YX0_trait ml_X0_31 qC_2 clsX0 (pw_rmOK (by omega) (by decide)) rfl hl.1 rfl (Nat.le_of_ble_eq_true rfl) dX0_bears_14 ⟨Nat.zero_le _, Nat.zero_le _⟩ (fun H locs hw => ?_)
    refine lv_icmp_gt (tgt := 24) hx hb dX0_bears_17 (by decide) (fun hc => ?_) (fun hc => ?_)
    · replace h := pw_t hc h
      refine lv_iconst (v := 0) hx hb dX0_bears_24 (by decide) ?_
      exact r_zret C hw dX0_bears_25 h
    · replace h := pw_f hc h
      refine lv_iconst (v := 1) hx hb dX0_bears_20 (by decide) ?_
      refine lv_goto (tgt := 25) hx hb dX0_bears_21 (by decide) ?_
      exact r_zret C hw dX0_bears_25 h
set_option maxRecDepth 100000 in
set_option maxHeartbeats 4000000 in
theorem kX0_shrunk (l : Launch) (D : va_G) (cI cZ : ClassId) (ad : Nat → Nat) (x1 : Int32) (x2 : Int32) (σ : St) (z : Int32 × St) (h : fX0_shrunk x1 x2 σ = some z) : pw_MI l D shC cI cZ ad yX0_shrunk cX0_shrunk 3 (some .int) (pw_rm 1) [.ref (ad 2), .int x1, .int x2] σ z.1 z.2 := by
  refine pw_ofI (by decide) (Nat.le_of_ble_eq_true rfl) ?_
  intro p e s m args below meth c A C hw ls hl
  obtain ⟨hx, hb, hr, hts, hown, hlk, hml, hK, hN⟩ := id C
  have hl : lv_has ls 3 [(0, .ref (ad 2)), (1, .int x1), (2, .int x2)] := hl
  unfold fX0_shrunk at h
  refine lv_iload_n hx hb dX0_shrunk_0 rfl (lv_at hl 2 rfl) ?_
  refine lv_iload_n hx hb dX0_shrunk_1 rfl (lv_at hl 2 rfl) ?_
  refine lv_aload_n hx hb dX0_shrunk_2 rfl (lv_at hl 0 rfl) ?_
  refine lv_iload_n hx hb dX0_shrunk_3 rfl (lv_at hl 1 rfl) ?_
  refine lv_iconst (v := 1) hx hb dX0_shrunk_4 (by decide) ?_
  obtain ⟨v3, σ2, e1, h⟩ := cal_some h
  refine r_cVI C hw (As := [.int x1, .int 1]) (rest := [.int x2, .int x2]) (kX0_trait l D cI cZ ad _ _ _ _ e1) YX0_trait ml_X0_31 qC_2 clsX0 (pw_rmOK (by omega) (by decide)) rfl hl.1 rfl (Nat.le_of_ble_eq_true rfl) dX0_shrunk_5 ⟨Nat.zero_le _, Nat.zero_le _⟩ (fun H locs hw => ?_)
  refine lv_imul hx hb dX0_shrunk_8 ?_
  refine lv_sipush (v := 1000) hx hb dX0_shrunk_9 (by decide) ?_
  refine lv_idiv hx hb dX0_shrunk_12 (by decide) ?_
  refine lv_isub hx hb dX0_shrunk_13 ?_
  exact r_iret C hw dX0_shrunk_14 h
set_option maxRecDepth 100000 in
set_option maxHeartbeats 4000000 in
theorem kX0_whiteAt (l : Launch) (D : va_G) (cI cZ : ClassId) (ad : Nat → Nat) (x1 : Int32) (x2 : Int32) (σ : St) (z : Int32 × St) (h : fX0_whiteAt x1 x2 σ = some z) : pw_MI l D shC cI cZ ad yX0_whiteAt cX0_whiteAt 4 (some .int) (pw_rm 1) [.ref (ad 2), .int x1, .int x2] σ z.1 z.2 := by
  refine pw_ofI (by decide) (Nat.le_of_ble_eq_true rfl) ?_
  intro p e s m args below meth c A C hw ls hl
  obtain ⟨hx, hb, hr, hts, hown, hlk, hml, hK, hN⟩ := id C
  have hl : lv_has ls 4 [(0, .ref (ad 2)), (1, .int x1), (2, .int x2)] := hl
  unfold fX0_whiteAt at h
  refine lv_aload_n hx hb dX0_whiteAt_0 rfl (lv_at hl 0 rfl) ?_
  refine lv_iload_n hx hb dX0_whiteAt_1 rfl (lv_at hl 1 rfl) ?_
  refine lv_iconst (v := 2) hx hb dX0_whiteAt_2 (by decide) ?_
  obtain ⟨v3, σ2, e1, h⟩ := cal_some h
  refine r_cVI C hw (As := [.int x1, .int 2]) (rest := []) (kX0_trait l D cI cZ ad _ _ _ _ e1) YX0_trait ml_X0_31 qC_2 clsX0 (pw_rmOK (by omega) (by decide)) rfl hl.1 rfl (Nat.le_of_ble_eq_true rfl) dX0_whiteAt_3 ⟨Nat.zero_le _, Nat.zero_le _⟩ (fun H locs hw => ?_)
  refine lv_aload_n hx hb dX0_whiteAt_6 rfl (lv_at hl 0 rfl) ?_
  refine lv_iload_n hx hb dX0_whiteAt_7 rfl (lv_at hl 1 rfl) ?_
  refine lv_iconst (v := 3) hx hb dX0_whiteAt_8 (by decide) ?_
  obtain ⟨v6, σ5, e4, h⟩ := cal_some h
  refine r_cVI C hw (As := [.int x1, .int 3]) (rest := [.int v3]) (kX0_trait l D cI cZ ad _ _ _ _ e4) YX0_trait ml_X0_31 qC_2 clsX0 (pw_rmOK (by omega) (by decide)) rfl hl.1 rfl (Nat.le_of_ble_eq_true rfl) dX0_whiteAt_9 ⟨Nat.zero_le _, Nat.zero_le _⟩ (fun H locs hw => ?_)
  refine lv_iadd hx hb dX0_whiteAt_12 ?_
  refine lv_iconst (v := 2) hx hb dX0_whiteAt_13 (by decide) ?_
  refine lv_idiv hx hb dX0_whiteAt_14 (by decide) ?_
  refine r_leti h (fun v7 h => ?_)
  refine lv_istore_n (lv' := [(3, .int v7), (0, .ref (ad 2)), (1, .int x1), (2, .int x2)]) hx hb dX0_whiteAt_15 rfl hl (by decide) rfl (fun ls hl => ?_)
  refine lv_iconst (v := 0) hx hb dX0_whiteAt_16 (by decide) ?_
  refine lv_bipush (v := 100) hx hb dX0_whiteAt_17 (by decide) ?_
  refine lv_iload_n hx hb dX0_whiteAt_19 rfl (lv_at hl 3 rfl) ?_
  refine lv_iload_n hx hb dX0_whiteAt_20 rfl (lv_at hl 0 rfl) ?_
  refine lv_isub hx hb dX0_whiteAt_21 ?_
  refine va_mabs hx hb (hml.trans hl.1.symm) hown (hts _ ml_X0_35) (hts _ ls_abs) (hts _ li_Math) (hts _ lc_abs) (pw_fr (by omega)) (pw_lo (Nat.le_of_ble_eq_true rfl) (by omega)) (Nat.zero_le _) (Nat.zero_le _) dX0_whiteAt_22 ?_
  refine lv_iconst (v := 5) hx hb dX0_whiteAt_25 (by decide) ?_
  refine lv_idiv hx hb dX0_whiteAt_26 (by decide) ?_
  refine lv_isub hx hb dX0_whiteAt_27 ?_
  refine va_mmax hx hb (hml.trans hl.1.symm) hown (hts _ ml_X0_41) (hts _ ls_max) (hts _ li_Math) (hts _ lc_max) (pw_fr (by omega)) (pw_lo (Nat.le_of_ble_eq_true rfl) (by omega)) (Nat.zero_le _) (Nat.zero_le _) dX0_whiteAt_28 ?_
  exact r_iret C hw dX0_whiteAt_31 h
set_option maxRecDepth 100000 in
set_option maxHeartbeats 4000000 in
theorem kX6_endure (l : Launch) (D : va_G) (cI cZ : ClassId) (ad : Nat → Nat) (x1 : Int32) (x2 : Int32) (σ : St) (z : Int32 × St) (h : fX6_endure x1 x2 σ = some z) : pw_MI l D shC cI cZ ad yX6_endure cX6_endure 4 (some .boolean) (pw_rm 2) [.ref (ad 7), .int x1, .int x2, .ref (ad 2)] σ z.1 z.2 := by
  refine pw_ofI (by decide) (Nat.le_of_ble_eq_true rfl) ?_
  intro p e s m args below meth c A C hw ls hl
  obtain ⟨hx, hb, hr, hts, hown, hlk, hml, hK, hN⟩ := id C
  have hl : lv_has ls 4 [(0, .ref (ad 7)), (1, .int x1), (2, .int x2), (3, .ref (ad 2))] := hl
  unfold fX6_endure at h
  refine lv_aload_n hx hb dX6_endure_0 rfl (lv_at hl 0 rfl) ?_
  refine r_get C hw qC_7 clsX6 5 rfl (by decide) fl_X6_27 dX6_endure_1 (v := .ref (ad 13)) rfl ?_
  refine lv_iload_n hx hb dX6_endure_4 rfl (lv_at hl 1 rfl) ?_
  refine lv_iload_n hx hb dX6_endure_5 rfl (lv_at hl 2 rfl) ?_
  refine r_iast C hw qC_13 dX6_endure_6 h (fun σ1 H locs hw h => ?_)
  refine lv_aload_n hx hb dX6_endure_7 rfl (lv_at hl 3 rfl) ?_
  refine lv_aload_n hx hb dX6_endure_8 rfl (lv_at hl 0 rfl) ?_
  refine r_get C hw qC_7 clsX6 0 rfl (by decide) fl_X6_9 dX6_endure_9 (v := .ref (ad 8)) rfl ?_
  refine lv_iload_n hx hb dX6_endure_12 rfl (lv_at hl 1 rfl) ?_
  refine r_iald C hw qC_8 dX6_endure_13 h (fun v2 h => ?_)
  refine lv_iload_n hx hb dX6_endure_14 rfl (lv_at hl 2 rfl) ?_
  obtain ⟨v5, σ4, e3, h⟩ := cal_some h
  refine r_cNI C hw (As := [.int v2, .int x2]) (rest := []) (kX0_bears l D cI cZ ad _ _ _ _ e3) YX0_bears mn_X6_37 qC_2 clsX0 (pw_rmOK (by omega) (by decide)) rfl hl.1 rfl (Nat.le_of_ble_eq_true rfl) dX6_endure_15 ⟨Nat.zero_le _, Nat.zero_le _⟩ (fun H locs hw => ?_)
  refine lv_if_ne (tgt := 30) hx hb dX6_endure_18 (by decide) (fun hc => ?_) (fun hc => ?_)
  · replace h := pw_f hc h
    refine lv_aload_n hx hb dX6_endure_30 rfl (lv_at hl 0 rfl) ?_
    refine r_get C hw qC_7 clsX6 3 rfl (by decide) fl_X6_21 dX6_endure_31 (v := .ref (ad 11)) rfl ?_
    refine lv_iload_n hx hb dX6_endure_34 rfl (lv_at hl 1 rfl) ?_
    refine lv_iconst (v := 1) hx hb dX6_endure_35 (by decide) ?_
    refine r_iast C hw qC_11 dX6_endure_36 h (fun σ6 H locs hw h => ?_)
    refine lv_aload_n hx hb dX6_endure_37 rfl (lv_at hl 0 rfl) ?_
    refine r_get C hw qC_7 clsX6 2 rfl (by decide) fl_X6_18 dX6_endure_38 (v := .ref (ad 10)) rfl ?_
    refine lv_iload_n hx hb dX6_endure_41 rfl (lv_at hl 1 rfl) ?_
    refine lv_aload_n hx hb dX6_endure_42 rfl (lv_at hl 3 rfl) ?_
    refine lv_aload_n hx hb dX6_endure_43 rfl (lv_at hl 0 rfl) ?_
    refine r_get C hw qC_7 clsX6 0 rfl (by decide) fl_X6_9 dX6_endure_44 (v := .ref (ad 8)) rfl ?_
    refine lv_iload_n hx hb dX6_endure_47 rfl (lv_at hl 1 rfl) ?_
    refine r_iald C hw qC_8 dX6_endure_48 h (fun v7 h => ?_)
    refine lv_aload_n hx hb dX6_endure_49 rfl (lv_at hl 0 rfl) ?_
    refine r_get C hw qC_7 clsX6 2 rfl (by decide) fl_X6_18 dX6_endure_50 (v := .ref (ad 10)) rfl ?_
    refine lv_iload_n hx hb dX6_endure_53 rfl (lv_at hl 1 rfl) ?_
    refine r_iald C hw qC_10 dX6_endure_54 h (fun v8 h => ?_)
    obtain ⟨v11, σ10, e9, h⟩ := cal_some h
    refine r_cNI C hw (As := [.int v7, .int v8]) (rest := [.int x1, .ref (ad 10)]) (kX0_shrunk l D cI cZ ad _ _ _ _ e9) YX0_shrunk mn_X6_43 qC_2 clsX0 (pw_rmOK (by omega) (by decide)) rfl hl.1 rfl (Nat.le_of_ble_eq_true rfl) dX6_endure_55 ⟨Nat.zero_le _, Nat.zero_le _⟩ (fun H locs hw => ?_)
    refine r_iast C hw qC_10 dX6_endure_58 h (fun σ12 H locs hw h => ?_)
    refine lv_aload_n hx hb dX6_endure_59 rfl (lv_at hl 0 rfl) ?_
    refine r_get C hw qC_7 clsX6 6 rfl (by decide) fl_X6_30 dX6_endure_60 (v := .ref (ad 14)) rfl ?_
    refine lv_iload_n hx hb dX6_endure_63 rfl (lv_at hl 1 rfl) ?_
    refine lv_aload_n hx hb dX6_endure_64 rfl (lv_at hl 3 rfl) ?_
    refine lv_aload_n hx hb dX6_endure_65 rfl (lv_at hl 0 rfl) ?_
    refine r_get C hw qC_7 clsX6 0 rfl (by decide) fl_X6_9 dX6_endure_66 (v := .ref (ad 8)) rfl ?_
    refine lv_iload_n hx hb dX6_endure_69 rfl (lv_at hl 1 rfl) ?_
    refine r_iald C hw qC_8 dX6_endure_70 h (fun v13 h => ?_)
    refine lv_iload_n hx hb dX6_endure_71 rfl (lv_at hl 2 rfl) ?_
    obtain ⟨v16, σ15, e14, h⟩ := cal_some h
    refine r_cNI C hw (As := [.int v13, .int x2]) (rest := [.int x1, .ref (ad 14)]) (kX0_whiteAt l D cI cZ ad _ _ _ _ e14) YX0_whiteAt mn_X6_47 qC_2 clsX0 (pw_rmOK (by omega) (by decide)) rfl hl.1 rfl (Nat.le_of_ble_eq_true rfl) dX6_endure_72 ⟨Nat.zero_le _, Nat.zero_le _⟩ (fun H locs hw => ?_)
    refine r_iast C hw qC_14 dX6_endure_75 h (fun σ17 H locs hw h => ?_)
    refine lv_iconst (v := 1) hx hb dX6_endure_76 (by decide) ?_
    exact r_zret C hw dX6_endure_77 h
  · replace h := pw_t hc h
    refine lv_aload_n hx hb dX6_endure_21 rfl (lv_at hl 0 rfl) ?_
    refine r_get C hw qC_7 clsX6 3 rfl (by decide) fl_X6_21 dX6_endure_22 (v := .ref (ad 11)) rfl ?_
    refine lv_iload_n hx hb dX6_endure_25 rfl (lv_at hl 1 rfl) ?_
    refine lv_iconst (v := 3) hx hb dX6_endure_26 (by decide) ?_
    refine r_iast C hw qC_11 dX6_endure_27 h (fun σ18 H locs hw h => ?_)
    refine lv_iconst (v := 0) hx hb dX6_endure_28 (by decide) ?_
    exact r_zret C hw dX6_endure_29 h
set_option maxRecDepth 100000 in
set_option maxHeartbeats 4000000 in
theorem wX10_fire_b52 {p : Program} {l : Launch} {e : Env} {s : State} {m : MethodId} {args : Array Value} {below : List Frame} {meth : Method} {c : Code} {D : va_G} {cI cZ : ClassId} {ad : Nat → Nat} {A : Nat → Prop} {z : Int32 × St}  (C : pw_C p s m args meth c yX10_fire.cls cX10_fire 4 (some .int) D cI cZ) : ∀ (n : Nat) (x1 : Int32) (x2 : Int32) (σ : St) (H : Heap) (locs : List Loc) (ls : Array Slot), pw_H D (pw_w shC cI cZ ad σ) A s.heap H locs → lv_has ls 4 [(0, .ref (ad 0)), (1, .int x1), (2, .int x2)] → fX10_fire_b52  n x1 x2 σ = some z → W p l e (pw_rm 4) s m args below meth c H locs 0 0 (pw_QI below args s D (pw_w shC cI cZ ad) A z) (F0 m 52 ls []) := by
  obtain ⟨hx, hb, hr, hts, hown, hlk, hml, hK, hN⟩ := id C
  intro n
  induction n with
  | zero =>
    intro x1 x2 σ H locs ls hw hl h
    exact absurd h (by simp [fX10_fire_b52])
  | succ n ih =>
    intro x1 x2 σ H locs ls hw hl h
    rw [fX10_fire_b52] at h
    refine lv_iload_n hx hb dX10_fire_52 rfl (lv_at hl 2 rfl) ?_
    refine lv_bipush (v := 12) hx hb dX10_fire_53 (by decide) ?_
    refine lv_icmp_ge (tgt := 126) hx hb dX10_fire_55 (by decide) (fun hc => ?_) (fun hc => ?_)
    · replace h := pw_t hc h
      refine lv_aload_n hx hb dX10_fire_126 rfl (lv_at hl 0 rfl) ?_
      refine r_get C hw qC_0 clsX10 3 rfl (by decide) fl_X10_30 dX10_fire_127 (v := .ref (ad 15)) rfl ?_
      obtain ⟨r3, σ2, e1, h⟩ := cal_some h
      refine r_cNV C hw (As := []) (rest := []) (kX1_burnHours l D cI cZ ad _ _ e1) YX1_burnHours mn_X10_171 qC_15 clsX1 (pw_rmOK (by omega) (by decide)) rfl hl.1 rfl (Nat.le_of_ble_eq_true rfl) dX10_fire_130 ⟨Nat.zero_le _, Nat.zero_le _⟩ (fun H locs hw => ?_)
      refine lv_aload_n hx hb dX10_fire_133 rfl (lv_at hl 0 rfl) ?_
      refine lv_iconst (v := 2) hx hb dX10_fire_134 (by decide) ?_
      obtain ⟨r6, σ5, e4, h⟩ := cal_some h
      refine r_cVV C hw (As := [.int 2]) (rest := []) (kX10_pass l D cI cZ ad _ _ _ e4) YX10_pass ml_X10_108 qC_0 clsX10 (pw_rmOK (by omega) (by decide)) rfl hl.1 rfl (Nat.le_of_ble_eq_true rfl) dX10_fire_135 ⟨Nat.zero_le _, Nat.zero_le _⟩ (fun H locs hw => ?_)
      refine lv_iload_n hx hb dX10_fire_138 rfl (lv_at hl 1 rfl) ?_
      exact r_iret C hw dX10_fire_139 h
    · replace h := pw_f hc h
      refine lv_aload_n hx hb dX10_fire_58 rfl (lv_at hl 0 rfl) ?_
      refine r_get C hw qC_0 clsX10 3 rfl (by decide) fl_X10_30 dX10_fire_59 (v := .ref (ad 15)) rfl ?_
      refine r_getN C hw qC_15 clsX1 1 rfl (by decide) fn_X10_157 dX10_fire_62 (v := .ref (ad 17)) rfl ?_
      refine lv_iload_n hx hb dX10_fire_65 rfl (lv_at hl 2 rfl) ?_
      refine r_iald C hw qC_17 dX10_fire_66 h (fun v7 h => ?_)
      refine lv_istore_n (lv' := [(3, .int v7), (0, .ref (ad 0)), (1, .int x1), (2, .int x2)]) hx hb dX10_fire_67 rfl hl (by decide) rfl (fun ls hl => ?_)
      refine lv_iload_n hx hb dX10_fire_68 rfl (lv_at hl 0 rfl) ?_
      refine lv_aload_n hx hb dX10_fire_69 rfl (lv_at hl 1 rfl) ?_
      refine r_get C hw qC_0 clsX10 2 rfl (by decide) fl_X10_23 dX10_fire_70 (v := .ref (ad 7)) rfl ?_
      refine r_getN C hw qC_7 clsX6 7 rfl (by decide) fn_X10_118 dX10_fire_73 (v := .int (σ 7 7)) rfl ?_
      obtain ⟨v10, σ9, e8, h⟩ := cal_some h
      refine r_cSI C hw (sh := shC) (ad := ad) (As := [.int v7, .int (σ 7 7)]) (rest := []) (kX10_within l D cI cZ ad _ _ _ _ e8) YX10_within ml_X10_87 (pw_rmOK (by omega) (by decide)) rfl hl.1 rfl (Nat.le_of_ble_eq_true rfl) dX10_fire_76 ⟨Nat.zero_le _, Nat.zero_le _⟩ (fun H locs hw => ?_)
      refine lv_if_eq (tgt := 120) hx hb dX10_fire_79 (by decide) (fun hc => ?_) (fun hc => ?_)
      · replace h := pw_t hc h
        refine lv_iinc (v := (x2 + 1)) (lv' := [(2, .int (x2 + 1)), (3, .int v7), (0, .ref (ad 0)), (1, .int x1)]) hx hb dX10_fire_120 hl (k := 3) rfl rfl (by decide) rfl (fun ls hl => ?_)
        refine lv_goto (tgt := 52) hx hb dX10_fire_123 (by decide) ?_
        exact ih _ _ _ _ _ _ hw (lv_sub hl [2, 3, 0] rfl) h
      · replace h := pw_f hc h
        refine lv_aload_n hx hb dX10_fire_82 rfl (lv_at hl 1 rfl) ?_
        refine lv_iload_n hx hb dX10_fire_83 rfl (lv_at hl 0 rfl) ?_
        refine lv_iload_n hx hb dX10_fire_84 rfl (lv_at hl 3 rfl) ?_
        obtain ⟨r13, σ12, e11, h⟩ := cal_some h
        refine r_cVV C hw (As := [.int v7, .int x2]) (rest := []) (kX10_takeOut l D cI cZ ad _ _ _ _ e11) YX10_takeOut ml_X10_164 qC_0 clsX10 (pw_rmOK (by omega) (by decide)) rfl hl.1 rfl (Nat.le_of_ble_eq_true rfl) dX10_fire_85 ⟨Nat.zero_le _, Nat.zero_le _⟩ (fun H locs hw => ?_)
        refine lv_iload_n hx hb dX10_fire_88 rfl (lv_at hl 2 rfl) ?_
        refine lv_aload_n hx hb dX10_fire_89 rfl (lv_at hl 1 rfl) ?_
        refine r_get C hw qC_0 clsX10 2 rfl (by decide) fl_X10_23 dX10_fire_90 (v := .ref (ad 7)) rfl ?_
        refine lv_iload_n hx hb dX10_fire_93 rfl (lv_at hl 0 rfl) ?_
        refine lv_aload_n hx hb dX10_fire_94 rfl (lv_at hl 1 rfl) ?_
        refine r_get C hw qC_0 clsX10 3 rfl (by decide) fl_X10_30 dX10_fire_95 (v := .ref (ad 15)) rfl ?_
        refine r_getN C hw qC_15 clsX1 4 rfl (by decide) fn_X10_147 dX10_fire_98 (v := .ref (ad 20)) rfl ?_
        refine lv_iload_n hx hb dX10_fire_101 rfl (lv_at hl 3 rfl) ?_
        refine r_iald C hw qC_20 dX10_fire_102 h (fun v14 h => ?_)
        refine lv_aload_n hx hb dX10_fire_103 rfl (lv_at hl 1 rfl) ?_
        refine r_get C hw qC_0 clsX10 1 rfl (by decide) fl_X10_16 dX10_fire_104 (v := .ref (ad 2)) rfl ?_
        obtain ⟨v17, σ16, e15, h⟩ := cal_some h
        refine r_cNI C hw (As := [.int v7, .int v14, .ref (ad 2)]) (rest := [.int x1]) (kX6_endure l D cI cZ ad _ _ _ _ e15) YX6_endure mn_X10_167 qC_7 clsX6 (pw_rmOK (by omega) (by decide)) rfl hl.1 rfl (Nat.le_of_ble_eq_true rfl) dX10_fire_107 ⟨Nat.zero_le _, Nat.zero_le _⟩ (fun H locs hw => ?_)
        refine lv_if_eq (tgt := 117) hx hb dX10_fire_110 (by decide) (fun hc => ?_) (fun hc => ?_)
        · replace h := pw_t hc h
          refine lv_iconst (v := 0) hx hb dX10_fire_117 (by decide) ?_
          refine lv_iadd hx hb dX10_fire_118 ?_
          refine lv_istore_n (lv' := [(1, .int (x1 + 0)), (3, .int v7), (0, .ref (ad 0)), (2, .int x2)]) hx hb dX10_fire_119 rfl hl (by decide) rfl (fun ls hl => ?_)
          refine lv_iinc (v := (x2 + 1)) (lv' := [(2, .int (x2 + 1)), (1, .int (x1 + 0)), (3, .int v7), (0, .ref (ad 0))]) hx hb dX10_fire_120 hl (k := 3) rfl rfl (by decide) rfl (fun ls hl => ?_)
          refine lv_goto (tgt := 52) hx hb dX10_fire_123 (by decide) ?_
          exact ih _ _ _ _ _ _ hw (lv_sub hl [3, 1, 0] rfl) h
        · replace h := pw_f hc h
          refine lv_iconst (v := 1) hx hb dX10_fire_113 (by decide) ?_
          refine lv_goto (tgt := 118) hx hb dX10_fire_114 (by decide) ?_
          refine lv_iadd hx hb dX10_fire_118 ?_
          refine lv_istore_n (lv' := [(1, .int (x1 + 1)), (3, .int v7), (0, .ref (ad 0)), (2, .int x2)]) hx hb dX10_fire_119 rfl hl (by decide) rfl (fun ls hl => ?_)
          refine lv_iinc (v := (x2 + 1)) (lv' := [(2, .int (x2 + 1)), (1, .int (x1 + 1)), (3, .int v7), (0, .ref (ad 0))]) hx hb dX10_fire_120 hl (k := 3) rfl rfl (by decide) rfl (fun ls hl => ?_)
          refine lv_goto (tgt := 52) hx hb dX10_fire_123 (by decide) ?_
          exact ih _ _ _ _ _ _ hw (lv_sub hl [3, 1, 0] rfl) h
set_option maxRecDepth 100000 in
set_option maxHeartbeats 4000000 in
theorem kX10_fire (l : Launch) (D : va_G) (cI cZ : ClassId) (ad : Nat → Nat)  (σ : St) (z : Int32 × St) (h : fX10_fire  σ = some z) : pw_MI l D shC cI cZ ad yX10_fire cX10_fire 4 (some .int) (pw_rm 4) [.ref (ad 0)] σ z.1 z.2 := by
  refine pw_ofI (by decide) (Nat.le_of_ble_eq_true rfl) ?_
  intro p e s m args below meth c A C hw ls hl
  obtain ⟨hx, hb, hr, hts, hown, hlk, hml, hK, hN⟩ := id C
  have hl : lv_has ls 4 [(0, .ref (ad 0))] := hl
  unfold fX10_fire at h
  refine lv_aload_n hx hb dX10_fire_0 rfl (lv_at hl 0 rfl) ?_
  refine r_get C hw qC_0 clsX10 3 rfl (by decide) fl_X10_30 dX10_fire_1 (v := .ref (ad 15)) rfl ?_
  refine r_getN C hw qC_15 clsX1 6 rfl (by decide) fn_X10_134 dX10_fire_4 (v := .int (σ 15 6)) rfl ?_
  refine lv_if_ne (tgt := 17) hx hb dX10_fire_7 (by decide) (fun hc => ?_) (fun hc => ?_)
  · replace h := pw_f hc h
    refine lv_aload_n hx hb dX10_fire_17 rfl (lv_at hl 0 rfl) ?_
    refine r_get C hw qC_0 clsX10 11 rfl (by decide) fl_X10_83 dX10_fire_18 (v := .int (σ 0 11)) rfl ?_
    refine lv_sipush (v := 3998) hx hb dX10_fire_21 (by decide) ?_
    refine lv_icmp_le (tgt := 34) hx hb dX10_fire_24 (by decide) (fun hc => ?_) (fun hc => ?_)
    · replace h := pw_t hc h
      refine lv_aload_n hx hb dX10_fire_34 rfl (lv_at hl 0 rfl) ?_
      refine r_get C hw qC_0 clsX10 3 rfl (by decide) fl_X10_30 dX10_fire_35 (v := .ref (ad 15)) rfl ?_
      refine lv_aload_n hx hb dX10_fire_38 rfl (lv_at hl 0 rfl) ?_
      refine r_get C hw qC_0 clsX10 3 rfl (by decide) fl_X10_30 dX10_fire_39 (v := .ref (ad 15)) rfl ?_
      refine r_getN C hw qC_15 clsX1 6 rfl (by decide) fn_X10_134 dX10_fire_42 (v := .int (σ 15 6)) rfl ?_
      obtain ⟨r20, σ19, e18, h⟩ := cal_some h
      refine r_cNV C hw (As := [.int (σ 15 6)]) (rest := []) (kX1_heatUp l D cI cZ ad _ _ _ e18) YX1_heatUp mn_X10_144 qC_15 clsX1 (pw_rmOK (by omega) (by decide)) rfl hl.1 rfl (Nat.le_of_ble_eq_true rfl) dX10_fire_45 ⟨Nat.zero_le _, Nat.zero_le _⟩ (fun H locs hw => ?_)
      refine lv_iconst (v := 0) hx hb dX10_fire_48 (by decide) ?_
      refine lv_istore_n (lv' := [(1, .int 0), (0, .ref (ad 0))]) hx hb dX10_fire_49 rfl hl (by decide) rfl (fun ls hl => ?_)
      refine lv_iconst (v := 0) hx hb dX10_fire_50 (by decide) ?_
      refine lv_istore_n (lv' := [(2, .int 0), (1, .int 0), (0, .ref (ad 0))]) hx hb dX10_fire_51 rfl hl (by decide) rfl (fun ls hl => ?_)
      exact wX10_fire_b52 C  _ _ _ _ _ _ _ hw (lv_sub hl [2, 1, 0] rfl) h
    · replace h := pw_f hc h
      refine lv_aload_n hx hb dX10_fire_27 rfl (lv_at hl 0 rfl) ?_
      refine lv_bipush (v := (-6)) hx hb dX10_fire_28 (by decide) ?_
      obtain ⟨v23, σ22, e21, h⟩ := cal_some h
      refine r_cVI C hw (As := [.int (-6)]) (rest := []) (kX10_refuse l D cI cZ ad _ _ _ e21) YX10_refuse ml_X10_91 qC_0 clsX10 (pw_rmOK (by omega) (by decide)) rfl hl.1 rfl (Nat.le_of_ble_eq_true rfl) dX10_fire_30 ⟨Nat.zero_le _, Nat.zero_le _⟩ (fun H locs hw => ?_)
      exact r_iret C hw dX10_fire_33 h
  · replace h := pw_t hc h
    refine lv_aload_n hx hb dX10_fire_10 rfl (lv_at hl 0 rfl) ?_
    refine lv_bipush (v := (-3)) hx hb dX10_fire_11 (by decide) ?_
    obtain ⟨v26, σ25, e24, h⟩ := cal_some h
    refine r_cVI C hw (As := [.int (-3)]) (rest := []) (kX10_refuse l D cI cZ ad _ _ _ e24) YX10_refuse ml_X10_91 qC_0 clsX10 (pw_rmOK (by omega) (by decide)) rfl hl.1 rfl (Nat.le_of_ble_eq_true rfl) dX10_fire_13 ⟨Nat.zero_le _, Nat.zero_le _⟩ (fun H locs hw => ?_)
    exact r_iret C hw dX10_fire_16 h
set_option maxRecDepth 100000 in
set_option maxHeartbeats 4000000 in
theorem wX8_tell_b66 {p : Program} {l : Launch} {e : Env} {s : State} {m : MethodId} {args : Array Value} {below : List Frame} {meth : Method} {c : Code} {D : va_G} {cI cZ : ClassId} {ad : Nat → Nat} {A : Nat → Prop} {z : Int32 × St}  (C : pw_C p s m args meth c yX8_tell.cls cX8_tell 4 (some .int) D cI cZ) : ∀ (x3 : Int32) (σ : St) (H : Heap) (locs : List Loc) (ls : Array Slot), pw_H D (pw_w shC cI cZ ad σ) A s.heap H locs → lv_has ls 4 [(0, .ref (ad 22)), (3, .int x3)] → fX8_tell_b66  x3 σ = some z → W p l e (pw_rm 0) s m args below meth c H locs 0 0 (pw_QI below args s D (pw_w shC cI cZ ad) A z) (F0 m 66 ls []) := by
  obtain ⟨hx, hb, hr, hts, hown, hlk, hml, hK, hN⟩ := id C
  intro x3 σ H locs ls hw hl h
  unfold fX8_tell_b66 at h
  refine lv_aload_n hx hb dX8_tell_66 rfl (lv_at hl 0 rfl) ?_
  refine r_get C hw qC_22 clsX8 4 rfl (by decide) fl_X8_24 dX8_tell_67 (v := .ref (ad 27)) rfl ?_
  refine lv_iload_n hx hb dX8_tell_70 rfl (lv_at hl 1 rfl) ?_
  refine lv_aload_n hx hb dX8_tell_71 rfl (lv_at hl 0 rfl) ?_
  refine r_get C hw qC_22 clsX8 8 rfl (by decide) fl_X8_36 dX8_tell_72 (v := .int (σ 22 8)) rfl ?_
  refine r_iast C hw qC_27 dX8_tell_75 h (fun σ1 H locs hw h => ?_)
  refine lv_aload_n hx hb dX8_tell_76 rfl (lv_at hl 0 rfl) ?_
  refine lv_dup hx hb dX8_tell_77 rfl ?_
  refine r_get C hw qC_22 clsX8 8 rfl (by decide) fl_X8_36 dX8_tell_78 (v := .int (σ1 22 8)) rfl ?_
  refine lv_iconst (v := 1) hx hb dX8_tell_81 (by decide) ?_
  refine lv_iadd hx hb dX8_tell_82 ?_
  refine r_put C hw qC_22 clsX8 8 rfl (by decide) fl_X8_36 dX8_tell_83 rfl rfl rfl h (fun σ2 H locs hw h => ?_)
  refine lv_aload_n hx hb dX8_tell_86 rfl (lv_at hl 0 rfl) ?_
  refine r_get C hw qC_22 clsX8 8 rfl (by decide) fl_X8_36 dX8_tell_87 (v := .int (σ2 22 8)) rfl ?_
  exact r_iret C hw dX8_tell_90 h
set_option maxRecDepth 100000 in
set_option maxHeartbeats 4000000 in
theorem wX8_tell_b25 {p : Program} {l : Launch} {e : Env} {s : State} {m : MethodId} {args : Array Value} {below : List Frame} {meth : Method} {c : Code} {D : va_G} {cI cZ : ClassId} {ad : Nat → Nat} {A : Nat → Prop} {z : Int32 × St}  (C : pw_C p s m args meth c yX8_tell.cls cX8_tell 4 (some .int) D cI cZ) : ∀ (n : Nat) (x2 : Int32) (x3 : Int32) (σ : St) (H : Heap) (locs : List Loc) (ls : Array Slot), pw_H D (pw_w shC cI cZ ad σ) A s.heap H locs → lv_has ls 4 [(0, .ref (ad 22)), (2, .int x2), (3, .int x3)] → fX8_tell_b25  n x2 x3 σ = some z → W p l e (pw_rm 0) s m args below meth c H locs 0 0 (pw_QI below args s D (pw_w shC cI cZ ad) A z) (F0 m 25 ls []) := by
  obtain ⟨hx, hb, hr, hts, hown, hlk, hml, hK, hN⟩ := id C
  intro n
  induction n with
  | zero =>
    intro x2 x3 σ H locs ls hw hl h
    exact absurd h (by simp [fX8_tell_b25])
  | succ n ih =>
    intro x2 x3 σ H locs ls hw hl h
    rw [fX8_tell_b25] at h
    refine lv_iload_n hx hb dX8_tell_25 rfl (lv_at hl 2 rfl) ?_
    refine lv_if_le (tgt := 66) hx hb dX8_tell_26 (by decide) (fun hc => ?_) (fun hc => ?_)
    · replace h := pw_t hc h
      exact wX8_tell_b66 C  _ _ _ _ _ hw (lv_sub hl [0, 2] rfl) h
    · replace h := pw_f hc h
      refine lv_aload_n hx hb dX8_tell_29 rfl (lv_at hl 0 rfl) ?_
      refine r_get C hw qC_22 clsX8 1 rfl (by decide) fl_X8_15 dX8_tell_30 (v := .ref (ad 24)) rfl ?_
      refine lv_aload_n hx hb dX8_tell_33 rfl (lv_at hl 0 rfl) ?_
      refine r_get C hw qC_22 clsX8 4 rfl (by decide) fl_X8_24 dX8_tell_34 (v := .ref (ad 27)) rfl ?_
      refine lv_iload_n hx hb dX8_tell_37 rfl (lv_at hl 2 rfl) ?_
      refine lv_iconst (v := 1) hx hb dX8_tell_38 (by decide) ?_
      refine lv_isub hx hb dX8_tell_39 ?_
      refine r_iald C hw qC_27 dX8_tell_40 h (fun v3 h => ?_)
      refine r_iald C hw qC_24 dX8_tell_41 h (fun v4 h => ?_)
      refine lv_iload_n hx hb dX8_tell_42 rfl (lv_at hl 1 rfl) ?_
      refine lv_icmp_ge (tgt := 66) hx hb dX8_tell_43 (by decide) (fun hc => ?_) (fun hc => ?_)
      · replace h := pw_t hc h
        exact wX8_tell_b66 C  _ _ _ _ _ hw (lv_sub hl [0, 2] rfl) h
      · replace h := pw_f hc h
        refine lv_aload_n hx hb dX8_tell_46 rfl (lv_at hl 0 rfl) ?_
        refine r_get C hw qC_22 clsX8 4 rfl (by decide) fl_X8_24 dX8_tell_47 (v := .ref (ad 27)) rfl ?_
        refine lv_iload_n hx hb dX8_tell_50 rfl (lv_at hl 2 rfl) ?_
        refine lv_aload_n hx hb dX8_tell_51 rfl (lv_at hl 0 rfl) ?_
        refine r_get C hw qC_22 clsX8 4 rfl (by decide) fl_X8_24 dX8_tell_52 (v := .ref (ad 27)) rfl ?_
        refine lv_iload_n hx hb dX8_tell_55 rfl (lv_at hl 2 rfl) ?_
        refine lv_iconst (v := 1) hx hb dX8_tell_56 (by decide) ?_
        refine lv_isub hx hb dX8_tell_57 ?_
        refine r_iald C hw qC_27 dX8_tell_58 h (fun v5 h => ?_)
        refine r_iast C hw qC_27 dX8_tell_59 h (fun σ6 H locs hw h => ?_)
        refine lv_iinc (v := (x3 + (-1))) (lv' := [(3, .int (x3 + (-1))), (0, .ref (ad 22)), (2, .int x2)]) hx hb dX8_tell_60 hl (k := 2) rfl rfl (by decide) rfl (fun ls hl => ?_)
        refine lv_goto (tgt := 25) hx hb dX8_tell_63 (by decide) ?_
        exact ih _ _ _ _ _ _ hw (lv_sub hl [1, 2, 0] rfl) h
set_option maxRecDepth 100000 in
set_option maxHeartbeats 4000000 in
theorem kX8_tell (l : Launch) (D : va_G) (cI cZ : ClassId) (ad : Nat → Nat) (x1 : Int32) (x2 : Int32) (σ : St) (z : Int32 × St) (h : fX8_tell x1 x2 σ = some z) : pw_MI l D shC cI cZ ad yX8_tell cX8_tell 4 (some .int) (pw_rm 0) [.ref (ad 22), .int x1, .int x2] σ z.1 z.2 := by
  refine pw_ofI (by decide) (Nat.le_of_ble_eq_true rfl) ?_
  intro p e s m args below meth c A C hw ls hl
  obtain ⟨hx, hb, hr, hts, hown, hlk, hml, hK, hN⟩ := id C
  have hl : lv_has ls 4 [(0, .ref (ad 22)), (1, .int x1), (2, .int x2)] := hl
  unfold fX8_tell at h
  refine lv_aload_n hx hb dX8_tell_0 rfl (lv_at hl 0 rfl) ?_
  refine r_get C hw qC_22 clsX8 0 rfl (by decide) fl_X8_9 dX8_tell_1 (v := .ref (ad 23)) rfl ?_
  refine lv_aload_n hx hb dX8_tell_4 rfl (lv_at hl 0 rfl) ?_
  refine r_get C hw qC_22 clsX8 8 rfl (by decide) fl_X8_36 dX8_tell_5 (v := .int (σ 22 8)) rfl ?_
  refine lv_iload_n hx hb dX8_tell_8 rfl (lv_at hl 1 rfl) ?_
  refine r_iast C hw qC_23 dX8_tell_9 h (fun σ7 H locs hw h => ?_)
  refine lv_aload_n hx hb dX8_tell_10 rfl (lv_at hl 0 rfl) ?_
  refine r_get C hw qC_22 clsX8 1 rfl (by decide) fl_X8_15 dX8_tell_11 (v := .ref (ad 24)) rfl ?_
  refine lv_aload_n hx hb dX8_tell_14 rfl (lv_at hl 0 rfl) ?_
  refine r_get C hw qC_22 clsX8 8 rfl (by decide) fl_X8_36 dX8_tell_15 (v := .int (σ7 22 8)) rfl ?_
  refine lv_iload_n hx hb dX8_tell_18 rfl (lv_at hl 2 rfl) ?_
  refine r_iast C hw qC_24 dX8_tell_19 h (fun σ8 H locs hw h => ?_)
  refine lv_aload_n hx hb dX8_tell_20 rfl (lv_at hl 0 rfl) ?_
  refine r_get C hw qC_22 clsX8 8 rfl (by decide) fl_X8_36 dX8_tell_21 (v := .int (σ8 22 8)) rfl ?_
  refine lv_istore_n (lv' := [(3, .int (σ8 22 8)), (0, .ref (ad 22)), (1, .int x1), (2, .int x2)]) hx hb dX8_tell_24 rfl hl (by decide) rfl (fun ls hl => ?_)
  exact wX8_tell_b25 C  _ _ _ _ _ _ _ hw (lv_sub hl [1, 3, 0] rfl) h
set_option maxRecDepth 100000 in
set_option maxHeartbeats 4000000 in
theorem kX10_want (l : Launch) (D : va_G) (cI cZ : ClassId) (ad : Nat → Nat) (x1 : Int32) (x2 : Int32) (σ : St) (z : Int32 × St) (h : fX10_want x1 x2 σ = some z) : pw_MI l D shC cI cZ ad yX10_want cX10_want 3 (some .int) (pw_rm 2) [.ref (ad 0), .int x1, .int x2] σ z.1 z.2 := by
  refine pw_ofI (by decide) (Nat.le_of_ble_eq_true rfl) ?_
  intro p e s m args below meth c A C hw ls hl
  obtain ⟨hx, hb, hr, hts, hown, hlk, hml, hK, hN⟩ := id C
  have hl : lv_has ls 3 [(0, .ref (ad 0)), (1, .int x1), (2, .int x2)] := hl
  unfold fX10_want at h
  refine lv_iload_n hx hb dX10_want_0 rfl (lv_at hl 1 rfl) ?_
  refine lv_aload_n hx hb dX10_want_1 rfl (lv_at hl 0 rfl) ?_
  refine r_get C hw qC_0 clsX10 2 rfl (by decide) fl_X10_23 dX10_want_2 (v := .ref (ad 7)) rfl ?_
  refine r_getN C hw qC_7 clsX6 7 rfl (by decide) fn_X10_118 dX10_want_5 (v := .int (σ 7 7)) rfl ?_
  obtain ⟨v3, σ2, e1, h⟩ := cal_some h
  refine r_cSI C hw (sh := shC) (ad := ad) (As := [.int x1, .int (σ 7 7)]) (rest := []) (kX10_within l D cI cZ ad _ _ _ _ e1) YX10_within ml_X10_87 (pw_rmOK (by omega) (by decide)) rfl hl.1 rfl (Nat.le_of_ble_eq_true rfl) dX10_want_8 ⟨Nat.zero_le _, Nat.zero_le _⟩ (fun H locs hw => ?_)
  refine lv_if_ne (tgt := 20) hx hb dX10_want_11 (by decide) (fun hc => ?_) (fun hc => ?_)
  · replace h := pw_f hc h
    refine lv_aload_n hx hb dX10_want_20 rfl (lv_at hl 0 rfl) ?_
    refine lv_iload_n hx hb dX10_want_21 rfl (lv_at hl 1 rfl) ?_
    obtain ⟨v6, σ5, e4, h⟩ := cal_some h
    refine r_cVI C hw (As := [.int x1]) (rest := []) (kX10_isLoose l D cI cZ ad _ _ _ e4) YX10_isLoose ml_X10_153 qC_0 clsX10 (pw_rmOK (by omega) (by decide)) rfl hl.1 rfl (Nat.le_of_ble_eq_true rfl) dX10_want_22 ⟨Nat.zero_le _, Nat.zero_le _⟩ (fun H locs hw => ?_)
    refine lv_if_ne (tgt := 35) hx hb dX10_want_25 (by decide) (fun hc => ?_) (fun hc => ?_)
    · replace h := pw_f hc h
      refine lv_iload_n hx hb dX10_want_35 rfl (lv_at hl 2 rfl) ?_
      refine lv_iconst (v := 1) hx hb dX10_want_36 (by decide) ?_
      refine lv_icmp_ge (tgt := 47) hx hb dX10_want_37 (by decide) (fun hc => ?_) (fun hc => ?_)
      · replace h := pw_t hc h
        refine lv_iload_n hx hb dX10_want_47 rfl (lv_at hl 2 rfl) ?_
        refine lv_sipush (v := 999) hx hb dX10_want_48 (by decide) ?_
        refine lv_icmp_gt (tgt := 66) hx hb dX10_want_51 (by decide) (fun hc => ?_) (fun hc => ?_)
        · replace h := pw_t hc h
          refine lv_aload_n hx hb dX10_want_66 rfl (lv_at hl 0 rfl) ?_
          refine lv_bipush (v := (-6)) hx hb dX10_want_67 (by decide) ?_
          obtain ⟨v9, σ8, e7, h⟩ := cal_some h
          refine r_cVI C hw (As := [.int (-6)]) (rest := []) (kX10_refuse l D cI cZ ad _ _ _ e7) YX10_refuse ml_X10_91 qC_0 clsX10 (pw_rmOK (by omega) (by decide)) rfl hl.1 rfl (Nat.le_of_ble_eq_true rfl) dX10_want_69 ⟨Nat.zero_le _, Nat.zero_le _⟩ (fun H locs hw => ?_)
          exact r_iret C hw dX10_want_72 h
        · replace h := pw_f hc h
          refine lv_aload_n hx hb dX10_want_54 rfl (lv_at hl 0 rfl) ?_
          refine r_get C hw qC_0 clsX10 4 rfl (by decide) fl_X10_37 dX10_want_55 (v := .ref (ad 22)) rfl ?_
          refine r_getN C hw qC_22 clsX8 8 rfl (by decide) fn_X10_174 dX10_want_58 (v := .int (σ5 22 8)) rfl ?_
          refine lv_bipush (v := 8) hx hb dX10_want_61 (by decide) ?_
          refine lv_icmp_lt (tgt := 73) hx hb dX10_want_63 (by decide) (fun hc => ?_) (fun hc => ?_)
          · replace h := pw_t hc h
            refine lv_aload_n hx hb dX10_want_73 rfl (lv_at hl 0 rfl) ?_
            refine r_get C hw qC_0 clsX10 4 rfl (by decide) fl_X10_37 dX10_want_74 (v := .ref (ad 22)) rfl ?_
            refine lv_iload_n hx hb dX10_want_77 rfl (lv_at hl 1 rfl) ?_
            refine lv_iload_n hx hb dX10_want_78 rfl (lv_at hl 2 rfl) ?_
            obtain ⟨v12, σ11, e10, h⟩ := cal_some h
            refine r_cNI C hw (As := [.int x1, .int x2]) (rest := []) (kX8_tell l D cI cZ ad _ _ _ _ e10) YX8_tell mn_X10_177 qC_22 clsX8 (pw_rmOK (by omega) (by decide)) rfl hl.1 rfl (Nat.le_of_ble_eq_true rfl) dX10_want_79 ⟨Nat.zero_le _, Nat.zero_le _⟩ (fun H locs hw => ?_)
            exact r_iret C hw dX10_want_82 h
          · replace h := pw_f hc h
            refine lv_aload_n hx hb dX10_want_66 rfl (lv_at hl 0 rfl) ?_
            refine lv_bipush (v := (-6)) hx hb dX10_want_67 (by decide) ?_
            obtain ⟨v15, σ14, e13, h⟩ := cal_some h
            refine r_cVI C hw (As := [.int (-6)]) (rest := []) (kX10_refuse l D cI cZ ad _ _ _ e13) YX10_refuse ml_X10_91 qC_0 clsX10 (pw_rmOK (by omega) (by decide)) rfl hl.1 rfl (Nat.le_of_ble_eq_true rfl) dX10_want_69 ⟨Nat.zero_le _, Nat.zero_le _⟩ (fun H locs hw => ?_)
            exact r_iret C hw dX10_want_72 h
      · replace h := pw_f hc h
        refine lv_aload_n hx hb dX10_want_40 rfl (lv_at hl 0 rfl) ?_
        refine lv_bipush (v := (-4)) hx hb dX10_want_41 (by decide) ?_
        obtain ⟨v18, σ17, e16, h⟩ := cal_some h
        refine r_cVI C hw (As := [.int (-4)]) (rest := []) (kX10_refuse l D cI cZ ad _ _ _ e16) YX10_refuse ml_X10_91 qC_0 clsX10 (pw_rmOK (by omega) (by decide)) rfl hl.1 rfl (Nat.le_of_ble_eq_true rfl) dX10_want_43 ⟨Nat.zero_le _, Nat.zero_le _⟩ (fun H locs hw => ?_)
        exact r_iret C hw dX10_want_46 h
    · replace h := pw_t hc h
      refine lv_aload_n hx hb dX10_want_28 rfl (lv_at hl 0 rfl) ?_
      refine lv_bipush (v := (-3)) hx hb dX10_want_29 (by decide) ?_
      obtain ⟨v21, σ20, e19, h⟩ := cal_some h
      refine r_cVI C hw (As := [.int (-3)]) (rest := []) (kX10_refuse l D cI cZ ad _ _ _ e19) YX10_refuse ml_X10_91 qC_0 clsX10 (pw_rmOK (by omega) (by decide)) rfl hl.1 rfl (Nat.le_of_ble_eq_true rfl) dX10_want_31 ⟨Nat.zero_le _, Nat.zero_le _⟩ (fun H locs hw => ?_)
      exact r_iret C hw dX10_want_34 h
  · replace h := pw_t hc h
    refine lv_aload_n hx hb dX10_want_14 rfl (lv_at hl 0 rfl) ?_
    refine lv_iconst (v := (-1)) hx hb dX10_want_15 (by decide) ?_
    obtain ⟨v24, σ23, e22, h⟩ := cal_some h
    refine r_cVI C hw (As := [.int (-1)]) (rest := []) (kX10_refuse l D cI cZ ad _ _ _ e22) YX10_refuse ml_X10_91 qC_0 clsX10 (pw_rmOK (by omega) (by decide)) rfl hl.1 rfl (Nat.le_of_ble_eq_true rfl) dX10_want_16 ⟨Nat.zero_le _, Nat.zero_le _⟩ (fun H locs hw => ?_)
    exact r_iret C hw dX10_want_19 h
set_option maxRecDepth 100000 in
set_option maxHeartbeats 4000000 in
theorem wX10_placesThatFire_b4 {p : Program} {l : Launch} {e : Env} {s : State} {m : MethodId} {args : Array Value} {below : List Frame} {meth : Method} {c : Code} {D : va_G} {cI cZ : ClassId} {ad : Nat → Nat} {A : Nat → Prop} {z : Int32 × St}  (C : pw_C p s m args meth c yX10_placesThatFire.cls cX10_placesThatFire 4 (some .int) D cI cZ) : ∀ (n : Nat) (x1 : Int32) (x2 : Int32) (x3 : Int32) (σ : St) (H : Heap) (locs : List Loc) (ls : Array Slot), pw_H D (pw_w shC cI cZ ad σ) A s.heap H locs → lv_has ls 4 [(0, .ref (ad 0)), (1, .int x1), (2, .int x2), (3, .int x3)] → fX10_placesThatFire_b4  n x1 x2 x3 σ = some z → W p l e (pw_rm 2) s m args below meth c H locs 0 0 (pw_QI below args s D (pw_w shC cI cZ ad) A z) (F0 m 4 ls []) := by
  obtain ⟨hx, hb, hr, hts, hown, hlk, hml, hK, hN⟩ := id C
  intro n
  induction n with
  | zero =>
    intro x1 x2 x3 σ H locs ls hw hl h
    exact absurd h (by simp [fX10_placesThatFire_b4])
  | succ n ih =>
    intro x1 x2 x3 σ H locs ls hw hl h
    rw [fX10_placesThatFire_b4] at h
    refine lv_iload_n hx hb dX10_placesThatFire_4 rfl (lv_at hl 3 rfl) ?_
    refine lv_bipush (v := 12) hx hb dX10_placesThatFire_5 (by decide) ?_
    refine lv_icmp_ge (tgt := 56) hx hb dX10_placesThatFire_7 (by decide) (fun hc => ?_) (fun hc => ?_)
    · replace h := pw_t hc h
      refine lv_iload_n hx hb dX10_placesThatFire_56 rfl (lv_at hl 2 rfl) ?_
      exact r_iret C hw dX10_placesThatFire_57 h
    · replace h := pw_f hc h
      refine lv_aload_n hx hb dX10_placesThatFire_10 rfl (lv_at hl 0 rfl) ?_
      refine r_get C hw qC_0 clsX10 3 rfl (by decide) fl_X10_30 dX10_placesThatFire_11 (v := .ref (ad 15)) rfl ?_
      refine r_getN C hw qC_15 clsX1 1 rfl (by decide) fn_X10_157 dX10_placesThatFire_14 (v := .ref (ad 17)) rfl ?_
      refine lv_iload_n hx hb dX10_placesThatFire_17 rfl (lv_at hl 3 rfl) ?_
      refine r_iald C hw qC_17 dX10_placesThatFire_18 h (fun v1 h => ?_)
      refine lv_bipush (v := (-9)) hx hb dX10_placesThatFire_19 (by decide) ?_
      refine lv_icmp_ne (tgt := 50) hx hb dX10_placesThatFire_21 (by decide) (fun hc => ?_) (fun hc => ?_)
      · replace h := pw_f hc h
        refine lv_iinc (v := (x3 + 1)) (lv' := [(3, .int (x3 + 1)), (0, .ref (ad 0)), (1, .int x1), (2, .int x2)]) hx hb dX10_placesThatFire_50 hl (k := 3) rfl rfl (by decide) rfl (fun ls hl => ?_)
        refine lv_goto (tgt := 4) hx hb dX10_placesThatFire_53 (by decide) ?_
        exact ih _ _ _ _ _ _ _ hw (lv_sub hl [1, 2, 3, 0] rfl) h
      · replace h := pw_t hc h
        refine lv_aload_n hx hb dX10_placesThatFire_24 rfl (lv_at hl 0 rfl) ?_
        refine r_get C hw qC_0 clsX10 1 rfl (by decide) fl_X10_16 dX10_placesThatFire_25 (v := .ref (ad 2)) rfl ?_
        refine lv_iload_n hx hb dX10_placesThatFire_28 rfl (lv_at hl 1 rfl) ?_
        refine lv_aload_n hx hb dX10_placesThatFire_29 rfl (lv_at hl 0 rfl) ?_
        refine r_get C hw qC_0 clsX10 3 rfl (by decide) fl_X10_30 dX10_placesThatFire_30 (v := .ref (ad 15)) rfl ?_
        refine r_getN C hw qC_15 clsX1 4 rfl (by decide) fn_X10_147 dX10_placesThatFire_33 (v := .ref (ad 20)) rfl ?_
        refine lv_iload_n hx hb dX10_placesThatFire_36 rfl (lv_at hl 3 rfl) ?_
        refine r_iald C hw qC_20 dX10_placesThatFire_37 h (fun v2 h => ?_)
        obtain ⟨v5, σ4, e3, h⟩ := cal_some h
        refine r_cNI C hw (As := [.int x1, .int v2]) (rest := []) (kX0_bears l D cI cZ ad _ _ _ _ e3) YX0_bears mn_X10_331 qC_2 clsX0 (pw_rmOK (by omega) (by decide)) rfl hl.1 rfl (Nat.le_of_ble_eq_true rfl) dX10_placesThatFire_38 ⟨Nat.zero_le _, Nat.zero_le _⟩ (fun H locs hw => ?_)
        refine lv_if_eq (tgt := 50) hx hb dX10_placesThatFire_41 (by decide) (fun hc => ?_) (fun hc => ?_)
        · replace h := pw_t hc h
          refine lv_iinc (v := (x3 + 1)) (lv' := [(3, .int (x3 + 1)), (0, .ref (ad 0)), (1, .int x1), (2, .int x2)]) hx hb dX10_placesThatFire_50 hl (k := 3) rfl rfl (by decide) rfl (fun ls hl => ?_)
          refine lv_goto (tgt := 4) hx hb dX10_placesThatFire_53 (by decide) ?_
          exact ih _ _ _ _ _ _ _ hw (lv_sub hl [1, 2, 3, 0] rfl) h
        · replace h := pw_f hc h
          refine lv_iload_n hx hb dX10_placesThatFire_44 rfl (lv_at hl 2 rfl) ?_
          refine lv_iconst (v := 1) hx hb dX10_placesThatFire_45 (by decide) ?_
          refine lv_iload_n hx hb dX10_placesThatFire_46 rfl (lv_at hl 3 rfl) ?_
          refine lv_ishl hx hb dX10_placesThatFire_47 ?_
          refine lv_ior hx hb dX10_placesThatFire_48 ?_
          refine r_leti h (fun v6 h => ?_)
          refine lv_istore_n (lv' := [(2, .int v6), (0, .ref (ad 0)), (1, .int x1), (3, .int x3)]) hx hb dX10_placesThatFire_49 rfl hl (by decide) rfl (fun ls hl => ?_)
          refine lv_iinc (v := (x3 + 1)) (lv' := [(3, .int (x3 + 1)), (2, .int v6), (0, .ref (ad 0)), (1, .int x1)]) hx hb dX10_placesThatFire_50 hl (k := 3) rfl rfl (by decide) rfl (fun ls hl => ?_)
          refine lv_goto (tgt := 4) hx hb dX10_placesThatFire_53 (by decide) ?_
          exact ih _ _ _ _ _ _ _ hw (lv_sub hl [2, 3, 1, 0] rfl) h
set_option maxRecDepth 100000 in
set_option maxHeartbeats 4000000 in
theorem kX10_placesThatFire (l : Launch) (D : va_G) (cI cZ : ClassId) (ad : Nat → Nat) (x1 : Int32) (σ : St) (z : Int32 × St) (h : fX10_placesThatFire x1 σ = some z) : pw_MI l D shC cI cZ ad yX10_placesThatFire cX10_placesThatFire 4 (some .int) (pw_rm 2) [.ref (ad 0), .int x1] σ z.1 z.2 := by
  refine pw_ofI (by decide) (Nat.le_of_ble_eq_true rfl) ?_
  intro p e s m args below meth c A C hw ls hl
  obtain ⟨hx, hb, hr, hts, hown, hlk, hml, hK, hN⟩ := id C
  have hl : lv_has ls 4 [(0, .ref (ad 0)), (1, .int x1)] := hl
  unfold fX10_placesThatFire at h
  refine lv_iconst (v := 0) hx hb dX10_placesThatFire_0 (by decide) ?_
  refine lv_istore_n (lv' := [(2, .int 0), (0, .ref (ad 0)), (1, .int x1)]) hx hb dX10_placesThatFire_1 rfl hl (by decide) rfl (fun ls hl => ?_)
  refine lv_iconst (v := 0) hx hb dX10_placesThatFire_2 (by decide) ?_
  refine lv_istore_n (lv' := [(3, .int 0), (2, .int 0), (0, .ref (ad 0)), (1, .int x1)]) hx hb dX10_placesThatFire_3 rfl hl (by decide) rfl (fun ls hl => ?_)
  exact wX10_placesThatFire_b4 C  _ _ _ _ _ _ _ _ hw (lv_sub hl [2, 3, 1, 0] rfl) h
set_option maxRecDepth 100000 in
set_option maxHeartbeats 4000000 in
theorem wX10_learnFits_b16 {p : Program} {l : Launch} {e : Env} {s : State} {m : MethodId} {args : Array Value} {below : List Frame} {meth : Method} {c : Code} {D : va_G} {cI cZ : ClassId} {ad : Nat → Nat} {A : Nat → Prop} {z : Int32 × St}  (C : pw_C p s m args meth c yX10_learnFits.cls cX10_learnFits 2 none D cI cZ) : ∀ (n : Nat) (x1 : Int32) (σ : St) (H : Heap) (locs : List Loc) (ls : Array Slot), pw_H D (pw_w shC cI cZ ad σ) A s.heap H locs → lv_has ls 2 [(0, .ref (ad 0)), (1, .int x1)] → fX10_learnFits_b16  n x1 σ = some z → W p l e (pw_rm 3) s m args below meth c H locs 0 0 (pw_QV below args s D (pw_w shC cI cZ ad) A z) (F0 m 16 ls []) := by
  obtain ⟨hx, hb, hr, hts, hown, hlk, hml, hK, hN⟩ := id C
  intro n
  induction n with
  | zero =>
    intro x1 σ H locs ls hw hl h
    exact absurd h (by simp [fX10_learnFits_b16])
  | succ n ih =>
    intro x1 σ H locs ls hw hl h
    rw [fX10_learnFits_b16] at h
    refine lv_iload_n hx hb dX10_learnFits_16 rfl (lv_at hl 1 rfl) ?_
    refine lv_aload_n hx hb dX10_learnFits_17 rfl (lv_at hl 0 rfl) ?_
    refine r_get C hw qC_0 clsX10 4 rfl (by decide) fl_X10_37 dX10_learnFits_18 (v := .ref (ad 22)) rfl ?_
    refine r_getN C hw qC_22 clsX8 8 rfl (by decide) fn_X10_174 dX10_learnFits_21 (v := .int (σ 22 8)) rfl ?_
    refine lv_icmp_ge (tgt := 63) hx hb dX10_learnFits_24 (by decide) (fun hc => ?_) (fun hc => ?_)
    · replace h := pw_t hc h
      exact r_vret C hw dX10_learnFits_63 h
    · replace h := pw_f hc h
      refine lv_aload_n hx hb dX10_learnFits_27 rfl (lv_at hl 0 rfl) ?_
      refine r_get C hw qC_0 clsX10 4 rfl (by decide) fl_X10_37 dX10_learnFits_28 (v := .ref (ad 22)) rfl ?_
      refine r_getN C hw qC_22 clsX8 2 rfl (by decide) fn_X10_325 dX10_learnFits_31 (v := .ref (ad 25)) rfl ?_
      refine lv_iload_n hx hb dX10_learnFits_34 rfl (lv_at hl 1 rfl) ?_
      refine lv_aload_n hx hb dX10_learnFits_35 rfl (lv_at hl 0 rfl) ?_
      refine lv_aload_n hx hb dX10_learnFits_36 rfl (lv_at hl 0 rfl) ?_
      refine r_get C hw qC_0 clsX10 2 rfl (by decide) fl_X10_23 dX10_learnFits_37 (v := .ref (ad 7)) rfl ?_
      refine r_getN C hw qC_7 clsX6 0 rfl (by decide) fn_X10_306 dX10_learnFits_40 (v := .ref (ad 8)) rfl ?_
      refine lv_aload_n hx hb dX10_learnFits_43 rfl (lv_at hl 0 rfl) ?_
      refine r_get C hw qC_0 clsX10 4 rfl (by decide) fl_X10_37 dX10_learnFits_44 (v := .ref (ad 22)) rfl ?_
      refine r_getN C hw qC_22 clsX8 0 rfl (by decide) fn_X10_193 dX10_learnFits_47 (v := .ref (ad 23)) rfl ?_
      refine lv_iload_n hx hb dX10_learnFits_50 rfl (lv_at hl 1 rfl) ?_
      refine r_iald C hw qC_23 dX10_learnFits_51 h (fun v1 h => ?_)
      refine r_iald C hw qC_8 dX10_learnFits_52 h (fun v2 h => ?_)
      obtain ⟨v5, σ4, e3, h⟩ := cal_some h
      refine r_cVI C hw (As := [.int v2]) (rest := [.int x1, .ref (ad 25)]) (kX10_placesThatFire l D cI cZ ad _ _ _ e3) YX10_placesThatFire ml_X10_328 qC_0 clsX10 (pw_rmOK (by omega) (by decide)) rfl hl.1 rfl (Nat.le_of_ble_eq_true rfl) dX10_learnFits_53 ⟨Nat.zero_le _, Nat.zero_le _⟩ (fun H locs hw => ?_)
      refine r_iast C hw qC_25 dX10_learnFits_56 h (fun σ6 H locs hw h => ?_)
      refine lv_iinc (v := (x1 + 1)) (lv' := [(1, .int (x1 + 1)), (0, .ref (ad 0))]) hx hb dX10_learnFits_57 hl (k := 1) rfl rfl (by decide) rfl (fun ls hl => ?_)
      refine lv_goto (tgt := 16) hx hb dX10_learnFits_60 (by decide) ?_
      exact ih _ _ _ _ _ hw (lv_sub hl [1, 0] rfl) h
set_option maxRecDepth 100000 in
set_option maxHeartbeats 4000000 in
theorem kX10_learnFits (l : Launch) (D : va_G) (cI cZ : ClassId) (ad : Nat → Nat)  (σ : St) (z : Int32 × St) (h : fX10_learnFits  σ = some z) : pw_MV l D shC cI cZ ad yX10_learnFits cX10_learnFits 2 none (pw_rm 3) [.ref (ad 0)] σ z.2 := by
  refine pw_ofV (by decide) (Nat.le_of_ble_eq_true rfl) ?_
  intro p e s m args below meth c A C hw ls hl
  obtain ⟨hx, hb, hr, hts, hown, hlk, hml, hK, hN⟩ := id C
  have hl : lv_has ls 2 [(0, .ref (ad 0))] := hl
  unfold fX10_learnFits at h
  refine lv_aload_n hx hb dX10_learnFits_0 rfl (lv_at hl 0 rfl) ?_
  refine r_get C hw qC_0 clsX10 3 rfl (by decide) fl_X10_30 dX10_learnFits_1 (v := .ref (ad 15)) rfl ?_
  refine lv_aload_n hx hb dX10_learnFits_4 rfl (lv_at hl 0 rfl) ?_
  refine r_get C hw qC_0 clsX10 3 rfl (by decide) fl_X10_30 dX10_learnFits_5 (v := .ref (ad 15)) rfl ?_
  refine r_getN C hw qC_15 clsX1 6 rfl (by decide) fn_X10_134 dX10_learnFits_8 (v := .int (σ 15 6)) rfl ?_
  obtain ⟨r9, σ8, e7, h⟩ := cal_some h
  refine r_cNV C hw (As := [.int (σ 15 6)]) (rest := []) (kX1_heatUp l D cI cZ ad _ _ _ e7) YX1_heatUp mn_X10_144 qC_15 clsX1 (pw_rmOK (by omega) (by decide)) rfl hl.1 rfl (Nat.le_of_ble_eq_true rfl) dX10_learnFits_11 ⟨Nat.zero_le _, Nat.zero_le _⟩ (fun H locs hw => ?_)
  refine lv_iconst (v := 0) hx hb dX10_learnFits_14 (by decide) ?_
  refine lv_istore_n (lv' := [(1, .int 0), (0, .ref (ad 0))]) hx hb dX10_learnFits_15 rfl hl (by decide) rfl (fun ls hl => ?_)
  exact wX10_learnFits_b16 C  _ _ _ _ _ _ hw (lv_sub hl [1, 0] rfl) h
set_option maxRecDepth 100000 in
set_option maxHeartbeats 4000000 in
theorem wX8_moveAlong_b4 {p : Program} {l : Launch} {e : Env} {s : State} {m : MethodId} {args : Array Value} {below : List Frame} {meth : Method} {c : Code} {D : va_G} {cI cZ : ClassId} {ad : Nat → Nat} {A : Nat → Prop} {z : Int32 × St}  (C : pw_C p s m args meth c yX8_moveAlong.cls cX8_moveAlong 6 none D cI cZ) : ∀ (n : Nat) (x2 : Int32) (x3 : Int32) (σ : St) (H : Heap) (locs : List Loc) (ls : Array Slot), pw_H D (pw_w shC cI cZ ad σ) A s.heap H locs → lv_has ls 6 [(0, .ref (ad 22)), (2, .int x2), (3, .int x3)] → fX8_moveAlong_b4  n x2 x3 σ = some z → W p l e (pw_rm 0) s m args below meth c H locs 0 0 (pw_QV below args s D (pw_w shC cI cZ ad) A z) (F0 m 4 ls []) := by
  obtain ⟨hx, hb, hr, hts, hown, hlk, hml, hK, hN⟩ := id C
  intro n
  induction n with
  | zero =>
    intro x2 x3 σ H locs ls hw hl h
    exact absurd h (by simp [fX8_moveAlong_b4])
  | succ n ih =>
    intro x2 x3 σ H locs ls hw hl h
    rw [fX8_moveAlong_b4] at h
    refine lv_iload_n hx hb dX8_moveAlong_4 rfl (lv_at hl 2 rfl) ?_
    refine lv_bipush (v := 12) hx hb dX8_moveAlong_5 (by decide) ?_
    refine lv_icmp_ge (tgt := 58) hx hb dX8_moveAlong_7 (by decide) (fun hc => ?_) (fun hc => ?_)
    · replace h := pw_t hc h
      exact r_vret C hw dX8_moveAlong_58 h
    · replace h := pw_f hc h
      refine lv_iload_n hx hb dX8_moveAlong_10 rfl (lv_at hl 1 rfl) ?_
      refine lv_bipush (v := (-9)) hx hb dX8_moveAlong_11 (by decide) ?_
      refine lv_icmp_eq (tgt := 58) hx hb dX8_moveAlong_13 (by decide) (fun hc => ?_) (fun hc => ?_)
      · replace h := pw_t hc h
        exact r_vret C hw dX8_moveAlong_58 h
      · replace h := pw_f hc h
        refine lv_aload_n hx hb dX8_moveAlong_16 rfl (lv_at hl 0 rfl) ?_
        refine r_get C hw qC_22 clsX8 7 rfl (by decide) fl_X8_33 dX8_moveAlong_17 (v := .ref (ad 30)) rfl ?_
        refine lv_iload_n hx hb dX8_moveAlong_20 rfl (lv_at hl 1 rfl) ?_
        refine r_iald C hw qC_30 dX8_moveAlong_21 h (fun v1 h => ?_)
        refine lv_istore (lv' := [(4, .int v1), (0, .ref (ad 22)), (2, .int x2), (3, .int x3)]) hx hb dX8_moveAlong_22 hl (by decide) rfl (fun ls hl => ?_)
        refine lv_aload_n hx hb dX8_moveAlong_24 rfl (lv_at hl 1 rfl) ?_
        refine r_get C hw qC_22 clsX8 5 rfl (by decide) fl_X8_27 dX8_moveAlong_25 (v := .ref (ad 28)) rfl ?_
        refine lv_iload hx hb dX8_moveAlong_28 (lv_at hl 0 rfl) ?_
        refine r_iald C hw qC_28 dX8_moveAlong_30 h (fun v2 h => ?_)
        refine lv_istore (lv' := [(5, .int v2), (4, .int v1), (0, .ref (ad 22)), (2, .int x2), (3, .int x3)]) hx hb dX8_moveAlong_31 hl (by decide) rfl (fun ls hl => ?_)
        refine lv_aload_n hx hb dX8_moveAlong_33 rfl (lv_at hl 2 rfl) ?_
        refine r_get C hw qC_22 clsX8 5 rfl (by decide) fl_X8_27 dX8_moveAlong_34 (v := .ref (ad 28)) rfl ?_
        refine lv_iload hx hb dX8_moveAlong_37 (lv_at hl 1 rfl) ?_
        refine lv_iload_n hx hb dX8_moveAlong_39 rfl (lv_at hl 3 rfl) ?_
        refine r_iast C hw qC_28 dX8_moveAlong_40 h (fun σ3 H locs hw h => ?_)
        refine lv_aload_n hx hb dX8_moveAlong_41 rfl (lv_at hl 2 rfl) ?_
        refine r_get C hw qC_22 clsX8 6 rfl (by decide) fl_X8_30 dX8_moveAlong_42 (v := .ref (ad 29)) rfl ?_
        refine lv_iload_n hx hb dX8_moveAlong_45 rfl (lv_at hl 3 rfl) ?_
        refine lv_iload hx hb dX8_moveAlong_46 (lv_at hl 1 rfl) ?_
        refine r_iast C hw qC_29 dX8_moveAlong_48 h (fun σ4 H locs hw h => ?_)
        refine lv_iload hx hb dX8_moveAlong_49 (lv_at hl 0 rfl) ?_
        refine lv_istore_n (lv' := [(2, .int v2), (5, .int v2), (4, .int v1), (0, .ref (ad 22)), (3, .int x3)]) hx hb dX8_moveAlong_51 rfl hl (by decide) rfl (fun ls hl => ?_)
        refine lv_iinc (v := (x3 + 1)) (lv' := [(3, .int (x3 + 1)), (2, .int v2), (5, .int v2), (4, .int v1), (0, .ref (ad 22))]) hx hb dX8_moveAlong_52 hl (k := 4) rfl rfl (by decide) rfl (fun ls hl => ?_)
        refine lv_goto (tgt := 4) hx hb dX8_moveAlong_55 (by decide) ?_
        exact ih _ _ _ _ _ _ hw (lv_sub hl [4, 1, 0] rfl) h
set_option maxRecDepth 100000 in
set_option maxHeartbeats 4000000 in
theorem kX8_moveAlong (l : Launch) (D : va_G) (cI cZ : ClassId) (ad : Nat → Nat) (x1 : Int32) (σ : St) (z : Int32 × St) (h : fX8_moveAlong x1 σ = some z) : pw_MV l D shC cI cZ ad yX8_moveAlong cX8_moveAlong 6 none (pw_rm 0) [.ref (ad 22), .int x1] σ z.2 := by
  refine pw_ofV (by decide) (Nat.le_of_ble_eq_true rfl) ?_
  intro p e s m args below meth c A C hw ls hl
  obtain ⟨hx, hb, hr, hts, hown, hlk, hml, hK, hN⟩ := id C
  have hl : lv_has ls 6 [(0, .ref (ad 22)), (1, .int x1)] := hl
  unfold fX8_moveAlong at h
  refine lv_iload_n hx hb dX8_moveAlong_0 rfl (lv_at hl 1 rfl) ?_
  refine lv_istore_n (lv' := [(2, .int x1), (0, .ref (ad 22)), (1, .int x1)]) hx hb dX8_moveAlong_1 rfl hl (by decide) rfl (fun ls hl => ?_)
  refine lv_iconst (v := 0) hx hb dX8_moveAlong_2 (by decide) ?_
  refine lv_istore_n (lv' := [(3, .int 0), (2, .int x1), (0, .ref (ad 22)), (1, .int x1)]) hx hb dX8_moveAlong_3 rfl hl (by decide) rfl (fun ls hl => ?_)
  exact wX8_moveAlong_b4 C  _ _ _ _ _ _ _ hw (lv_sub hl [2, 1, 0] rfl) h
set_option maxRecDepth 100000 in
set_option maxHeartbeats 4000000 in
theorem wX8_noteMover_b2 {p : Program} {l : Launch} {e : Env} {s : State} {m : MethodId} {args : Array Value} {below : List Frame} {meth : Method} {c : Code} {D : va_G} {cI cZ : ClassId} {ad : Nat → Nat} {A : Nat → Prop} {z : Int32 × St}  (C : pw_C p s m args meth c yX8_noteMover.cls cX8_noteMover 4 none D cI cZ) : ∀ (n : Nat) (x1 : Int32) (x2 : Int32) (x3 : Int32) (σ : St) (H : Heap) (locs : List Loc) (ls : Array Slot), pw_H D (pw_w shC cI cZ ad σ) A s.heap H locs → lv_has ls 4 [(0, .ref (ad 22)), (1, .int x1), (2, .int x2), (3, .int x3)] → fX8_noteMover_b2  n x1 x2 x3 σ = some z → W p l e (pw_rm 0) s m args below meth c H locs 0 0 (pw_QV below args s D (pw_w shC cI cZ ad) A z) (F0 m 2 ls []) := by
  obtain ⟨hx, hb, hr, hts, hown, hlk, hml, hK, hN⟩ := id C
  intro n
  induction n with
  | zero =>
    intro x1 x2 x3 σ H locs ls hw hl h
    exact absurd h (by simp [fX8_noteMover_b2])
  | succ n ih =>
    intro x1 x2 x3 σ H locs ls hw hl h
    rw [fX8_noteMover_b2] at h
    refine lv_iload_n hx hb dX8_noteMover_2 rfl (lv_at hl 3 rfl) ?_
    refine lv_bipush (v := 12) hx hb dX8_noteMover_3 (by decide) ?_
    refine lv_icmp_ge (tgt := 29) hx hb dX8_noteMover_5 (by decide) (fun hc => ?_) (fun hc => ?_)
    · replace h := pw_t hc h
      exact r_vret C hw dX8_noteMover_29 h
    · replace h := pw_f hc h
      refine lv_iload_n hx hb dX8_noteMover_8 rfl (lv_at hl 1 rfl) ?_
      refine lv_iconst (v := 1) hx hb dX8_noteMover_9 (by decide) ?_
      refine lv_iload_n hx hb dX8_noteMover_10 rfl (lv_at hl 3 rfl) ?_
      refine lv_ishl hx hb dX8_noteMover_11 ?_
      refine lv_iand hx hb dX8_noteMover_12 ?_
      refine lv_if_eq (tgt := 23) hx hb dX8_noteMover_13 (by decide) (fun hc => ?_) (fun hc => ?_)
      · replace h := pw_t hc h
        refine lv_iinc (v := (x3 + 1)) (lv' := [(3, .int (x3 + 1)), (0, .ref (ad 22)), (1, .int x1), (2, .int x2)]) hx hb dX8_noteMover_23 hl (k := 3) rfl rfl (by decide) rfl (fun ls hl => ?_)
        refine lv_goto (tgt := 2) hx hb dX8_noteMover_26 (by decide) ?_
        exact ih _ _ _ _ _ _ _ hw (lv_sub hl [1, 2, 3, 0] rfl) h
      · replace h := pw_f hc h
        refine lv_aload_n hx hb dX8_noteMover_16 rfl (lv_at hl 0 rfl) ?_
        refine r_get C hw qC_22 clsX8 7 rfl (by decide) fl_X8_33 dX8_noteMover_17 (v := .ref (ad 30)) rfl ?_
        refine lv_iload_n hx hb dX8_noteMover_20 rfl (lv_at hl 3 rfl) ?_
        refine lv_iload_n hx hb dX8_noteMover_21 rfl (lv_at hl 2 rfl) ?_
        refine r_iast C hw qC_30 dX8_noteMover_22 h (fun σ1 H locs hw h => ?_)
        refine lv_iinc (v := (x3 + 1)) (lv' := [(3, .int (x3 + 1)), (0, .ref (ad 22)), (1, .int x1), (2, .int x2)]) hx hb dX8_noteMover_23 hl (k := 3) rfl rfl (by decide) rfl (fun ls hl => ?_)
        refine lv_goto (tgt := 2) hx hb dX8_noteMover_26 (by decide) ?_
        exact ih _ _ _ _ _ _ _ hw (lv_sub hl [1, 2, 3, 0] rfl) h
set_option maxRecDepth 100000 in
set_option maxHeartbeats 4000000 in
theorem kX8_noteMover (l : Launch) (D : va_G) (cI cZ : ClassId) (ad : Nat → Nat) (x1 : Int32) (x2 : Int32) (σ : St) (z : Int32 × St) (h : fX8_noteMover x1 x2 σ = some z) : pw_MV l D shC cI cZ ad yX8_noteMover cX8_noteMover 4 none (pw_rm 0) [.ref (ad 22), .int x1, .int x2] σ z.2 := by
  refine pw_ofV (by decide) (Nat.le_of_ble_eq_true rfl) ?_
  intro p e s m args below meth c A C hw ls hl
  obtain ⟨hx, hb, hr, hts, hown, hlk, hml, hK, hN⟩ := id C
  have hl : lv_has ls 4 [(0, .ref (ad 22)), (1, .int x1), (2, .int x2)] := hl
  unfold fX8_noteMover at h
  refine lv_iconst (v := 0) hx hb dX8_noteMover_0 (by decide) ?_
  refine lv_istore_n (lv' := [(3, .int 0), (0, .ref (ad 22)), (1, .int x1), (2, .int x2)]) hx hb dX8_noteMover_1 rfl hl (by decide) rfl (fun ls hl => ?_)
  exact wX8_noteMover_b2 C  _ _ _ _ _ _ _ _ hw (lv_sub hl [1, 2, 3, 0] rfl) h
set_option maxRecDepth 100000 in
set_option maxHeartbeats 4000000 in
theorem wJ6_numberOfTrailingZeros_0f7a4_b62 {p : Program} {l : Launch} {e : Env} {s : State} {m : MethodId} {args : Array Value} {below : List Frame} {meth : Method} {c : Code} {D : va_G} {cI cZ : ClassId} {ad : Nat → Nat} {A : Nat → Prop} {z : Int32 × St}  (C : pw_C p s m args meth c yJ6_numberOfTrailingZeros_0f7a4.cls cJ6_numberOfTrailingZeros_0f7a4 2 (some .int) D cI cZ) : ∀ (x0 : Int32) (x1 : Int32) (σ : St) (H : Heap) (locs : List Loc) (ls : Array Slot), pw_H D (pw_w shC cI cZ ad σ) A s.heap H locs → lv_has ls 2 [(0, .int x0), (1, .int x1)] → fJ6_numberOfTrailingZeros_0f7a4_b62  x0 x1 σ = some z → W p l e (pw_rm 0) s m args below meth c H locs 0 0 (pw_QI below args s D (pw_w shC cI cZ ad) A z) (F0 m 62 ls []) := by
  obtain ⟨hx, hb, hr, hts, hown, hlk, hml, hK, hN⟩ := id C
  intro x0 x1 σ H locs ls hw hl h
  unfold fJ6_numberOfTrailingZeros_0f7a4_b62 at h
  refine lv_iload_n hx hb dJ6_numberOfTrailingZeros_0f7a4_62 rfl (lv_at hl 0 rfl) ?_
  refine lv_iconst (v := 4) hx hb dJ6_numberOfTrailingZeros_0f7a4_63 (by decide) ?_
  refine lv_icmp_le (tgt := 74) hx hb dJ6_numberOfTrailingZeros_0f7a4_64 (by decide) (fun hc => ?_) (fun hc => ?_)
  · replace h := pw_t hc h
    refine lv_iload_n hx hb dJ6_numberOfTrailingZeros_0f7a4_74 rfl (lv_at hl 1 rfl) ?_
    refine lv_iload_n hx hb dJ6_numberOfTrailingZeros_0f7a4_75 rfl (lv_at hl 0 rfl) ?_
    refine lv_iconst (v := 1) hx hb dJ6_numberOfTrailingZeros_0f7a4_76 (by decide) ?_
    refine lv_iushr (v := (x0.toUInt32 >>> ((1 : Int32).toUInt32 &&& Int32.toUInt32 31)).toInt32) hx hb dJ6_numberOfTrailingZeros_0f7a4_77 rfl ?_
    refine lv_iadd hx hb dJ6_numberOfTrailingZeros_0f7a4_78 ?_
    exact r_iret C hw dJ6_numberOfTrailingZeros_0f7a4_79 h
  · replace h := pw_f hc h
    refine lv_iinc (v := (x1 + 2)) (lv' := [(1, .int (x1 + 2)), (0, .int x0)]) hx hb dJ6_numberOfTrailingZeros_0f7a4_67 hl (k := 1) rfl rfl (by decide) rfl (fun ls hl => ?_)
    refine lv_iload_n hx hb dJ6_numberOfTrailingZeros_0f7a4_70 rfl (lv_at hl 1 rfl) ?_
    refine lv_iconst (v := 2) hx hb dJ6_numberOfTrailingZeros_0f7a4_71 (by decide) ?_
    refine lv_iushr (v := (x0.toUInt32 >>> ((2 : Int32).toUInt32 &&& Int32.toUInt32 31)).toInt32) hx hb dJ6_numberOfTrailingZeros_0f7a4_72 rfl ?_
    refine r_leti h (fun v1 h => ?_)
    refine lv_istore_n (lv' := [(0, .int v1), (1, .int (x1 + 2))]) hx hb dJ6_numberOfTrailingZeros_0f7a4_73 rfl hl (by decide) rfl (fun ls hl => ?_)
    refine lv_iload_n hx hb dJ6_numberOfTrailingZeros_0f7a4_74 rfl (lv_at hl 1 rfl) ?_
    refine lv_iload_n hx hb dJ6_numberOfTrailingZeros_0f7a4_75 rfl (lv_at hl 0 rfl) ?_
    refine lv_iconst (v := 1) hx hb dJ6_numberOfTrailingZeros_0f7a4_76 (by decide) ?_
    refine lv_iushr (v := (v1.toUInt32 >>> ((1 : Int32).toUInt32 &&& Int32.toUInt32 31)).toInt32) hx hb dJ6_numberOfTrailingZeros_0f7a4_77 rfl ?_
    refine lv_iadd hx hb dJ6_numberOfTrailingZeros_0f7a4_78 ?_
    exact r_iret C hw dJ6_numberOfTrailingZeros_0f7a4_79 h
set_option maxRecDepth 100000 in
set_option maxHeartbeats 4000000 in
theorem wJ6_numberOfTrailingZeros_0f7a4_b34 {p : Program} {l : Launch} {e : Env} {s : State} {m : MethodId} {args : Array Value} {below : List Frame} {meth : Method} {c : Code} {D : va_G} {cI cZ : ClassId} {ad : Nat → Nat} {A : Nat → Prop} {z : Int32 × St}  (C : pw_C p s m args meth c yJ6_numberOfTrailingZeros_0f7a4.cls cJ6_numberOfTrailingZeros_0f7a4 2 (some .int) D cI cZ) : ∀ (x0 : Int32) (x1 : Int32) (σ : St) (H : Heap) (locs : List Loc) (ls : Array Slot), pw_H D (pw_w shC cI cZ ad σ) A s.heap H locs → lv_has ls 2 [(0, .int x0), (1, .int x1)] → fJ6_numberOfTrailingZeros_0f7a4_b34  x0 x1 σ = some z → W p l e (pw_rm 0) s m args below meth c H locs 0 0 (pw_QI below args s D (pw_w shC cI cZ ad) A z) (F0 m 34 ls []) := by
  obtain ⟨hx, hb, hr, hts, hown, hlk, hml, hK, hN⟩ := id C
  intro x0 x1 σ H locs ls hw hl h
  unfold fJ6_numberOfTrailingZeros_0f7a4_b34 at h
  refine lv_iload_n hx hb dJ6_numberOfTrailingZeros_0f7a4_34 rfl (lv_at hl 0 rfl) ?_
  refine lv_sipush (v := 256) hx hb dJ6_numberOfTrailingZeros_0f7a4_35 (by decide) ?_
  refine lv_icmp_le (tgt := 49) hx hb dJ6_numberOfTrailingZeros_0f7a4_38 (by decide) (fun hc => ?_) (fun hc => ?_)
  · replace h := pw_t hc h
    refine lv_iload_n hx hb dJ6_numberOfTrailingZeros_0f7a4_49 rfl (lv_at hl 0 rfl) ?_
    refine lv_bipush (v := 16) hx hb dJ6_numberOfTrailingZeros_0f7a4_50 (by decide) ?_
    refine lv_icmp_le (tgt := 62) hx hb dJ6_numberOfTrailingZeros_0f7a4_52 (by decide) (fun hc => ?_) (fun hc => ?_)
    · replace h := pw_t hc h
      exact wJ6_numberOfTrailingZeros_0f7a4_b62 C  _ _ _ _ _ _ hw (lv_sub hl [0, 1] rfl) h
    · replace h := pw_f hc h
      refine lv_iinc (v := (x1 + 4)) (lv' := [(1, .int (x1 + 4)), (0, .int x0)]) hx hb dJ6_numberOfTrailingZeros_0f7a4_55 hl (k := 1) rfl rfl (by decide) rfl (fun ls hl => ?_)
      refine lv_iload_n hx hb dJ6_numberOfTrailingZeros_0f7a4_58 rfl (lv_at hl 1 rfl) ?_
      refine lv_iconst (v := 4) hx hb dJ6_numberOfTrailingZeros_0f7a4_59 (by decide) ?_
      refine lv_iushr (v := (x0.toUInt32 >>> ((4 : Int32).toUInt32 &&& Int32.toUInt32 31)).toInt32) hx hb dJ6_numberOfTrailingZeros_0f7a4_60 rfl ?_
      refine r_leti h (fun v2 h => ?_)
      refine lv_istore_n (lv' := [(0, .int v2), (1, .int (x1 + 4))]) hx hb dJ6_numberOfTrailingZeros_0f7a4_61 rfl hl (by decide) rfl (fun ls hl => ?_)
      exact wJ6_numberOfTrailingZeros_0f7a4_b62 C  _ _ _ _ _ _ hw (lv_sub hl [0, 1] rfl) h
  · replace h := pw_f hc h
    refine lv_iinc (v := (x1 + 8)) (lv' := [(1, .int (x1 + 8)), (0, .int x0)]) hx hb dJ6_numberOfTrailingZeros_0f7a4_41 hl (k := 1) rfl rfl (by decide) rfl (fun ls hl => ?_)
    refine lv_iload_n hx hb dJ6_numberOfTrailingZeros_0f7a4_44 rfl (lv_at hl 1 rfl) ?_
    refine lv_bipush (v := 8) hx hb dJ6_numberOfTrailingZeros_0f7a4_45 (by decide) ?_
    refine lv_iushr (v := (x0.toUInt32 >>> ((8 : Int32).toUInt32 &&& Int32.toUInt32 31)).toInt32) hx hb dJ6_numberOfTrailingZeros_0f7a4_47 rfl ?_
    refine r_leti h (fun v3 h => ?_)
    refine lv_istore_n (lv' := [(0, .int v3), (1, .int (x1 + 8))]) hx hb dJ6_numberOfTrailingZeros_0f7a4_48 rfl hl (by decide) rfl (fun ls hl => ?_)
    refine lv_iload_n hx hb dJ6_numberOfTrailingZeros_0f7a4_49 rfl (lv_at hl 0 rfl) ?_
    refine lv_bipush (v := 16) hx hb dJ6_numberOfTrailingZeros_0f7a4_50 (by decide) ?_
    refine lv_icmp_le (tgt := 62) hx hb dJ6_numberOfTrailingZeros_0f7a4_52 (by decide) (fun hc => ?_) (fun hc => ?_)
    · replace h := pw_t hc h
      exact wJ6_numberOfTrailingZeros_0f7a4_b62 C  _ _ _ _ _ _ hw (lv_sub hl [0, 1] rfl) h
    · replace h := pw_f hc h
      refine lv_iinc (v := ((x1 + 8) + 4)) (lv' := [(1, .int ((x1 + 8) + 4)), (0, .int v3)]) hx hb dJ6_numberOfTrailingZeros_0f7a4_55 hl (k := 1) rfl rfl (by decide) rfl (fun ls hl => ?_)
      refine lv_iload_n hx hb dJ6_numberOfTrailingZeros_0f7a4_58 rfl (lv_at hl 1 rfl) ?_
      refine lv_iconst (v := 4) hx hb dJ6_numberOfTrailingZeros_0f7a4_59 (by decide) ?_
      refine lv_iushr (v := (v3.toUInt32 >>> ((4 : Int32).toUInt32 &&& Int32.toUInt32 31)).toInt32) hx hb dJ6_numberOfTrailingZeros_0f7a4_60 rfl ?_
      refine r_leti h (fun v4 h => ?_)
      refine lv_istore_n (lv' := [(0, .int v4), (1, .int ((x1 + 8) + 4))]) hx hb dJ6_numberOfTrailingZeros_0f7a4_61 rfl hl (by decide) rfl (fun ls hl => ?_)
      exact wJ6_numberOfTrailingZeros_0f7a4_b62 C  _ _ _ _ _ _ hw (lv_sub hl [0, 1] rfl) h
set_option maxRecDepth 100000 in
set_option maxHeartbeats 4000000 in
theorem kJ6_numberOfTrailingZeros_0f7a4 (l : Launch) (D : va_G) (cI cZ : ClassId) (ad : Nat → Nat) (x0 : Int32) (σ : St) (z : Int32 × St) (h : fJ6_numberOfTrailingZeros_0f7a4 x0 σ = some z) : pw_MI l D shC cI cZ ad yJ6_numberOfTrailingZeros_0f7a4 cJ6_numberOfTrailingZeros_0f7a4 2 (some .int) (pw_rm 0) [.int x0] σ z.1 z.2 := by
  refine pw_ofI (by decide) (Nat.le_of_ble_eq_true rfl) ?_
  intro p e s m args below meth c A C hw ls hl
  obtain ⟨hx, hb, hr, hts, hown, hlk, hml, hK, hN⟩ := id C
  have hl : lv_has ls 2 [(0, .int x0)] := hl
  unfold fJ6_numberOfTrailingZeros_0f7a4 at h
  refine lv_iload_n hx hb dJ6_numberOfTrailingZeros_0f7a4_0 rfl (lv_at hl 0 rfl) ?_
  refine lv_iconst (v := (-1)) hx hb dJ6_numberOfTrailingZeros_0f7a4_1 (by decide) ?_
  refine lv_ixor hx hb dJ6_numberOfTrailingZeros_0f7a4_2 ?_
  refine lv_iload_n hx hb dJ6_numberOfTrailingZeros_0f7a4_3 rfl (lv_at hl 0 rfl) ?_
  refine lv_iconst (v := 1) hx hb dJ6_numberOfTrailingZeros_0f7a4_4 (by decide) ?_
  refine lv_isub hx hb dJ6_numberOfTrailingZeros_0f7a4_5 ?_
  refine lv_iand hx hb dJ6_numberOfTrailingZeros_0f7a4_6 ?_
  refine r_leti h (fun v5 h => ?_)
  refine lv_istore_n (lv' := [(0, .int v5)]) hx hb dJ6_numberOfTrailingZeros_0f7a4_7 rfl hl (by decide) rfl (fun ls hl => ?_)
  refine lv_iload_n hx hb dJ6_numberOfTrailingZeros_0f7a4_8 rfl (lv_at hl 0 rfl) ?_
  refine lv_if_gt (tgt := 17) hx hb dJ6_numberOfTrailingZeros_0f7a4_9 (by decide) (fun hc => ?_) (fun hc => ?_)
  · replace h := pw_t hc h
    refine lv_iconst (v := 1) hx hb dJ6_numberOfTrailingZeros_0f7a4_17 (by decide) ?_
    refine lv_istore_n (lv' := [(1, .int 1), (0, .int v5)]) hx hb dJ6_numberOfTrailingZeros_0f7a4_18 rfl hl (by decide) rfl (fun ls hl => ?_)
    refine lv_iload_n hx hb dJ6_numberOfTrailingZeros_0f7a4_19 rfl (lv_at hl 1 rfl) ?_
    refine lv_ldcw (v := 65536) hx hb hown (hts _ ct_J6_264) dJ6_numberOfTrailingZeros_0f7a4_20 ?_
    refine lv_icmp_le (tgt := 34) hx hb dJ6_numberOfTrailingZeros_0f7a4_23 (by decide) (fun hc => ?_) (fun hc => ?_)
    · replace h := pw_t hc h
      exact wJ6_numberOfTrailingZeros_0f7a4_b34 C  _ _ _ _ _ _ hw (lv_sub hl [1, 0] rfl) h
    · replace h := pw_f hc h
      refine lv_iinc (v := (1 + 16)) (lv' := [(1, .int (1 + 16)), (0, .int v5)]) hx hb dJ6_numberOfTrailingZeros_0f7a4_26 hl (k := 0) rfl rfl (by decide) rfl (fun ls hl => ?_)
      refine lv_iload_n hx hb dJ6_numberOfTrailingZeros_0f7a4_29 rfl (lv_at hl 1 rfl) ?_
      refine lv_bipush (v := 16) hx hb dJ6_numberOfTrailingZeros_0f7a4_30 (by decide) ?_
      refine lv_iushr (v := (v5.toUInt32 >>> ((16 : Int32).toUInt32 &&& Int32.toUInt32 31)).toInt32) hx hb dJ6_numberOfTrailingZeros_0f7a4_32 rfl ?_
      refine r_leti h (fun v6 h => ?_)
      refine lv_istore_n (lv' := [(0, .int v6), (1, .int (1 + 16))]) hx hb dJ6_numberOfTrailingZeros_0f7a4_33 rfl hl (by decide) rfl (fun ls hl => ?_)
      exact wJ6_numberOfTrailingZeros_0f7a4_b34 C  _ _ _ _ _ _ hw (lv_sub hl [0, 1] rfl) h
  · replace h := pw_f hc h
    refine lv_iload_n hx hb dJ6_numberOfTrailingZeros_0f7a4_12 rfl (lv_at hl 0 rfl) ?_
    refine lv_bipush (v := 32) hx hb dJ6_numberOfTrailingZeros_0f7a4_13 (by decide) ?_
    refine lv_iand hx hb dJ6_numberOfTrailingZeros_0f7a4_15 ?_
    exact r_iret C hw dJ6_numberOfTrailingZeros_0f7a4_16 h
set_option maxRecDepth 100000 in
set_option maxHeartbeats 4000000 in
theorem wX8_findSeat_b21 {p : Program} {l : Launch} {e : Env} {s : State} {m : MethodId} {args : Array Value} {below : List Frame} {meth : Method} {c : Code} {D : va_G} {cI cZ : ClassId} {ad : Nat → Nat} {A : Nat → Prop} {z : Int32 × St}  (C : pw_C p s m args meth c yX8_findSeat.cls cX8_findSeat 9 (some .boolean) D cI cZ) : ∀ (n : Nat) (x2 : Int32) (x3 : Int32) (x4 : Int32) (x5 : Int32) (σ : St) (H : Heap) (locs : List Loc) (ls : Array Slot), pw_H D (pw_w shC cI cZ ad σ) A s.heap H locs → lv_has ls 9 [(0, .ref (ad 22)), (2, .int x2), (3, .int x3), (4, .int x4), (5, .int x5)] → fX8_findSeat_b21  n x2 x3 x4 x5 σ = some z → W p l e (pw_rm 1) s m args below meth c H locs 0 0 (pw_QI below args s D (pw_w shC cI cZ ad) A z) (F0 m 21 ls []) := by
  obtain ⟨hx, hb, hr, hts, hown, hlk, hml, hK, hN⟩ := id C
  intro n
  induction n with
  | zero =>
    intro x2 x3 x4 x5 σ H locs ls hw hl h
    exact absurd h (by simp [fX8_findSeat_b21])
  | succ n ih =>
    intro x2 x3 x4 x5 σ H locs ls hw hl h
    rw [fX8_findSeat_b21] at h
    refine lv_iload hx hb dX8_findSeat_21 (lv_at hl 4 rfl) ?_
    refine lv_bipush (v := 12) hx hb dX8_findSeat_23 (by decide) ?_
    refine lv_icmp_ge (tgt := 114) hx hb dX8_findSeat_25 (by decide) (fun hc => ?_) (fun hc => ?_)
    · replace h := pw_t hc h
      refine lv_iconst (v := 0) hx hb dX8_findSeat_114 (by decide) ?_
      exact r_zret C hw dX8_findSeat_115 h
    · replace h := pw_f hc h
      refine lv_iload hx hb dX8_findSeat_28 (lv_at hl 3 rfl) ?_
      refine lv_if_eq (tgt := 114) hx hb dX8_findSeat_30 (by decide) (fun hc => ?_) (fun hc => ?_)
      · replace h := pw_t hc h
        refine lv_iconst (v := 0) hx hb dX8_findSeat_114 (by decide) ?_
        exact r_zret C hw dX8_findSeat_115 h
      · replace h := pw_f hc h
        refine lv_iload hx hb dX8_findSeat_33 (lv_at hl 3 rfl) ?_
        obtain ⟨v3, σ2, e1, h⟩ := cal_some h
        refine r_cSI C hw (sh := shC) (ad := ad) (As := [.int x4]) (rest := []) (kJ6_numberOfTrailingZeros_0f7a4 l D cI cZ ad _ _ _ e1) YJ6_numberOfTrailingZeros_0f7a4 ml_X8_60 (pw_rmOK (by omega) (by decide)) rfl hl.1 rfl (Nat.le_of_ble_eq_true rfl) dX8_findSeat_35 ⟨Nat.zero_le _, Nat.zero_le _⟩ (fun H locs hw => ?_)
        refine lv_istore (lv' := [(6, .int v3), (0, .ref (ad 22)), (2, .int x2), (3, .int x3), (4, .int x4), (5, .int x5)]) hx hb dX8_findSeat_38 hl (by decide) rfl (fun ls hl => ?_)
        refine lv_iload hx hb dX8_findSeat_40 (lv_at hl 4 rfl) ?_
        refine lv_iload hx hb dX8_findSeat_42 (lv_at hl 4 rfl) ?_
        refine lv_iconst (v := 1) hx hb dX8_findSeat_44 (by decide) ?_
        refine lv_isub hx hb dX8_findSeat_45 ?_
        refine lv_iand hx hb dX8_findSeat_46 ?_
        refine r_leti h (fun v4 h => ?_)
        refine lv_istore (lv' := [(4, .int v4), (6, .int v3), (0, .ref (ad 22)), (2, .int x2), (3, .int x3), (5, .int x5)]) hx hb dX8_findSeat_47 hl (by decide) rfl (fun ls hl => ?_)
        refine lv_aload_n hx hb dX8_findSeat_49 rfl (lv_at hl 2 rfl) ?_
        refine r_get C hw qC_22 clsX8 6 rfl (by decide) fl_X8_30 dX8_findSeat_50 (v := .ref (ad 29)) rfl ?_
        refine lv_iload hx hb dX8_findSeat_53 (lv_at hl 1 rfl) ?_
        refine r_iald C hw qC_29 dX8_findSeat_55 h (fun v5 h => ?_)
        refine lv_istore (lv' := [(7, .int v5), (4, .int v4), (6, .int v3), (0, .ref (ad 22)), (2, .int x2), (3, .int x3), (5, .int x5)]) hx hb dX8_findSeat_56 hl (by decide) rfl (fun ls hl => ?_)
        refine lv_iload hx hb dX8_findSeat_58 (lv_at hl 0 rfl) ?_
        refine lv_bipush (v := (-9)) hx hb dX8_findSeat_60 (by decide) ?_
        refine lv_icmp_ne (tgt := 73) hx hb dX8_findSeat_62 (by decide) (fun hc => ?_) (fun hc => ?_)
        · replace h := pw_f hc h
          refine lv_aload_n hx hb dX8_findSeat_73 rfl (lv_at hl 3 rfl) ?_
          refine r_get C hw qC_22 clsX8 2 rfl (by decide) fl_X8_18 dX8_findSeat_74 (v := .ref (ad 25)) rfl ?_
          refine lv_iload hx hb dX8_findSeat_77 (lv_at hl 0 rfl) ?_
          refine r_iald C hw qC_25 dX8_findSeat_79 h (fun v6 h => ?_)
          refine lv_iload_n hx hb dX8_findSeat_80 rfl (lv_at hl 4 rfl) ?_
          refine lv_iand hx hb dX8_findSeat_81 ?_
          refine lv_iload_n hx hb dX8_findSeat_82 rfl (lv_at hl 5 rfl) ?_
          refine lv_iconst (v := (-1)) hx hb dX8_findSeat_83 (by decide) ?_
          refine lv_ixor hx hb dX8_findSeat_84 ?_
          refine lv_iand hx hb dX8_findSeat_85 ?_
          refine r_leti h (fun v7 h => ?_)
          refine lv_istore (lv' := [(8, .int v7), (7, .int v5), (4, .int v4), (6, .int v3), (0, .ref (ad 22)), (2, .int x2), (3, .int x3), (5, .int x5)]) hx hb dX8_findSeat_86 hl (by decide) rfl (fun ls hl => ?_)
          refine lv_aload_n hx hb dX8_findSeat_88 rfl (lv_at hl 4 rfl) ?_
          refine lv_iload hx hb dX8_findSeat_89 (lv_at hl 0 rfl) ?_
          refine lv_iload hx hb dX8_findSeat_91 (lv_at hl 1 rfl) ?_
          obtain ⟨r10, σ9, e8, h⟩ := cal_some h
          refine r_cVV C hw (As := [.int v7, .int v5]) (rest := []) (kX8_noteMover l D cI cZ ad _ _ _ _ e8) YX8_noteMover ml_X8_56 qC_22 clsX8 (pw_rmOK (by omega) (by decide)) rfl hl.1 rfl (Nat.le_of_ble_eq_true rfl) dX8_findSeat_93 ⟨Nat.zero_le _, Nat.zero_le _⟩ (fun H locs hw => ?_)
          refine lv_iload_n hx hb dX8_findSeat_96 rfl (lv_at hl 6 rfl) ?_
          refine lv_iload hx hb dX8_findSeat_97 (lv_at hl 0 rfl) ?_
          refine lv_ior hx hb dX8_findSeat_99 ?_
          refine lv_istore_n (lv' := [(3, .int (x3 ||| v7)), (8, .int v7), (7, .int v5), (4, .int v4), (6, .int v3), (0, .ref (ad 22)), (2, .int x2), (5, .int x5)]) hx hb dX8_findSeat_100 rfl hl (by decide) rfl (fun ls hl => ?_)
          refine lv_iload hx hb dX8_findSeat_101 (lv_at hl 3 rfl) ?_
          refine lv_iload hx hb dX8_findSeat_103 (lv_at hl 1 rfl) ?_
          refine lv_ior hx hb dX8_findSeat_105 ?_
          refine lv_istore (lv' := [(4, .int (v4 ||| v7)), (3, .int (x3 ||| v7)), (8, .int v7), (7, .int v5), (6, .int v3), (0, .ref (ad 22)), (2, .int x2), (5, .int x5)]) hx hb dX8_findSeat_106 hl (by decide) rfl (fun ls hl => ?_)
          refine lv_iinc (v := (x5 + 1)) (lv' := [(5, .int (x5 + 1)), (4, .int (v4 ||| v7)), (3, .int (x3 ||| v7)), (8, .int v7), (7, .int v5), (6, .int v3), (0, .ref (ad 22)), (2, .int x2)]) hx hb dX8_findSeat_108 hl (k := 7) rfl rfl (by decide) rfl (fun ls hl => ?_)
          refine lv_goto (tgt := 21) hx hb dX8_findSeat_111 (by decide) ?_
          exact ih _ _ _ _ _ _ _ _ hw (lv_sub hl [6, 7, 2, 1, 0] rfl) h
        · replace h := pw_t hc h
          refine lv_aload_n hx hb dX8_findSeat_65 rfl (lv_at hl 3 rfl) ?_
          refine lv_iload hx hb dX8_findSeat_66 (lv_at hl 2 rfl) ?_
          obtain ⟨r13, σ12, e11, h⟩ := cal_some h
          refine r_cVV C hw (As := [.int v3]) (rest := []) (kX8_moveAlong l D cI cZ ad _ _ _ e11) YX8_moveAlong ml_X8_66 qC_22 clsX8 (pw_rmOK (by omega) (by decide)) rfl hl.1 rfl (Nat.le_of_ble_eq_true rfl) dX8_findSeat_68 ⟨Nat.zero_le _, Nat.zero_le _⟩ (fun H locs hw => ?_)
          refine lv_iconst (v := 1) hx hb dX8_findSeat_71 (by decide) ?_
          exact r_zret C hw dX8_findSeat_72 h
set_option maxRecDepth 100000 in
set_option maxHeartbeats 4000000 in
theorem kX8_findSeat (l : Launch) (D : va_G) (cI cZ : ClassId) (ad : Nat → Nat) (x1 : Int32) (x2 : Int32) (σ : St) (z : Int32 × St) (h : fX8_findSeat x1 x2 σ = some z) : pw_MI l D shC cI cZ ad yX8_findSeat cX8_findSeat 9 (some .boolean) (pw_rm 1) [.ref (ad 22), .int x1, .int x2] σ z.1 z.2 := by
  refine pw_ofI (by decide) (Nat.le_of_ble_eq_true rfl) ?_
  intro p e s m args below meth c A C hw ls hl
  obtain ⟨hx, hb, hr, hts, hown, hlk, hml, hK, hN⟩ := id C
  have hl : lv_has ls 9 [(0, .ref (ad 22)), (1, .int x1), (2, .int x2)] := hl
  unfold fX8_findSeat at h
  refine lv_aload_n hx hb dX8_findSeat_0 rfl (lv_at hl 0 rfl) ?_
  refine r_get C hw qC_22 clsX8 2 rfl (by decide) fl_X8_18 dX8_findSeat_1 (v := .ref (ad 25)) rfl ?_
  refine lv_iload_n hx hb dX8_findSeat_4 rfl (lv_at hl 1 rfl) ?_
  refine r_iald C hw qC_25 dX8_findSeat_5 h (fun v14 h => ?_)
  refine lv_iload_n hx hb dX8_findSeat_6 rfl (lv_at hl 2 rfl) ?_
  refine lv_iand hx hb dX8_findSeat_7 ?_
  refine lv_istore_n (lv' := [(3, .int (v14 &&& x2)), (0, .ref (ad 22)), (1, .int x1), (2, .int x2)]) hx hb dX8_findSeat_8 rfl hl (by decide) rfl (fun ls hl => ?_)
  refine lv_iload_n hx hb dX8_findSeat_9 rfl (lv_at hl 0 rfl) ?_
  refine lv_istore (lv' := [(4, .int (v14 &&& x2)), (3, .int (v14 &&& x2)), (0, .ref (ad 22)), (1, .int x1), (2, .int x2)]) hx hb dX8_findSeat_10 hl (by decide) rfl (fun ls hl => ?_)
  refine lv_aload_n hx hb dX8_findSeat_12 rfl (lv_at hl 2 rfl) ?_
  refine lv_iload_n hx hb dX8_findSeat_13 rfl (lv_at hl 1 rfl) ?_
  refine lv_iload_n hx hb dX8_findSeat_14 rfl (lv_at hl 3 rfl) ?_
  obtain ⟨r17, σ16, e15, h⟩ := cal_some h
  refine r_cVV C hw (As := [.int (v14 &&& x2), .int x1]) (rest := []) (kX8_noteMover l D cI cZ ad _ _ _ _ e15) YX8_noteMover ml_X8_56 qC_22 clsX8 (pw_rmOK (by omega) (by decide)) rfl hl.1 rfl (Nat.le_of_ble_eq_true rfl) dX8_findSeat_15 ⟨Nat.zero_le _, Nat.zero_le _⟩ (fun H locs hw => ?_)
  refine lv_iconst (v := 0) hx hb dX8_findSeat_18 (by decide) ?_
  refine lv_istore (lv' := [(5, .int 0), (4, .int (v14 &&& x2)), (3, .int (v14 &&& x2)), (0, .ref (ad 22)), (1, .int x1), (2, .int x2)]) hx hb dX8_findSeat_19 hl (by decide) rfl (fun ls hl => ?_)
  exact wX8_findSeat_b21 C  _ _ _ _ _ _ _ _ _ hw (lv_sub hl [3, 5, 2, 1, 0] rfl) h
set_option maxRecDepth 100000 in
set_option maxHeartbeats 4000000 in
theorem wX8_worthFrom_b51 {p : Program} {l : Launch} {e : Env} {s : State} {m : MethodId} {args : Array Value} {below : List Frame} {meth : Method} {c : Code} {D : va_G} {cI cZ : ClassId} {ad : Nat → Nat} {A : Nat → Prop} {z : Int32 × St}  (C : pw_C p s m args meth c yX8_worthFrom.cls cX8_worthFrom 6 (some .int) D cI cZ) : ∀ (n : Nat) (x1 : Int32) (x2 : Int32) (x3 : Int32) (x4 : Int32) (σ : St) (H : Heap) (locs : List Loc) (ls : Array Slot), pw_H D (pw_w shC cI cZ ad σ) A s.heap H locs → lv_has ls 6 [(0, .ref (ad 22)), (1, .int x1), (2, .int x2), (3, .int x3), (4, .int x4)] → fX8_worthFrom_b51  n x1 x2 x3 x4 σ = some z → W p l e (pw_rm 2) s m args below meth c H locs 0 0 (pw_QI below args s D (pw_w shC cI cZ ad) A z) (F0 m 51 ls []) := by
  obtain ⟨hx, hb, hr, hts, hown, hlk, hml, hK, hN⟩ := id C
  intro n
  induction n with
  | zero =>
    intro x1 x2 x3 x4 σ H locs ls hw hl h
    exact absurd h (by simp [fX8_worthFrom_b51])
  | succ n ih =>
    intro x1 x2 x3 x4 σ H locs ls hw hl h
    rw [fX8_worthFrom_b51] at h
    refine lv_iload hx hb dX8_worthFrom_51 (lv_at hl 4 rfl) ?_
    refine lv_aload_n hx hb dX8_worthFrom_53 rfl (lv_at hl 0 rfl) ?_
    refine r_get C hw qC_22 clsX8 8 rfl (by decide) fl_X8_36 dX8_worthFrom_54 (v := .int (σ 22 8)) rfl ?_
    refine lv_icmp_ge (tgt := 101) hx hb dX8_worthFrom_57 (by decide) (fun hc => ?_) (fun hc => ?_)
    · replace h := pw_t hc h
      refine lv_iload_n hx hb dX8_worthFrom_101 rfl (lv_at hl 3 rfl) ?_
      exact r_iret C hw dX8_worthFrom_102 h
    · replace h := pw_f hc h
      refine lv_aload_n hx hb dX8_worthFrom_60 rfl (lv_at hl 0 rfl) ?_
      refine r_get C hw qC_22 clsX8 4 rfl (by decide) fl_X8_24 dX8_worthFrom_61 (v := .ref (ad 27)) rfl ?_
      refine lv_iload hx hb dX8_worthFrom_64 (lv_at hl 4 rfl) ?_
      refine r_iald C hw qC_27 dX8_worthFrom_66 h (fun v1 h => ?_)
      refine lv_istore (lv' := [(5, .int v1), (0, .ref (ad 22)), (1, .int x1), (2, .int x2), (3, .int x3), (4, .int x4)]) hx hb dX8_worthFrom_67 hl (by decide) rfl (fun ls hl => ?_)
      refine lv_iload hx hb dX8_worthFrom_69 (lv_at hl 0 rfl) ?_
      refine lv_iload_n hx hb dX8_worthFrom_71 rfl (lv_at hl 2 rfl) ?_
      refine lv_icmp_lt (tgt := 95) hx hb dX8_worthFrom_72 (by decide) (fun hc => ?_) (fun hc => ?_)
      · replace h := pw_t hc h
        refine lv_iinc (v := (x4 + 1)) (lv' := [(4, .int (x4 + 1)), (5, .int v1), (0, .ref (ad 22)), (1, .int x1), (2, .int x2), (3, .int x3)]) hx hb dX8_worthFrom_95 hl (k := 5) rfl rfl (by decide) rfl (fun ls hl => ?_)
        refine lv_goto (tgt := 51) hx hb dX8_worthFrom_98 (by decide) ?_
        exact ih _ _ _ _ _ _ _ _ hw (lv_sub hl [2, 3, 4, 5, 0] rfl) h
      · replace h := pw_f hc h
        refine lv_aload_n hx hb dX8_worthFrom_75 rfl (lv_at hl 1 rfl) ?_
        refine lv_iload hx hb dX8_worthFrom_76 (lv_at hl 0 rfl) ?_
        refine lv_iload_n hx hb dX8_worthFrom_78 rfl (lv_at hl 3 rfl) ?_
        obtain ⟨v4, σ3, e2, h⟩ := cal_some h
        refine r_cVI C hw (As := [.int v1, .int x2]) (rest := []) (kX8_findSeat l D cI cZ ad _ _ _ _ e2) YX8_findSeat ml_X8_52 qC_22 clsX8 (pw_rmOK (by omega) (by decide)) rfl hl.1 rfl (Nat.le_of_ble_eq_true rfl) dX8_worthFrom_79 ⟨Nat.zero_le _, Nat.zero_le _⟩ (fun H locs hw => ?_)
        refine lv_if_eq (tgt := 95) hx hb dX8_worthFrom_82 (by decide) (fun hc => ?_) (fun hc => ?_)
        · replace h := pw_t hc h
          refine lv_iinc (v := (x4 + 1)) (lv' := [(4, .int (x4 + 1)), (5, .int v1), (0, .ref (ad 22)), (1, .int x1), (2, .int x2), (3, .int x3)]) hx hb dX8_worthFrom_95 hl (k := 5) rfl rfl (by decide) rfl (fun ls hl => ?_)
          refine lv_goto (tgt := 51) hx hb dX8_worthFrom_98 (by decide) ?_
          exact ih _ _ _ _ _ _ _ _ hw (lv_sub hl [2, 3, 4, 5, 0] rfl) h
        · replace h := pw_f hc h
          refine lv_iload_n hx hb dX8_worthFrom_85 rfl (lv_at hl 4 rfl) ?_
          refine lv_aload_n hx hb dX8_worthFrom_86 rfl (lv_at hl 1 rfl) ?_
          refine r_get C hw qC_22 clsX8 1 rfl (by decide) fl_X8_15 dX8_worthFrom_87 (v := .ref (ad 24)) rfl ?_
          refine lv_iload hx hb dX8_worthFrom_90 (lv_at hl 0 rfl) ?_
          refine r_iald C hw qC_24 dX8_worthFrom_92 h (fun v5 h => ?_)
          refine lv_iadd hx hb dX8_worthFrom_93 ?_
          refine lv_istore_n (lv' := [(3, .int (x3 + v5)), (5, .int v1), (0, .ref (ad 22)), (1, .int x1), (2, .int x2), (4, .int x4)]) hx hb dX8_worthFrom_94 rfl hl (by decide) rfl (fun ls hl => ?_)
          refine lv_iinc (v := (x4 + 1)) (lv' := [(4, .int (x4 + 1)), (3, .int (x3 + v5)), (5, .int v1), (0, .ref (ad 22)), (1, .int x1), (2, .int x2)]) hx hb dX8_worthFrom_95 hl (k := 5) rfl rfl (by decide) rfl (fun ls hl => ?_)
          refine lv_goto (tgt := 51) hx hb dX8_worthFrom_98 (by decide) ?_
          exact ih _ _ _ _ _ _ _ _ hw (lv_sub hl [3, 4, 5, 1, 0] rfl) h
set_option maxRecDepth 100000 in
set_option maxHeartbeats 4000000 in
theorem wX8_worthFrom_b26 {p : Program} {l : Launch} {e : Env} {s : State} {m : MethodId} {args : Array Value} {below : List Frame} {meth : Method} {c : Code} {D : va_G} {cI cZ : ClassId} {ad : Nat → Nat} {A : Nat → Prop} {z : Int32 × St}  (C : pw_C p s m args meth c yX8_worthFrom.cls cX8_worthFrom 6 (some .int) D cI cZ) : ∀ (n : Nat) (x1 : Int32) (x2 : Int32) (x3 : Int32) (σ : St) (H : Heap) (locs : List Loc) (ls : Array Slot), pw_H D (pw_w shC cI cZ ad σ) A s.heap H locs → lv_has ls 6 [(0, .ref (ad 22)), (1, .int x1), (2, .int x2), (3, .int x3)] → fX8_worthFrom_b26  n x1 x2 x3 σ = some z → W p l e (pw_rm 2) s m args below meth c H locs 0 0 (pw_QI below args s D (pw_w shC cI cZ ad) A z) (F0 m 26 ls []) := by
  obtain ⟨hx, hb, hr, hts, hown, hlk, hml, hK, hN⟩ := id C
  intro n
  induction n with
  | zero =>
    intro x1 x2 x3 σ H locs ls hw hl h
    exact absurd h (by simp [fX8_worthFrom_b26])
  | succ n ih =>
    intro x1 x2 x3 σ H locs ls hw hl h
    rw [fX8_worthFrom_b26] at h
    refine lv_iload_n hx hb dX8_worthFrom_26 rfl (lv_at hl 3 rfl) ?_
    refine lv_bipush (v := 12) hx hb dX8_worthFrom_27 (by decide) ?_
    refine lv_icmp_ge (tgt := 46) hx hb dX8_worthFrom_29 (by decide) (fun hc => ?_) (fun hc => ?_)
    · replace h := pw_t hc h
      refine lv_iconst (v := 0) hx hb dX8_worthFrom_46 (by decide) ?_
      refine lv_istore_n (lv' := [(3, .int 0), (0, .ref (ad 22)), (1, .int x1), (2, .int x2)]) hx hb dX8_worthFrom_47 rfl hl (by decide) rfl (fun ls hl => ?_)
      refine lv_iconst (v := 0) hx hb dX8_worthFrom_48 (by decide) ?_
      refine lv_istore (lv' := [(4, .int 0), (3, .int 0), (0, .ref (ad 22)), (1, .int x1), (2, .int x2)]) hx hb dX8_worthFrom_49 hl (by decide) rfl (fun ls hl => ?_)
      exact wX8_worthFrom_b51 C  _ _ _ _ _ _ _ _ _ hw (lv_sub hl [2, 3, 4, 1, 0] rfl) h
    · replace h := pw_f hc h
      refine lv_aload_n hx hb dX8_worthFrom_32 rfl (lv_at hl 0 rfl) ?_
      refine r_get C hw qC_22 clsX8 6 rfl (by decide) fl_X8_30 dX8_worthFrom_33 (v := .ref (ad 29)) rfl ?_
      refine lv_iload_n hx hb dX8_worthFrom_36 rfl (lv_at hl 3 rfl) ?_
      refine lv_bipush (v := (-9)) hx hb dX8_worthFrom_37 (by decide) ?_
      refine r_iast C hw qC_29 dX8_worthFrom_39 h (fun σ6 H locs hw h => ?_)
      refine lv_iinc (v := (x3 + 1)) (lv' := [(3, .int (x3 + 1)), (0, .ref (ad 22)), (1, .int x1), (2, .int x2)]) hx hb dX8_worthFrom_40 hl (k := 3) rfl rfl (by decide) rfl (fun ls hl => ?_)
      refine lv_goto (tgt := 26) hx hb dX8_worthFrom_43 (by decide) ?_
      exact ih _ _ _ _ _ _ _ hw (lv_sub hl [1, 2, 3, 0] rfl) h
set_option maxRecDepth 100000 in
set_option maxHeartbeats 4000000 in
theorem wX8_worthFrom_b2 {p : Program} {l : Launch} {e : Env} {s : State} {m : MethodId} {args : Array Value} {below : List Frame} {meth : Method} {c : Code} {D : va_G} {cI cZ : ClassId} {ad : Nat → Nat} {A : Nat → Prop} {z : Int32 × St}  (C : pw_C p s m args meth c yX8_worthFrom.cls cX8_worthFrom 6 (some .int) D cI cZ) : ∀ (n : Nat) (x1 : Int32) (x2 : Int32) (x3 : Int32) (σ : St) (H : Heap) (locs : List Loc) (ls : Array Slot), pw_H D (pw_w shC cI cZ ad σ) A s.heap H locs → lv_has ls 6 [(0, .ref (ad 22)), (1, .int x1), (2, .int x2), (3, .int x3)] → fX8_worthFrom_b2  n x1 x2 x3 σ = some z → W p l e (pw_rm 2) s m args below meth c H locs 0 0 (pw_QI below args s D (pw_w shC cI cZ ad) A z) (F0 m 2 ls []) := by
  obtain ⟨hx, hb, hr, hts, hown, hlk, hml, hK, hN⟩ := id C
  intro n
  induction n with
  | zero =>
    intro x1 x2 x3 σ H locs ls hw hl h
    exact absurd h (by simp [fX8_worthFrom_b2])
  | succ n ih =>
    intro x1 x2 x3 σ H locs ls hw hl h
    rw [fX8_worthFrom_b2] at h
    refine lv_iload_n hx hb dX8_worthFrom_2 rfl (lv_at hl 3 rfl) ?_
    refine lv_aload_n hx hb dX8_worthFrom_3 rfl (lv_at hl 0 rfl) ?_
    refine r_get C hw qC_22 clsX8 8 rfl (by decide) fl_X8_36 dX8_worthFrom_4 (v := .int (σ 22 8)) rfl ?_
    refine lv_icmp_ge (tgt := 24) hx hb dX8_worthFrom_7 (by decide) (fun hc => ?_) (fun hc => ?_)
    · replace h := pw_t hc h
      refine lv_iconst (v := 0) hx hb dX8_worthFrom_24 (by decide) ?_
      refine lv_istore_n (lv' := [(3, .int 0), (0, .ref (ad 22)), (1, .int x1), (2, .int x2)]) hx hb dX8_worthFrom_25 rfl hl (by decide) rfl (fun ls hl => ?_)
      exact wX8_worthFrom_b26 C  _ _ _ _ _ _ _ _ hw (lv_sub hl [1, 2, 3, 0] rfl) h
    · replace h := pw_f hc h
      refine lv_aload_n hx hb dX8_worthFrom_10 rfl (lv_at hl 0 rfl) ?_
      refine r_get C hw qC_22 clsX8 5 rfl (by decide) fl_X8_27 dX8_worthFrom_11 (v := .ref (ad 28)) rfl ?_
      refine lv_iload_n hx hb dX8_worthFrom_14 rfl (lv_at hl 3 rfl) ?_
      refine lv_bipush (v := (-9)) hx hb dX8_worthFrom_15 (by decide) ?_
      refine r_iast C hw qC_28 dX8_worthFrom_17 h (fun σ7 H locs hw h => ?_)
      refine lv_iinc (v := (x3 + 1)) (lv' := [(3, .int (x3 + 1)), (0, .ref (ad 22)), (1, .int x1), (2, .int x2)]) hx hb dX8_worthFrom_18 hl (k := 3) rfl rfl (by decide) rfl (fun ls hl => ?_)
      refine lv_goto (tgt := 2) hx hb dX8_worthFrom_21 (by decide) ?_
      exact ih _ _ _ _ _ _ _ hw (lv_sub hl [1, 2, 3, 0] rfl) h
set_option maxRecDepth 100000 in
set_option maxHeartbeats 4000000 in
theorem kX8_worthFrom (l : Launch) (D : va_G) (cI cZ : ClassId) (ad : Nat → Nat) (x1 : Int32) (x2 : Int32) (σ : St) (z : Int32 × St) (h : fX8_worthFrom x1 x2 σ = some z) : pw_MI l D shC cI cZ ad yX8_worthFrom cX8_worthFrom 6 (some .int) (pw_rm 2) [.ref (ad 22), .int x1, .int x2] σ z.1 z.2 := by
  refine pw_ofI (by decide) (Nat.le_of_ble_eq_true rfl) ?_
  intro p e s m args below meth c A C hw ls hl
  obtain ⟨hx, hb, hr, hts, hown, hlk, hml, hK, hN⟩ := id C
  have hl : lv_has ls 6 [(0, .ref (ad 22)), (1, .int x1), (2, .int x2)] := hl
  unfold fX8_worthFrom at h
  refine lv_iconst (v := 0) hx hb dX8_worthFrom_0 (by decide) ?_
  refine lv_istore_n (lv' := [(3, .int 0), (0, .ref (ad 22)), (1, .int x1), (2, .int x2)]) hx hb dX8_worthFrom_1 rfl hl (by decide) rfl (fun ls hl => ?_)
  exact wX8_worthFrom_b2 C  _ _ _ _ _ _ _ _ hw (lv_sub hl [1, 2, 3, 0] rfl) h
set_option maxRecDepth 100000 in
set_option maxHeartbeats 4000000 in
theorem kX8_greatestWorth (l : Launch) (D : va_G) (cI cZ : ClassId) (ad : Nat → Nat)  (σ : St) (z : Int32 × St) (h : fX8_greatestWorth  σ = some z) : pw_MI l D shC cI cZ ad yX8_greatestWorth cX8_greatestWorth 1 (some .int) (pw_rm 3) [.ref (ad 22)] σ z.1 z.2 := by
  refine pw_ofI (by decide) (Nat.le_of_ble_eq_true rfl) ?_
  intro p e s m args below meth c A C hw ls hl
  obtain ⟨hx, hb, hr, hts, hown, hlk, hml, hK, hN⟩ := id C
  have hl : lv_has ls 1 [(0, .ref (ad 22))] := hl
  unfold fX8_greatestWorth at h
  refine lv_aload_n hx hb dX8_greatestWorth_0 rfl (lv_at hl 0 rfl) ?_
  refine lv_iconst (v := 0) hx hb dX8_greatestWorth_1 (by decide) ?_
  refine lv_sipush (v := 4095) hx hb dX8_greatestWorth_2 (by decide) ?_
  obtain ⟨v3, σ2, e1, h⟩ := cal_some h
  refine r_cVI C hw (As := [.int 0, .int 4095]) (rest := []) (kX8_worthFrom l D cI cZ ad _ _ _ _ e1) YX8_worthFrom ml_X8_40 qC_22 clsX8 (pw_rmOK (by omega) (by decide)) rfl hl.1 rfl (Nat.le_of_ble_eq_true rfl) dX8_greatestWorth_5 ⟨Nat.zero_le _, Nat.zero_le _⟩ (fun H locs hw => ?_)
  exact r_iret C hw dX8_greatestWorth_8 h
set_option maxRecDepth 100000 in
set_option maxHeartbeats 4000000 in
theorem kX10_best (l : Launch) (D : va_G) (cI cZ : ClassId) (ad : Nat → Nat)  (σ : St) (z : Int32 × St) (h : fX10_best  σ = some z) : pw_MI l D shC cI cZ ad yX10_best cX10_best 1 (some .int) (pw_rm 4) [.ref (ad 0)] σ z.1 z.2 := by
  refine pw_ofI (by decide) (Nat.le_of_ble_eq_true rfl) ?_
  intro p e s m args below meth c A C hw ls hl
  obtain ⟨hx, hb, hr, hts, hown, hlk, hml, hK, hN⟩ := id C
  have hl : lv_has ls 1 [(0, .ref (ad 0))] := hl
  unfold fX10_best at h
  refine lv_aload_n hx hb dX10_best_0 rfl (lv_at hl 0 rfl) ?_
  obtain ⟨r3, σ2, e1, h⟩ := cal_some h
  refine r_cVV C hw (As := []) (rest := []) (kX10_learnFits l D cI cZ ad _ _ e1) YX10_learnFits ml_X10_181 qC_0 clsX10 (pw_rmOK (by omega) (by decide)) rfl hl.1 rfl (Nat.le_of_ble_eq_true rfl) dX10_best_1 ⟨Nat.zero_le _, Nat.zero_le _⟩ (fun H locs hw => ?_)
  refine lv_aload_n hx hb dX10_best_4 rfl (lv_at hl 0 rfl) ?_
  refine r_get C hw qC_0 clsX10 4 rfl (by decide) fl_X10_37 dX10_best_5 (v := .ref (ad 22)) rfl ?_
  obtain ⟨v6, σ5, e4, h⟩ := cal_some h
  refine r_cNI C hw (As := []) (rest := []) (kX8_greatestWorth l D cI cZ ad _ _ e4) YX8_greatestWorth mn_X10_184 qC_22 clsX8 (pw_rmOK (by omega) (by decide)) rfl hl.1 rfl (Nat.le_of_ble_eq_true rfl) dX10_best_8 ⟨Nat.zero_le _, Nat.zero_le _⟩ (fun H locs hw => ?_)
  exact r_iret C hw dX10_best_11 h
set_option maxRecDepth 100000 in
set_option maxHeartbeats 4000000 in
theorem wX8_leastSpot_b3 {p : Program} {l : Launch} {e : Env} {s : State} {m : MethodId} {args : Array Value} {below : List Frame} {meth : Method} {c : Code} {D : va_G} {cI cZ : ClassId} {ad : Nat → Nat} {A : Nat → Prop} {z : Int32 × St}  (C : pw_C p s m args meth c yX8_leastSpot.cls cX8_leastSpot 6 (some .int) D cI cZ) : ∀ (n : Nat) (x1 : Int32) (x2 : Int32) (x3 : Int32) (x4 : Int32) (σ : St) (H : Heap) (locs : List Loc) (ls : Array Slot), pw_H D (pw_w shC cI cZ ad σ) A s.heap H locs → lv_has ls 6 [(0, .ref (ad 22)), (1, .int x1), (2, .int x2), (3, .int x3), (4, .int x4)] → fX8_leastSpot_b3  n x1 x2 x3 x4 σ = some z → W p l e (pw_rm 3) s m args below meth c H locs 0 0 (pw_QI below args s D (pw_w shC cI cZ ad) A z) (F0 m 3 ls []) := by
  obtain ⟨hx, hb, hr, hts, hown, hlk, hml, hK, hN⟩ := id C
  intro n
  induction n with
  | zero =>
    intro x1 x2 x3 x4 σ H locs ls hw hl h
    exact absurd h (by simp [fX8_leastSpot_b3])
  | succ n ih =>
    intro x1 x2 x3 x4 σ H locs ls hw hl h
    rw [fX8_leastSpot_b3] at h
    refine lv_iload hx hb dX8_leastSpot_3 (lv_at hl 4 rfl) ?_
    refine lv_bipush (v := 12) hx hb dX8_leastSpot_5 (by decide) ?_
    refine lv_icmp_ge (tgt := 63) hx hb dX8_leastSpot_7 (by decide) (fun hc => ?_) (fun hc => ?_)
    · replace h := pw_t hc h
      refine lv_bipush (v := (-9)) hx hb dX8_leastSpot_63 (by decide) ?_
      exact r_iret C hw dX8_leastSpot_65 h
    · replace h := pw_f hc h
      refine lv_iconst (v := 1) hx hb dX8_leastSpot_10 (by decide) ?_
      refine lv_iload hx hb dX8_leastSpot_11 (lv_at hl 4 rfl) ?_
      refine lv_ishl hx hb dX8_leastSpot_13 ?_
      refine r_leti h (fun v1 h => ?_)
      refine lv_istore (lv' := [(5, .int v1), (0, .ref (ad 22)), (1, .int x1), (2, .int x2), (3, .int x3), (4, .int x4)]) hx hb dX8_leastSpot_14 hl (by decide) rfl (fun ls hl => ?_)
      refine lv_aload_n hx hb dX8_leastSpot_16 rfl (lv_at hl 1 rfl) ?_
      refine r_get C hw qC_22 clsX8 2 rfl (by decide) fl_X8_18 dX8_leastSpot_17 (v := .ref (ad 25)) rfl ?_
      refine lv_iload_n hx hb dX8_leastSpot_20 rfl (lv_at hl 2 rfl) ?_
      refine r_iald C hw qC_25 dX8_leastSpot_21 h (fun v2 h => ?_)
      refine lv_iload_n hx hb dX8_leastSpot_22 rfl (lv_at hl 3 rfl) ?_
      refine lv_iand hx hb dX8_leastSpot_23 ?_
      refine lv_iload hx hb dX8_leastSpot_24 (lv_at hl 0 rfl) ?_
      refine lv_iand hx hb dX8_leastSpot_26 ?_
      refine lv_if_eq (tgt := 57) hx hb dX8_leastSpot_27 (by decide) (fun hc => ?_) (fun hc => ?_)
      · replace h := pw_t hc h
        refine lv_iinc (v := (x4 + 1)) (lv' := [(4, .int (x4 + 1)), (5, .int v1), (0, .ref (ad 22)), (1, .int x1), (2, .int x2), (3, .int x3)]) hx hb dX8_leastSpot_57 hl (k := 5) rfl rfl (by decide) rfl (fun ls hl => ?_)
        refine lv_goto (tgt := 3) hx hb dX8_leastSpot_60 (by decide) ?_
        exact ih _ _ _ _ _ _ _ _ hw (lv_sub hl [2, 3, 4, 5, 0] rfl) h
      · replace h := pw_f hc h
        refine lv_aload_n hx hb dX8_leastSpot_30 rfl (lv_at hl 1 rfl) ?_
        refine r_get C hw qC_22 clsX8 1 rfl (by decide) fl_X8_15 dX8_leastSpot_31 (v := .ref (ad 24)) rfl ?_
        refine lv_iload_n hx hb dX8_leastSpot_34 rfl (lv_at hl 2 rfl) ?_
        refine r_iald C hw qC_24 dX8_leastSpot_35 h (fun v3 h => ?_)
        refine lv_aload_n hx hb dX8_leastSpot_36 rfl (lv_at hl 1 rfl) ?_
        refine lv_iload_n hx hb dX8_leastSpot_37 rfl (lv_at hl 2 rfl) ?_
        refine lv_iconst (v := 1) hx hb dX8_leastSpot_38 (by decide) ?_
        refine lv_iadd hx hb dX8_leastSpot_39 ?_
        refine lv_iload_n hx hb dX8_leastSpot_40 rfl (lv_at hl 3 rfl) ?_
        refine lv_iload hx hb dX8_leastSpot_41 (lv_at hl 0 rfl) ?_
        refine lv_iconst (v := (-1)) hx hb dX8_leastSpot_43 (by decide) ?_
        refine lv_ixor hx hb dX8_leastSpot_44 ?_
        refine lv_iand hx hb dX8_leastSpot_45 ?_
        obtain ⟨v6, σ5, e4, h⟩ := cal_some h
        refine r_cVI C hw (As := [.int (x1 + 1), .int (x2 &&& (v1 ^^^ (-1)))]) (rest := [.int v3]) (kX8_worthFrom l D cI cZ ad _ _ _ _ e4) YX8_worthFrom ml_X8_40 qC_22 clsX8 (pw_rmOK (by omega) (by decide)) rfl hl.1 rfl (Nat.le_of_ble_eq_true rfl) dX8_leastSpot_46 ⟨Nat.zero_le _, Nat.zero_le _⟩ (fun H locs hw => ?_)
        refine lv_iadd hx hb dX8_leastSpot_49 ?_
        refine lv_iload_n hx hb dX8_leastSpot_50 rfl (lv_at hl 4 rfl) ?_
        refine lv_icmp_ne (tgt := 57) hx hb dX8_leastSpot_51 (by decide) (fun hc => ?_) (fun hc => ?_)
        · replace h := pw_f hc h
          refine lv_iinc (v := (x4 + 1)) (lv' := [(4, .int (x4 + 1)), (5, .int v1), (0, .ref (ad 22)), (1, .int x1), (2, .int x2), (3, .int x3)]) hx hb dX8_leastSpot_57 hl (k := 5) rfl rfl (by decide) rfl (fun ls hl => ?_)
          refine lv_goto (tgt := 3) hx hb dX8_leastSpot_60 (by decide) ?_
          exact ih _ _ _ _ _ _ _ _ hw (lv_sub hl [2, 3, 4, 5, 0] rfl) h
        · replace h := pw_t hc h
          refine lv_iload hx hb dX8_leastSpot_54 (lv_at hl 5 rfl) ?_
          exact r_iret C hw dX8_leastSpot_56 h
set_option maxRecDepth 100000 in
set_option maxHeartbeats 4000000 in
theorem kX8_leastSpot (l : Launch) (D : va_G) (cI cZ : ClassId) (ad : Nat → Nat) (x1 : Int32) (x2 : Int32) (x3 : Int32) (σ : St) (z : Int32 × St) (h : fX8_leastSpot x1 x2 x3 σ = some z) : pw_MI l D shC cI cZ ad yX8_leastSpot cX8_leastSpot 6 (some .int) (pw_rm 3) [.ref (ad 22), .int x1, .int x2, .int x3] σ z.1 z.2 := by
  refine pw_ofI (by decide) (Nat.le_of_ble_eq_true rfl) ?_
  intro p e s m args below meth c A C hw ls hl
  obtain ⟨hx, hb, hr, hts, hown, hlk, hml, hK, hN⟩ := id C
  have hl : lv_has ls 6 [(0, .ref (ad 22)), (1, .int x1), (2, .int x2), (3, .int x3)] := hl
  unfold fX8_leastSpot at h
  refine lv_iconst (v := 0) hx hb dX8_leastSpot_0 (by decide) ?_
  refine lv_istore (lv' := [(4, .int 0), (0, .ref (ad 22)), (1, .int x1), (2, .int x2), (3, .int x3)]) hx hb dX8_leastSpot_1 hl (by decide) rfl (fun ls hl => ?_)
  exact wX8_leastSpot_b3 C  _ _ _ _ _ _ _ _ _ hw (lv_sub hl [1, 2, 3, 4, 0] rfl) h
set_option maxRecDepth 100000 in
set_option maxHeartbeats 4000000 in
theorem wX8_choose_b11 {p : Program} {l : Launch} {e : Env} {s : State} {m : MethodId} {args : Array Value} {below : List Frame} {meth : Method} {c : Code} {D : va_G} {cI cZ : ClassId} {ad : Nat → Nat} {A : Nat → Prop} {z : Int32 × St}  (C : pw_C p s m args meth c yX8_choose.cls cX8_choose 5 none D cI cZ) : ∀ (n : Nat) (x1 : Int32) (x2 : Int32) (x3 : Int32) (σ : St) (H : Heap) (locs : List Loc) (ls : Array Slot), pw_H D (pw_w shC cI cZ ad σ) A s.heap H locs → lv_has ls 5 [(0, .ref (ad 22)), (1, .int x1), (2, .int x2), (3, .int x3)] → fX8_choose_b11  n x1 x2 x3 σ = some z → W p l e (pw_rm 4) s m args below meth c H locs 0 0 (pw_QV below args s D (pw_w shC cI cZ ad) A z) (F0 m 11 ls []) := by
  obtain ⟨hx, hb, hr, hts, hown, hlk, hml, hK, hN⟩ := id C
  intro n
  induction n with
  | zero =>
    intro x1 x2 x3 σ H locs ls hw hl h
    exact absurd h (by simp [fX8_choose_b11])
  | succ n ih =>
    intro x1 x2 x3 σ H locs ls hw hl h
    rw [fX8_choose_b11] at h
    refine lv_iload_n hx hb dX8_choose_11 rfl (lv_at hl 3 rfl) ?_
    refine lv_aload_n hx hb dX8_choose_12 rfl (lv_at hl 0 rfl) ?_
    refine r_get C hw qC_22 clsX8 8 rfl (by decide) fl_X8_36 dX8_choose_13 (v := .int (σ 22 8)) rfl ?_
    refine lv_icmp_ge (tgt := 67) hx hb dX8_choose_16 (by decide) (fun hc => ?_) (fun hc => ?_)
    · replace h := pw_t hc h
      exact r_vret C hw dX8_choose_67 h
    · replace h := pw_f hc h
      refine lv_aload_n hx hb dX8_choose_19 rfl (lv_at hl 0 rfl) ?_
      refine lv_iload_n hx hb dX8_choose_20 rfl (lv_at hl 3 rfl) ?_
      refine lv_iload_n hx hb dX8_choose_21 rfl (lv_at hl 1 rfl) ?_
      refine lv_iload_n hx hb dX8_choose_22 rfl (lv_at hl 2 rfl) ?_
      obtain ⟨v3, σ2, e1, h⟩ := cal_some h
      refine r_cVI C hw (As := [.int x3, .int x1, .int x2]) (rest := []) (kX8_leastSpot l D cI cZ ad _ _ _ _ _ e1) YX8_leastSpot ml_X8_48 qC_22 clsX8 (pw_rmOK (by omega) (by decide)) rfl hl.1 rfl (Nat.le_of_ble_eq_true rfl) dX8_choose_23 ⟨Nat.zero_le _, Nat.zero_le _⟩ (fun H locs hw => ?_)
      refine lv_istore (lv' := [(4, .int v3), (0, .ref (ad 22)), (1, .int x1), (2, .int x2), (3, .int x3)]) hx hb dX8_choose_26 hl (by decide) rfl (fun ls hl => ?_)
      refine lv_aload_n hx hb dX8_choose_28 rfl (lv_at hl 1 rfl) ?_
      refine r_get C hw qC_22 clsX8 3 rfl (by decide) fl_X8_21 dX8_choose_29 (v := .ref (ad 26)) rfl ?_
      refine lv_iload_n hx hb dX8_choose_32 rfl (lv_at hl 4 rfl) ?_
      refine lv_iload hx hb dX8_choose_33 (lv_at hl 0 rfl) ?_
      refine r_iast C hw qC_26 dX8_choose_35 h (fun σ4 H locs hw h => ?_)
      refine lv_iload hx hb dX8_choose_36 (lv_at hl 0 rfl) ?_
      refine lv_bipush (v := (-9)) hx hb dX8_choose_38 (by decide) ?_
      refine lv_icmp_eq (tgt := 61) hx hb dX8_choose_40 (by decide) (fun hc => ?_) (fun hc => ?_)
      · replace h := pw_t hc h
        refine lv_iinc (v := (x3 + 1)) (lv' := [(3, .int (x3 + 1)), (4, .int v3), (0, .ref (ad 22)), (1, .int x1), (2, .int x2)]) hx hb dX8_choose_61 hl (k := 4) rfl rfl (by decide) rfl (fun ls hl => ?_)
        refine lv_goto (tgt := 11) hx hb dX8_choose_64 (by decide) ?_
        exact ih _ _ _ _ _ _ _ hw (lv_sub hl [2, 3, 4, 0] rfl) h
      · replace h := pw_f hc h
        refine lv_iload_n hx hb dX8_choose_43 rfl (lv_at hl 2 rfl) ?_
        refine lv_iconst (v := 1) hx hb dX8_choose_44 (by decide) ?_
        refine lv_iload hx hb dX8_choose_45 (lv_at hl 0 rfl) ?_
        refine lv_ishl hx hb dX8_choose_47 ?_
        refine lv_iconst (v := (-1)) hx hb dX8_choose_48 (by decide) ?_
        refine lv_ixor hx hb dX8_choose_49 ?_
        refine lv_iand hx hb dX8_choose_50 ?_
        refine r_leti h (fun v5 h => ?_)
        refine lv_istore_n (lv' := [(1, .int v5), (4, .int v3), (0, .ref (ad 22)), (2, .int x2), (3, .int x3)]) hx hb dX8_choose_51 rfl hl (by decide) rfl (fun ls hl => ?_)
        refine lv_iload_n hx hb dX8_choose_52 rfl (lv_at hl 3 rfl) ?_
        refine lv_aload_n hx hb dX8_choose_53 rfl (lv_at hl 2 rfl) ?_
        refine r_get C hw qC_22 clsX8 1 rfl (by decide) fl_X8_15 dX8_choose_54 (v := .ref (ad 24)) rfl ?_
        refine lv_iload_n hx hb dX8_choose_57 rfl (lv_at hl 4 rfl) ?_
        refine r_iald C hw qC_24 dX8_choose_58 h (fun v6 h => ?_)
        refine lv_isub hx hb dX8_choose_59 ?_
        refine lv_istore_n (lv' := [(2, .int (x2 - v6)), (1, .int v5), (4, .int v3), (0, .ref (ad 22)), (3, .int x3)]) hx hb dX8_choose_60 rfl hl (by decide) rfl (fun ls hl => ?_)
        refine lv_iinc (v := (x3 + 1)) (lv' := [(3, .int (x3 + 1)), (2, .int (x2 - v6)), (1, .int v5), (4, .int v3), (0, .ref (ad 22))]) hx hb dX8_choose_61 hl (k := 4) rfl rfl (by decide) rfl (fun ls hl => ?_)
        refine lv_goto (tgt := 11) hx hb dX8_choose_64 (by decide) ?_
        exact ih _ _ _ _ _ _ _ hw (lv_sub hl [4, 2, 1, 0] rfl) h
set_option maxRecDepth 100000 in
set_option maxHeartbeats 4000000 in
theorem kX8_choose (l : Launch) (D : va_G) (cI cZ : ClassId) (ad : Nat → Nat)  (σ : St) (z : Int32 × St) (h : fX8_choose  σ = some z) : pw_MV l D shC cI cZ ad yX8_choose cX8_choose 5 none (pw_rm 4) [.ref (ad 22)] σ z.2 := by
  refine pw_ofV (by decide) (Nat.le_of_ble_eq_true rfl) ?_
  intro p e s m args below meth c A C hw ls hl
  obtain ⟨hx, hb, hr, hts, hown, hlk, hml, hK, hN⟩ := id C
  have hl : lv_has ls 5 [(0, .ref (ad 22))] := hl
  unfold fX8_choose at h
  refine lv_sipush (v := 4095) hx hb dX8_choose_0 (by decide) ?_
  refine lv_istore_n (lv' := [(1, .int 4095), (0, .ref (ad 22))]) hx hb dX8_choose_3 rfl hl (by decide) rfl (fun ls hl => ?_)
  refine lv_aload_n hx hb dX8_choose_4 rfl (lv_at hl 1 rfl) ?_
  obtain ⟨v9, σ8, e7, h⟩ := cal_some h
  refine r_cVI C hw (As := []) (rest := []) (kX8_greatestWorth l D cI cZ ad _ _ e7) YX8_greatestWorth ml_X8_44 qC_22 clsX8 (pw_rmOK (by omega) (by decide)) rfl hl.1 rfl (Nat.le_of_ble_eq_true rfl) dX8_choose_5 ⟨Nat.zero_le _, Nat.zero_le _⟩ (fun H locs hw => ?_)
  refine lv_istore_n (lv' := [(2, .int v9), (1, .int 4095), (0, .ref (ad 22))]) hx hb dX8_choose_8 rfl hl (by decide) rfl (fun ls hl => ?_)
  refine lv_iconst (v := 0) hx hb dX8_choose_9 (by decide) ?_
  refine lv_istore_n (lv' := [(3, .int 0), (2, .int v9), (1, .int 4095), (0, .ref (ad 22))]) hx hb dX8_choose_10 rfl hl (by decide) rfl (fun ls hl => ?_)
  exact wX8_choose_b11 C  _ _ _ _ _ _ _ _ hw (lv_sub hl [3, 2, 1, 0] rfl) h
set_option maxRecDepth 100000 in
set_option maxHeartbeats 4000000 in
theorem kX10_bestPlace (l : Launch) (D : va_G) (cI cZ : ClassId) (ad : Nat → Nat) (x1 : Int32) (σ : St) (z : Int32 × St) (h : fX10_bestPlace x1 σ = some z) : pw_MI l D shC cI cZ ad yX10_bestPlace cX10_bestPlace 2 (some .int) (pw_rm 5) [.ref (ad 0), .int x1] σ z.1 z.2 := by
  refine pw_ofI (by decide) (Nat.le_of_ble_eq_true rfl) ?_
  intro p e s m args below meth c A C hw ls hl
  obtain ⟨hx, hb, hr, hts, hown, hlk, hml, hK, hN⟩ := id C
  have hl : lv_has ls 2 [(0, .ref (ad 0)), (1, .int x1)] := hl
  unfold fX10_bestPlace at h
  refine lv_iload_n hx hb dX10_bestPlace_0 rfl (lv_at hl 1 rfl) ?_
  refine lv_aload_n hx hb dX10_bestPlace_1 rfl (lv_at hl 0 rfl) ?_
  refine r_get C hw qC_0 clsX10 4 rfl (by decide) fl_X10_37 dX10_bestPlace_2 (v := .ref (ad 22)) rfl ?_
  refine r_getN C hw qC_22 clsX8 8 rfl (by decide) fn_X10_174 dX10_bestPlace_5 (v := .int (σ 22 8)) rfl ?_
  obtain ⟨v3, σ2, e1, h⟩ := cal_some h
  refine r_cSI C hw (sh := shC) (ad := ad) (As := [.int x1, .int (σ 22 8)]) (rest := []) (kX10_within l D cI cZ ad _ _ _ _ e1) YX10_within ml_X10_87 (pw_rmOK (by omega) (by decide)) rfl hl.1 rfl (Nat.le_of_ble_eq_true rfl) dX10_bestPlace_8 ⟨Nat.zero_le _, Nat.zero_le _⟩ (fun H locs hw => ?_)
  refine lv_if_ne (tgt := 20) hx hb dX10_bestPlace_11 (by decide) (fun hc => ?_) (fun hc => ?_)
  · replace h := pw_f hc h
    refine lv_aload_n hx hb dX10_bestPlace_20 rfl (lv_at hl 0 rfl) ?_
    obtain ⟨r6, σ5, e4, h⟩ := cal_some h
    refine r_cVV C hw (As := []) (rest := []) (kX10_learnFits l D cI cZ ad _ _ e4) YX10_learnFits ml_X10_181 qC_0 clsX10 (pw_rmOK (by omega) (by decide)) rfl hl.1 rfl (Nat.le_of_ble_eq_true rfl) dX10_bestPlace_21 ⟨Nat.zero_le _, Nat.zero_le _⟩ (fun H locs hw => ?_)
    refine lv_aload_n hx hb dX10_bestPlace_24 rfl (lv_at hl 0 rfl) ?_
    refine r_get C hw qC_0 clsX10 4 rfl (by decide) fl_X10_37 dX10_bestPlace_25 (v := .ref (ad 22)) rfl ?_
    obtain ⟨r9, σ8, e7, h⟩ := cal_some h
    refine r_cNV C hw (As := []) (rest := []) (kX8_choose l D cI cZ ad _ _ e7) YX8_choose mn_X10_187 qC_22 clsX8 (pw_rmOK (by omega) (by decide)) rfl hl.1 rfl (Nat.le_of_ble_eq_true rfl) dX10_bestPlace_28 ⟨Nat.zero_le _, Nat.zero_le _⟩ (fun H locs hw => ?_)
    refine lv_aload_n hx hb dX10_bestPlace_31 rfl (lv_at hl 0 rfl) ?_
    refine r_get C hw qC_0 clsX10 4 rfl (by decide) fl_X10_37 dX10_bestPlace_32 (v := .ref (ad 22)) rfl ?_
    refine r_getN C hw qC_22 clsX8 3 rfl (by decide) fn_X10_190 dX10_bestPlace_35 (v := .ref (ad 26)) rfl ?_
    refine lv_iload_n hx hb dX10_bestPlace_38 rfl (lv_at hl 1 rfl) ?_
    refine r_iald C hw qC_26 dX10_bestPlace_39 h (fun v10 h => ?_)
    exact r_iret C hw dX10_bestPlace_40 h
  · replace h := pw_t hc h
    refine lv_aload_n hx hb dX10_bestPlace_14 rfl (lv_at hl 0 rfl) ?_
    refine lv_iconst (v := (-1)) hx hb dX10_bestPlace_15 (by decide) ?_
    obtain ⟨v13, σ12, e11, h⟩ := cal_some h
    refine r_cVI C hw (As := [.int (-1)]) (rest := []) (kX10_refuse l D cI cZ ad _ _ _ e11) YX10_refuse ml_X10_91 qC_0 clsX10 (pw_rmOK (by omega) (by decide)) rfl hl.1 rfl (Nat.le_of_ble_eq_true rfl) dX10_bestPlace_16 ⟨Nat.zero_le _, Nat.zero_le _⟩ (fun H locs hw => ?_)
    exact r_iret C hw dX10_bestPlace_19 h
set_option maxRecDepth 100000 in
set_option maxHeartbeats 4000000 in
theorem kX8_forget (l : Launch) (D : va_G) (cI cZ : ClassId) (ad : Nat → Nat)  (σ : St) (z : Int32 × St) (h : fX8_forget  σ = some z) : pw_MV l D shC cI cZ ad yX8_forget cX8_forget 1 none (pw_rm 0) [.ref (ad 22)] σ z.2 := by
  refine pw_ofV (by decide) (Nat.le_of_ble_eq_true rfl) ?_
  intro p e s m args below meth c A C hw ls hl
  obtain ⟨hx, hb, hr, hts, hown, hlk, hml, hK, hN⟩ := id C
  have hl : lv_has ls 1 [(0, .ref (ad 22))] := hl
  unfold fX8_forget at h
  refine lv_aload_n hx hb dX8_forget_0 rfl (lv_at hl 0 rfl) ?_
  refine lv_iconst (v := 0) hx hb dX8_forget_1 (by decide) ?_
  refine r_put C hw qC_22 clsX8 8 rfl (by decide) fl_X8_36 dX8_forget_2 rfl rfl rfl h (fun σ1 H locs hw h => ?_)
  exact r_vret C hw dX8_forget_5 h
set_option maxRecDepth 100000 in
set_option maxHeartbeats 4000000 in
theorem wX10_lay_b15 {p : Program} {l : Launch} {e : Env} {s : State} {m : MethodId} {args : Array Value} {below : List Frame} {meth : Method} {c : Code} {D : va_G} {cI cZ : ClassId} {ad : Nat → Nat} {A : Nat → Prop} {z : Int32 × St}  (C : pw_C p s m args meth c yX10_lay.cls cX10_lay 4 (some .int) D cI cZ) : ∀ (n : Nat) (x1 : Int32) (x2 : Int32) (σ : St) (H : Heap) (locs : List Loc) (ls : Array Slot), pw_H D (pw_w shC cI cZ ad σ) A s.heap H locs → lv_has ls 4 [(0, .ref (ad 0)), (1, .int x1), (2, .int x2)] → fX10_lay_b15  n x1 x2 σ = some z → W p l e (pw_rm 5) s m args below meth c H locs 0 0 (pw_QI below args s D (pw_w shC cI cZ ad) A z) (F0 m 15 ls []) := by
  obtain ⟨hx, hb, hr, hts, hown, hlk, hml, hK, hN⟩ := id C
  intro n
  induction n with
  | zero =>
    intro x1 x2 σ H locs ls hw hl h
    exact absurd h (by simp [fX10_lay_b15])
  | succ n ih =>
    intro x1 x2 σ H locs ls hw hl h
    rw [fX10_lay_b15] at h
    refine lv_iload_n hx hb dX10_lay_15 rfl (lv_at hl 2 rfl) ?_
    refine lv_aload_n hx hb dX10_lay_16 rfl (lv_at hl 0 rfl) ?_
    refine r_get C hw qC_0 clsX10 4 rfl (by decide) fl_X10_37 dX10_lay_17 (v := .ref (ad 22)) rfl ?_
    refine r_getN C hw qC_22 clsX8 8 rfl (by decide) fn_X10_174 dX10_lay_20 (v := .int (σ 22 8)) rfl ?_
    refine lv_icmp_ge (tgt := 68) hx hb dX10_lay_23 (by decide) (fun hc => ?_) (fun hc => ?_)
    · replace h := pw_t hc h
      refine lv_aload_n hx hb dX10_lay_68 rfl (lv_at hl 0 rfl) ?_
      refine r_get C hw qC_0 clsX10 4 rfl (by decide) fl_X10_37 dX10_lay_69 (v := .ref (ad 22)) rfl ?_
      obtain ⟨r3, σ2, e1, h⟩ := cal_some h
      refine r_cNV C hw (As := []) (rest := []) (kX8_forget l D cI cZ ad _ _ e1) YX8_forget mn_X10_196 qC_22 clsX8 (pw_rmOK (by omega) (by decide)) rfl hl.1 rfl (Nat.le_of_ble_eq_true rfl) dX10_lay_72 ⟨Nat.zero_le _, Nat.zero_le _⟩ (fun H locs hw => ?_)
      refine lv_iload_n hx hb dX10_lay_75 rfl (lv_at hl 1 rfl) ?_
      exact r_iret C hw dX10_lay_76 h
    · replace h := pw_f hc h
      refine lv_aload_n hx hb dX10_lay_26 rfl (lv_at hl 0 rfl) ?_
      refine r_get C hw qC_0 clsX10 4 rfl (by decide) fl_X10_37 dX10_lay_27 (v := .ref (ad 22)) rfl ?_
      refine r_getN C hw qC_22 clsX8 3 rfl (by decide) fn_X10_190 dX10_lay_30 (v := .ref (ad 26)) rfl ?_
      refine lv_iload_n hx hb dX10_lay_33 rfl (lv_at hl 2 rfl) ?_
      refine r_iald C hw qC_26 dX10_lay_34 h (fun v4 h => ?_)
      refine lv_istore_n (lv' := [(3, .int v4), (0, .ref (ad 0)), (1, .int x1), (2, .int x2)]) hx hb dX10_lay_35 rfl hl (by decide) rfl (fun ls hl => ?_)
      refine lv_iload_n hx hb dX10_lay_36 rfl (lv_at hl 0 rfl) ?_
      refine lv_bipush (v := 12) hx hb dX10_lay_37 (by decide) ?_
      obtain ⟨v7, σ6, e5, h⟩ := cal_some h
      refine r_cSI C hw (sh := shC) (ad := ad) (As := [.int v4, .int 12]) (rest := []) (kX10_within l D cI cZ ad _ _ _ _ e5) YX10_within ml_X10_87 (pw_rmOK (by omega) (by decide)) rfl hl.1 rfl (Nat.le_of_ble_eq_true rfl) dX10_lay_39 ⟨Nat.zero_le _, Nat.zero_le _⟩ (fun H locs hw => ?_)
      refine lv_if_eq (tgt := 62) hx hb dX10_lay_42 (by decide) (fun hc => ?_) (fun hc => ?_)
      · replace h := pw_t hc h
        refine lv_iinc (v := (x2 + 1)) (lv' := [(2, .int (x2 + 1)), (3, .int v4), (0, .ref (ad 0)), (1, .int x1)]) hx hb dX10_lay_62 hl (k := 3) rfl rfl (by decide) rfl (fun ls hl => ?_)
        refine lv_goto (tgt := 15) hx hb dX10_lay_65 (by decide) ?_
        exact ih _ _ _ _ _ _ hw (lv_sub hl [2, 3, 0] rfl) h
      · replace h := pw_f hc h
        refine lv_aload_n hx hb dX10_lay_45 rfl (lv_at hl 1 rfl) ?_
        refine lv_aload_n hx hb dX10_lay_46 rfl (lv_at hl 1 rfl) ?_
        refine r_get C hw qC_0 clsX10 4 rfl (by decide) fl_X10_37 dX10_lay_47 (v := .ref (ad 22)) rfl ?_
        refine r_getN C hw qC_22 clsX8 0 rfl (by decide) fn_X10_193 dX10_lay_50 (v := .ref (ad 23)) rfl ?_
        refine lv_iload_n hx hb dX10_lay_53 rfl (lv_at hl 3 rfl) ?_
        refine r_iald C hw qC_23 dX10_lay_54 h (fun v8 h => ?_)
        refine lv_iload_n hx hb dX10_lay_55 rfl (lv_at hl 0 rfl) ?_
        obtain ⟨r11, σ10, e9, h⟩ := cal_some h
        refine r_cVV C hw (As := [.int v8, .int v4]) (rest := []) (kX10_putIn l D cI cZ ad _ _ _ _ e9) YX10_putIn ml_X10_160 qC_0 clsX10 (pw_rmOK (by omega) (by decide)) rfl hl.1 rfl (Nat.le_of_ble_eq_true rfl) dX10_lay_56 ⟨Nat.zero_le _, Nat.zero_le _⟩ (fun H locs hw => ?_)
        refine lv_iinc (v := (x1 + 1)) (lv' := [(1, .int (x1 + 1)), (3, .int v4), (0, .ref (ad 0)), (2, .int x2)]) hx hb dX10_lay_59 hl (k := 2) rfl rfl (by decide) rfl (fun ls hl => ?_)
        refine lv_iinc (v := (x2 + 1)) (lv' := [(2, .int (x2 + 1)), (1, .int (x1 + 1)), (3, .int v4), (0, .ref (ad 0))]) hx hb dX10_lay_62 hl (k := 3) rfl rfl (by decide) rfl (fun ls hl => ?_)
        refine lv_goto (tgt := 15) hx hb dX10_lay_65 (by decide) ?_
        exact ih _ _ _ _ _ _ hw (lv_sub hl [3, 1, 0] rfl) h
set_option maxRecDepth 100000 in
set_option maxHeartbeats 4000000 in
theorem kX10_lay (l : Launch) (D : va_G) (cI cZ : ClassId) (ad : Nat → Nat)  (σ : St) (z : Int32 × St) (h : fX10_lay  σ = some z) : pw_MI l D shC cI cZ ad yX10_lay cX10_lay 4 (some .int) (pw_rm 5) [.ref (ad 0)] σ z.1 z.2 := by
  refine pw_ofI (by decide) (Nat.le_of_ble_eq_true rfl) ?_
  intro p e s m args below meth c A C hw ls hl
  obtain ⟨hx, hb, hr, hts, hown, hlk, hml, hK, hN⟩ := id C
  have hl : lv_has ls 4 [(0, .ref (ad 0))] := hl
  unfold fX10_lay at h
  refine lv_aload_n hx hb dX10_lay_0 rfl (lv_at hl 0 rfl) ?_
  obtain ⟨r14, σ13, e12, h⟩ := cal_some h
  refine r_cVV C hw (As := []) (rest := []) (kX10_learnFits l D cI cZ ad _ _ e12) YX10_learnFits ml_X10_181 qC_0 clsX10 (pw_rmOK (by omega) (by decide)) rfl hl.1 rfl (Nat.le_of_ble_eq_true rfl) dX10_lay_1 ⟨Nat.zero_le _, Nat.zero_le _⟩ (fun H locs hw => ?_)
  refine lv_aload_n hx hb dX10_lay_4 rfl (lv_at hl 0 rfl) ?_
  refine r_get C hw qC_0 clsX10 4 rfl (by decide) fl_X10_37 dX10_lay_5 (v := .ref (ad 22)) rfl ?_
  obtain ⟨r17, σ16, e15, h⟩ := cal_some h
  refine r_cNV C hw (As := []) (rest := []) (kX8_choose l D cI cZ ad _ _ e15) YX8_choose mn_X10_187 qC_22 clsX8 (pw_rmOK (by omega) (by decide)) rfl hl.1 rfl (Nat.le_of_ble_eq_true rfl) dX10_lay_8 ⟨Nat.zero_le _, Nat.zero_le _⟩ (fun H locs hw => ?_)
  refine lv_iconst (v := 0) hx hb dX10_lay_11 (by decide) ?_
  refine lv_istore_n (lv' := [(1, .int 0), (0, .ref (ad 0))]) hx hb dX10_lay_12 rfl hl (by decide) rfl (fun ls hl => ?_)
  refine lv_iconst (v := 0) hx hb dX10_lay_13 (by decide) ?_
  refine lv_istore_n (lv' := [(2, .int 0), (1, .int 0), (0, .ref (ad 0))]) hx hb dX10_lay_14 rfl hl (by decide) rfl (fun ls hl => ?_)
  exact wX10_lay_b15 C  _ _ _ _ _ _ _ hw (lv_sub hl [2, 1, 0] rfl) h
set_option maxRecDepth 100000 in
set_option maxHeartbeats 4000000 in
theorem kX10_colour (l : Launch) (D : va_G) (cI cZ : ClassId) (ad : Nat → Nat) (x1 : Int32) (x2 : Int32) (x3 : Int32) (σ : St) (z : Int32 × St) (h : fX10_colour x1 x2 x3 σ = some z) : pw_MI l D shC cI cZ ad yX10_colour cX10_colour 4 (some .int) (pw_rm 2) [.ref (ad 0), .int x1, .int x2, .int x3] σ z.1 z.2 := by
  refine pw_ofI (by decide) (Nat.le_of_ble_eq_true rfl) ?_
  intro p e s m args below meth c A C hw ls hl
  obtain ⟨hx, hb, hr, hts, hown, hlk, hml, hK, hN⟩ := id C
  have hl : lv_has ls 4 [(0, .ref (ad 0)), (1, .int x1), (2, .int x2), (3, .int x3)] := hl
  unfold fX10_colour at h
  refine lv_iload_n hx hb dX10_colour_0 rfl (lv_at hl 1 rfl) ?_
  refine lv_bipush (v := 12) hx hb dX10_colour_1 (by decide) ?_
  obtain ⟨v3, σ2, e1, h⟩ := cal_some h
  refine r_cSI C hw (sh := shC) (ad := ad) (As := [.int x1, .int 12]) (rest := []) (kX10_within l D cI cZ ad _ _ _ _ e1) YX10_within ml_X10_87 (pw_rmOK (by omega) (by decide)) rfl hl.1 rfl (Nat.le_of_ble_eq_true rfl) dX10_colour_3 ⟨Nat.zero_le _, Nat.zero_le _⟩ (fun H locs hw => ?_)
  refine lv_if_ne (tgt := 15) hx hb dX10_colour_6 (by decide) (fun hc => ?_) (fun hc => ?_)
  · replace h := pw_f hc h
    refine lv_iload_n hx hb dX10_colour_15 rfl (lv_at hl 2 rfl) ?_
    refine lv_if_lt (tgt := 24) hx hb dX10_colour_16 (by decide) (fun hc => ?_) (fun hc => ?_)
    · replace h := pw_t hc h
      refine lv_aload_n hx hb dX10_colour_24 rfl (lv_at hl 0 rfl) ?_
      refine lv_bipush (v := (-4)) hx hb dX10_colour_25 (by decide) ?_
      obtain ⟨v6, σ5, e4, h⟩ := cal_some h
      refine r_cVI C hw (As := [.int (-4)]) (rest := []) (kX10_refuse l D cI cZ ad _ _ _ e4) YX10_refuse ml_X10_91 qC_0 clsX10 (pw_rmOK (by omega) (by decide)) rfl hl.1 rfl (Nat.le_of_ble_eq_true rfl) dX10_colour_27 ⟨Nat.zero_le _, Nat.zero_le _⟩ (fun H locs hw => ?_)
      exact r_iret C hw dX10_colour_30 h
    · replace h := pw_f hc h
      refine lv_iload_n hx hb dX10_colour_19 rfl (lv_at hl 3 rfl) ?_
      refine lv_iload_n hx hb dX10_colour_20 rfl (lv_at hl 2 rfl) ?_
      refine lv_icmp_ge (tgt := 31) hx hb dX10_colour_21 (by decide) (fun hc => ?_) (fun hc => ?_)
      · replace h := pw_t hc h
        refine lv_iload_n hx hb dX10_colour_31 rfl (lv_at hl 3 rfl) ?_
        refine lv_sipush (v := 1000) hx hb dX10_colour_32 (by decide) ?_
        refine lv_icmp_le (tgt := 45) hx hb dX10_colour_35 (by decide) (fun hc => ?_) (fun hc => ?_)
        · replace h := pw_t hc h
          refine lv_aload_n hx hb dX10_colour_45 rfl (lv_at hl 0 rfl) ?_
          refine r_get C hw qC_0 clsX10 5 rfl (by decide) fl_X10_44 dX10_colour_46 (v := .ref (ad 31)) rfl ?_
          refine r_getN C hw qC_31 clsX5 0 rfl (by decide) fn_X10_199 dX10_colour_49 (v := .ref (ad 32)) rfl ?_
          refine lv_iload_n hx hb dX10_colour_52 rfl (lv_at hl 1 rfl) ?_
          refine lv_iload_n hx hb dX10_colour_53 rfl (lv_at hl 2 rfl) ?_
          refine r_iast C hw qC_32 dX10_colour_54 h (fun σ7 H locs hw h => ?_)
          refine lv_aload_n hx hb dX10_colour_55 rfl (lv_at hl 0 rfl) ?_
          refine r_get C hw qC_0 clsX10 5 rfl (by decide) fl_X10_44 dX10_colour_56 (v := .ref (ad 31)) rfl ?_
          refine r_getN C hw qC_31 clsX5 1 rfl (by decide) fn_X10_202 dX10_colour_59 (v := .ref (ad 33)) rfl ?_
          refine lv_iload_n hx hb dX10_colour_62 rfl (lv_at hl 1 rfl) ?_
          refine lv_iload_n hx hb dX10_colour_63 rfl (lv_at hl 3 rfl) ?_
          refine r_iast C hw qC_33 dX10_colour_64 h (fun σ8 H locs hw h => ?_)
          refine lv_iconst (v := 1) hx hb dX10_colour_65 (by decide) ?_
          exact r_iret C hw dX10_colour_66 h
        · replace h := pw_f hc h
          refine lv_aload_n hx hb dX10_colour_38 rfl (lv_at hl 0 rfl) ?_
          refine lv_bipush (v := (-6)) hx hb dX10_colour_39 (by decide) ?_
          obtain ⟨v11, σ10, e9, h⟩ := cal_some h
          refine r_cVI C hw (As := [.int (-6)]) (rest := []) (kX10_refuse l D cI cZ ad _ _ _ e9) YX10_refuse ml_X10_91 qC_0 clsX10 (pw_rmOK (by omega) (by decide)) rfl hl.1 rfl (Nat.le_of_ble_eq_true rfl) dX10_colour_41 ⟨Nat.zero_le _, Nat.zero_le _⟩ (fun H locs hw => ?_)
          exact r_iret C hw dX10_colour_44 h
      · replace h := pw_f hc h
        refine lv_aload_n hx hb dX10_colour_24 rfl (lv_at hl 0 rfl) ?_
        refine lv_bipush (v := (-4)) hx hb dX10_colour_25 (by decide) ?_
        obtain ⟨v14, σ13, e12, h⟩ := cal_some h
        refine r_cVI C hw (As := [.int (-4)]) (rest := []) (kX10_refuse l D cI cZ ad _ _ _ e12) YX10_refuse ml_X10_91 qC_0 clsX10 (pw_rmOK (by omega) (by decide)) rfl hl.1 rfl (Nat.le_of_ble_eq_true rfl) dX10_colour_27 ⟨Nat.zero_le _, Nat.zero_le _⟩ (fun H locs hw => ?_)
        exact r_iret C hw dX10_colour_30 h
  · replace h := pw_t hc h
    refine lv_aload_n hx hb dX10_colour_9 rfl (lv_at hl 0 rfl) ?_
    refine lv_iconst (v := (-1)) hx hb dX10_colour_10 (by decide) ?_
    obtain ⟨v17, σ16, e15, h⟩ := cal_some h
    refine r_cVI C hw (As := [.int (-1)]) (rest := []) (kX10_refuse l D cI cZ ad _ _ _ e15) YX10_refuse ml_X10_91 qC_0 clsX10 (pw_rmOK (by omega) (by decide)) rfl hl.1 rfl (Nat.le_of_ble_eq_true rfl) dX10_colour_11 ⟨Nat.zero_le _, Nat.zero_le _⟩ (fun H locs hw => ?_)
    exact r_iret C hw dX10_colour_14 h
set_option maxRecDepth 100000 in
set_option maxHeartbeats 4000000 in
theorem kX10_isColourSet (l : Launch) (D : va_G) (cI cZ : ClassId) (ad : Nat → Nat) (x0 : Int32) (σ : St) (z : Int32 × St) (h : fX10_isColourSet x0 σ = some z) : pw_MI l D shC cI cZ ad yX10_isColourSet cX10_isColourSet 1 (some .boolean) (pw_rm 0) [.int x0] σ z.1 z.2 := by
  refine pw_ofI (by decide) (Nat.le_of_ble_eq_true rfl) ?_
  intro p e s m args below meth c A C hw ls hl
  obtain ⟨hx, hb, hr, hts, hown, hlk, hml, hK, hN⟩ := id C
  have hl : lv_has ls 1 [(0, .int x0)] := hl
  unfold fX10_isColourSet at h
  refine lv_iload_n hx hb dX10_isColourSet_0 rfl (lv_at hl 0 rfl) ?_
  refine lv_sipush (v := (-4096)) hx hb dX10_isColourSet_1 (by decide) ?_
  refine lv_iand hx hb dX10_isColourSet_4 ?_
  refine lv_if_ne (tgt := 12) hx hb dX10_isColourSet_5 (by decide) (fun hc => ?_) (fun hc => ?_)
  · replace h := pw_f hc h
    refine lv_iconst (v := 0) hx hb dX10_isColourSet_12 (by decide) ?_
    exact r_zret C hw dX10_isColourSet_13 h
  · replace h := pw_t hc h
    refine lv_iconst (v := 1) hx hb dX10_isColourSet_8 (by decide) ?_
    refine lv_goto (tgt := 13) hx hb dX10_isColourSet_9 (by decide) ?_
    exact r_zret C hw dX10_isColourSet_13 h
set_option maxRecDepth 100000 in
set_option maxHeartbeats 4000000 in
theorem wX5_greatestFrom_b4 {p : Program} {l : Launch} {e : Env} {s : State} {m : MethodId} {args : Array Value} {below : List Frame} {meth : Method} {c : Code} {D : va_G} {cI cZ : ClassId} {ad : Nat → Nat} {A : Nat → Prop} {z : Int32 × St}  (C : pw_C p s m args meth c yX5_greatestFrom.cls cX5_greatestFrom 4 (some .int) D cI cZ) : ∀ (n : Nat) (x1 : Int32) (x2 : Int32) (x3 : Int32) (σ : St) (H : Heap) (locs : List Loc) (ls : Array Slot), pw_H D (pw_w shC cI cZ ad σ) A s.heap H locs → lv_has ls 4 [(0, .ref (ad 31)), (1, .int x1), (2, .int x2), (3, .int x3)] → fX5_greatestFrom_b4  n x1 x2 x3 σ = some z → W p l e (pw_rm 1) s m args below meth c H locs 0 0 (pw_QI below args s D (pw_w shC cI cZ ad) A z) (F0 m 4 ls []) := by
  obtain ⟨hx, hb, hr, hts, hown, hlk, hml, hK, hN⟩ := id C
  intro n
  induction n with
  | zero =>
    intro x1 x2 x3 σ H locs ls hw hl h
    exact absurd h (by simp [fX5_greatestFrom_b4])
  | succ n ih =>
    intro x1 x2 x3 σ H locs ls hw hl h
    rw [fX5_greatestFrom_b4] at h
    refine lv_iload_n hx hb dX5_greatestFrom_4 rfl (lv_at hl 3 rfl) ?_
    refine lv_bipush (v := 12) hx hb dX5_greatestFrom_5 (by decide) ?_
    refine lv_icmp_ge (tgt := 35) hx hb dX5_greatestFrom_7 (by decide) (fun hc => ?_) (fun hc => ?_)
    · replace h := pw_t hc h
      refine lv_iload_n hx hb dX5_greatestFrom_35 rfl (lv_at hl 2 rfl) ?_
      exact r_iret C hw dX5_greatestFrom_36 h
    · replace h := pw_f hc h
      refine lv_iload_n hx hb dX5_greatestFrom_10 rfl (lv_at hl 1 rfl) ?_
      refine lv_iconst (v := 1) hx hb dX5_greatestFrom_11 (by decide) ?_
      refine lv_iload_n hx hb dX5_greatestFrom_12 rfl (lv_at hl 3 rfl) ?_
      refine lv_ishl hx hb dX5_greatestFrom_13 ?_
      refine lv_iand hx hb dX5_greatestFrom_14 ?_
      refine lv_if_eq (tgt := 29) hx hb dX5_greatestFrom_15 (by decide) (fun hc => ?_) (fun hc => ?_)
      · replace h := pw_t hc h
        refine lv_iinc (v := (x3 + 1)) (lv' := [(3, .int (x3 + 1)), (0, .ref (ad 31)), (1, .int x1), (2, .int x2)]) hx hb dX5_greatestFrom_29 hl (k := 3) rfl rfl (by decide) rfl (fun ls hl => ?_)
        refine lv_goto (tgt := 4) hx hb dX5_greatestFrom_32 (by decide) ?_
        exact ih _ _ _ _ _ _ _ hw (lv_sub hl [1, 2, 3, 0] rfl) h
      · replace h := pw_f hc h
        refine lv_iload_n hx hb dX5_greatestFrom_18 rfl (lv_at hl 2 rfl) ?_
        refine lv_aload_n hx hb dX5_greatestFrom_19 rfl (lv_at hl 0 rfl) ?_
        refine r_get C hw qC_31 clsX5 0 rfl (by decide) fl_X5_9 dX5_greatestFrom_20 (v := .ref (ad 32)) rfl ?_
        refine lv_iload_n hx hb dX5_greatestFrom_23 rfl (lv_at hl 3 rfl) ?_
        refine r_iald C hw qC_32 dX5_greatestFrom_24 h (fun v1 h => ?_)
        refine va_mmax hx hb (hml.trans hl.1.symm) hown (hts _ ml_X5_29) (hts _ ls_max) (hts _ li_Math) (hts _ lc_max) (pw_fr (by omega)) (pw_lo (Nat.le_of_ble_eq_true rfl) (by omega)) (Nat.zero_le _) (Nat.zero_le _) dX5_greatestFrom_25 ?_
        refine r_leti h (fun v2 h => ?_)
        refine lv_istore_n (lv' := [(2, .int v2), (0, .ref (ad 31)), (1, .int x1), (3, .int x3)]) hx hb dX5_greatestFrom_28 rfl hl (by decide) rfl (fun ls hl => ?_)
        refine lv_iinc (v := (x3 + 1)) (lv' := [(3, .int (x3 + 1)), (2, .int v2), (0, .ref (ad 31)), (1, .int x1)]) hx hb dX5_greatestFrom_29 hl (k := 3) rfl rfl (by decide) rfl (fun ls hl => ?_)
        refine lv_goto (tgt := 4) hx hb dX5_greatestFrom_32 (by decide) ?_
        exact ih _ _ _ _ _ _ _ hw (lv_sub hl [2, 3, 1, 0] rfl) h
set_option maxRecDepth 100000 in
set_option maxHeartbeats 4000000 in
theorem kX5_greatestFrom (l : Launch) (D : va_G) (cI cZ : ClassId) (ad : Nat → Nat) (x1 : Int32) (σ : St) (z : Int32 × St) (h : fX5_greatestFrom x1 σ = some z) : pw_MI l D shC cI cZ ad yX5_greatestFrom cX5_greatestFrom 4 (some .int) (pw_rm 1) [.ref (ad 31), .int x1] σ z.1 z.2 := by
  refine pw_ofI (by decide) (Nat.le_of_ble_eq_true rfl) ?_
  intro p e s m args below meth c A C hw ls hl
  obtain ⟨hx, hb, hr, hts, hown, hlk, hml, hK, hN⟩ := id C
  have hl : lv_has ls 4 [(0, .ref (ad 31)), (1, .int x1)] := hl
  unfold fX5_greatestFrom at h
  refine lv_iconst (v := 0) hx hb dX5_greatestFrom_0 (by decide) ?_
  refine lv_istore_n (lv' := [(2, .int 0), (0, .ref (ad 31)), (1, .int x1)]) hx hb dX5_greatestFrom_1 rfl hl (by decide) rfl (fun ls hl => ?_)
  refine lv_iconst (v := 0) hx hb dX5_greatestFrom_2 (by decide) ?_
  refine lv_istore_n (lv' := [(3, .int 0), (2, .int 0), (0, .ref (ad 31)), (1, .int x1)]) hx hb dX5_greatestFrom_3 rfl hl (by decide) rfl (fun ls hl => ?_)
  exact wX5_greatestFrom_b4 C  _ _ _ _ _ _ _ _ hw (lv_sub hl [2, 3, 1, 0] rfl) h
