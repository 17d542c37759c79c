set_option maxRecDepth 100000 in
set_option maxHeartbeats 4000000 in
theorem kX10_within (l : Launch) (D : va_G) (cI cZ : ClassId) (ad : Nat → Nat) (x0 : Int32) (x1 : Int32) (σ : St) (z : Int32 × St) (h : fX10_within x0 x1 σ = some z) : pw_MI l D shC cI cZ ad yX10_within cX10_within 2 (some .boolean) (pw_rm 0) [.int x0, .int x1] σ z.1 z.2 := by
  refine pw_ofI (by decide) (Nat.le_of_ble_eq_true rfl) ?_
  intro p e s m args below meth c A C hw ls hl
  obtain ⟨hx, hb, hr, hts, hown, hlk, hml, hK, hN⟩ := id C
  have hl : lv_has ls 2 [(0, .int x0), (1, .int x1)] := hl
  unfold fX10_within at h
  refine lv_iload_n hx hb dX10_within_0 rfl (lv_at hl 0 rfl) ?_
  refine lv_if_lt (tgt := 13) hx hb dX10_within_1 (by decide) (fun hc => ?_) (fun hc => ?_)
  · replace h := pw_t hc h
    refine lv_iconst (v := 0) hx hb dX10_within_13 (by decide) ?_
    exact r_zret C hw dX10_within_14 h
  · replace h := pw_f hc h
    refine lv_iload_n hx hb dX10_within_4 rfl (lv_at hl 0 rfl) ?_
    refine lv_iload_n hx hb dX10_within_5 rfl (lv_at hl 1 rfl) ?_
    refine lv_icmp_ge (tgt := 13) hx hb dX10_within_6 (by decide) (fun hc => ?_) (fun hc => ?_)
    · replace h := pw_t hc h
      refine lv_iconst (v := 0) hx hb dX10_within_13 (by decide) ?_
      exact r_zret C hw dX10_within_14 h
    · replace h := pw_f hc h
      refine lv_iconst (v := 1) hx hb dX10_within_9 (by decide) ?_
      refine lv_goto (tgt := 14) hx hb dX10_within_10 (by decide) ?_
      exact r_zret C hw dX10_within_14 h
set_option maxRecDepth 100000 in
set_option maxHeartbeats 4000000 in
theorem kX10_refuse (l : Launch) (D : va_G) (cI cZ : ClassId) (ad : Nat → Nat) (x1 : Int32) (σ : St) (z : Int32 × St) (h : fX10_refuse x1 σ = some z) : pw_MI l D shC cI cZ ad yX10_refuse cX10_refuse 3 (some .int) (pw_rm 1) [.ref (ad 0), .int x1] σ z.1 z.2 := by
  refine pw_ofI (by decide) (Nat.le_of_ble_eq_true rfl) ?_
  intro p e s m args below meth c A C hw ls hl
  obtain ⟨hx, hb, hr, hts, hown, hlk, hml, hK, hN⟩ := id C
  have hl : lv_has ls 3 [(0, .ref (ad 0)), (1, .int x1)] := hl
  unfold fX10_refuse at h
  refine lv_iconst (v := (-1)) hx hb dX10_refuse_0 (by decide) ?_
  refine lv_iload_n hx hb dX10_refuse_1 rfl (lv_at hl 1 rfl) ?_
  refine lv_isub hx hb dX10_refuse_2 ?_
  refine lv_istore_n (lv' := [(2, .int ((-1) - x1)), (0, .ref (ad 0)), (1, .int x1)]) hx hb dX10_refuse_3 rfl hl (by decide) rfl (fun ls hl => ?_)
  refine lv_iload_n hx hb dX10_refuse_4 rfl (lv_at hl 0 rfl) ?_
  refine lv_bipush (v := 6) hx hb dX10_refuse_5 (by decide) ?_
  obtain ⟨v3, σ2, e1, h⟩ := cal_some h
  refine r_cSI C hw (sh := shC) (ad := ad) (As := [.int ((-1) - x1), .int 6]) (rest := []) (kX10_within l D cI cZ ad _ _ _ _ e1) YX10_within ml_X10_87 (pw_rmOK (by omega) (by decide)) rfl hl.1 rfl (Nat.le_of_ble_eq_true rfl) dX10_refuse_7 ⟨Nat.zero_le _, Nat.zero_le _⟩ (fun H locs hw => ?_)
  refine lv_if_eq (tgt := 23) hx hb dX10_refuse_10 (by decide) (fun hc => ?_) (fun hc => ?_)
  · replace h := pw_t hc h
    refine lv_iload_n hx hb dX10_refuse_23 rfl (lv_at hl 2 rfl) ?_
    exact r_iret C hw dX10_refuse_24 h
  · replace h := pw_f hc h
    refine lv_aload_n hx hb dX10_refuse_13 rfl (lv_at hl 1 rfl) ?_
    refine r_get C hw qC_0 clsX10 0 rfl (by decide) fl_X10_9 dX10_refuse_14 (v := .ref (ad 1)) rfl ?_
    refine lv_iload_n hx hb dX10_refuse_17 rfl (lv_at hl 0 rfl) ?_
    refine lv_dup2_11 hx hb dX10_refuse_18 rfl rfl ?_
    refine r_iald C hw qC_1 dX10_refuse_19 h (fun v4 h => ?_)
    refine lv_iconst (v := 1) hx hb dX10_refuse_20 (by decide) ?_
    refine lv_iadd hx hb dX10_refuse_21 ?_
    refine r_iast C hw qC_1 dX10_refuse_22 h (fun σ5 H locs hw h => ?_)
    refine lv_iload_n hx hb dX10_refuse_23 rfl (lv_at hl 2 rfl) ?_
    exact r_iret C hw dX10_refuse_24 h
set_option maxRecDepth 100000 in
set_option maxHeartbeats 4000000 in
theorem kX0_trait (l : Launch) (D : va_G) (cI cZ : ClassId) (ad : Nat → Nat) (x1 : Int32) (x2 : Int32) (σ : St) (z : Int32 × St) (h : fX0_trait x1 x2 σ = some z) : pw_MI l D shC cI cZ ad yX0_trait cX0_trait 3 (some .int) (pw_rm 0) [.ref (ad 2), .int x1, .int x2] σ z.1 z.2 := by
  refine pw_ofI (by decide) (Nat.le_of_ble_eq_true rfl) ?_
  intro p e s m args below meth c A C hw ls hl
  obtain ⟨hx, hb, hr, hts, hown, hlk, hml, hK, hN⟩ := id C
  have hl : lv_has ls 3 [(0, .ref (ad 2)), (1, .int x1), (2, .int x2)] := hl
  unfold fX0_trait at h
  refine lv_aload_n hx hb dX0_trait_0 rfl (lv_at hl 0 rfl) ?_
  refine r_get C hw qC_2 clsX0 0 rfl (by decide) fl_X0_9 dX0_trait_1 (v := .ref (ad 3)) rfl ?_
  refine lv_iload_n hx hb dX0_trait_4 rfl (lv_at hl 1 rfl) ?_
  refine lv_iconst (v := 4) hx hb dX0_trait_5 (by decide) ?_
  refine lv_imul hx hb dX0_trait_6 ?_
  refine lv_iload_n hx hb dX0_trait_7 rfl (lv_at hl 2 rfl) ?_
  refine lv_iadd hx hb dX0_trait_8 ?_
  refine r_iald C hw qC_3 dX0_trait_9 h (fun v1 h => ?_)
  exact r_iret C hw dX0_trait_10 h
set_option maxRecDepth 100000 in
set_option maxHeartbeats 4000000 in
theorem kX0_changeTrait (l : Launch) (D : va_G) (cI cZ : ClassId) (ad : Nat → Nat) (x1 : Int32) (x2 : Int32) (x3 : Int32) (σ : St) (z : Int32 × St) (h : fX0_changeTrait x1 x2 x3 σ = some z) : pw_MI l D shC cI cZ ad yX0_changeTrait cX0_changeTrait 5 (some .int) (pw_rm 1) [.ref (ad 2), .int x1, .int x2, .int x3] σ z.1 z.2 := by
  refine pw_ofI (by decide) (Nat.le_of_ble_eq_true rfl) ?_
  intro p e s m args below meth c A C hw ls hl
  obtain ⟨hx, hb, hr, hts, hown, hlk, hml, hK, hN⟩ := id C
  have hl : lv_has ls 5 [(0, .ref (ad 2)), (1, .int x1), (2, .int x2), (3, .int x3)] := hl
  unfold fX0_changeTrait at h
  refine lv_aload_n hx hb dX0_changeTrait_0 rfl (lv_at hl 0 rfl) ?_
  refine lv_iload_n hx hb dX0_changeTrait_1 rfl (lv_at hl 1 rfl) ?_
  refine lv_iload_n hx hb dX0_changeTrait_2 rfl (lv_at hl 2 rfl) ?_
  obtain ⟨v3, σ2, e1, h⟩ := cal_some h
  refine r_cVI C hw (As := [.int x1, .int x2]) (rest := []) (kX0_trait l D cI cZ ad _ _ _ _ e1) YX0_trait ml_X0_31 qC_2 clsX0 (pw_rmOK (by omega) (by decide)) rfl hl.1 rfl (Nat.le_of_ble_eq_true rfl) dX0_changeTrait_3 ⟨Nat.zero_le _, Nat.zero_le _⟩ (fun H locs hw => ?_)
  refine lv_istore (lv' := [(4, .int v3), (0, .ref (ad 2)), (1, .int x1), (2, .int x2), (3, .int x3)]) hx hb dX0_changeTrait_6 hl (by decide) rfl (fun ls hl => ?_)
  refine lv_aload_n hx hb dX0_changeTrait_8 rfl (lv_at hl 1 rfl) ?_
  refine r_get C hw qC_2 clsX0 0 rfl (by decide) fl_X0_9 dX0_changeTrait_9 (v := .ref (ad 3)) rfl ?_
  refine lv_iload_n hx hb dX0_changeTrait_12 rfl (lv_at hl 2 rfl) ?_
  refine lv_iconst (v := 4) hx hb dX0_changeTrait_13 (by decide) ?_
  refine lv_imul hx hb dX0_changeTrait_14 ?_
  refine lv_iload_n hx hb dX0_changeTrait_15 rfl (lv_at hl 3 rfl) ?_
  refine lv_iadd hx hb dX0_changeTrait_16 ?_
  refine lv_iload_n hx hb dX0_changeTrait_17 rfl (lv_at hl 4 rfl) ?_
  refine r_iast C hw qC_3 dX0_changeTrait_18 h (fun σ4 H locs hw h => ?_)
  refine lv_iload hx hb dX0_changeTrait_19 (lv_at hl 0 rfl) ?_
  exact r_iret C hw dX0_changeTrait_21 h
set_option maxRecDepth 100000 in
set_option maxHeartbeats 4000000 in
theorem kX10_paste (l : Launch) (D : va_G) (cI cZ : ClassId) (ad : Nat → Nat) (x1 : Int32) (x2 : Int32) (x3 : Int32) (σ : St) (z : Int32 × St) (h : fX10_paste x1 x2 x3 σ = some z) : pw_MIs l D shC cI cZ ad yX10_paste cX10_paste 4 (some .int) (pw_rm 2) [.ref (ad 0), .int x1, .int x2, .int x3] σ z.1 z.2 := by
  refine pw_ofIs (by decide) (Nat.le_of_ble_eq_true rfl) ?_
  intro p e s m args below meth c A C hw ls hl hX
  obtain ⟨t_, hXX⟩ := id hX
  have hZ_GREATEST_TRAITS : va_Z "PorcelainWorks" "GREATEST_TRAITS" "[I" (.ref (t_ 0)) A s s.heap := (hXX 0 (by decide)).1
  have hT_GREATEST_TRAITS : va_T .int (t_ 0) 4 (fun j => .int (pw_GT j)) A s s.heap := (hXX 0 (by decide)).2
  have hZ_LEAST_PLACE_TRAITS : va_Z "PorcelainWorks" "LEAST_PLACE_TRAITS" "[I" (.ref (t_ 1)) A s s.heap := (hXX 1 (by decide)).1
  have hT_LEAST_PLACE_TRAITS : va_T .int (t_ 1) 2 (fun j => .int (pw_LP j)) A s s.heap := (hXX 1 (by decide)).2
  have hZ_GREATEST_PLACE_TRAITS : va_Z "PorcelainWorks" "GREATEST_PLACE_TRAITS" "[I" (.ref (t_ 2)) A s s.heap := (hXX 2 (by decide)).1
  have hT_GREATEST_PLACE_TRAITS : va_T .int (t_ 2) 2 (fun j => .int (pw_GP j)) A s s.heap := (hXX 2 (by decide)).2
  have hZ_FIRST_TRAITS : va_Z "PorcelainWorks" "FIRST_TRAITS" "[I" (.ref (t_ 3)) A s s.heap := (hXX 3 (by decide)).1
  have hT_FIRST_TRAITS : va_T .int (t_ 3) 4 (fun j => .int (pw_FT j)) A s s.heap := (hXX 3 (by decide)).2
  have hZ_FIRST_PLACE_TRAITS : va_Z "PorcelainWorks" "FIRST_PLACE_TRAITS" "[I" (.ref (t_ 4)) A s s.heap := (hXX 4 (by decide)).1
  have hT_FIRST_PLACE_TRAITS : va_T .int (t_ 4) 2 (fun j => .int (pw_FP j)) A s s.heap := (hXX 4 (by decide)).2
  obtain ⟨hx, hb, hr, hts, hown, hlk, hml, hK, hN⟩ := id C
  have hl : lv_has ls 4 [(0, .ref (ad 0)), (1, .int x1), (2, .int x2), (3, .int x3)] := hl
  unfold fX10_paste at h
  refine lv_iload_n hx hb dX10_paste_0 rfl (lv_at hl 1 rfl) ?_
  refine lv_bipush (v := 6) hx hb dX10_paste_1 (by decide) ?_
  obtain ⟨v3, σ2, e1, h⟩ := cal_some h
  refine r_cSI C hw (sh := shC) (ad := ad) (As := [.int x1, .int 6]) (rest := []) (kX10_within l D cI cZ ad _ _ _ _ e1) YX10_within ml_X10_87 (pw_rmOK (by omega) (by decide)) rfl hl.1 rfl (Nat.le_of_ble_eq_true rfl) dX10_paste_3 ⟨Nat.zero_le _, Nat.zero_le _⟩ (fun H locs hw => ?_)
  refine lv_if_ne (tgt := 15) hx hb dX10_paste_6 (by decide) (fun hc => ?_) (fun hc => ?_)
  · replace h := pw_f hc h
    refine lv_iload_n hx hb dX10_paste_15 rfl (lv_at hl 2 rfl) ?_
    refine lv_iconst (v := 4) hx hb dX10_paste_16 (by decide) ?_
    obtain ⟨v6, σ5, e4, h⟩ := cal_some h
    refine r_cSI C hw (sh := shC) (ad := ad) (As := [.int x2, .int 4]) (rest := []) (kX10_within l D cI cZ ad _ _ _ _ e4) YX10_within ml_X10_87 (pw_rmOK (by omega) (by decide)) rfl hl.1 rfl (Nat.le_of_ble_eq_true rfl) dX10_paste_17 ⟨Nat.zero_le _, Nat.zero_le _⟩ (fun H locs hw => ?_)
    refine lv_if_ne (tgt := 30) hx hb dX10_paste_20 (by decide) (fun hc => ?_) (fun hc => ?_)
    · replace h := pw_f hc h
      refine lv_iload_n hx hb dX10_paste_30 rfl (lv_at hl 3 rfl) ?_
      refine lv_if_ge (tgt := 41) hx hb dX10_paste_31 (by decide) (fun hc => ?_) (fun hc => ?_)
      · replace h := pw_t hc h
        refine lv_iload_n hx hb dX10_paste_41 rfl (lv_at hl 3 rfl) ?_
        refine va_gets hx hb hZ_GREATEST_TRAITS hw.2.2.1 hown (hts _ fl_X10_95) (fun _ h => h) dX10_paste_42 ?_
        refine lv_iload_n hx hb dX10_paste_45 rfl (lv_at hl 2 rfl) ?_
        refine r_tald C hT_GREATEST_TRAITS hw.2.2.1 dX10_paste_46 h (fun v7 h => ?_)
        refine lv_icmp_le (tgt := 57) hx hb dX10_paste_47 (by decide) (fun hc => ?_) (fun hc => ?_)
        · replace h := pw_t hc h
          refine lv_aload_n hx hb dX10_paste_57 rfl (lv_at hl 0 rfl) ?_
          refine r_get C hw qC_0 clsX10 1 rfl (by decide) fl_X10_16 dX10_paste_58 (v := .ref (ad 2)) rfl ?_
          refine lv_iload_n hx hb dX10_paste_61 rfl (lv_at hl 1 rfl) ?_
          refine lv_iload_n hx hb dX10_paste_62 rfl (lv_at hl 2 rfl) ?_
          refine lv_iload_n hx hb dX10_paste_63 rfl (lv_at hl 3 rfl) ?_
          obtain ⟨v10, σ9, e8, h⟩ := cal_some h
          refine r_cNI C hw (As := [.int x1, .int x2, .int x3]) (rest := []) (kX0_changeTrait l D cI cZ ad _ _ _ _ _ e8) YX0_changeTrait mn_X10_98 qC_2 clsX0 (pw_rmOK (by omega) (by decide)) rfl hl.1 rfl (Nat.le_of_ble_eq_true rfl) dX10_paste_64 ⟨Nat.zero_le _, Nat.zero_le _⟩ (fun H locs hw => ?_)
          exact r_iret C hw dX10_paste_67 h
        · replace h := pw_f hc h
          refine lv_aload_n hx hb dX10_paste_50 rfl (lv_at hl 0 rfl) ?_
          refine lv_bipush (v := (-6)) hx hb dX10_paste_51 (by decide) ?_
          obtain ⟨v13, σ12, e11, h⟩ := cal_some h
          refine r_cVI C hw (As := [.int (-6)]) (rest := []) (kX10_refuse l D cI cZ ad _ _ _ e11) YX10_refuse ml_X10_91 qC_0 clsX10 (pw_rmOK (by omega) (by decide)) rfl hl.1 rfl (Nat.le_of_ble_eq_true rfl) dX10_paste_53 ⟨Nat.zero_le _, Nat.zero_le _⟩ (fun H locs hw => ?_)
          exact r_iret C hw dX10_paste_56 h
      · replace h := pw_f hc h
        refine lv_aload_n hx hb dX10_paste_34 rfl (lv_at hl 0 rfl) ?_
        refine lv_bipush (v := (-4)) hx hb dX10_paste_35 (by decide) ?_
        obtain ⟨v16, σ15, e14, h⟩ := cal_some h
        refine r_cVI C hw (As := [.int (-4)]) (rest := []) (kX10_refuse l D cI cZ ad _ _ _ e14) YX10_refuse ml_X10_91 qC_0 clsX10 (pw_rmOK (by omega) (by decide)) rfl hl.1 rfl (Nat.le_of_ble_eq_true rfl) dX10_paste_37 ⟨Nat.zero_le _, Nat.zero_le _⟩ (fun H locs hw => ?_)
        exact r_iret C hw dX10_paste_40 h
    · replace h := pw_t hc h
      refine lv_aload_n hx hb dX10_paste_23 rfl (lv_at hl 0 rfl) ?_
      refine lv_bipush (v := (-2)) hx hb dX10_paste_24 (by decide) ?_
      obtain ⟨v19, σ18, e17, h⟩ := cal_some h
      refine r_cVI C hw (As := [.int (-2)]) (rest := []) (kX10_refuse l D cI cZ ad _ _ _ e17) YX10_refuse ml_X10_91 qC_0 clsX10 (pw_rmOK (by omega) (by decide)) rfl hl.1 rfl (Nat.le_of_ble_eq_true rfl) dX10_paste_26 ⟨Nat.zero_le _, Nat.zero_le _⟩ (fun H locs hw => ?_)
      exact r_iret C hw dX10_paste_29 h
  · replace h := pw_t hc h
    refine lv_aload_n hx hb dX10_paste_9 rfl (lv_at hl 0 rfl) ?_
    refine lv_iconst (v := (-1)) hx hb dX10_paste_10 (by decide) ?_
    obtain ⟨v22, σ21, e20, h⟩ := cal_some h
    refine r_cVI C hw (As := [.int (-1)]) (rest := []) (kX10_refuse l D cI cZ ad _ _ _ e20) YX10_refuse ml_X10_91 qC_0 clsX10 (pw_rmOK (by omega) (by decide)) rfl hl.1 rfl (Nat.le_of_ble_eq_true rfl) dX10_paste_11 ⟨Nat.zero_le _, Nat.zero_le _⟩ (fun H locs hw => ?_)
    exact r_iret C hw dX10_paste_14 h
set_option maxRecDepth 100000 in
set_option maxHeartbeats 4000000 in
theorem kX0_mix (l : Launch) (D : va_G) (cI cZ : ClassId) (ad : Nat → Nat) (x1 : Int32) (x2 : Int32) (x3 : Int32) (σ : St) (z : Int32 × St) (h : fX0_mix x1 x2 x3 σ = some z) : pw_MI l D shC cI cZ ad yX0_mix cX0_mix 4 (some .int) (pw_rm 0) [.ref (ad 2), .int x1, .int x2, .int x3] σ z.1 z.2 := by
  refine pw_ofI (by decide) (Nat.le_of_ble_eq_true rfl) ?_
  intro p e s m args below meth c A C hw ls hl
  obtain ⟨hx, hb, hr, hts, hown, hlk, hml, hK, hN⟩ := id C
  have hl : lv_has ls 4 [(0, .ref (ad 2)), (1, .int x1), (2, .int x2), (3, .int x3)] := hl
  unfold fX0_mix at h
  refine lv_aload_n hx hb dX0_mix_0 rfl (lv_at hl 0 rfl) ?_
  refine r_get C hw qC_2 clsX0 1 rfl (by decide) fl_X0_15 dX0_mix_1 (v := .ref (ad 4)) rfl ?_
  refine lv_aload_n hx hb dX0_mix_4 rfl (lv_at hl 0 rfl) ?_
  refine r_get C hw qC_2 clsX0 4 rfl (by decide) fl_X0_24 dX0_mix_5 (v := .int (σ 2 4)) rfl ?_
  refine lv_iload_n hx hb dX0_mix_8 rfl (lv_at hl 1 rfl) ?_
  refine r_iast C hw qC_4 dX0_mix_9 h (fun σ1 H locs hw h => ?_)
  refine lv_aload_n hx hb dX0_mix_10 rfl (lv_at hl 0 rfl) ?_
  refine r_get C hw qC_2 clsX0 2 rfl (by decide) fl_X0_18 dX0_mix_11 (v := .ref (ad 5)) rfl ?_
  refine lv_aload_n hx hb dX0_mix_14 rfl (lv_at hl 0 rfl) ?_
  refine r_get C hw qC_2 clsX0 4 rfl (by decide) fl_X0_24 dX0_mix_15 (v := .int (σ1 2 4)) rfl ?_
  refine lv_iload_n hx hb dX0_mix_18 rfl (lv_at hl 2 rfl) ?_
  refine r_iast C hw qC_5 dX0_mix_19 h (fun σ2 H locs hw h => ?_)
  refine lv_aload_n hx hb dX0_mix_20 rfl (lv_at hl 0 rfl) ?_
  refine r_get C hw qC_2 clsX0 3 rfl (by decide) fl_X0_21 dX0_mix_21 (v := .ref (ad 6)) rfl ?_
  refine lv_aload_n hx hb dX0_mix_24 rfl (lv_at hl 0 rfl) ?_
  refine r_get C hw qC_2 clsX0 4 rfl (by decide) fl_X0_24 dX0_mix_25 (v := .int (σ2 2 4)) rfl ?_
  refine lv_iload_n hx hb dX0_mix_28 rfl (lv_at hl 3 rfl) ?_
  refine r_iast C hw qC_6 dX0_mix_29 h (fun σ3 H locs hw h => ?_)
  refine lv_aload_n hx hb dX0_mix_30 rfl (lv_at hl 0 rfl) ?_
  refine lv_dup hx hb dX0_mix_31 rfl ?_
  refine r_get C hw qC_2 clsX0 4 rfl (by decide) fl_X0_24 dX0_mix_32 (v := .int (σ3 2 4)) rfl ?_
  refine lv_iconst (v := 1) hx hb dX0_mix_35 (by decide) ?_
  refine lv_iadd hx hb dX0_mix_36 ?_
  refine r_put C hw qC_2 clsX0 4 rfl (by decide) fl_X0_24 dX0_mix_37 rfl rfl rfl h (fun σ4 H locs hw h => ?_)
  refine lv_aload_n hx hb dX0_mix_40 rfl (lv_at hl 0 rfl) ?_
  refine r_get C hw qC_2 clsX0 4 rfl (by decide) fl_X0_24 dX0_mix_41 (v := .int (σ4 2 4)) rfl ?_
  refine lv_iconst (v := 1) hx hb dX0_mix_44 (by decide) ?_
  refine lv_isub hx hb dX0_mix_45 ?_
  exact r_iret C hw dX0_mix_46 h
set_option maxRecDepth 100000 in
set_option maxHeartbeats 4000000 in
theorem kX10_batch (l : Launch) (D : va_G) (cI cZ : ClassId) (ad : Nat → Nat) (x1 : Int32) (x2 : Int32) (σ : St) (z : Int32 × St) (h : fX10_batch x1 x2 σ = some z) : pw_MI l D shC cI cZ ad yX10_batch cX10_batch 3 (some .int) (pw_rm 2) [.ref (ad 0), .int x1, .int x2] σ z.1 z.2 := by
  refine pw_ofI (by decide) (Nat.le_of_ble_eq_true rfl) ?_
  intro p e s m args below meth c A C hw ls hl
  obtain ⟨hx, hb, hr, hts, hown, hlk, hml, hK, hN⟩ := id C
  have hl : lv_has ls 3 [(0, .ref (ad 0)), (1, .int x1), (2, .int x2)] := hl
  unfold fX10_batch at h
  refine lv_iload_n hx hb dX10_batch_0 rfl (lv_at hl 1 rfl) ?_
  refine lv_bipush (v := 6) hx hb dX10_batch_1 (by decide) ?_
  obtain ⟨v3, σ2, e1, h⟩ := cal_some h
  refine r_cSI C hw (sh := shC) (ad := ad) (As := [.int x1, .int 6]) (rest := []) (kX10_within l D cI cZ ad _ _ _ _ e1) YX10_within ml_X10_87 (pw_rmOK (by omega) (by decide)) rfl hl.1 rfl (Nat.le_of_ble_eq_true rfl) dX10_batch_3 ⟨Nat.zero_le _, Nat.zero_le _⟩ (fun H locs hw => ?_)
  refine lv_if_ne (tgt := 15) hx hb dX10_batch_6 (by decide) (fun hc => ?_) (fun hc => ?_)
  · replace h := pw_f hc h
    refine lv_iload_n hx hb dX10_batch_15 rfl (lv_at hl 2 rfl) ?_
    refine lv_iconst (v := 1) hx hb dX10_batch_16 (by decide) ?_
    refine lv_icmp_ge (tgt := 27) hx hb dX10_batch_17 (by decide) (fun hc => ?_) (fun hc => ?_)
    · replace h := pw_t hc h
      refine lv_iload_n hx hb dX10_batch_27 rfl (lv_at hl 2 rfl) ?_
      refine lv_sipush (v := 1000) hx hb dX10_batch_28 (by decide) ?_
      refine lv_icmp_gt (tgt := 46) hx hb dX10_batch_31 (by decide) (fun hc => ?_) (fun hc => ?_)
      · replace h := pw_t hc h
        refine lv_aload_n hx hb dX10_batch_46 rfl (lv_at hl 0 rfl) ?_
        refine lv_bipush (v := (-6)) hx hb dX10_batch_47 (by decide) ?_
        obtain ⟨v6, σ5, e4, h⟩ := cal_some h
        refine r_cVI C hw (As := [.int (-6)]) (rest := []) (kX10_refuse l D cI cZ ad _ _ _ e4) YX10_refuse ml_X10_91 qC_0 clsX10 (pw_rmOK (by omega) (by decide)) rfl hl.1 rfl (Nat.le_of_ble_eq_true rfl) dX10_batch_49 ⟨Nat.zero_le _, Nat.zero_le _⟩ (fun H locs hw => ?_)
        exact r_iret C hw dX10_batch_52 h
      · replace h := pw_f hc h
        refine lv_aload_n hx hb dX10_batch_34 rfl (lv_at hl 0 rfl) ?_
        refine r_get C hw qC_0 clsX10 1 rfl (by decide) fl_X10_16 dX10_batch_35 (v := .ref (ad 2)) rfl ?_
        refine r_getN C hw qC_2 clsX0 4 rfl (by decide) fn_X10_102 dX10_batch_38 (v := .int (σ2 2 4)) rfl ?_
        refine lv_bipush (v := 20) hx hb dX10_batch_41 (by decide) ?_
        refine lv_icmp_lt (tgt := 53) hx hb dX10_batch_43 (by decide) (fun hc => ?_) (fun hc => ?_)
        · replace h := pw_t hc h
          refine lv_aload_n hx hb dX10_batch_53 rfl (lv_at hl 0 rfl) ?_
          refine r_get C hw qC_0 clsX10 1 rfl (by decide) fl_X10_16 dX10_batch_54 (v := .ref (ad 2)) rfl ?_
          refine lv_iload_n hx hb dX10_batch_57 rfl (lv_at hl 1 rfl) ?_
          refine lv_iload_n hx hb dX10_batch_58 rfl (lv_at hl 2 rfl) ?_
          refine lv_aload_n hx hb dX10_batch_59 rfl (lv_at hl 0 rfl) ?_
          refine r_get C hw qC_0 clsX10 11 rfl (by decide) fl_X10_83 dX10_batch_60 (v := .int (σ2 0 11)) rfl ?_
          obtain ⟨v9, σ8, e7, h⟩ := cal_some h
          refine r_cNI C hw (As := [.int x1, .int x2, .int (σ2 0 11)]) (rest := []) (kX0_mix l D cI cZ ad _ _ _ _ _ e7) YX0_mix mn_X10_105 qC_2 clsX0 (pw_rmOK (by omega) (by decide)) rfl hl.1 rfl (Nat.le_of_ble_eq_true rfl) dX10_batch_63 ⟨Nat.zero_le _, Nat.zero_le _⟩ (fun H locs hw => ?_)
          exact r_iret C hw dX10_batch_66 h
        · replace h := pw_f hc h
          refine lv_aload_n hx hb dX10_batch_46 rfl (lv_at hl 0 rfl) ?_
          refine lv_bipush (v := (-6)) hx hb dX10_batch_47 (by decide) ?_
          obtain ⟨v12, σ11, e10, h⟩ := cal_some h
          refine r_cVI C hw (As := [.int (-6)]) (rest := []) (kX10_refuse l D cI cZ ad _ _ _ e10) YX10_refuse ml_X10_91 qC_0 clsX10 (pw_rmOK (by omega) (by decide)) rfl hl.1 rfl (Nat.le_of_ble_eq_true rfl) dX10_batch_49 ⟨Nat.zero_le _, Nat.zero_le _⟩ (fun H locs hw => ?_)
          exact r_iret C hw dX10_batch_52 h
    · replace h := pw_f hc h
      refine lv_aload_n hx hb dX10_batch_20 rfl (lv_at hl 0 rfl) ?_
      refine lv_bipush (v := (-4)) hx hb dX10_batch_21 (by decide) ?_
      obtain ⟨v15, σ14, e13, h⟩ := cal_some h
      refine r_cVI C hw (As := [.int (-4)]) (rest := []) (kX10_refuse l D cI cZ ad _ _ _ e13) YX10_refuse ml_X10_91 qC_0 clsX10 (pw_rmOK (by omega) (by decide)) rfl hl.1 rfl (Nat.le_of_ble_eq_true rfl) dX10_batch_23 ⟨Nat.zero_le _, Nat.zero_le _⟩ (fun H locs hw => ?_)
      exact r_iret C hw dX10_batch_26 h
  · replace h := pw_t hc h
    refine lv_aload_n hx hb dX10_batch_9 rfl (lv_at hl 0 rfl) ?_
    refine lv_iconst (v := (-1)) hx hb dX10_batch_10 (by decide) ?_
    obtain ⟨v18, σ17, e16, h⟩ := cal_some h
    refine r_cVI C hw (As := [.int (-1)]) (rest := []) (kX10_refuse l D cI cZ ad _ _ _ e16) YX10_refuse ml_X10_91 qC_0 clsX10 (pw_rmOK (by omega) (by decide)) rfl hl.1 rfl (Nat.le_of_ble_eq_true rfl) dX10_batch_11 ⟨Nat.zero_le _, Nat.zero_le _⟩ (fun H locs hw => ?_)
    exact r_iret C hw dX10_batch_14 h
set_option maxRecDepth 100000 in
set_option maxHeartbeats 4000000 in
theorem wX2_sumAfter_b37 {p : Program} {l : Launch} {e : Env} {s : State} {m : MethodId} {args : Array Value} {below : List Frame} {meth : Method} {c : Code} {D : va_G} {cI cZ : ClassId} {ad : Nat → Nat} {A : Nat → Prop} {z : Int32 × St}  (C : pw_C p s m args meth c yX2_sumAfter.cls cX2_sumAfter 9 (some .int) D cI cZ) : ∀ (n : Nat) (x1 : Int32) (x5 : Int32) (x6 : Int64) (x8 : Int32) (σ : St) (H : Heap) (locs : List Loc) (ls : Array Slot), pw_H D (pw_w shC cI cZ ad σ) A s.heap H locs → lv_has ls 9 [(0, .ref (ad 56)), (1, .int x1), (5, .int x5), (6, .long x6), (8, .int x8)] → fX2_sumAfter_b37  n x1 x5 x6 x8 σ = some z → W p l e (pw_rm 1) s m args below meth c H locs 0 0 (pw_QI below args s D (pw_w shC cI cZ ad) A z) (F0 m 37 ls []) := by
  obtain ⟨hx, hb, hr, hts, hown, hlk, hml, hK, hN⟩ := id C
  intro n
  induction n with
  | zero =>
    intro x1 x5 x6 x8 σ H locs ls hw hl h
    exact absurd h (by simp [fX2_sumAfter_b37])
  | succ n ih =>
    intro x1 x5 x6 x8 σ H locs ls hw hl h
    rw [fX2_sumAfter_b37] at h
    refine lv_iload hx hb dX2_sumAfter_37 (lv_at hl 4 rfl) ?_
    refine lv_iload hx hb dX2_sumAfter_39 (lv_at hl 2 rfl) ?_
    refine lv_icmp_ge (tgt := 75) hx hb dX2_sumAfter_41 (by decide) (fun hc => ?_) (fun hc => ?_)
    · replace h := pw_t hc h
      refine lv_lload hx hb dX2_sumAfter_75 (lv_at hl 3 rfl) ?_
      refine lv_l2i (v := (x6).toInt32) hx hb dX2_sumAfter_77 rfl ?_
      exact r_iret C hw dX2_sumAfter_78 h
    · replace h := pw_f hc h
      refine lv_ldc2 (v := 2000000000) hx hb hown (hts _ ct_X2_29) dX2_sumAfter_44 ?_
      refine lv_lload hx hb dX2_sumAfter_47 (lv_at hl 3 rfl) ?_
      refine lv_lload hx hb dX2_sumAfter_49 (lv_at hl 3 rfl) ?_
      refine lv_aload_n hx hb dX2_sumAfter_51 rfl (lv_at hl 0 rfl) ?_
      refine r_get C hw qC_56 clsX2 1 rfl (by decide) fl_X2_15 dX2_sumAfter_52 (v := .ref (ad 58)) rfl ?_
      refine lv_iload_n hx hb dX2_sumAfter_55 rfl (lv_at hl 1 rfl) ?_
      refine r_iald C hw qC_58 dX2_sumAfter_56 h (fun v1 h => ?_)
      refine lv_i2l (v := (v1).toInt64) hx hb dX2_sumAfter_57 rfl ?_
      refine lv_lmul hx hb dX2_sumAfter_58 ?_
      refine lv_ldc2 (v := 1000) hx hb hown (hts _ ct_X2_31) dX2_sumAfter_59 ?_
      refine lv_ldiv hx hb dX2_sumAfter_62 (by decide) ?_
      refine lv_ladd hx hb dX2_sumAfter_63 ?_
      refine va_mmin_long hx hb (hml.trans hl.1.symm) hown (hts _ ml_X2_33) (hts _ ls_minl) (hts _ li_Math) (hts _ lc_minl) (pw_fr (by omega)) (pw_lo (Nat.le_of_ble_eq_true rfl) (by omega)) (Nat.zero_le _) (Nat.zero_le _) dX2_sumAfter_64 ?_
      refine r_letl h (fun v2 h => ?_)
      refine lv_lstore (lv' := [(6, .long v2), (0, .ref (ad 56)), (1, .int x1), (5, .int x5), (8, .int x8)]) hx hb dX2_sumAfter_67 hl (by decide) rfl (fun ls hl => ?_)
      refine lv_iinc (v := (x8 + 1)) (lv' := [(8, .int (x8 + 1)), (6, .long v2), (0, .ref (ad 56)), (1, .int x1), (5, .int x5)]) hx hb dX2_sumAfter_69 hl (k := 4) rfl rfl (by decide) rfl (fun ls hl => ?_)
      refine lv_goto (tgt := 37) hx hb dX2_sumAfter_72 (by decide) ?_
      exact ih _ _ _ _ _ _ _ _ hw (lv_sub hl [2, 3, 4, 1, 0] rfl) h
set_option maxRecDepth 100000 in
set_option maxHeartbeats 4000000 in
theorem kX2_sumAfter (l : Launch) (D : va_G) (cI cZ : ClassId) (ad : Nat → Nat) (x1 : Int32) (x2 : Int32) (x3 : Int32) (σ : St) (z : Int32 × St) (h : fX2_sumAfter x1 x2 x3 σ = some z) : pw_MI l D shC cI cZ ad yX2_sumAfter cX2_sumAfter 9 (some .int) (pw_rm 1) [.ref (ad 56), .int x1, .int x2, .int x3] σ z.1 z.2 := by
  refine pw_ofI (by decide) (Nat.le_of_ble_eq_true rfl) ?_
  intro p e s m args below meth c A C hw ls hl
  obtain ⟨hx, hb, hr, hts, hown, hlk, hml, hK, hN⟩ := id C
  have hl : lv_has ls 9 [(0, .ref (ad 56)), (1, .int x1), (2, .int x2), (3, .int x3)] := hl
  unfold fX2_sumAfter at h
  refine lv_iload_n hx hb dX2_sumAfter_0 rfl (lv_at hl 2 rfl) ?_
  refine lv_aload_n hx hb dX2_sumAfter_1 rfl (lv_at hl 0 rfl) ?_
  refine r_get C hw qC_56 clsX2 2 rfl (by decide) fl_X2_18 dX2_sumAfter_2 (v := .ref (ad 59)) rfl ?_
  refine lv_iload_n hx hb dX2_sumAfter_5 rfl (lv_at hl 1 rfl) ?_
  refine r_iald C hw qC_59 dX2_sumAfter_6 h (fun v3 h => ?_)
  refine lv_isub hx hb dX2_sumAfter_7 ?_
  refine lv_istore (lv' := [(4, .int (x2 - v3)), (0, .ref (ad 56)), (1, .int x1), (2, .int x2), (3, .int x3)]) hx hb dX2_sumAfter_8 hl (by decide) rfl (fun ls hl => ?_)
  refine lv_iload hx hb dX2_sumAfter_10 (lv_at hl 0 rfl) ?_
  refine lv_iload_n hx hb dX2_sumAfter_12 rfl (lv_at hl 4 rfl) ?_
  refine lv_iadd hx hb dX2_sumAfter_13 ?_
  refine lv_bipush (v := 30) hx hb dX2_sumAfter_14 (by decide) ?_
  refine lv_idiv hx hb dX2_sumAfter_16 (by decide) ?_
  refine lv_iload hx hb dX2_sumAfter_17 (lv_at hl 0 rfl) ?_
  refine lv_bipush (v := 30) hx hb dX2_sumAfter_19 (by decide) ?_
  refine lv_idiv hx hb dX2_sumAfter_21 (by decide) ?_
  refine lv_isub hx hb dX2_sumAfter_22 ?_
  refine r_leti h (fun v4 h => ?_)
  refine lv_istore (lv' := [(5, .int v4), (4, .int (x2 - v3)), (0, .ref (ad 56)), (1, .int x1), (2, .int x2), (3, .int x3)]) hx hb dX2_sumAfter_23 hl (by decide) rfl (fun ls hl => ?_)
  refine lv_aload_n hx hb dX2_sumAfter_25 rfl (lv_at hl 2 rfl) ?_
  refine r_get C hw qC_56 clsX2 0 rfl (by decide) fl_X2_9 dX2_sumAfter_26 (v := .ref (ad 57)) rfl ?_
  refine lv_iload_n hx hb dX2_sumAfter_29 rfl (lv_at hl 3 rfl) ?_
  refine r_iald C hw qC_57 dX2_sumAfter_30 h (fun v5 h => ?_)
  refine lv_i2l (v := (v5).toInt64) hx hb dX2_sumAfter_31 rfl ?_
  refine lv_lstore (lv' := [(6, .long (v5).toInt64), (5, .int v4), (4, .int (x2 - v3)), (0, .ref (ad 56)), (1, .int x1), (2, .int x2), (3, .int x3)]) hx hb dX2_sumAfter_32 hl (by decide) rfl (fun ls hl => ?_)
  refine lv_iconst (v := 0) hx hb dX2_sumAfter_34 (by decide) ?_
  refine lv_istore (lv' := [(8, .int 0), (6, .long (v5).toInt64), (5, .int v4), (4, .int (x2 - v3)), (0, .ref (ad 56)), (1, .int x1), (2, .int x2), (3, .int x3)]) hx hb dX2_sumAfter_35 hl (by decide) rfl (fun ls hl => ?_)
  exact wX2_sumAfter_b37 C  _ _ _ _ _ _ _ _ _ hw (lv_sub hl [4, 5, 2, 1, 0] rfl) h
set_option maxRecDepth 100000 in
set_option maxHeartbeats 4000000 in
theorem wX2_pass_b2 {p : Program} {l : Launch} {e : Env} {s : State} {m : MethodId} {args : Array Value} {below : List Frame} {meth : Method} {c : Code} {D : va_G} {cI cZ : ClassId} {ad : Nat → Nat} {A : Nat → Prop} {z : Int32 × St}  (C : pw_C p s m args meth c yX2_pass.cls cX2_pass 4 none D cI cZ) : ∀ (n : Nat) (x1 : Int32) (x2 : Int32) (x3 : Int32) (σ : St) (H : Heap) (locs : List Loc) (ls : Array Slot), pw_H D (pw_w shC cI cZ ad σ) A s.heap H locs → lv_has ls 4 [(0, .ref (ad 56)), (1, .int x1), (2, .int x2), (3, .int x3)] → fX2_pass_b2  n x1 x2 x3 σ = some z → W p l e (pw_rm 2) s m args below meth c H locs 0 0 (pw_QV below args s D (pw_w shC cI cZ ad) A z) (F0 m 2 ls []) := by
  obtain ⟨hx, hb, hr, hts, hown, hlk, hml, hK, hN⟩ := id C
  intro n
  induction n with
  | zero =>
    intro x1 x2 x3 σ H locs ls hw hl h
    exact absurd h (by simp [fX2_pass_b2])
  | succ n ih =>
    intro x1 x2 x3 σ H locs ls hw hl h
    rw [fX2_pass_b2] at h
    refine lv_iload_n hx hb dX2_pass_2 rfl (lv_at hl 3 rfl) ?_
    refine lv_aload_n hx hb dX2_pass_3 rfl (lv_at hl 0 rfl) ?_
    refine r_get C hw qC_56 clsX2 3 rfl (by decide) fl_X2_21 dX2_pass_4 (v := .int (σ 56 3)) rfl ?_
    refine lv_icmp_ge (tgt := 29) hx hb dX2_pass_7 (by decide) (fun hc => ?_) (fun hc => ?_)
    · replace h := pw_t hc h
      exact r_vret C hw dX2_pass_29 h
    · replace h := pw_f hc h
      refine lv_aload_n hx hb dX2_pass_10 rfl (lv_at hl 0 rfl) ?_
      refine r_get C hw qC_56 clsX2 0 rfl (by decide) fl_X2_9 dX2_pass_11 (v := .ref (ad 57)) rfl ?_
      refine lv_iload_n hx hb dX2_pass_14 rfl (lv_at hl 3 rfl) ?_
      refine lv_aload_n hx hb dX2_pass_15 rfl (lv_at hl 0 rfl) ?_
      refine lv_iload_n hx hb dX2_pass_16 rfl (lv_at hl 3 rfl) ?_
      refine lv_iload_n hx hb dX2_pass_17 rfl (lv_at hl 1 rfl) ?_
      refine lv_iload_n hx hb dX2_pass_18 rfl (lv_at hl 2 rfl) ?_
      obtain ⟨v3, σ2, e1, h⟩ := cal_some h
      refine r_cVI C hw (As := [.int x3, .int x1, .int x2]) (rest := [.int x3, .ref (ad 57)]) (kX2_sumAfter l D cI cZ ad _ _ _ _ _ e1) YX2_sumAfter ml_X2_25 qC_56 clsX2 (pw_rmOK (by omega) (by decide)) rfl hl.1 rfl (Nat.le_of_ble_eq_true rfl) dX2_pass_19 ⟨Nat.zero_le _, Nat.zero_le _⟩ (fun H locs hw => ?_)
      refine r_iast C hw qC_57 dX2_pass_22 h (fun σ4 H locs hw h => ?_)
      refine lv_iinc (v := (x3 + 1)) (lv' := [(3, .int (x3 + 1)), (0, .ref (ad 56)), (1, .int x1), (2, .int x2)]) hx hb dX2_pass_23 hl (k := 3) rfl rfl (by decide) rfl (fun ls hl => ?_)
      refine lv_goto (tgt := 2) hx hb dX2_pass_26 (by decide) ?_
      exact ih _ _ _ _ _ _ _ hw (lv_sub hl [1, 2, 3, 0] rfl) h
set_option maxRecDepth 100000 in
set_option maxHeartbeats 4000000 in
theorem kX2_pass (l : Launch) (D : va_G) (cI cZ : ClassId) (ad : Nat → Nat) (x1 : Int32) (x2 : Int32) (σ : St) (z : Int32 × St) (h : fX2_pass x1 x2 σ = some z) : pw_MV l D shC cI cZ ad yX2_pass cX2_pass 4 none (pw_rm 2) [.ref (ad 56), .int x1, .int x2] σ z.2 := by
  refine pw_ofV (by decide) (Nat.le_of_ble_eq_true rfl) ?_
  intro p e s m args below meth c A C hw ls hl
  obtain ⟨hx, hb, hr, hts, hown, hlk, hml, hK, hN⟩ := id C
  have hl : lv_has ls 4 [(0, .ref (ad 56)), (1, .int x1), (2, .int x2)] := hl
  unfold fX2_pass at h
  refine lv_iconst (v := 0) hx hb dX2_pass_0 (by decide) ?_
  refine lv_istore_n (lv' := [(3, .int 0), (0, .ref (ad 56)), (1, .int x1), (2, .int x2)]) hx hb dX2_pass_1 rfl hl (by decide) rfl (fun ls hl => ?_)
  exact wX2_pass_b2 C  _ _ _ _ _ _ _ _ hw (lv_sub hl [1, 2, 3, 0] rfl) h
set_option maxRecDepth 100000 in
set_option maxHeartbeats 4000000 in
theorem kX10_pass (l : Launch) (D : va_G) (cI cZ : ClassId) (ad : Nat → Nat) (x1 : Int32) (σ : St) (z : Int32 × St) (h : fX10_pass x1 σ = some z) : pw_MV l D shC cI cZ ad yX10_pass cX10_pass 2 none (pw_rm 3) [.ref (ad 0), .int x1] σ z.2 := by
  refine pw_ofV (by decide) (Nat.le_of_ble_eq_true rfl) ?_
  intro p e s m args below meth c A C hw ls hl
  obtain ⟨hx, hb, hr, hts, hown, hlk, hml, hK, hN⟩ := id C
  have hl : lv_has ls 2 [(0, .ref (ad 0)), (1, .int x1)] := hl
  unfold fX10_pass at h
  refine lv_aload_n hx hb dX10_pass_0 rfl (lv_at hl 0 rfl) ?_
  refine r_get C hw qC_0 clsX10 10 rfl (by decide) fl_X10_79 dX10_pass_1 (v := .ref (ad 56)) rfl ?_
  refine lv_aload_n hx hb dX10_pass_4 rfl (lv_at hl 0 rfl) ?_
  refine r_get C hw qC_0 clsX10 11 rfl (by decide) fl_X10_83 dX10_pass_5 (v := .int (σ 0 11)) rfl ?_
  refine lv_iload_n hx hb dX10_pass_8 rfl (lv_at hl 1 rfl) ?_
  obtain ⟨r3, σ2, e1, h⟩ := cal_some h
  refine r_cNV C hw (As := [.int (σ 0 11), .int x1]) (rest := []) (kX2_pass l D cI cZ ad _ _ _ _ e1) YX2_pass mn_X10_320 qC_56 clsX2 (pw_rmOK (by omega) (by decide)) rfl hl.1 rfl (Nat.le_of_ble_eq_true rfl) dX10_pass_9 ⟨Nat.zero_le _, Nat.zero_le _⟩ (fun H locs hw => ?_)
  refine lv_aload_n hx hb dX10_pass_12 rfl (lv_at hl 0 rfl) ?_
  refine lv_dup hx hb dX10_pass_13 rfl ?_
  refine r_get C hw qC_0 clsX10 11 rfl (by decide) fl_X10_83 dX10_pass_14 (v := .int (σ2 0 11)) rfl ?_
  refine lv_iload_n hx hb dX10_pass_17 rfl (lv_at hl 1 rfl) ?_
  refine lv_iadd hx hb dX10_pass_18 ?_
  refine r_put C hw qC_0 clsX10 11 rfl (by decide) fl_X10_83 dX10_pass_19 rfl rfl rfl h (fun σ4 H locs hw h => ?_)
  exact r_vret C hw dX10_pass_22 h
set_option maxRecDepth 100000 in
set_option maxHeartbeats 4000000 in
theorem kX10_days (l : Launch) (D : va_G) (cI cZ : ClassId) (ad : Nat → Nat) (x1 : Int32) (σ : St) (z : Int32 × St) (h : fX10_days x1 σ = some z) : pw_MI l D shC cI cZ ad yX10_days cX10_days 2 (some .int) (pw_rm 4) [.ref (ad 0), .int x1] σ z.1 z.2 := by
  refine pw_ofI (by decide) (Nat.le_of_ble_eq_true rfl) ?_
  intro p e s m args below meth c A C hw ls hl
  obtain ⟨hx, hb, hr, hts, hown, hlk, hml, hK, hN⟩ := id C
  have hl : lv_has ls 2 [(0, .ref (ad 0)), (1, .int x1)] := hl
  unfold fX10_days at h
  refine lv_iload_n hx hb dX10_days_0 rfl (lv_at hl 1 rfl) ?_
  refine lv_iconst (v := 1) hx hb dX10_days_1 (by decide) ?_
  refine lv_icmp_ge (tgt := 12) hx hb dX10_days_2 (by decide) (fun hc => ?_) (fun hc => ?_)
  · replace h := pw_t hc h
    refine lv_iload_n hx hb dX10_days_12 rfl (lv_at hl 1 rfl) ?_
    refine lv_sipush (v := 4000) hx hb dX10_days_13 (by decide) ?_
    refine lv_aload_n hx hb dX10_days_16 rfl (lv_at hl 0 rfl) ?_
    refine r_get C hw qC_0 clsX10 11 rfl (by decide) fl_X10_83 dX10_days_17 (v := .int (σ 0 11)) rfl ?_
    refine lv_isub hx hb dX10_days_20 ?_
    refine lv_icmp_le (tgt := 31) hx hb dX10_days_21 (by decide) (fun hc => ?_) (fun hc => ?_)
    · replace h := pw_t hc h
      refine lv_aload_n hx hb dX10_days_31 rfl (lv_at hl 0 rfl) ?_
      refine lv_iload_n hx hb dX10_days_32 rfl (lv_at hl 1 rfl) ?_
      obtain ⟨r3, σ2, e1, h⟩ := cal_some h
      refine r_cVV C hw (As := [.int x1]) (rest := []) (kX10_pass l D cI cZ ad _ _ _ e1) YX10_pass ml_X10_108 qC_0 clsX10 (pw_rmOK (by omega) (by decide)) rfl hl.1 rfl (Nat.le_of_ble_eq_true rfl) dX10_days_33 ⟨Nat.zero_le _, Nat.zero_le _⟩ (fun H locs hw => ?_)
      refine lv_aload_n hx hb dX10_days_36 rfl (lv_at hl 0 rfl) ?_
      refine r_get C hw qC_0 clsX10 11 rfl (by decide) fl_X10_83 dX10_days_37 (v := .int (σ2 0 11)) rfl ?_
      exact r_iret C hw dX10_days_40 h
    · replace h := pw_f hc h
      refine lv_aload_n hx hb dX10_days_24 rfl (lv_at hl 0 rfl) ?_
      refine lv_bipush (v := (-6)) hx hb dX10_days_25 (by decide) ?_
      obtain ⟨v6, σ5, e4, h⟩ := cal_some h
      refine r_cVI C hw (As := [.int (-6)]) (rest := []) (kX10_refuse l D cI cZ ad _ _ _ e4) YX10_refuse ml_X10_91 qC_0 clsX10 (pw_rmOK (by omega) (by decide)) rfl hl.1 rfl (Nat.le_of_ble_eq_true rfl) dX10_days_27 ⟨Nat.zero_le _, Nat.zero_le _⟩ (fun H locs hw => ?_)
      exact r_iret C hw dX10_days_30 h
  · replace h := pw_f hc h
    refine lv_aload_n hx hb dX10_days_5 rfl (lv_at hl 0 rfl) ?_
    refine lv_bipush (v := (-4)) hx hb dX10_days_6 (by decide) ?_
    obtain ⟨v9, σ8, e7, h⟩ := cal_some h
    refine r_cVI C hw (As := [.int (-4)]) (rest := []) (kX10_refuse l D cI cZ ad _ _ _ e7) YX10_refuse ml_X10_91 qC_0 clsX10 (pw_rmOK (by omega) (by decide)) rfl hl.1 rfl (Nat.le_of_ble_eq_true rfl) dX10_days_8 ⟨Nat.zero_le _, Nat.zero_le _⟩ (fun H locs hw => ?_)
    exact r_iret C hw dX10_days_11 h
set_option maxRecDepth 100000 in
set_option maxHeartbeats 4000000 in
theorem kX0_isRipe (l : Launch) (D : va_G) (cI cZ : ClassId) (ad : Nat → Nat) (x1 : Int32) (x2 : Int32) (σ : St) (z : Int32 × St) (h : fX0_isRipe x1 x2 σ = some z) : pw_MI l D shC cI cZ ad yX0_isRipe cX0_isRipe 3 (some .boolean) (pw_rm 1) [.ref (ad 2), .int x1, .int x2] σ z.1 z.2 := by
  refine pw_ofI (by decide) (Nat.le_of_ble_eq_true rfl) ?_
  intro p e s m args below meth c A C hw ls hl
  obtain ⟨hx, hb, hr, hts, hown, hlk, hml, hK, hN⟩ := id C
  have hl : lv_has ls 3 [(0, .ref (ad 2)), (1, .int x1), (2, .int x2)] := hl
  unfold fX0_isRipe at h
  refine lv_iload_n hx hb dX0_isRipe_0 rfl (lv_at hl 2 rfl) ?_
  refine lv_aload_n hx hb dX0_isRipe_1 rfl (lv_at hl 0 rfl) ?_
  refine r_get C hw qC_2 clsX0 3 rfl (by decide) fl_X0_21 dX0_isRipe_2 (v := .ref (ad 6)) rfl ?_
  refine lv_iload_n hx hb dX0_isRipe_5 rfl (lv_at hl 1 rfl) ?_
  refine r_iald C hw qC_6 dX0_isRipe_6 h (fun v1 h => ?_)
  refine lv_isub hx hb dX0_isRipe_7 ?_
  refine lv_aload_n hx hb dX0_isRipe_8 rfl (lv_at hl 0 rfl) ?_
  refine lv_aload_n hx hb dX0_isRipe_9 rfl (lv_at hl 0 rfl) ?_
  refine r_get C hw qC_2 clsX0 1 rfl (by decide) fl_X0_15 dX0_isRipe_10 (v := .ref (ad 4)) rfl ?_
  refine lv_iload_n hx hb dX0_isRipe_13 rfl (lv_at hl 1 rfl) ?_
  refine r_iald C hw qC_4 dX0_isRipe_14 h (fun v2 h => ?_)
  refine lv_iconst (v := 0) hx hb dX0_isRipe_15 (by decide) ?_
  obtain ⟨v5, σ4, e3, h⟩ := cal_some h
  refine r_cVI C hw (As := [.int v2, .int 0]) (rest := [.int (x2 - v1)]) (kX0_trait l D cI cZ ad _ _ _ _ e3) YX0_trait ml_X0_31 qC_2 clsX0 (pw_rmOK (by omega) (by decide)) rfl hl.1 rfl (Nat.le_of_ble_eq_true rfl) dX0_isRipe_16 ⟨Nat.zero_le _, Nat.zero_le _⟩ (fun H locs hw => ?_)
  refine lv_icmp_lt (tgt := 26) hx hb dX0_isRipe_19 (by decide) (fun hc => ?_) (fun hc => ?_)
  · replace h := pw_t hc h
    refine lv_iconst (v := 0) hx hb dX0_isRipe_26 (by decide) ?_
    exact r_zret C hw dX0_isRipe_27 h
  · replace h := pw_f hc h
    refine lv_iconst (v := 1) hx hb dX0_isRipe_22 (by decide) ?_
    refine lv_goto (tgt := 27) hx hb dX0_isRipe_23 (by decide) ?_
    exact r_zret C hw dX0_isRipe_27 h
set_option maxRecDepth 100000 in
set_option maxHeartbeats 4000000 in
theorem kX6_shape (l : Launch) (D : va_G) (cI cZ : ClassId) (ad : Nat → Nat) (x1 : Int32) (x2 : Int32) (x3 : Int32) (σ : St) (z : Int32 × St) (h : fX6_shape x1 x2 x3 σ = some z) : pw_MI l D shC cI cZ ad yX6_shape cX6_shape 4 (some .int) (pw_rm 0) [.ref (ad 7), .int x1, .int x2, .int x3] σ z.1 z.2 := by
  refine pw_ofI (by decide) (Nat.le_of_ble_eq_true rfl) ?_
  intro p e s m args below meth c A C hw ls hl
  obtain ⟨hx, hb, hr, hts, hown, hlk, hml, hK, hN⟩ := id C
  have hl : lv_has ls 4 [(0, .ref (ad 7)), (1, .int x1), (2, .int x2), (3, .int x3)] := hl
  unfold fX6_shape at h
  refine lv_aload_n hx hb dX6_shape_0 rfl (lv_at hl 0 rfl) ?_
  refine r_get C hw qC_7 clsX6 0 rfl (by decide) fl_X6_9 dX6_shape_1 (v := .ref (ad 8)) rfl ?_
  refine lv_aload_n hx hb dX6_shape_4 rfl (lv_at hl 0 rfl) ?_
  refine r_get C hw qC_7 clsX6 7 rfl (by decide) fl_X6_33 dX6_shape_5 (v := .int (σ 7 7)) rfl ?_
  refine lv_iload_n hx hb dX6_shape_8 rfl (lv_at hl 1 rfl) ?_
  refine r_iast C hw qC_8 dX6_shape_9 h (fun σ1 H locs hw h => ?_)
  refine lv_aload_n hx hb dX6_shape_10 rfl (lv_at hl 0 rfl) ?_
  refine r_get C hw qC_7 clsX6 1 rfl (by decide) fl_X6_15 dX6_shape_11 (v := .ref (ad 9)) rfl ?_
  refine lv_aload_n hx hb dX6_shape_14 rfl (lv_at hl 0 rfl) ?_
  refine r_get C hw qC_7 clsX6 7 rfl (by decide) fl_X6_33 dX6_shape_15 (v := .int (σ1 7 7)) rfl ?_
  refine lv_iload_n hx hb dX6_shape_18 rfl (lv_at hl 2 rfl) ?_
  refine r_iast C hw qC_9 dX6_shape_19 h (fun σ2 H locs hw h => ?_)
  refine lv_aload_n hx hb dX6_shape_20 rfl (lv_at hl 0 rfl) ?_
  refine r_get C hw qC_7 clsX6 2 rfl (by decide) fl_X6_18 dX6_shape_21 (v := .ref (ad 10)) rfl ?_
  refine lv_aload_n hx hb dX6_shape_24 rfl (lv_at hl 0 rfl) ?_
  refine r_get C hw qC_7 clsX6 7 rfl (by decide) fl_X6_33 dX6_shape_25 (v := .int (σ2 7 7)) rfl ?_
  refine lv_iload_n hx hb dX6_shape_28 rfl (lv_at hl 3 rfl) ?_
  refine r_iast C hw qC_10 dX6_shape_29 h (fun σ3 H locs hw h => ?_)
  refine lv_aload_n hx hb dX6_shape_30 rfl (lv_at hl 0 rfl) ?_
  refine r_get C hw qC_7 clsX6 3 rfl (by decide) fl_X6_21 dX6_shape_31 (v := .ref (ad 11)) rfl ?_
  refine lv_aload_n hx hb dX6_shape_34 rfl (lv_at hl 0 rfl) ?_
  refine r_get C hw qC_7 clsX6 7 rfl (by decide) fl_X6_33 dX6_shape_35 (v := .int (σ3 7 7)) rfl ?_
  refine lv_iconst (v := 0) hx hb dX6_shape_38 (by decide) ?_
  refine r_iast C hw qC_11 dX6_shape_39 h (fun σ4 H locs hw h => ?_)
  refine lv_aload_n hx hb dX6_shape_40 rfl (lv_at hl 0 rfl) ?_
  refine r_get C hw qC_7 clsX6 4 rfl (by decide) fl_X6_24 dX6_shape_41 (v := .ref (ad 12)) rfl ?_
  refine lv_aload_n hx hb dX6_shape_44 rfl (lv_at hl 0 rfl) ?_
  refine r_get C hw qC_7 clsX6 7 rfl (by decide) fl_X6_33 dX6_shape_45 (v := .int (σ4 7 7)) rfl ?_
  refine lv_bipush (v := (-9)) hx hb dX6_shape_48 (by decide) ?_
  refine r_iast C hw qC_12 dX6_shape_50 h (fun σ5 H locs hw h => ?_)
  refine lv_aload_n hx hb dX6_shape_51 rfl (lv_at hl 0 rfl) ?_
  refine r_get C hw qC_7 clsX6 5 rfl (by decide) fl_X6_27 dX6_shape_52 (v := .ref (ad 13)) rfl ?_
  refine lv_aload_n hx hb dX6_shape_55 rfl (lv_at hl 0 rfl) ?_
  refine r_get C hw qC_7 clsX6 7 rfl (by decide) fl_X6_33 dX6_shape_56 (v := .int (σ5 7 7)) rfl ?_
  refine lv_bipush (v := (-9)) hx hb dX6_shape_59 (by decide) ?_
  refine r_iast C hw qC_13 dX6_shape_61 h (fun σ6 H locs hw h => ?_)
  refine lv_aload_n hx hb dX6_shape_62 rfl (lv_at hl 0 rfl) ?_
  refine r_get C hw qC_7 clsX6 6 rfl (by decide) fl_X6_30 dX6_shape_63 (v := .ref (ad 14)) rfl ?_
  refine lv_aload_n hx hb dX6_shape_66 rfl (lv_at hl 0 rfl) ?_
  refine r_get C hw qC_7 clsX6 7 rfl (by decide) fl_X6_33 dX6_shape_67 (v := .int (σ6 7 7)) rfl ?_
  refine lv_bipush (v := (-9)) hx hb dX6_shape_70 (by decide) ?_
  refine r_iast C hw qC_14 dX6_shape_72 h (fun σ7 H locs hw h => ?_)
  refine lv_aload_n hx hb dX6_shape_73 rfl (lv_at hl 0 rfl) ?_
  refine lv_dup hx hb dX6_shape_74 rfl ?_
  refine r_get C hw qC_7 clsX6 7 rfl (by decide) fl_X6_33 dX6_shape_75 (v := .int (σ7 7 7)) rfl ?_
  refine lv_iconst (v := 1) hx hb dX6_shape_78 (by decide) ?_
  refine lv_iadd hx hb dX6_shape_79 ?_
  refine r_put C hw qC_7 clsX6 7 rfl (by decide) fl_X6_33 dX6_shape_80 rfl rfl rfl h (fun σ8 H locs hw h => ?_)
  refine lv_aload_n hx hb dX6_shape_83 rfl (lv_at hl 0 rfl) ?_
  refine r_get C hw qC_7 clsX6 7 rfl (by decide) fl_X6_33 dX6_shape_84 (v := .int (σ8 7 7)) rfl ?_
  refine lv_iconst (v := 1) hx hb dX6_shape_87 (by decide) ?_
  refine lv_isub hx hb dX6_shape_88 ?_
  exact r_iret C hw dX6_shape_89 h
set_option maxRecDepth 100000 in
set_option maxHeartbeats 4000000 in
theorem wX10_piece_b109 {p : Program} {l : Launch} {e : Env} {s : State} {m : MethodId} {args : Array Value} {below : List Frame} {meth : Method} {c : Code} {D : va_G} {cI cZ : ClassId} {ad : Nat → Nat} {A : Nat → Prop} {z : Int32 × St}  (C : pw_C p s m args meth c yX10_piece.cls cX10_piece 5 (some .int) D cI cZ) : ∀  (σ : St) (H : Heap) (locs : List Loc) (ls : Array Slot), pw_H D (pw_w shC cI cZ ad σ) A s.heap H locs → lv_has ls 5 [(0, .ref (ad 0))] → fX10_piece_b109   σ = some z → W p l e (pw_rm 2) s m args below meth c H locs 0 0 (pw_QI below args s D (pw_w shC cI cZ ad) A z) (F0 m 109 ls []) := by
  obtain ⟨hx, hb, hr, hts, hown, hlk, hml, hK, hN⟩ := id C
  intro σ H locs ls hw hl h
  unfold fX10_piece_b109 at h
  refine lv_aload_n hx hb dX10_piece_109 rfl (lv_at hl 0 rfl) ?_
  refine lv_bipush (v := (-6)) hx hb dX10_piece_110 (by decide) ?_
  obtain ⟨v3, σ2, e1, h⟩ := cal_some h
  refine r_cVI C hw (As := [.int (-6)]) (rest := []) (kX10_refuse l D cI cZ ad _ _ _ e1) YX10_refuse ml_X10_91 qC_0 clsX10 (pw_rmOK (by omega) (by decide)) rfl hl.1 rfl (Nat.le_of_ble_eq_true rfl) dX10_piece_112 ⟨Nat.zero_le _, Nat.zero_le _⟩ (fun H locs hw => ?_)
  exact r_iret C hw dX10_piece_115 h
set_option maxRecDepth 100000 in
set_option maxHeartbeats 4000000 in
theorem kX10_piece (l : Launch) (D : va_G) (cI cZ : ClassId) (ad : Nat → Nat) (x1 : Int32) (x2 : Int32) (x3 : Int32) (x4 : Int32) (σ : St) (z : Int32 × St) (h : fX10_piece x1 x2 x3 x4 σ = some z) : pw_MI l D shC cI cZ ad yX10_piece cX10_piece 5 (some .int) (pw_rm 2) [.ref (ad 0), .int x1, .int x2, .int x3, .int x4] σ z.1 z.2 := by
  refine pw_ofI (by decide) (Nat.le_of_ble_eq_true rfl) ?_
  intro p e s m args below meth c A C hw ls hl
  obtain ⟨hx, hb, hr, hts, hown, hlk, hml, hK, hN⟩ := id C
  have hl : lv_has ls 5 [(0, .ref (ad 0)), (1, .int x1), (2, .int x2), (3, .int x3), (4, .int x4)] := hl
  unfold fX10_piece at h
  refine lv_iload_n hx hb dX10_piece_0 rfl (lv_at hl 1 rfl) ?_
  refine lv_aload_n hx hb dX10_piece_1 rfl (lv_at hl 0 rfl) ?_
  refine r_get C hw qC_0 clsX10 1 rfl (by decide) fl_X10_16 dX10_piece_2 (v := .ref (ad 2)) rfl ?_
  refine r_getN C hw qC_2 clsX0 4 rfl (by decide) fn_X10_102 dX10_piece_5 (v := .int (σ 2 4)) rfl ?_
  obtain ⟨v6, σ5, e4, h⟩ := cal_some h
  refine r_cSI C hw (sh := shC) (ad := ad) (As := [.int x1, .int (σ 2 4)]) (rest := []) (kX10_within l D cI cZ ad _ _ _ _ e4) YX10_within ml_X10_87 (pw_rmOK (by omega) (by decide)) rfl hl.1 rfl (Nat.le_of_ble_eq_true rfl) dX10_piece_8 ⟨Nat.zero_le _, Nat.zero_le _⟩ (fun H locs hw => ?_)
  refine lv_if_eq (tgt := 23) hx hb dX10_piece_11 (by decide) (fun hc => ?_) (fun hc => ?_)
  · replace h := pw_t hc h
    refine lv_aload_n hx hb dX10_piece_23 rfl (lv_at hl 0 rfl) ?_
    refine lv_iconst (v := (-1)) hx hb dX10_piece_24 (by decide) ?_
    obtain ⟨v9, σ8, e7, h⟩ := cal_some h
    refine r_cVI C hw (As := [.int (-1)]) (rest := []) (kX10_refuse l D cI cZ ad _ _ _ e7) YX10_refuse ml_X10_91 qC_0 clsX10 (pw_rmOK (by omega) (by decide)) rfl hl.1 rfl (Nat.le_of_ble_eq_true rfl) dX10_piece_25 ⟨Nat.zero_le _, Nat.zero_le _⟩ (fun H locs hw => ?_)
    exact r_iret C hw dX10_piece_28 h
  · replace h := pw_f hc h
    refine lv_iload_n hx hb dX10_piece_14 rfl (lv_at hl 2 rfl) ?_
    refine lv_bipush (v := 10) hx hb dX10_piece_15 (by decide) ?_
    obtain ⟨v12, σ11, e10, h⟩ := cal_some h
    refine r_cSI C hw (sh := shC) (ad := ad) (As := [.int x2, .int 10]) (rest := []) (kX10_within l D cI cZ ad _ _ _ _ e10) YX10_within ml_X10_87 (pw_rmOK (by omega) (by decide)) rfl hl.1 rfl (Nat.le_of_ble_eq_true rfl) dX10_piece_17 ⟨Nat.zero_le _, Nat.zero_le _⟩ (fun H locs hw => ?_)
    refine lv_if_ne (tgt := 29) hx hb dX10_piece_20 (by decide) (fun hc => ?_) (fun hc => ?_)
    · replace h := pw_f hc h
      refine lv_aload_n hx hb dX10_piece_29 rfl (lv_at hl 0 rfl) ?_
      refine r_get C hw qC_0 clsX10 1 rfl (by decide) fl_X10_16 dX10_piece_30 (v := .ref (ad 2)) rfl ?_
      refine lv_iload_n hx hb dX10_piece_33 rfl (lv_at hl 1 rfl) ?_
      refine lv_aload_n hx hb dX10_piece_34 rfl (lv_at hl 0 rfl) ?_
      refine r_get C hw qC_0 clsX10 11 rfl (by decide) fl_X10_83 dX10_piece_35 (v := .int (σ11 0 11)) rfl ?_
      obtain ⟨v15, σ14, e13, h⟩ := cal_some h
      refine r_cNI C hw (As := [.int x1, .int (σ11 0 11)]) (rest := []) (kX0_isRipe l D cI cZ ad _ _ _ _ e13) YX0_isRipe mn_X10_112 qC_2 clsX0 (pw_rmOK (by omega) (by decide)) rfl hl.1 rfl (Nat.le_of_ble_eq_true rfl) dX10_piece_38 ⟨Nat.zero_le _, Nat.zero_le _⟩ (fun H locs hw => ?_)
      refine lv_if_ne (tgt := 51) hx hb dX10_piece_41 (by decide) (fun hc => ?_) (fun hc => ?_)
      · replace h := pw_f hc h
        refine lv_iload_n hx hb dX10_piece_51 rfl (lv_at hl 3 rfl) ?_
        refine lv_iconst (v := 1) hx hb dX10_piece_52 (by decide) ?_
        refine lv_icmp_lt (tgt := 63) hx hb dX10_piece_53 (by decide) (fun hc => ?_) (fun hc => ?_)
        · replace h := pw_t hc h
          refine lv_aload_n hx hb dX10_piece_63 rfl (lv_at hl 0 rfl) ?_
          refine lv_bipush (v := (-4)) hx hb dX10_piece_64 (by decide) ?_
          obtain ⟨v18, σ17, e16, h⟩ := cal_some h
          refine r_cVI C hw (As := [.int (-4)]) (rest := []) (kX10_refuse l D cI cZ ad _ _ _ e16) YX10_refuse ml_X10_91 qC_0 clsX10 (pw_rmOK (by omega) (by decide)) rfl hl.1 rfl (Nat.le_of_ble_eq_true rfl) dX10_piece_66 ⟨Nat.zero_le _, Nat.zero_le _⟩ (fun H locs hw => ?_)
          exact r_iret C hw dX10_piece_69 h
        · replace h := pw_f hc h
          refine lv_iload hx hb dX10_piece_56 (lv_at hl 4 rfl) ?_
          refine lv_bipush (v := 10) hx hb dX10_piece_58 (by decide) ?_
          refine lv_icmp_ge (tgt := 70) hx hb dX10_piece_60 (by decide) (fun hc => ?_) (fun hc => ?_)
          · replace h := pw_t hc h
            refine lv_iload_n hx hb dX10_piece_70 rfl (lv_at hl 3 rfl) ?_
            refine lv_bipush (v := 40) hx hb dX10_piece_71 (by decide) ?_
            refine lv_icmp_gt (tgt := 109) hx hb dX10_piece_73 (by decide) (fun hc => ?_) (fun hc => ?_)
            · replace h := pw_t hc h
              exact wX10_piece_b109 C  _ _ _ _ hw (lv_sub hl [0] rfl) h
            · replace h := pw_f hc h
              refine lv_iload_n hx hb dX10_piece_76 rfl (lv_at hl 3 rfl) ?_
              refine lv_aload_n hx hb dX10_piece_77 rfl (lv_at hl 0 rfl) ?_
              refine r_get C hw qC_0 clsX10 1 rfl (by decide) fl_X10_16 dX10_piece_78 (v := .ref (ad 2)) rfl ?_
              refine r_getN C hw qC_2 clsX0 2 rfl (by decide) fn_X10_115 dX10_piece_81 (v := .ref (ad 5)) rfl ?_
              refine lv_iload_n hx hb dX10_piece_84 rfl (lv_at hl 1 rfl) ?_
              refine r_iald C hw qC_5 dX10_piece_85 h (fun v19 h => ?_)
              refine lv_icmp_gt (tgt := 109) hx hb dX10_piece_86 (by decide) (fun hc => ?_) (fun hc => ?_)
              · replace h := pw_t hc h
                exact wX10_piece_b109 C  _ _ _ _ hw (lv_sub hl [0] rfl) h
              · replace h := pw_f hc h
                refine lv_iload hx hb dX10_piece_89 (lv_at hl 4 rfl) ?_
                refine lv_sipush (v := 900) hx hb dX10_piece_91 (by decide) ?_
                refine lv_icmp_gt (tgt := 109) hx hb dX10_piece_94 (by decide) (fun hc => ?_) (fun hc => ?_)
                · replace h := pw_t hc h
                  exact wX10_piece_b109 C  _ _ _ _ hw (lv_sub hl [0] rfl) h
                · replace h := pw_f hc h
                  refine lv_aload_n hx hb dX10_piece_97 rfl (lv_at hl 0 rfl) ?_
                  refine r_get C hw qC_0 clsX10 2 rfl (by decide) fl_X10_23 dX10_piece_98 (v := .ref (ad 7)) rfl ?_
                  refine r_getN C hw qC_7 clsX6 7 rfl (by decide) fn_X10_118 dX10_piece_101 (v := .int (σ14 7 7)) rfl ?_
                  refine lv_bipush (v := 80) hx hb dX10_piece_104 (by decide) ?_
                  refine lv_icmp_lt (tgt := 116) hx hb dX10_piece_106 (by decide) (fun hc => ?_) (fun hc => ?_)
                  · replace h := pw_t hc h
                    refine lv_aload_n hx hb dX10_piece_116 rfl (lv_at hl 0 rfl) ?_
                    refine r_get C hw qC_0 clsX10 1 rfl (by decide) fl_X10_16 dX10_piece_117 (v := .ref (ad 2)) rfl ?_
                    refine r_getN C hw qC_2 clsX0 2 rfl (by decide) fn_X10_115 dX10_piece_120 (v := .ref (ad 5)) rfl ?_
                    refine lv_iload_n hx hb dX10_piece_123 rfl (lv_at hl 1 rfl) ?_
                    refine lv_dup2_11 hx hb dX10_piece_124 rfl rfl ?_
                    refine r_iald C hw qC_5 dX10_piece_125 h (fun v20 h => ?_)
                    refine lv_iload_n hx hb dX10_piece_126 rfl (lv_at hl 3 rfl) ?_
                    refine lv_isub hx hb dX10_piece_127 ?_
                    refine r_iast C hw qC_5 dX10_piece_128 h (fun σ21 H locs hw h => ?_)
                    refine lv_aload_n hx hb dX10_piece_129 rfl (lv_at hl 0 rfl) ?_
                    refine r_get C hw qC_0 clsX10 2 rfl (by decide) fl_X10_23 dX10_piece_130 (v := .ref (ad 7)) rfl ?_
                    refine lv_aload_n hx hb dX10_piece_133 rfl (lv_at hl 0 rfl) ?_
                    refine r_get C hw qC_0 clsX10 1 rfl (by decide) fl_X10_16 dX10_piece_134 (v := .ref (ad 2)) rfl ?_
                    refine r_getN C hw qC_2 clsX0 1 rfl (by decide) fn_X10_121 dX10_piece_137 (v := .ref (ad 4)) rfl ?_
                    refine lv_iload_n hx hb dX10_piece_140 rfl (lv_at hl 1 rfl) ?_
                    refine r_iald C hw qC_4 dX10_piece_141 h (fun v22 h => ?_)
                    refine lv_iload_n hx hb dX10_piece_142 rfl (lv_at hl 2 rfl) ?_
                    refine lv_iload hx hb dX10_piece_143 (lv_at hl 4 rfl) ?_
                    obtain ⟨v25, σ24, e23, h⟩ := cal_some h
                    refine r_cNI C hw (As := [.int v22, .int x2, .int x4]) (rest := []) (kX6_shape l D cI cZ ad _ _ _ _ _ e23) YX6_shape mn_X10_124 qC_7 clsX6 (pw_rmOK (by omega) (by decide)) rfl hl.1 rfl (Nat.le_of_ble_eq_true rfl) dX10_piece_145 ⟨Nat.zero_le _, Nat.zero_le _⟩ (fun H locs hw => ?_)
                    exact r_iret C hw dX10_piece_148 h
                  · replace h := pw_f hc h
                    exact wX10_piece_b109 C  _ _ _ _ hw (lv_sub hl [0] rfl) h
          · replace h := pw_f hc h
            refine lv_aload_n hx hb dX10_piece_63 rfl (lv_at hl 0 rfl) ?_
            refine lv_bipush (v := (-4)) hx hb dX10_piece_64 (by decide) ?_
            obtain ⟨v28, σ27, e26, h⟩ := cal_some h
            refine r_cVI C hw (As := [.int (-4)]) (rest := []) (kX10_refuse l D cI cZ ad _ _ _ e26) YX10_refuse ml_X10_91 qC_0 clsX10 (pw_rmOK (by omega) (by decide)) rfl hl.1 rfl (Nat.le_of_ble_eq_true rfl) dX10_piece_66 ⟨Nat.zero_le _, Nat.zero_le _⟩ (fun H locs hw => ?_)
            exact r_iret C hw dX10_piece_69 h
      · replace h := pw_t hc h
        refine lv_aload_n hx hb dX10_piece_44 rfl (lv_at hl 0 rfl) ?_
        refine lv_bipush (v := (-3)) hx hb dX10_piece_45 (by decide) ?_
        obtain ⟨v31, σ30, e29, h⟩ := cal_some h
        refine r_cVI C hw (As := [.int (-3)]) (rest := []) (kX10_refuse l D cI cZ ad _ _ _ e29) YX10_refuse ml_X10_91 qC_0 clsX10 (pw_rmOK (by omega) (by decide)) rfl hl.1 rfl (Nat.le_of_ble_eq_true rfl) dX10_piece_47 ⟨Nat.zero_le _, Nat.zero_le _⟩ (fun H locs hw => ?_)
        exact r_iret C hw dX10_piece_50 h
    · replace h := pw_t hc h
      refine lv_aload_n hx hb dX10_piece_23 rfl (lv_at hl 0 rfl) ?_
      refine lv_iconst (v := (-1)) hx hb dX10_piece_24 (by decide) ?_
      obtain ⟨v34, σ33, e32, h⟩ := cal_some h
      refine r_cVI C hw (As := [.int (-1)]) (rest := []) (kX10_refuse l D cI cZ ad _ _ _ e32) YX10_refuse ml_X10_91 qC_0 clsX10 (pw_rmOK (by omega) (by decide)) rfl hl.1 rfl (Nat.le_of_ble_eq_true rfl) dX10_piece_25 ⟨Nat.zero_le _, Nat.zero_le _⟩ (fun H locs hw => ?_)
      exact r_iret C hw dX10_piece_28 h
set_option maxRecDepth 100000 in
set_option maxHeartbeats 4000000 in
theorem kX1_trait (l : Launch) (D : va_G) (cI cZ : ClassId) (ad : Nat → Nat) (x1 : Int32) (x2 : Int32) (σ : St) (z : Int32 × St) (h : fX1_trait x1 x2 σ = some z) : pw_MI l D shC cI cZ ad yX1_trait cX1_trait 3 (some .int) (pw_rm 0) [.ref (ad 15), .int x1, .int x2] σ z.1 z.2 := by
  refine pw_ofI (by decide) (Nat.le_of_ble_eq_true rfl) ?_
  intro p e s m args below meth c A C hw ls hl
  obtain ⟨hx, hb, hr, hts, hown, hlk, hml, hK, hN⟩ := id C
  have hl : lv_has ls 3 [(0, .ref (ad 15)), (1, .int x1), (2, .int x2)] := hl
  unfold fX1_trait at h
  refine lv_aload_n hx hb dX1_trait_0 rfl (lv_at hl 0 rfl) ?_
  refine r_get C hw qC_15 clsX1 0 rfl (by decide) fl_X1_9 dX1_trait_1 (v := .ref (ad 16)) rfl ?_
  refine lv_iload_n hx hb dX1_trait_4 rfl (lv_at hl 1 rfl) ?_
  refine lv_iconst (v := 2) hx hb dX1_trait_5 (by decide) ?_
  refine lv_imul hx hb dX1_trait_6 ?_
  refine lv_iload_n hx hb dX1_trait_7 rfl (lv_at hl 2 rfl) ?_
  refine lv_iadd hx hb dX1_trait_8 ?_
  refine r_iald C hw qC_16 dX1_trait_9 h (fun v1 h => ?_)
  exact r_iret C hw dX1_trait_10 h
set_option maxRecDepth 100000 in
set_option maxHeartbeats 4000000 in
theorem kX1_changeTrait (l : Launch) (D : va_G) (cI cZ : ClassId) (ad : Nat → Nat) (x1 : Int32) (x2 : Int32) (x3 : Int32) (σ : St) (z : Int32 × St) (h : fX1_changeTrait x1 x2 x3 σ = some z) : pw_MI l D shC cI cZ ad yX1_changeTrait cX1_changeTrait 5 (some .int) (pw_rm 1) [.ref (ad 15), .int x1, .int x2, .int x3] σ z.1 z.2 := by
  refine pw_ofI (by decide) (Nat.le_of_ble_eq_true rfl) ?_
  intro p e s m args below meth c A C hw ls hl
  obtain ⟨hx, hb, hr, hts, hown, hlk, hml, hK, hN⟩ := id C
  have hl : lv_has ls 5 [(0, .ref (ad 15)), (1, .int x1), (2, .int x2), (3, .int x3)] := hl
  unfold fX1_changeTrait at h
  refine lv_aload_n hx hb dX1_changeTrait_0 rfl (lv_at hl 0 rfl) ?_
  refine lv_iload_n hx hb dX1_changeTrait_1 rfl (lv_at hl 1 rfl) ?_
  refine lv_iload_n hx hb dX1_changeTrait_2 rfl (lv_at hl 2 rfl) ?_
  obtain ⟨v3, σ2, e1, h⟩ := cal_some h
  refine r_cVI C hw (As := [.int x1, .int x2]) (rest := []) (kX1_trait l D cI cZ ad _ _ _ _ e1) YX1_trait ml_X1_40 qC_15 clsX1 (pw_rmOK (by omega) (by decide)) rfl hl.1 rfl (Nat.le_of_ble_eq_true rfl) dX1_changeTrait_3 ⟨Nat.zero_le _, Nat.zero_le _⟩ (fun H locs hw => ?_)
  refine lv_istore (lv' := [(4, .int v3), (0, .ref (ad 15)), (1, .int x1), (2, .int x2), (3, .int x3)]) hx hb dX1_changeTrait_6 hl (by decide) rfl (fun ls hl => ?_)
  refine lv_aload_n hx hb dX1_changeTrait_8 rfl (lv_at hl 1 rfl) ?_
  refine r_get C hw qC_15 clsX1 0 rfl (by decide) fl_X1_9 dX1_changeTrait_9 (v := .ref (ad 16)) rfl ?_
  refine lv_iload_n hx hb dX1_changeTrait_12 rfl (lv_at hl 2 rfl) ?_
  refine lv_iconst (v := 2) hx hb dX1_changeTrait_13 (by decide) ?_
  refine lv_imul hx hb dX1_changeTrait_14 ?_
  refine lv_iload_n hx hb dX1_changeTrait_15 rfl (lv_at hl 3 rfl) ?_
  refine lv_iadd hx hb dX1_changeTrait_16 ?_
  refine lv_iload_n hx hb dX1_changeTrait_17 rfl (lv_at hl 4 rfl) ?_
  refine r_iast C hw qC_16 dX1_changeTrait_18 h (fun σ4 H locs hw h => ?_)
  refine lv_iload hx hb dX1_changeTrait_19 (lv_at hl 0 rfl) ?_
  exact r_iret C hw dX1_changeTrait_21 h
set_option maxRecDepth 100000 in
set_option maxHeartbeats 4000000 in
theorem kX10_place (l : Launch) (D : va_G) (cI cZ : ClassId) (ad : Nat → Nat) (x1 : Int32) (x2 : Int32) (x3 : Int32) (σ : St) (z : Int32 × St) (h : fX10_place x1 x2 x3 σ = some z) : pw_MIs l D shC cI cZ ad yX10_place cX10_place 4 (some .int) (pw_rm 2) [.ref (ad 0), .int x1, .int x2, .int x3] σ z.1 z.2 := by
  refine pw_ofIs (by decide) (Nat.le_of_ble_eq_true rfl) ?_
  intro p e s m args below meth c A C hw ls hl hX
  obtain ⟨t_, hXX⟩ := id hX
  have hZ_GREATEST_TRAITS : va_Z "PorcelainWorks" "GREATEST_TRAITS" "[I" (.ref (t_ 0)) A s s.heap := (hXX 0 (by decide)).1
  have hT_GREATEST_TRAITS : va_T .int (t_ 0) 4 (fun j => .int (pw_GT j)) A s s.heap := (hXX 0 (by decide)).2
  have hZ_LEAST_PLACE_TRAITS : va_Z "PorcelainWorks" "LEAST_PLACE_TRAITS" "[I" (.ref (t_ 1)) A s s.heap := (hXX 1 (by decide)).1
  have hT_LEAST_PLACE_TRAITS : va_T .int (t_ 1) 2 (fun j => .int (pw_LP j)) A s s.heap := (hXX 1 (by decide)).2
  have hZ_GREATEST_PLACE_TRAITS : va_Z "PorcelainWorks" "GREATEST_PLACE_TRAITS" "[I" (.ref (t_ 2)) A s s.heap := (hXX 2 (by decide)).1
  have hT_GREATEST_PLACE_TRAITS : va_T .int (t_ 2) 2 (fun j => .int (pw_GP j)) A s s.heap := (hXX 2 (by decide)).2
  have hZ_FIRST_TRAITS : va_Z "PorcelainWorks" "FIRST_TRAITS" "[I" (.ref (t_ 3)) A s s.heap := (hXX 3 (by decide)).1
  have hT_FIRST_TRAITS : va_T .int (t_ 3) 4 (fun j => .int (pw_FT j)) A s s.heap := (hXX 3 (by decide)).2
  have hZ_FIRST_PLACE_TRAITS : va_Z "PorcelainWorks" "FIRST_PLACE_TRAITS" "[I" (.ref (t_ 4)) A s s.heap := (hXX 4 (by decide)).1
  have hT_FIRST_PLACE_TRAITS : va_T .int (t_ 4) 2 (fun j => .int (pw_FP j)) A s s.heap := (hXX 4 (by decide)).2
  obtain ⟨hx, hb, hr, hts, hown, hlk, hml, hK, hN⟩ := id C
  have hl : lv_has ls 4 [(0, .ref (ad 0)), (1, .int x1), (2, .int x2), (3, .int x3)] := hl
  unfold fX10_place at h
  refine lv_iload_n hx hb dX10_place_0 rfl (lv_at hl 1 rfl) ?_
  refine lv_bipush (v := 12) hx hb dX10_place_1 (by decide) ?_
  obtain ⟨v3, σ2, e1, h⟩ := cal_some h
  refine r_cSI C hw (sh := shC) (ad := ad) (As := [.int x1, .int 12]) (rest := []) (kX10_within l D cI cZ ad _ _ _ _ e1) YX10_within ml_X10_87 (pw_rmOK (by omega) (by decide)) rfl hl.1 rfl (Nat.le_of_ble_eq_true rfl) dX10_place_3 ⟨Nat.zero_le _, Nat.zero_le _⟩ (fun H locs hw => ?_)
  refine lv_if_ne (tgt := 15) hx hb dX10_place_6 (by decide) (fun hc => ?_) (fun hc => ?_)
  · replace h := pw_f hc h
    refine lv_iload_n hx hb dX10_place_15 rfl (lv_at hl 2 rfl) ?_
    refine lv_iconst (v := 2) hx hb dX10_place_16 (by decide) ?_
    obtain ⟨v6, σ5, e4, h⟩ := cal_some h
    refine r_cSI C hw (sh := shC) (ad := ad) (As := [.int x2, .int 2]) (rest := []) (kX10_within l D cI cZ ad _ _ _ _ e4) YX10_within ml_X10_87 (pw_rmOK (by omega) (by decide)) rfl hl.1 rfl (Nat.le_of_ble_eq_true rfl) dX10_place_17 ⟨Nat.zero_le _, Nat.zero_le _⟩ (fun H locs hw => ?_)
    refine lv_if_ne (tgt := 30) hx hb dX10_place_20 (by decide) (fun hc => ?_) (fun hc => ?_)
    · replace h := pw_f hc h
      refine lv_iload_n hx hb dX10_place_30 rfl (lv_at hl 3 rfl) ?_
      refine va_gets hx hb hZ_LEAST_PLACE_TRAITS hw.2.2.1 hown (hts _ fl_X10_127) (fun _ h => h) dX10_place_31 ?_
      refine lv_iload_n hx hb dX10_place_34 rfl (lv_at hl 2 rfl) ?_
      refine r_tald C hT_LEAST_PLACE_TRAITS hw.2.2.1 dX10_place_35 h (fun v7 h => ?_)
      refine lv_icmp_ge (tgt := 46) hx hb dX10_place_36 (by decide) (fun hc => ?_) (fun hc => ?_)
      · replace h := pw_t hc h
        refine lv_iload_n hx hb dX10_place_46 rfl (lv_at hl 3 rfl) ?_
        refine va_gets hx hb hZ_GREATEST_PLACE_TRAITS hw.2.2.1 hown (hts _ fl_X10_130) (fun _ h => h) dX10_place_47 ?_
        refine lv_iload_n hx hb dX10_place_50 rfl (lv_at hl 2 rfl) ?_
        refine r_tald C hT_GREATEST_PLACE_TRAITS hw.2.2.1 dX10_place_51 h (fun v8 h => ?_)
        refine lv_icmp_le (tgt := 62) hx hb dX10_place_52 (by decide) (fun hc => ?_) (fun hc => ?_)
        · replace h := pw_t hc h
          refine lv_aload_n hx hb dX10_place_62 rfl (lv_at hl 0 rfl) ?_
          refine r_get C hw qC_0 clsX10 3 rfl (by decide) fl_X10_30 dX10_place_63 (v := .ref (ad 15)) rfl ?_
          refine lv_iload_n hx hb dX10_place_66 rfl (lv_at hl 1 rfl) ?_
          refine lv_iload_n hx hb dX10_place_67 rfl (lv_at hl 2 rfl) ?_
          refine lv_iload_n hx hb dX10_place_68 rfl (lv_at hl 3 rfl) ?_
          obtain ⟨v11, σ10, e9, h⟩ := cal_some h
          refine r_cNI C hw (As := [.int x1, .int x2, .int x3]) (rest := []) (kX1_changeTrait l D cI cZ ad _ _ _ _ _ e9) YX1_changeTrait mn_X10_133 qC_15 clsX1 (pw_rmOK (by omega) (by decide)) rfl hl.1 rfl (Nat.le_of_ble_eq_true rfl) dX10_place_69 ⟨Nat.zero_le _, Nat.zero_le _⟩ (fun H locs hw => ?_)
          exact r_iret C hw dX10_place_72 h
        · replace h := pw_f hc h
          refine lv_aload_n hx hb dX10_place_55 rfl (lv_at hl 0 rfl) ?_
          refine lv_bipush (v := (-6)) hx hb dX10_place_56 (by decide) ?_
          obtain ⟨v14, σ13, e12, h⟩ := cal_some h
          refine r_cVI C hw (As := [.int (-6)]) (rest := []) (kX10_refuse l D cI cZ ad _ _ _ e12) YX10_refuse ml_X10_91 qC_0 clsX10 (pw_rmOK (by omega) (by decide)) rfl hl.1 rfl (Nat.le_of_ble_eq_true rfl) dX10_place_58 ⟨Nat.zero_le _, Nat.zero_le _⟩ (fun H locs hw => ?_)
          exact r_iret C hw dX10_place_61 h
      · replace h := pw_f hc h
        refine lv_aload_n hx hb dX10_place_39 rfl (lv_at hl 0 rfl) ?_
        refine lv_bipush (v := (-4)) hx hb dX10_place_40 (by decide) ?_
        obtain ⟨v17, σ16, e15, h⟩ := cal_some h
        refine r_cVI C hw (As := [.int (-4)]) (rest := []) (kX10_refuse l D cI cZ ad _ _ _ e15) YX10_refuse ml_X10_91 qC_0 clsX10 (pw_rmOK (by omega) (by decide)) rfl hl.1 rfl (Nat.le_of_ble_eq_true rfl) dX10_place_42 ⟨Nat.zero_le _, Nat.zero_le _⟩ (fun H locs hw => ?_)
        exact r_iret C hw dX10_place_45 h
    · replace h := pw_t hc h
      refine lv_aload_n hx hb dX10_place_23 rfl (lv_at hl 0 rfl) ?_
      refine lv_bipush (v := (-2)) hx hb dX10_place_24 (by decide) ?_
      obtain ⟨v20, σ19, e18, h⟩ := cal_some h
      refine r_cVI C hw (As := [.int (-2)]) (rest := []) (kX10_refuse l D cI cZ ad _ _ _ e18) YX10_refuse ml_X10_91 qC_0 clsX10 (pw_rmOK (by omega) (by decide)) rfl hl.1 rfl (Nat.le_of_ble_eq_true rfl) dX10_place_26 ⟨Nat.zero_le _, Nat.zero_le _⟩ (fun H locs hw => ?_)
      exact r_iret C hw dX10_place_29 h
  · replace h := pw_t hc h
    refine lv_aload_n hx hb dX10_place_9 rfl (lv_at hl 0 rfl) ?_
    refine lv_iconst (v := (-1)) hx hb dX10_place_10 (by decide) ?_
    obtain ⟨v23, σ22, e21, h⟩ := cal_some h
    refine r_cVI C hw (As := [.int (-1)]) (rest := []) (kX10_refuse l D cI cZ ad _ _ _ e21) YX10_refuse ml_X10_91 qC_0 clsX10 (pw_rmOK (by omega) (by decide)) rfl hl.1 rfl (Nat.le_of_ble_eq_true rfl) dX10_place_11 ⟨Nat.zero_le _, Nat.zero_le _⟩ (fun H locs hw => ?_)
    exact r_iret C hw dX10_place_14 h
set_option maxRecDepth 100000 in
set_option maxHeartbeats 4000000 in
theorem kX1_tellHour (l : Launch) (D : va_G) (cI cZ : ClassId) (ad : Nat → Nat) (x1 : Int32) (σ : St) (z : Int32 × St) (h : fX1_tellHour x1 σ = some z) : pw_MI l D shC cI cZ ad yX1_tellHour cX1_tellHour 2 (some .int) (pw_rm 0) [.ref (ad 15), .int x1] σ z.1 z.2 := by
  refine pw_ofI (by decide) (Nat.le_of_ble_eq_true rfl) ?_
  intro p e s m args below meth c A C hw ls hl
  obtain ⟨hx, hb, hr, hts, hown, hlk, hml, hK, hN⟩ := id C
  have hl : lv_has ls 2 [(0, .ref (ad 15)), (1, .int x1)] := hl
  unfold fX1_tellHour at h
  refine lv_aload_n hx hb dX1_tellHour_0 rfl (lv_at hl 0 rfl) ?_
  refine r_get C hw qC_15 clsX1 5 rfl (by decide) fl_X1_27 dX1_tellHour_1 (v := .ref (ad 21)) rfl ?_
  refine lv_aload_n hx hb dX1_tellHour_4 rfl (lv_at hl 0 rfl) ?_
  refine r_get C hw qC_15 clsX1 6 rfl (by decide) fl_X1_30 dX1_tellHour_5 (v := .int (σ 15 6)) rfl ?_
  refine lv_iload_n hx hb dX1_tellHour_8 rfl (lv_at hl 1 rfl) ?_
  refine r_iast C hw qC_21 dX1_tellHour_9 h (fun σ1 H locs hw h => ?_)
  refine lv_aload_n hx hb dX1_tellHour_10 rfl (lv_at hl 0 rfl) ?_
  refine lv_dup hx hb dX1_tellHour_11 rfl ?_
  refine r_get C hw qC_15 clsX1 6 rfl (by decide) fl_X1_30 dX1_tellHour_12 (v := .int (σ1 15 6)) rfl ?_
  refine lv_iconst (v := 1) hx hb dX1_tellHour_15 (by decide) ?_
  refine lv_iadd hx hb dX1_tellHour_16 ?_
  refine r_put C hw qC_15 clsX1 6 rfl (by decide) fl_X1_30 dX1_tellHour_17 rfl rfl rfl h (fun σ2 H locs hw h => ?_)
  refine lv_aload_n hx hb dX1_tellHour_20 rfl (lv_at hl 0 rfl) ?_
  refine r_get C hw qC_15 clsX1 6 rfl (by decide) fl_X1_30 dX1_tellHour_21 (v := .int (σ2 15 6)) rfl ?_
  exact r_iret C hw dX1_tellHour_24 h
set_option maxRecDepth 100000 in
set_option maxHeartbeats 4000000 in
theorem kX10_wood (l : Launch) (D : va_G) (cI cZ : ClassId) (ad : Nat → Nat) (x1 : Int32) (σ : St) (z : Int32 × St) (h : fX10_wood x1 σ = some z) : pw_MI l D shC cI cZ ad yX10_wood cX10_wood 2 (some .int) (pw_rm 2) [.ref (ad 0), .int x1] σ z.1 z.2 := by
  refine pw_ofI (by decide) (Nat.le_of_ble_eq_true rfl) ?_
  intro p e s m args below meth c A C hw ls hl
  obtain ⟨hx, hb, hr, hts, hown, hlk, hml, hK, hN⟩ := id C
  have hl : lv_has ls 2 [(0, .ref (ad 0)), (1, .int x1)] := hl
  unfold fX10_wood at h
  refine lv_iload_n hx hb dX10_wood_0 rfl (lv_at hl 1 rfl) ?_
  refine lv_if_ge (tgt := 11) hx hb dX10_wood_1 (by decide) (fun hc => ?_) (fun hc => ?_)
  · replace h := pw_t hc h
    refine lv_iload_n hx hb dX10_wood_11 rfl (lv_at hl 1 rfl) ?_
    refine lv_bipush (v := 50) hx hb dX10_wood_12 (by decide) ?_
    refine lv_icmp_gt (tgt := 29) hx hb dX10_wood_14 (by decide) (fun hc => ?_) (fun hc => ?_)
    · replace h := pw_t hc h
      refine lv_aload_n hx hb dX10_wood_29 rfl (lv_at hl 0 rfl) ?_
      refine lv_bipush (v := (-6)) hx hb dX10_wood_30 (by decide) ?_
      obtain ⟨v3, σ2, e1, h⟩ := cal_some h
      refine r_cVI C hw (As := [.int (-6)]) (rest := []) (kX10_refuse l D cI cZ ad _ _ _ e1) YX10_refuse ml_X10_91 qC_0 clsX10 (pw_rmOK (by omega) (by decide)) rfl hl.1 rfl (Nat.le_of_ble_eq_true rfl) dX10_wood_32 ⟨Nat.zero_le _, Nat.zero_le _⟩ (fun H locs hw => ?_)
      exact r_iret C hw dX10_wood_35 h
    · replace h := pw_f hc h
      refine lv_aload_n hx hb dX10_wood_17 rfl (lv_at hl 0 rfl) ?_
      refine r_get C hw qC_0 clsX10 3 rfl (by decide) fl_X10_30 dX10_wood_18 (v := .ref (ad 15)) rfl ?_
      refine r_getN C hw qC_15 clsX1 6 rfl (by decide) fn_X10_134 dX10_wood_21 (v := .int (σ 15 6)) rfl ?_
      refine lv_bipush (v := 48) hx hb dX10_wood_24 (by decide) ?_
      refine lv_icmp_lt (tgt := 36) hx hb dX10_wood_26 (by decide) (fun hc => ?_) (fun hc => ?_)
      · replace h := pw_t hc h
        refine lv_aload_n hx hb dX10_wood_36 rfl (lv_at hl 0 rfl) ?_
        refine r_get C hw qC_0 clsX10 3 rfl (by decide) fl_X10_30 dX10_wood_37 (v := .ref (ad 15)) rfl ?_
        refine lv_iload_n hx hb dX10_wood_40 rfl (lv_at hl 1 rfl) ?_
        obtain ⟨v6, σ5, e4, h⟩ := cal_some h
        refine r_cNI C hw (As := [.int x1]) (rest := []) (kX1_tellHour l D cI cZ ad _ _ _ e4) YX1_tellHour mn_X10_137 qC_15 clsX1 (pw_rmOK (by omega) (by decide)) rfl hl.1 rfl (Nat.le_of_ble_eq_true rfl) dX10_wood_41 ⟨Nat.zero_le _, Nat.zero_le _⟩ (fun H locs hw => ?_)
        exact r_iret C hw dX10_wood_44 h
      · replace h := pw_f hc h
        refine lv_aload_n hx hb dX10_wood_29 rfl (lv_at hl 0 rfl) ?_
        refine lv_bipush (v := (-6)) hx hb dX10_wood_30 (by decide) ?_
        obtain ⟨v9, σ8, e7, h⟩ := cal_some h
        refine r_cVI C hw (As := [.int (-6)]) (rest := []) (kX10_refuse l D cI cZ ad _ _ _ e7) YX10_refuse ml_X10_91 qC_0 clsX10 (pw_rmOK (by omega) (by decide)) rfl hl.1 rfl (Nat.le_of_ble_eq_true rfl) dX10_wood_32 ⟨Nat.zero_le _, Nat.zero_le _⟩ (fun H locs hw => ?_)
        exact r_iret C hw dX10_wood_35 h
  · replace h := pw_f hc h
    refine lv_aload_n hx hb dX10_wood_4 rfl (lv_at hl 0 rfl) ?_
    refine lv_bipush (v := (-4)) hx hb dX10_wood_5 (by decide) ?_
    obtain ⟨v12, σ11, e10, h⟩ := cal_some h
    refine r_cVI C hw (As := [.int (-4)]) (rest := []) (kX10_refuse l D cI cZ ad _ _ _ e10) YX10_refuse ml_X10_91 qC_0 clsX10 (pw_rmOK (by omega) (by decide)) rfl hl.1 rfl (Nat.le_of_ble_eq_true rfl) dX10_wood_7 ⟨Nat.zero_le _, Nat.zero_le _⟩ (fun H locs hw => ?_)
    exact r_iret C hw dX10_wood_10 h
set_option maxRecDepth 100000 in
set_option maxHeartbeats 4000000 in
theorem kX1_forgetHours (l : Launch) (D : va_G) (cI cZ : ClassId) (ad : Nat → Nat)  (σ : St) (z : Int32 × St) (h : fX1_forgetHours  σ = some z) : pw_MI l D shC cI cZ ad yX1_forgetHours cX1_forgetHours 2 (some .int) (pw_rm 0) [.ref (ad 15)] σ z.1 z.2 := by
  refine pw_ofI (by decide) (Nat.le_of_ble_eq_true rfl) ?_
  intro p e s m args below meth c A C hw ls hl
  obtain ⟨hx, hb, hr, hts, hown, hlk, hml, hK, hN⟩ := id C
  have hl : lv_has ls 2 [(0, .ref (ad 15))] := hl
  unfold fX1_forgetHours at h
  refine lv_aload_n hx hb dX1_forgetHours_0 rfl (lv_at hl 0 rfl) ?_
  refine r_get C hw qC_15 clsX1 6 rfl (by decide) fl_X1_30 dX1_forgetHours_1 (v := .int (σ 15 6)) rfl ?_
  refine lv_istore_n (lv' := [(1, .int (σ 15 6)), (0, .ref (ad 15))]) hx hb dX1_forgetHours_4 rfl hl (by decide) rfl (fun ls hl => ?_)
  refine lv_aload_n hx hb dX1_forgetHours_5 rfl (lv_at hl 1 rfl) ?_
  refine lv_iconst (v := 0) hx hb dX1_forgetHours_6 (by decide) ?_
  refine r_put C hw qC_15 clsX1 6 rfl (by decide) fl_X1_30 dX1_forgetHours_7 rfl rfl rfl h (fun σ1 H locs hw h => ?_)
  refine lv_iload_n hx hb dX1_forgetHours_10 rfl (lv_at hl 0 rfl) ?_
  exact r_iret C hw dX1_forgetHours_11 h
set_option maxRecDepth 100000 in
set_option maxHeartbeats 4000000 in
theorem kX10_clear (l : Launch) (D : va_G) (cI cZ : ClassId) (ad : Nat → Nat)  (σ : St) (z : Int32 × St) (h : fX10_clear  σ = some z) : pw_MI l D shC cI cZ ad yX10_clear cX10_clear 1 (some .int) (pw_rm 1) [.ref (ad 0)] σ z.1 z.2 := by
  refine pw_ofI (by decide) (Nat.le_of_ble_eq_true rfl) ?_
  intro p e s m args below meth c A C hw ls hl
  obtain ⟨hx, hb, hr, hts, hown, hlk, hml, hK, hN⟩ := id C
  have hl : lv_has ls 1 [(0, .ref (ad 0))] := hl
  unfold fX10_clear at h
  refine lv_aload_n hx hb dX10_clear_0 rfl (lv_at hl 0 rfl) ?_
  refine r_get C hw qC_0 clsX10 3 rfl (by decide) fl_X10_30 dX10_clear_1 (v := .ref (ad 15)) rfl ?_
  obtain ⟨v3, σ2, e1, h⟩ := cal_some h
  refine r_cNI C hw (As := []) (rest := []) (kX1_forgetHours l D cI cZ ad _ _ e1) YX1_forgetHours mn_X10_140 qC_15 clsX1 (pw_rmOK (by omega) (by decide)) rfl hl.1 rfl (Nat.le_of_ble_eq_true rfl) dX10_clear_4 ⟨Nat.zero_le _, Nat.zero_le _⟩ (fun H locs hw => ?_)
  exact r_iret C hw dX10_clear_7 h
set_option maxRecDepth 100000 in
set_option maxHeartbeats 4000000 in
theorem wX1_besideAbove_b24 {p : Program} {l : Launch} {e : Env} {s : State} {m : MethodId} {args : Array Value} {below : List Frame} {meth : Method} {c : Code} {D : va_G} {cI cZ : ClassId} {ad : Nat → Nat} {A : Nat → Prop} {z : Int32 × St}  (C : pw_C p s m args meth c yX1_besideAbove.cls cX1_besideAbove 3 (some .int) D cI cZ) : ∀ (x1 : Int32) (x2 : Int32) (σ : St) (H : Heap) (locs : List Loc) (ls : Array Slot), pw_H D (pw_w shC cI cZ ad σ) A s.heap H locs → lv_has ls 3 [(0, .ref (ad 15)), (1, .int x1), (2, .int x2)] → fX1_besideAbove_b24  x1 x2 σ = some z → W p l e (pw_rm 0) s m args below meth c H locs 0 0 (pw_QI below args s D (pw_w shC cI cZ ad) A z) (F0 m 24 ls []) := by
  obtain ⟨hx, hb, hr, hts, hown, hlk, hml, hK, hN⟩ := id C
  intro x1 x2 σ H locs ls hw hl h
  unfold fX1_besideAbove_b24 at h
  refine lv_iload_n hx hb dX1_besideAbove_24 rfl (lv_at hl 1 rfl) ?_
  refine lv_bipush (v := 11) hx hb dX1_besideAbove_25 (by decide) ?_
  refine lv_icmp_ge (tgt := 48) hx hb dX1_besideAbove_27 (by decide) (fun hc => ?_) (fun hc => ?_)
  · replace h := pw_t hc h
    refine lv_iload_n hx hb dX1_besideAbove_48 rfl (lv_at hl 2 rfl) ?_
    exact r_iret C hw dX1_besideAbove_49 h
  · replace h := pw_f hc h
    refine lv_iload_n hx hb dX1_besideAbove_30 rfl (lv_at hl 2 rfl) ?_
    refine lv_aload_n hx hb dX1_besideAbove_31 rfl (lv_at hl 0 rfl) ?_
    refine r_get C hw qC_15 clsX1 3 rfl (by decide) fl_X1_21 dX1_besideAbove_32 (v := .ref (ad 19)) rfl ?_
    refine lv_iload_n hx hb dX1_besideAbove_35 rfl (lv_at hl 1 rfl) ?_
    refine lv_iconst (v := 1) hx hb dX1_besideAbove_36 (by decide) ?_
    refine lv_iadd hx hb dX1_besideAbove_37 ?_
    refine r_iald C hw qC_19 dX1_besideAbove_38 h (fun v1 h => ?_)
    refine lv_aload_n hx hb dX1_besideAbove_39 rfl (lv_at hl 0 rfl) ?_
    refine r_get C hw qC_15 clsX1 3 rfl (by decide) fl_X1_21 dX1_besideAbove_40 (v := .ref (ad 19)) rfl ?_
    refine lv_iload_n hx hb dX1_besideAbove_43 rfl (lv_at hl 1 rfl) ?_
    refine r_iald C hw qC_19 dX1_besideAbove_44 h (fun v2 h => ?_)
    refine lv_isub hx hb dX1_besideAbove_45 ?_
    refine lv_iadd hx hb dX1_besideAbove_46 ?_
    refine r_leti h (fun v3 h => ?_)
    refine lv_istore_n (lv' := [(2, .int v3), (0, .ref (ad 15)), (1, .int x1)]) hx hb dX1_besideAbove_47 rfl hl (by decide) rfl (fun ls hl => ?_)
    refine lv_iload_n hx hb dX1_besideAbove_48 rfl (lv_at hl 0 rfl) ?_
    exact r_iret C hw dX1_besideAbove_49 h
set_option maxRecDepth 100000 in
set_option maxHeartbeats 4000000 in
theorem kX1_besideAbove (l : Launch) (D : va_G) (cI cZ : ClassId) (ad : Nat → Nat) (x1 : Int32) (σ : St) (z : Int32 × St) (h : fX1_besideAbove x1 σ = some z) : pw_MI l D shC cI cZ ad yX1_besideAbove cX1_besideAbove 3 (some .int) (pw_rm 0) [.ref (ad 15), .int x1] σ z.1 z.2 := by
  refine pw_ofI (by decide) (Nat.le_of_ble_eq_true rfl) ?_
  intro p e s m args below meth c A C hw ls hl
  obtain ⟨hx, hb, hr, hts, hown, hlk, hml, hK, hN⟩ := id C
  have hl : lv_has ls 3 [(0, .ref (ad 15)), (1, .int x1)] := hl
  unfold fX1_besideAbove at h
  refine lv_iconst (v := 0) hx hb dX1_besideAbove_0 (by decide) ?_
  refine lv_istore_n (lv' := [(2, .int 0), (0, .ref (ad 15)), (1, .int x1)]) hx hb dX1_besideAbove_1 rfl hl (by decide) rfl (fun ls hl => ?_)
  refine lv_iload_n hx hb dX1_besideAbove_2 rfl (lv_at hl 2 rfl) ?_
  refine lv_if_le (tgt := 24) hx hb dX1_besideAbove_3 (by decide) (fun hc => ?_) (fun hc => ?_)
  · replace h := pw_t hc h
    exact wX1_besideAbove_b24 C  _ _ _ _ _ _ hw (lv_sub hl [1, 2, 0] rfl) h
  · replace h := pw_f hc h
    refine lv_iload_n hx hb dX1_besideAbove_6 rfl (lv_at hl 0 rfl) ?_
    refine lv_aload_n hx hb dX1_besideAbove_7 rfl (lv_at hl 1 rfl) ?_
    refine r_get C hw qC_15 clsX1 3 rfl (by decide) fl_X1_21 dX1_besideAbove_8 (v := .ref (ad 19)) rfl ?_
    refine lv_iload_n hx hb dX1_besideAbove_11 rfl (lv_at hl 2 rfl) ?_
    refine lv_iconst (v := 1) hx hb dX1_besideAbove_12 (by decide) ?_
    refine lv_isub hx hb dX1_besideAbove_13 ?_
    refine r_iald C hw qC_19 dX1_besideAbove_14 h (fun v4 h => ?_)
    refine lv_aload_n hx hb dX1_besideAbove_15 rfl (lv_at hl 1 rfl) ?_
    refine r_get C hw qC_15 clsX1 3 rfl (by decide) fl_X1_21 dX1_besideAbove_16 (v := .ref (ad 19)) rfl ?_
    refine lv_iload_n hx hb dX1_besideAbove_19 rfl (lv_at hl 2 rfl) ?_
    refine r_iald C hw qC_19 dX1_besideAbove_20 h (fun v5 h => ?_)
    refine lv_isub hx hb dX1_besideAbove_21 ?_
    refine lv_iadd hx hb dX1_besideAbove_22 ?_
    refine r_leti h (fun v6 h => ?_)
    refine lv_istore_n (lv' := [(2, .int v6), (0, .ref (ad 15)), (1, .int x1)]) hx hb dX1_besideAbove_23 rfl hl (by decide) rfl (fun ls hl => ?_)
    exact wX1_besideAbove_b24 C  _ _ _ _ _ _ hw (lv_sub hl [1, 2, 0] rfl) h
set_option maxRecDepth 100000 in
set_option maxHeartbeats 4000000 in
theorem wX1_heatHour_b55 {p : Program} {l : Launch} {e : Env} {s : State} {m : MethodId} {args : Array Value} {below : List Frame} {meth : Method} {c : Code} {D : va_G} {cI cZ : ClassId} {ad : Nat → Nat} {A : Nat → Prop} {z : Int32 × St}  (C : pw_C p s m args meth c yX1_heatHour.cls cX1_heatHour 3 none D cI cZ) : ∀ (n : Nat) (x2 : Int32) (σ : St) (H : Heap) (locs : List Loc) (ls : Array Slot), pw_H D (pw_w shC cI cZ ad σ) A s.heap H locs → lv_has ls 3 [(0, .ref (ad 15)), (2, .int x2)] → fX1_heatHour_b55  n x2 σ = some z → W p l e (pw_rm 1) s m args below meth c H locs 0 0 (pw_QV below args s D (pw_w shC cI cZ ad) A z) (F0 m 55 ls []) := by
  obtain ⟨hx, hb, hr, hts, hown, hlk, hml, hK, hN⟩ := id C
  intro n
  induction n with
  | zero =>
    intro x2 σ H locs ls hw hl h
    exact absurd h (by simp [fX1_heatHour_b55])
  | succ n ih =>
    intro x2 σ H locs ls hw hl h
    rw [fX1_heatHour_b55] at h
    refine lv_iload_n hx hb dX1_heatHour_55 rfl (lv_at hl 1 rfl) ?_
    refine lv_bipush (v := 12) hx hb dX1_heatHour_56 (by decide) ?_
    refine lv_icmp_ge (tgt := 109) hx hb dX1_heatHour_58 (by decide) (fun hc => ?_) (fun hc => ?_)
    · replace h := pw_t hc h
      exact r_vret C hw dX1_heatHour_109 h
    · replace h := pw_f hc h
      refine lv_aload_n hx hb dX1_heatHour_61 rfl (lv_at hl 0 rfl) ?_
      refine r_get C hw qC_15 clsX1 2 rfl (by decide) fl_X1_18 dX1_heatHour_62 (v := .ref (ad 18)) rfl ?_
      refine lv_iload_n hx hb dX1_heatHour_65 rfl (lv_at hl 1 rfl) ?_
      refine lv_aload_n hx hb dX1_heatHour_66 rfl (lv_at hl 0 rfl) ?_
      refine r_get C hw qC_15 clsX1 3 rfl (by decide) fl_X1_21 dX1_heatHour_67 (v := .ref (ad 19)) rfl ?_
      refine lv_iload_n hx hb dX1_heatHour_70 rfl (lv_at hl 1 rfl) ?_
      refine r_iald C hw qC_19 dX1_heatHour_71 h (fun v1 h => ?_)
      refine lv_aload_n hx hb dX1_heatHour_72 rfl (lv_at hl 0 rfl) ?_
      refine lv_iload_n hx hb dX1_heatHour_73 rfl (lv_at hl 1 rfl) ?_
      obtain ⟨v4, σ3, e2, h⟩ := cal_some h
      refine r_cVI C hw (As := [.int x2]) (rest := [.int v1, .int x2, .ref (ad 18)]) (kX1_besideAbove l D cI cZ ad _ _ _ e2) YX1_besideAbove ml_X1_48 qC_15 clsX1 (pw_rmOK (by omega) (by decide)) rfl hl.1 rfl (Nat.le_of_ble_eq_true rfl) dX1_heatHour_74 ⟨Nat.zero_le _, Nat.zero_le _⟩ (fun H locs hw => ?_)
      refine lv_bipush (v := 10) hx hb dX1_heatHour_77 (by decide) ?_
      refine lv_idiv hx hb dX1_heatHour_79 (by decide) ?_
      refine lv_iadd hx hb dX1_heatHour_80 ?_
      refine r_iast C hw qC_18 dX1_heatHour_81 h (fun σ5 H locs hw h => ?_)
      refine lv_aload_n hx hb dX1_heatHour_82 rfl (lv_at hl 0 rfl) ?_
      refine r_get C hw qC_15 clsX1 4 rfl (by decide) fl_X1_24 dX1_heatHour_83 (v := .ref (ad 20)) rfl ?_
      refine lv_iload_n hx hb dX1_heatHour_86 rfl (lv_at hl 1 rfl) ?_
      refine lv_aload_n hx hb dX1_heatHour_87 rfl (lv_at hl 0 rfl) ?_
      refine r_get C hw qC_15 clsX1 4 rfl (by decide) fl_X1_24 dX1_heatHour_88 (v := .ref (ad 20)) rfl ?_
      refine lv_iload_n hx hb dX1_heatHour_91 rfl (lv_at hl 1 rfl) ?_
      refine r_iald C hw qC_20 dX1_heatHour_92 h (fun v6 h => ?_)
      refine lv_aload_n hx hb dX1_heatHour_93 rfl (lv_at hl 0 rfl) ?_
      refine r_get C hw qC_15 clsX1 2 rfl (by decide) fl_X1_18 dX1_heatHour_94 (v := .ref (ad 18)) rfl ?_
      refine lv_iload_n hx hb dX1_heatHour_97 rfl (lv_at hl 1 rfl) ?_
      refine r_iald C hw qC_18 dX1_heatHour_98 h (fun v7 h => ?_)
      refine va_mmax hx hb (hml.trans hl.1.symm) hown (hts _ ml_X1_52) (hts _ ls_max) (hts _ li_Math) (hts _ lc_max) (pw_fr (by omega)) (pw_lo (Nat.le_of_ble_eq_true rfl) (by omega)) (Nat.zero_le _) (Nat.zero_le _) dX1_heatHour_99 ?_
      refine r_iast C hw qC_20 dX1_heatHour_102 h (fun σ8 H locs hw h => ?_)
      refine lv_iinc (v := (x2 + 1)) (lv' := [(2, .int (x2 + 1)), (0, .ref (ad 15))]) hx hb dX1_heatHour_103 hl (k := 1) rfl rfl (by decide) rfl (fun ls hl => ?_)
      refine lv_goto (tgt := 55) hx hb dX1_heatHour_106 (by decide) ?_
      exact ih _ _ _ _ _ hw (lv_sub hl [1, 0] rfl) h
set_option maxRecDepth 100000 in
set_option maxHeartbeats 4000000 in
theorem wX1_heatHour_b2 {p : Program} {l : Launch} {e : Env} {s : State} {m : MethodId} {args : Array Value} {below : List Frame} {meth : Method} {c : Code} {D : va_G} {cI cZ : ClassId} {ad : Nat → Nat} {A : Nat → Prop} {z : Int32 × St}  (C : pw_C p s m args meth c yX1_heatHour.cls cX1_heatHour 3 none D cI cZ) : ∀ (n : Nat) (x1 : Int32) (x2 : Int32) (σ : St) (H : Heap) (locs : List Loc) (ls : Array Slot), pw_H D (pw_w shC cI cZ ad σ) A s.heap H locs → lv_has ls 3 [(0, .ref (ad 15)), (1, .int x1), (2, .int x2)] → fX1_heatHour_b2  n x1 x2 σ = some z → W p l e (pw_rm 1) s m args below meth c H locs 0 0 (pw_QV below args s D (pw_w shC cI cZ ad) A z) (F0 m 2 ls []) := by
  obtain ⟨hx, hb, hr, hts, hown, hlk, hml, hK, hN⟩ := id C
  intro n
  induction n with
  | zero =>
    intro x1 x2 σ H locs ls hw hl h
    exact absurd h (by simp [fX1_heatHour_b2])
  | succ n ih =>
    intro x1 x2 σ H locs ls hw hl h
    rw [fX1_heatHour_b2] at h
    refine lv_iload_n hx hb dX1_heatHour_2 rfl (lv_at hl 2 rfl) ?_
    refine lv_bipush (v := 12) hx hb dX1_heatHour_3 (by decide) ?_
    refine lv_icmp_ge (tgt := 53) hx hb dX1_heatHour_5 (by decide) (fun hc => ?_) (fun hc => ?_)
    · replace h := pw_t hc h
      refine lv_iconst (v := 0) hx hb dX1_heatHour_53 (by decide) ?_
      refine lv_istore_n (lv' := [(2, .int 0), (0, .ref (ad 15)), (1, .int x1)]) hx hb dX1_heatHour_54 rfl hl (by decide) rfl (fun ls hl => ?_)
      exact wX1_heatHour_b55 C  _ _ _ _ _ _ hw (lv_sub hl [1, 0] rfl) h
    · replace h := pw_f hc h
      refine lv_aload_n hx hb dX1_heatHour_8 rfl (lv_at hl 0 rfl) ?_
      refine r_get C hw qC_15 clsX1 3 rfl (by decide) fl_X1_21 dX1_heatHour_9 (v := .ref (ad 19)) rfl ?_
      refine lv_iload_n hx hb dX1_heatHour_12 rfl (lv_at hl 2 rfl) ?_
      refine lv_aload_n hx hb dX1_heatHour_13 rfl (lv_at hl 0 rfl) ?_
      refine r_get C hw qC_15 clsX1 2 rfl (by decide) fl_X1_18 dX1_heatHour_14 (v := .ref (ad 18)) rfl ?_
      refine lv_iload_n hx hb dX1_heatHour_17 rfl (lv_at hl 2 rfl) ?_
      refine r_iald C hw qC_18 dX1_heatHour_18 h (fun v9 h => ?_)
      refine lv_aload_n hx hb dX1_heatHour_19 rfl (lv_at hl 0 rfl) ?_
      refine lv_iload_n hx hb dX1_heatHour_20 rfl (lv_at hl 2 rfl) ?_
      refine lv_iconst (v := 0) hx hb dX1_heatHour_21 (by decide) ?_
      obtain ⟨v12, σ11, e10, h⟩ := cal_some h
      refine r_cVI C hw (As := [.int x2, .int 0]) (rest := [.int v9, .int x2, .ref (ad 19)]) (kX1_trait l D cI cZ ad _ _ _ _ e10) YX1_trait ml_X1_40 qC_15 clsX1 (pw_rmOK (by omega) (by decide)) rfl hl.1 rfl (Nat.le_of_ble_eq_true rfl) dX1_heatHour_22 ⟨Nat.zero_le _, Nat.zero_le _⟩ (fun H locs hw => ?_)
      refine lv_iload_n hx hb dX1_heatHour_25 rfl (lv_at hl 1 rfl) ?_
      refine lv_imul hx hb dX1_heatHour_26 ?_
      refine lv_iadd hx hb dX1_heatHour_27 ?_
      refine lv_aload_n hx hb dX1_heatHour_28 rfl (lv_at hl 0 rfl) ?_
      refine r_get C hw qC_15 clsX1 2 rfl (by decide) fl_X1_18 dX1_heatHour_29 (v := .ref (ad 18)) rfl ?_
      refine lv_iload_n hx hb dX1_heatHour_32 rfl (lv_at hl 2 rfl) ?_
      refine r_iald C hw qC_18 dX1_heatHour_33 h (fun v13 h => ?_)
      refine lv_aload_n hx hb dX1_heatHour_34 rfl (lv_at hl 0 rfl) ?_
      refine lv_iload_n hx hb dX1_heatHour_35 rfl (lv_at hl 2 rfl) ?_
      refine lv_iconst (v := 1) hx hb dX1_heatHour_36 (by decide) ?_
      obtain ⟨v16, σ15, e14, h⟩ := cal_some h
      refine r_cVI C hw (As := [.int x2, .int 1]) (rest := [.int v13, .int (v9 + (v12 * x1)), .int x2, .ref (ad 19)]) (kX1_trait l D cI cZ ad _ _ _ _ e14) YX1_trait ml_X1_40 qC_15 clsX1 (pw_rmOK (by omega) (by decide)) rfl hl.1 rfl (Nat.le_of_ble_eq_true rfl) dX1_heatHour_37 ⟨Nat.zero_le _, Nat.zero_le _⟩ (fun H locs hw => ?_)
      refine lv_imul hx hb dX1_heatHour_40 ?_
      refine lv_sipush (v := 1000) hx hb dX1_heatHour_41 (by decide) ?_
      refine lv_idiv hx hb dX1_heatHour_44 (by decide) ?_
      refine lv_isub hx hb dX1_heatHour_45 ?_
      refine r_iast C hw qC_19 dX1_heatHour_46 h (fun σ17 H locs hw h => ?_)
      refine lv_iinc (v := (x2 + 1)) (lv' := [(2, .int (x2 + 1)), (0, .ref (ad 15)), (1, .int x1)]) hx hb dX1_heatHour_47 hl (k := 2) rfl rfl (by decide) rfl (fun ls hl => ?_)
      refine lv_goto (tgt := 2) hx hb dX1_heatHour_50 (by decide) ?_
      exact ih _ _ _ _ _ _ hw (lv_sub hl [1, 2, 0] rfl) h
set_option maxRecDepth 100000 in
set_option maxHeartbeats 4000000 in
theorem kX1_heatHour (l : Launch) (D : va_G) (cI cZ : ClassId) (ad : Nat → Nat) (x1 : Int32) (σ : St) (z : Int32 × St) (h : fX1_heatHour x1 σ = some z) : pw_MV l D shC cI cZ ad yX1_heatHour cX1_heatHour 3 none (pw_rm 1) [.ref (ad 15), .int x1] σ z.2 := by
  refine pw_ofV (by decide) (Nat.le_of_ble_eq_true rfl) ?_
  intro p e s m args below meth c A C hw ls hl
  obtain ⟨hx, hb, hr, hts, hown, hlk, hml, hK, hN⟩ := id C
  have hl : lv_has ls 3 [(0, .ref (ad 15)), (1, .int x1)] := hl
  unfold fX1_heatHour at h
  refine lv_iconst (v := 0) hx hb dX1_heatHour_0 (by decide) ?_
  refine lv_istore_n (lv' := [(2, .int 0), (0, .ref (ad 15)), (1, .int x1)]) hx hb dX1_heatHour_1 rfl hl (by decide) rfl (fun ls hl => ?_)
  exact wX1_heatHour_b2 C  _ _ _ _ _ _ _ hw (lv_sub hl [1, 2, 0] rfl) h
set_option maxRecDepth 100000 in
set_option maxHeartbeats 4000000 in
theorem wX1_heatUp_b30 {p : Program} {l : Launch} {e : Env} {s : State} {m : MethodId} {args : Array Value} {below : List Frame} {meth : Method} {c : Code} {D : va_G} {cI cZ : ClassId} {ad : Nat → Nat} {A : Nat → Prop} {z : Int32 × St}  (C : pw_C p s m args meth c yX1_heatUp.cls cX1_heatUp 3 none D cI cZ) : ∀ (n : Nat) (x1 : Int32) (x2 : Int32) (σ : St) (H : Heap) (locs : List Loc) (ls : Array Slot), pw_H D (pw_w shC cI cZ ad σ) A s.heap H locs → lv_has ls 3 [(0, .ref (ad 15)), (1, .int x1), (2, .int x2)] → fX1_heatUp_b30  n x1 x2 σ = some z → W p l e (pw_rm 2) s m args below meth c H locs 0 0 (pw_QV below args s D (pw_w shC cI cZ ad) A z) (F0 m 30 ls []) := by
  obtain ⟨hx, hb, hr, hts, hown, hlk, hml, hK, hN⟩ := id C
  intro n
  induction n with
  | zero =>
    intro x1 x2 σ H locs ls hw hl h
    exact absurd h (by simp [fX1_heatUp_b30])
  | succ n ih =>
    intro x1 x2 σ H locs ls hw hl h
    rw [fX1_heatUp_b30] at h
    refine lv_iload_n hx hb dX1_heatUp_30 rfl (lv_at hl 2 rfl) ?_
    refine lv_iload_n hx hb dX1_heatUp_31 rfl (lv_at hl 1 rfl) ?_
    refine lv_icmp_ge (tgt := 51) hx hb dX1_heatUp_32 (by decide) (fun hc => ?_) (fun hc => ?_)
    · replace h := pw_t hc h
      exact r_vret C hw dX1_heatUp_51 h
    · replace h := pw_f hc h
      refine lv_aload_n hx hb dX1_heatUp_35 rfl (lv_at hl 0 rfl) ?_
      refine lv_aload_n hx hb dX1_heatUp_36 rfl (lv_at hl 0 rfl) ?_
      refine r_get C hw qC_15 clsX1 5 rfl (by decide) fl_X1_27 dX1_heatUp_37 (v := .ref (ad 21)) rfl ?_
      refine lv_iload_n hx hb dX1_heatUp_40 rfl (lv_at hl 2 rfl) ?_
      refine r_iald C hw qC_21 dX1_heatUp_41 h (fun v1 h => ?_)
      obtain ⟨r4, σ3, e2, h⟩ := cal_some h
      refine r_cVV C hw (As := [.int v1]) (rest := []) (kX1_heatHour l D cI cZ ad _ _ _ e2) YX1_heatHour ml_X1_44 qC_15 clsX1 (pw_rmOK (by omega) (by decide)) rfl hl.1 rfl (Nat.le_of_ble_eq_true rfl) dX1_heatUp_42 ⟨Nat.zero_le _, Nat.zero_le _⟩ (fun H locs hw => ?_)
      refine lv_iinc (v := (x2 + 1)) (lv' := [(2, .int (x2 + 1)), (0, .ref (ad 15)), (1, .int x1)]) hx hb dX1_heatUp_45 hl (k := 2) rfl rfl (by decide) rfl (fun ls hl => ?_)
      refine lv_goto (tgt := 30) hx hb dX1_heatUp_48 (by decide) ?_
      exact ih _ _ _ _ _ _ hw (lv_sub hl [1, 2, 0] rfl) h
set_option maxRecDepth 100000 in
set_option maxHeartbeats 4000000 in
theorem wX1_heatUp_b2 {p : Program} {l : Launch} {e : Env} {s : State} {m : MethodId} {args : Array Value} {below : List Frame} {meth : Method} {c : Code} {D : va_G} {cI cZ : ClassId} {ad : Nat → Nat} {A : Nat → Prop} {z : Int32 × St}  (C : pw_C p s m args meth c yX1_heatUp.cls cX1_heatUp 3 none D cI cZ) : ∀ (n : Nat) (x1 : Int32) (x2 : Int32) (σ : St) (H : Heap) (locs : List Loc) (ls : Array Slot), pw_H D (pw_w shC cI cZ ad σ) A s.heap H locs → lv_has ls 3 [(0, .ref (ad 15)), (1, .int x1), (2, .int x2)] → fX1_heatUp_b2  n x1 x2 σ = some z → W p l e (pw_rm 2) s m args below meth c H locs 0 0 (pw_QV below args s D (pw_w shC cI cZ ad) A z) (F0 m 2 ls []) := by
  obtain ⟨hx, hb, hr, hts, hown, hlk, hml, hK, hN⟩ := id C
  intro n
  induction n with
  | zero =>
    intro x1 x2 σ H locs ls hw hl h
    exact absurd h (by simp [fX1_heatUp_b2])
  | succ n ih =>
    intro x1 x2 σ H locs ls hw hl h
    rw [fX1_heatUp_b2] at h
    refine lv_iload_n hx hb dX1_heatUp_2 rfl (lv_at hl 2 rfl) ?_
    refine lv_bipush (v := 12) hx hb dX1_heatUp_3 (by decide) ?_
    refine lv_icmp_ge (tgt := 28) hx hb dX1_heatUp_5 (by decide) (fun hc => ?_) (fun hc => ?_)
    · replace h := pw_t hc h
      refine lv_iconst (v := 0) hx hb dX1_heatUp_28 (by decide) ?_
      refine lv_istore_n (lv' := [(2, .int 0), (0, .ref (ad 15)), (1, .int x1)]) hx hb dX1_heatUp_29 rfl hl (by decide) rfl (fun ls hl => ?_)
      exact wX1_heatUp_b30 C  _ _ _ _ _ _ _ hw (lv_sub hl [1, 2, 0] rfl) h
    · replace h := pw_f hc h
      refine lv_aload_n hx hb dX1_heatUp_8 rfl (lv_at hl 0 rfl) ?_
      refine r_get C hw qC_15 clsX1 2 rfl (by decide) fl_X1_18 dX1_heatUp_9 (v := .ref (ad 18)) rfl ?_
      refine lv_iload_n hx hb dX1_heatUp_12 rfl (lv_at hl 2 rfl) ?_
      refine lv_iconst (v := 0) hx hb dX1_heatUp_13 (by decide) ?_
      refine r_iast C hw qC_18 dX1_heatUp_14 h (fun σ5 H locs hw h => ?_)
      refine lv_aload_n hx hb dX1_heatUp_15 rfl (lv_at hl 0 rfl) ?_
      refine r_get C hw qC_15 clsX1 4 rfl (by decide) fl_X1_24 dX1_heatUp_16 (v := .ref (ad 20)) rfl ?_
      refine lv_iload_n hx hb dX1_heatUp_19 rfl (lv_at hl 2 rfl) ?_
      refine lv_iconst (v := 0) hx hb dX1_heatUp_20 (by decide) ?_
      refine r_iast C hw qC_20 dX1_heatUp_21 h (fun σ6 H locs hw h => ?_)
      refine lv_iinc (v := (x2 + 1)) (lv' := [(2, .int (x2 + 1)), (0, .ref (ad 15)), (1, .int x1)]) hx hb dX1_heatUp_22 hl (k := 2) rfl rfl (by decide) rfl (fun ls hl => ?_)
      refine lv_goto (tgt := 2) hx hb dX1_heatUp_25 (by decide) ?_
      exact ih _ _ _ _ _ _ hw (lv_sub hl [1, 2, 0] rfl) h
set_option maxRecDepth 100000 in
set_option maxHeartbeats 4000000 in
theorem kX1_heatUp (l : Launch) (D : va_G) (cI cZ : ClassId) (ad : Nat → Nat) (x1 : Int32) (σ : St) (z : Int32 × St) (h : fX1_heatUp x1 σ = some z) : pw_MV l D shC cI cZ ad yX1_heatUp cX1_heatUp 3 none (pw_rm 2) [.ref (ad 15), .int x1] σ z.2 := by
  refine pw_ofV (by decide) (Nat.le_of_ble_eq_true rfl) ?_
  intro p e s m args below meth c A C hw ls hl
  obtain ⟨hx, hb, hr, hts, hown, hlk, hml, hK, hN⟩ := id C
  have hl : lv_has ls 3 [(0, .ref (ad 15)), (1, .int x1)] := hl
  unfold fX1_heatUp at h
  refine lv_iconst (v := 0) hx hb dX1_heatUp_0 (by decide) ?_
  refine lv_istore_n (lv' := [(2, .int 0), (0, .ref (ad 15)), (1, .int x1)]) hx hb dX1_heatUp_1 rfl hl (by decide) rfl (fun ls hl => ?_)
  exact wX1_heatUp_b2 C  _ _ _ _ _ _ _ hw (lv_sub hl [1, 2, 0] rfl) h
set_option maxRecDepth 100000 in
set_option maxHeartbeats 4000000 in
theorem kX10_peak (l : Launch) (D : va_G) (cI cZ : ClassId) (ad : Nat → Nat) (x1 : Int32) (σ : St) (z : Int32 × St) (h : fX10_peak x1 σ = some z) : pw_MI l D shC cI cZ ad yX10_peak cX10_peak 2 (some .int) (pw_rm 3) [.ref (ad 0), .int x1] σ z.1 z.2 := by
  refine pw_ofI (by decide) (Nat.le_of_ble_eq_true rfl) ?_
  intro p e s m args below meth c A C hw ls hl
  obtain ⟨hx, hb, hr, hts, hown, hlk, hml, hK, hN⟩ := id C
  have hl : lv_has ls 2 [(0, .ref (ad 0)), (1, .int x1)] := hl
  unfold fX10_peak at h
  refine lv_iload_n hx hb dX10_peak_0 rfl (lv_at hl 1 rfl) ?_
  refine lv_bipush (v := 12) hx hb dX10_peak_1 (by decide) ?_
  obtain ⟨v3, σ2, e1, h⟩ := cal_some h
  refine r_cSI C hw (sh := shC) (ad := ad) (As := [.int x1, .int 12]) (rest := []) (kX10_within l D cI cZ ad _ _ _ _ e1) YX10_within ml_X10_87 (pw_rmOK (by omega) (by decide)) rfl hl.1 rfl (Nat.le_of_ble_eq_true rfl) dX10_peak_3 ⟨Nat.zero_le _, Nat.zero_le _⟩ (fun H locs hw => ?_)
  refine lv_if_ne (tgt := 15) hx hb dX10_peak_6 (by decide) (fun hc => ?_) (fun hc => ?_)
  · replace h := pw_f hc h
    refine lv_aload_n hx hb dX10_peak_15 rfl (lv_at hl 0 rfl) ?_
    refine r_get C hw qC_0 clsX10 3 rfl (by decide) fl_X10_30 dX10_peak_16 (v := .ref (ad 15)) rfl ?_
    refine lv_aload_n hx hb dX10_peak_19 rfl (lv_at hl 0 rfl) ?_
    refine r_get C hw qC_0 clsX10 3 rfl (by decide) fl_X10_30 dX10_peak_20 (v := .ref (ad 15)) rfl ?_
    refine r_getN C hw qC_15 clsX1 6 rfl (by decide) fn_X10_134 dX10_peak_23 (v := .int (σ2 15 6)) rfl ?_
    obtain ⟨r6, σ5, e4, h⟩ := cal_some h
    refine r_cNV C hw (As := [.int (σ2 15 6)]) (rest := []) (kX1_heatUp l D cI cZ ad _ _ _ e4) YX1_heatUp mn_X10_144 qC_15 clsX1 (pw_rmOK (by omega) (by decide)) rfl hl.1 rfl (Nat.le_of_ble_eq_true rfl) dX10_peak_26 ⟨Nat.zero_le _, Nat.zero_le _⟩ (fun H locs hw => ?_)
    refine lv_aload_n hx hb dX10_peak_29 rfl (lv_at hl 0 rfl) ?_
    refine r_get C hw qC_0 clsX10 3 rfl (by decide) fl_X10_30 dX10_peak_30 (v := .ref (ad 15)) rfl ?_
    refine r_getN C hw qC_15 clsX1 4 rfl (by decide) fn_X10_147 dX10_peak_33 (v := .ref (ad 20)) rfl ?_
    refine lv_iload_n hx hb dX10_peak_36 rfl (lv_at hl 1 rfl) ?_
    refine r_iald C hw qC_20 dX10_peak_37 h (fun v7 h => ?_)
    exact r_iret C hw dX10_peak_38 h
  · replace h := pw_t hc h
    refine lv_aload_n hx hb dX10_peak_9 rfl (lv_at hl 0 rfl) ?_
    refine lv_iconst (v := (-1)) hx hb dX10_peak_10 (by decide) ?_
    obtain ⟨v10, σ9, e8, h⟩ := cal_some h
    refine r_cVI C hw (As := [.int (-1)]) (rest := []) (kX10_refuse l D cI cZ ad _ _ _ e8) YX10_refuse ml_X10_91 qC_0 clsX10 (pw_rmOK (by omega) (by decide)) rfl hl.1 rfl (Nat.le_of_ble_eq_true rfl) dX10_peak_11 ⟨Nat.zero_le _, Nat.zero_le _⟩ (fun H locs hw => ?_)
    exact r_iret C hw dX10_peak_14 h
set_option maxRecDepth 100000 in
set_option maxHeartbeats 4000000 in
theorem kX10_heat (l : Launch) (D : va_G) (cI cZ : ClassId) (ad : Nat → Nat) (x1 : Int32) (x2 : Int32) (σ : St) (z : Int32 × St) (h : fX10_heat x1 x2 σ = some z) : pw_MI l D shC cI cZ ad yX10_heat cX10_heat 3 (some .int) (pw_rm 3) [.ref (ad 0), .int x1, .int x2] σ z.1 z.2 := by
  refine pw_ofI (by decide) (Nat.le_of_ble_eq_true rfl) ?_
  intro p e s m args below meth c A C hw ls hl
  obtain ⟨hx, hb, hr, hts, hown, hlk, hml, hK, hN⟩ := id C
  have hl : lv_has ls 3 [(0, .ref (ad 0)), (1, .int x1), (2, .int x2)] := hl
  unfold fX10_heat at h
  refine lv_iload_n hx hb dX10_heat_0 rfl (lv_at hl 1 rfl) ?_
  refine lv_bipush (v := 12) hx hb dX10_heat_1 (by decide) ?_
  obtain ⟨v3, σ2, e1, h⟩ := cal_some h
  refine r_cSI C hw (sh := shC) (ad := ad) (As := [.int x1, .int 12]) (rest := []) (kX10_within l D cI cZ ad _ _ _ _ e1) YX10_within ml_X10_87 (pw_rmOK (by omega) (by decide)) rfl hl.1 rfl (Nat.le_of_ble_eq_true rfl) dX10_heat_3 ⟨Nat.zero_le _, Nat.zero_le _⟩ (fun H locs hw => ?_)
  refine lv_if_ne (tgt := 15) hx hb dX10_heat_6 (by decide) (fun hc => ?_) (fun hc => ?_)
  · replace h := pw_f hc h
    refine lv_iload_n hx hb dX10_heat_15 rfl (lv_at hl 2 rfl) ?_
    refine lv_if_ge (tgt := 26) hx hb dX10_heat_16 (by decide) (fun hc => ?_) (fun hc => ?_)
    · replace h := pw_t hc h
      refine lv_iload_n hx hb dX10_heat_26 rfl (lv_at hl 2 rfl) ?_
      refine lv_aload_n hx hb dX10_heat_27 rfl (lv_at hl 0 rfl) ?_
      refine r_get C hw qC_0 clsX10 3 rfl (by decide) fl_X10_30 dX10_heat_28 (v := .ref (ad 15)) rfl ?_
      refine r_getN C hw qC_15 clsX1 6 rfl (by decide) fn_X10_134 dX10_heat_31 (v := .int (σ2 15 6)) rfl ?_
      refine lv_icmp_le (tgt := 44) hx hb dX10_heat_34 (by decide) (fun hc => ?_) (fun hc => ?_)
      · replace h := pw_t hc h
        refine lv_aload_n hx hb dX10_heat_44 rfl (lv_at hl 0 rfl) ?_
        refine r_get C hw qC_0 clsX10 3 rfl (by decide) fl_X10_30 dX10_heat_45 (v := .ref (ad 15)) rfl ?_
        refine lv_iload_n hx hb dX10_heat_48 rfl (lv_at hl 2 rfl) ?_
        obtain ⟨r6, σ5, e4, h⟩ := cal_some h
        refine r_cNV C hw (As := [.int x2]) (rest := []) (kX1_heatUp l D cI cZ ad _ _ _ e4) YX1_heatUp mn_X10_144 qC_15 clsX1 (pw_rmOK (by omega) (by decide)) rfl hl.1 rfl (Nat.le_of_ble_eq_true rfl) dX10_heat_49 ⟨Nat.zero_le _, Nat.zero_le _⟩ (fun H locs hw => ?_)
        refine lv_aload_n hx hb dX10_heat_52 rfl (lv_at hl 0 rfl) ?_
        refine r_get C hw qC_0 clsX10 3 rfl (by decide) fl_X10_30 dX10_heat_53 (v := .ref (ad 15)) rfl ?_
        refine r_getN C hw qC_15 clsX1 2 rfl (by decide) fn_X10_150 dX10_heat_56 (v := .ref (ad 18)) rfl ?_
        refine lv_iload_n hx hb dX10_heat_59 rfl (lv_at hl 1 rfl) ?_
        refine r_iald C hw qC_18 dX10_heat_60 h (fun v7 h => ?_)
        exact r_iret C hw dX10_heat_61 h
      · replace h := pw_f hc h
        refine lv_aload_n hx hb dX10_heat_37 rfl (lv_at hl 0 rfl) ?_
        refine lv_bipush (v := (-6)) hx hb dX10_heat_38 (by decide) ?_
        obtain ⟨v10, σ9, e8, h⟩ := cal_some h
        refine r_cVI C hw (As := [.int (-6)]) (rest := []) (kX10_refuse l D cI cZ ad _ _ _ e8) YX10_refuse ml_X10_91 qC_0 clsX10 (pw_rmOK (by omega) (by decide)) rfl hl.1 rfl (Nat.le_of_ble_eq_true rfl) dX10_heat_40 ⟨Nat.zero_le _, Nat.zero_le _⟩ (fun H locs hw => ?_)
        exact r_iret C hw dX10_heat_43 h
    · replace h := pw_f hc h
      refine lv_aload_n hx hb dX10_heat_19 rfl (lv_at hl 0 rfl) ?_
      refine lv_bipush (v := (-4)) hx hb dX10_heat_20 (by decide) ?_
      obtain ⟨v13, σ12, e11, h⟩ := cal_some h
      refine r_cVI C hw (As := [.int (-4)]) (rest := []) (kX10_refuse l D cI cZ ad _ _ _ e11) YX10_refuse ml_X10_91 qC_0 clsX10 (pw_rmOK (by omega) (by decide)) rfl hl.1 rfl (Nat.le_of_ble_eq_true rfl) dX10_heat_22 ⟨Nat.zero_le _, Nat.zero_le _⟩ (fun H locs hw => ?_)
      exact r_iret C hw dX10_heat_25 h
  · replace h := pw_t hc h
    refine lv_aload_n hx hb dX10_heat_9 rfl (lv_at hl 0 rfl) ?_
    refine lv_iconst (v := (-1)) hx hb dX10_heat_10 (by decide) ?_
    obtain ⟨v16, σ15, e14, h⟩ := cal_some h
    refine r_cVI C hw (As := [.int (-1)]) (rest := []) (kX10_refuse l D cI cZ ad _ _ _ e14) YX10_refuse ml_X10_91 qC_0 clsX10 (pw_rmOK (by omega) (by decide)) rfl hl.1 rfl (Nat.le_of_ble_eq_true rfl) dX10_heat_11 ⟨Nat.zero_le _, Nat.zero_le _⟩ (fun H locs hw => ?_)
    exact r_iret C hw dX10_heat_14 h
set_option maxRecDepth 100000 in
set_option maxHeartbeats 4000000 in
theorem wX8_isTold_b2 {p : Program} {l : Launch} {e : Env} {s : State} {m : MethodId} {args : Array Value} {below : List Frame} {meth : Method} {c : Code} {D : va_G} {cI cZ : ClassId} {ad : Nat → Nat} {A : Nat → Prop} {z : Int32 × St}  (C : pw_C p s m args meth c yX8_isTold.cls cX8_isTold 3 (some .boolean) D cI cZ) : ∀ (n : Nat) (x1 : Int32) (x2 : Int32) (σ : St) (H : Heap) (locs : List Loc) (ls : Array Slot), pw_H D (pw_w shC cI cZ ad σ) A s.heap H locs → lv_has ls 3 [(0, .ref (ad 22)), (1, .int x1), (2, .int x2)] → fX8_isTold_b2  n x1 x2 σ = some z → W p l e (pw_rm 0) s m args below meth c H locs 0 0 (pw_QI below args s D (pw_w shC cI cZ ad) A z) (F0 m 2 ls []) := by
  obtain ⟨hx, hb, hr, hts, hown, hlk, hml, hK, hN⟩ := id C
  intro n
  induction n with
  | zero =>
    intro x1 x2 σ H locs ls hw hl h
    exact absurd h (by simp [fX8_isTold_b2])
  | succ n ih =>
    intro x1 x2 σ H locs ls hw hl h
    rw [fX8_isTold_b2] at h
    refine lv_iload_n hx hb dX8_isTold_2 rfl (lv_at hl 2 rfl) ?_
    refine lv_aload_n hx hb dX8_isTold_3 rfl (lv_at hl 0 rfl) ?_
    refine r_get C hw qC_22 clsX8 8 rfl (by decide) fl_X8_36 dX8_isTold_4 (v := .int (σ 22 8)) rfl ?_
    refine lv_icmp_ge (tgt := 28) hx hb dX8_isTold_7 (by decide) (fun hc => ?_) (fun hc => ?_)
    · replace h := pw_t hc h
      refine lv_iconst (v := 0) hx hb dX8_isTold_28 (by decide) ?_
      exact r_zret C hw dX8_isTold_29 h
    · replace h := pw_f hc h
      refine lv_aload_n hx hb dX8_isTold_10 rfl (lv_at hl 0 rfl) ?_
      refine r_get C hw qC_22 clsX8 0 rfl (by decide) fl_X8_9 dX8_isTold_11 (v := .ref (ad 23)) rfl ?_
      refine lv_iload_n hx hb dX8_isTold_14 rfl (lv_at hl 2 rfl) ?_
      refine r_iald C hw qC_23 dX8_isTold_15 h (fun v1 h => ?_)
      refine lv_iload_n hx hb dX8_isTold_16 rfl (lv_at hl 1 rfl) ?_
      refine lv_icmp_ne (tgt := 22) hx hb dX8_isTold_17 (by decide) (fun hc => ?_) (fun hc => ?_)
      · replace h := pw_f hc h
        refine lv_iinc (v := (x2 + 1)) (lv' := [(2, .int (x2 + 1)), (0, .ref (ad 22)), (1, .int x1)]) hx hb dX8_isTold_22 hl (k := 2) rfl rfl (by decide) rfl (fun ls hl => ?_)
        refine lv_goto (tgt := 2) hx hb dX8_isTold_25 (by decide) ?_
        exact ih _ _ _ _ _ _ hw (lv_sub hl [1, 2, 0] rfl) h
      · replace h := pw_t hc h
        refine lv_iconst (v := 1) hx hb dX8_isTold_20 (by decide) ?_
        exact r_zret C hw dX8_isTold_21 h
set_option maxRecDepth 100000 in
set_option maxHeartbeats 4000000 in
theorem kX8_isTold (l : Launch) (D : va_G) (cI cZ : ClassId) (ad : Nat → Nat) (x1 : Int32) (σ : St) (z : Int32 × St) (h : fX8_isTold x1 σ = some z) : pw_MI l D shC cI cZ ad yX8_isTold cX8_isTold 3 (some .boolean) (pw_rm 0) [.ref (ad 22), .int x1] σ z.1 z.2 := by
  refine pw_ofI (by decide) (Nat.le_of_ble_eq_true rfl) ?_
  intro p e s m args below meth c A C hw ls hl
  obtain ⟨hx, hb, hr, hts, hown, hlk, hml, hK, hN⟩ := id C
  have hl : lv_has ls 3 [(0, .ref (ad 22)), (1, .int x1)] := hl
  unfold fX8_isTold at h
  refine lv_iconst (v := 0) hx hb dX8_isTold_0 (by decide) ?_
  refine lv_istore_n (lv' := [(2, .int 0), (0, .ref (ad 22)), (1, .int x1)]) hx hb dX8_isTold_1 rfl hl (by decide) rfl (fun ls hl => ?_)
  exact wX8_isTold_b2 C  _ _ _ _ _ _ _ hw (lv_sub hl [1, 2, 0] rfl) h
set_option maxRecDepth 100000 in
set_option maxHeartbeats 4000000 in
theorem kX10_isLoose (l : Launch) (D : va_G) (cI cZ : ClassId) (ad : Nat → Nat) (x1 : Int32) (σ : St) (z : Int32 × St) (h : fX10_isLoose x1 σ = some z) : pw_MI l D shC cI cZ ad yX10_isLoose cX10_isLoose 2 (some .boolean) (pw_rm 1) [.ref (ad 0), .int x1] σ z.1 z.2 := by
  refine pw_ofI (by decide) (Nat.le_of_ble_eq_true rfl) ?_
  intro p e s m args below meth c A C hw ls hl
  obtain ⟨hx, hb, hr, hts, hown, hlk, hml, hK, hN⟩ := id C
  have hl : lv_has ls 2 [(0, .ref (ad 0)), (1, .int x1)] := hl
  unfold fX10_isLoose at h
  refine lv_aload_n hx hb dX10_isLoose_0 rfl (lv_at hl 0 rfl) ?_
  refine r_get C hw qC_0 clsX10 2 rfl (by decide) fl_X10_23 dX10_isLoose_1 (v := .ref (ad 7)) rfl ?_
  refine r_getN C hw qC_7 clsX6 3 rfl (by decide) fn_X10_232 dX10_isLoose_4 (v := .ref (ad 11)) rfl ?_
  refine lv_iload_n hx hb dX10_isLoose_7 rfl (lv_at hl 1 rfl) ?_
  refine r_iald C hw qC_11 dX10_isLoose_8 h (fun v1 h => ?_)
  refine lv_if_ne (tgt := 41) hx hb dX10_isLoose_9 (by decide) (fun hc => ?_) (fun hc => ?_)
  · replace h := pw_f hc h
    refine lv_iconst (v := 0) hx hb dX10_isLoose_41 (by decide) ?_
    exact r_zret C hw dX10_isLoose_42 h
  · replace h := pw_t hc h
    refine lv_aload_n hx hb dX10_isLoose_12 rfl (lv_at hl 0 rfl) ?_
    refine r_get C hw qC_0 clsX10 2 rfl (by decide) fl_X10_23 dX10_isLoose_13 (v := .ref (ad 7)) rfl ?_
    refine r_getN C hw qC_7 clsX6 4 rfl (by decide) fn_X10_309 dX10_isLoose_16 (v := .ref (ad 12)) rfl ?_
    refine lv_iload_n hx hb dX10_isLoose_19 rfl (lv_at hl 1 rfl) ?_
    refine r_iald C hw qC_12 dX10_isLoose_20 h (fun v2 h => ?_)
    refine lv_bipush (v := (-9)) hx hb dX10_isLoose_21 (by decide) ?_
    refine lv_icmp_ne (tgt := 41) hx hb dX10_isLoose_23 (by decide) (fun hc => ?_) (fun hc => ?_)
    · replace h := pw_f hc h
      refine lv_iconst (v := 0) hx hb dX10_isLoose_41 (by decide) ?_
      exact r_zret C hw dX10_isLoose_42 h
    · replace h := pw_t hc h
      refine lv_aload_n hx hb dX10_isLoose_26 rfl (lv_at hl 0 rfl) ?_
      refine r_get C hw qC_0 clsX10 4 rfl (by decide) fl_X10_37 dX10_isLoose_27 (v := .ref (ad 22)) rfl ?_
      refine lv_iload_n hx hb dX10_isLoose_30 rfl (lv_at hl 1 rfl) ?_
      obtain ⟨v5, σ4, e3, h⟩ := cal_some h
      refine r_cNI C hw (As := [.int x1]) (rest := []) (kX8_isTold l D cI cZ ad _ _ _ e3) YX8_isTold mn_X10_322 qC_22 clsX8 (pw_rmOK (by omega) (by decide)) rfl hl.1 rfl (Nat.le_of_ble_eq_true rfl) dX10_isLoose_31 ⟨Nat.zero_le _, Nat.zero_le _⟩ (fun H locs hw => ?_)
      refine lv_if_ne (tgt := 41) hx hb dX10_isLoose_34 (by decide) (fun hc => ?_) (fun hc => ?_)
      · replace h := pw_f hc h
        refine lv_iconst (v := 0) hx hb dX10_isLoose_41 (by decide) ?_
        exact r_zret C hw dX10_isLoose_42 h
      · replace h := pw_t hc h
        refine lv_iconst (v := 1) hx hb dX10_isLoose_37 (by decide) ?_
        refine lv_goto (tgt := 42) hx hb dX10_isLoose_38 (by decide) ?_
        exact r_zret C hw dX10_isLoose_42 h
set_option maxRecDepth 100000 in
set_option maxHeartbeats 4000000 in
theorem kX10_putIn (l : Launch) (D : va_G) (cI cZ : ClassId) (ad : Nat → Nat) (x1 : Int32) (x2 : Int32) (σ : St) (z : Int32 × St) (h : fX10_putIn x1 x2 σ = some z) : pw_MV l D shC cI cZ ad yX10_putIn cX10_putIn 3 none (pw_rm 0) [.ref (ad 0), .int x1, .int x2] σ z.2 := by
  refine pw_ofV (by decide) (Nat.le_of_ble_eq_true rfl) ?_
  intro p e s m args below meth c A C hw ls hl
  obtain ⟨hx, hb, hr, hts, hown, hlk, hml, hK, hN⟩ := id C
  have hl : lv_has ls 3 [(0, .ref (ad 0)), (1, .int x1), (2, .int x2)] := hl
  unfold fX10_putIn at h
  refine lv_aload_n hx hb dX10_putIn_0 rfl (lv_at hl 0 rfl) ?_
  refine r_get C hw qC_0 clsX10 3 rfl (by decide) fl_X10_30 dX10_putIn_1 (v := .ref (ad 15)) rfl ?_
  refine r_getN C hw qC_15 clsX1 1 rfl (by decide) fn_X10_157 dX10_putIn_4 (v := .ref (ad 17)) rfl ?_
  refine lv_iload_n hx hb dX10_putIn_7 rfl (lv_at hl 2 rfl) ?_
  refine lv_iload_n hx hb dX10_putIn_8 rfl (lv_at hl 1 rfl) ?_
  refine r_iast C hw qC_17 dX10_putIn_9 h (fun σ1 H locs hw h => ?_)
  refine lv_aload_n hx hb dX10_putIn_10 rfl (lv_at hl 0 rfl) ?_
  refine r_get C hw qC_0 clsX10 2 rfl (by decide) fl_X10_23 dX10_putIn_11 (v := .ref (ad 7)) rfl ?_
  refine r_getN C hw qC_7 clsX6 4 rfl (by decide) fn_X10_309 dX10_putIn_14 (v := .ref (ad 12)) rfl ?_
  refine lv_iload_n hx hb dX10_putIn_17 rfl (lv_at hl 1 rfl) ?_
  refine lv_iload_n hx hb dX10_putIn_18 rfl (lv_at hl 2 rfl) ?_
  refine r_iast C hw qC_12 dX10_putIn_19 h (fun σ2 H locs hw h => ?_)
  exact r_vret C hw dX10_putIn_20 h
set_option maxRecDepth 100000 in
set_option maxHeartbeats 4000000 in
theorem kX10_stack (l : Launch) (D : va_G) (cI cZ : ClassId) (ad : Nat → Nat) (x1 : Int32) (x2 : Int32) (σ : St) (z : Int32 × St) (h : fX10_stack x1 x2 σ = some z) : pw_MI l D shC cI cZ ad yX10_stack cX10_stack 3 (some .int) (pw_rm 2) [.ref (ad 0), .int x1, .int x2] σ z.1 z.2 := by
  refine pw_ofI (by decide) (Nat.le_of_ble_eq_true rfl) ?_
  intro p e s m args below meth c A C hw ls hl
  obtain ⟨hx, hb, hr, hts, hown, hlk, hml, hK, hN⟩ := id C
  have hl : lv_has ls 3 [(0, .ref (ad 0)), (1, .int x1), (2, .int x2)] := hl
  unfold fX10_stack at h
  refine lv_iload_n hx hb dX10_stack_0 rfl (lv_at hl 1 rfl) ?_
  refine lv_aload_n hx hb dX10_stack_1 rfl (lv_at hl 0 rfl) ?_
  refine r_get C hw qC_0 clsX10 2 rfl (by decide) fl_X10_23 dX10_stack_2 (v := .ref (ad 7)) rfl ?_
  refine r_getN C hw qC_7 clsX6 7 rfl (by decide) fn_X10_118 dX10_stack_5 (v := .int (σ 7 7)) rfl ?_
  obtain ⟨v3, σ2, e1, h⟩ := cal_some h
  refine r_cSI C hw (sh := shC) (ad := ad) (As := [.int x1, .int (σ 7 7)]) (rest := []) (kX10_within l D cI cZ ad _ _ _ _ e1) YX10_within ml_X10_87 (pw_rmOK (by omega) (by decide)) rfl hl.1 rfl (Nat.le_of_ble_eq_true rfl) dX10_stack_8 ⟨Nat.zero_le _, Nat.zero_le _⟩ (fun H locs hw => ?_)
  refine lv_if_eq (tgt := 23) hx hb dX10_stack_11 (by decide) (fun hc => ?_) (fun hc => ?_)
  · replace h := pw_t hc h
    refine lv_aload_n hx hb dX10_stack_23 rfl (lv_at hl 0 rfl) ?_
    refine lv_iconst (v := (-1)) hx hb dX10_stack_24 (by decide) ?_
    obtain ⟨v6, σ5, e4, h⟩ := cal_some h
    refine r_cVI C hw (As := [.int (-1)]) (rest := []) (kX10_refuse l D cI cZ ad _ _ _ e4) YX10_refuse ml_X10_91 qC_0 clsX10 (pw_rmOK (by omega) (by decide)) rfl hl.1 rfl (Nat.le_of_ble_eq_true rfl) dX10_stack_25 ⟨Nat.zero_le _, Nat.zero_le _⟩ (fun H locs hw => ?_)
    exact r_iret C hw dX10_stack_28 h
  · replace h := pw_f hc h
    refine lv_iload_n hx hb dX10_stack_14 rfl (lv_at hl 2 rfl) ?_
    refine lv_bipush (v := 12) hx hb dX10_stack_15 (by decide) ?_
    obtain ⟨v9, σ8, e7, h⟩ := cal_some h
    refine r_cSI C hw (sh := shC) (ad := ad) (As := [.int x2, .int 12]) (rest := []) (kX10_within l D cI cZ ad _ _ _ _ e7) YX10_within ml_X10_87 (pw_rmOK (by omega) (by decide)) rfl hl.1 rfl (Nat.le_of_ble_eq_true rfl) dX10_stack_17 ⟨Nat.zero_le _, Nat.zero_le _⟩ (fun H locs hw => ?_)
    refine lv_if_ne (tgt := 29) hx hb dX10_stack_20 (by decide) (fun hc => ?_) (fun hc => ?_)
    · replace h := pw_f hc h
      refine lv_aload_n hx hb dX10_stack_29 rfl (lv_at hl 0 rfl) ?_
      refine lv_iload_n hx hb dX10_stack_30 rfl (lv_at hl 1 rfl) ?_
      obtain ⟨v12, σ11, e10, h⟩ := cal_some h
      refine r_cVI C hw (As := [.int x1]) (rest := []) (kX10_isLoose l D cI cZ ad _ _ _ e10) YX10_isLoose ml_X10_153 qC_0 clsX10 (pw_rmOK (by omega) (by decide)) rfl hl.1 rfl (Nat.le_of_ble_eq_true rfl) dX10_stack_31 ⟨Nat.zero_le _, Nat.zero_le _⟩ (fun H locs hw => ?_)
      refine lv_if_eq (tgt := 51) hx hb dX10_stack_34 (by decide) (fun hc => ?_) (fun hc => ?_)
      · replace h := pw_t hc h
        refine lv_aload_n hx hb dX10_stack_51 rfl (lv_at hl 0 rfl) ?_
        refine lv_bipush (v := (-3)) hx hb dX10_stack_52 (by decide) ?_
        obtain ⟨v15, σ14, e13, h⟩ := cal_some h
        refine r_cVI C hw (As := [.int (-3)]) (rest := []) (kX10_refuse l D cI cZ ad _ _ _ e13) YX10_refuse ml_X10_91 qC_0 clsX10 (pw_rmOK (by omega) (by decide)) rfl hl.1 rfl (Nat.le_of_ble_eq_true rfl) dX10_stack_54 ⟨Nat.zero_le _, Nat.zero_le _⟩ (fun H locs hw => ?_)
        exact r_iret C hw dX10_stack_57 h
      · replace h := pw_f hc h
        refine lv_aload_n hx hb dX10_stack_37 rfl (lv_at hl 0 rfl) ?_
        refine r_get C hw qC_0 clsX10 3 rfl (by decide) fl_X10_30 dX10_stack_38 (v := .ref (ad 15)) rfl ?_
        refine r_getN C hw qC_15 clsX1 1 rfl (by decide) fn_X10_157 dX10_stack_41 (v := .ref (ad 17)) rfl ?_
        refine lv_iload_n hx hb dX10_stack_44 rfl (lv_at hl 2 rfl) ?_
        refine r_iald C hw qC_17 dX10_stack_45 h (fun v16 h => ?_)
        refine lv_bipush (v := (-9)) hx hb dX10_stack_46 (by decide) ?_
        refine lv_icmp_eq (tgt := 58) hx hb dX10_stack_48 (by decide) (fun hc => ?_) (fun hc => ?_)
        · replace h := pw_t hc h
          refine lv_aload_n hx hb dX10_stack_58 rfl (lv_at hl 0 rfl) ?_
          refine lv_iload_n hx hb dX10_stack_59 rfl (lv_at hl 1 rfl) ?_
          refine lv_iload_n hx hb dX10_stack_60 rfl (lv_at hl 2 rfl) ?_
          obtain ⟨r19, σ18, e17, h⟩ := cal_some h
          refine r_cVV C hw (As := [.int x1, .int x2]) (rest := []) (kX10_putIn l D cI cZ ad _ _ _ _ e17) YX10_putIn ml_X10_160 qC_0 clsX10 (pw_rmOK (by omega) (by decide)) rfl hl.1 rfl (Nat.le_of_ble_eq_true rfl) dX10_stack_61 ⟨Nat.zero_le _, Nat.zero_le _⟩ (fun H locs hw => ?_)
          refine lv_iconst (v := 1) hx hb dX10_stack_64 (by decide) ?_
          exact r_iret C hw dX10_stack_65 h
        · replace h := pw_f hc h
          refine lv_aload_n hx hb dX10_stack_51 rfl (lv_at hl 0 rfl) ?_
          refine lv_bipush (v := (-3)) hx hb dX10_stack_52 (by decide) ?_
          obtain ⟨v22, σ21, e20, h⟩ := cal_some h
          refine r_cVI C hw (As := [.int (-3)]) (rest := []) (kX10_refuse l D cI cZ ad _ _ _ e20) YX10_refuse ml_X10_91 qC_0 clsX10 (pw_rmOK (by omega) (by decide)) rfl hl.1 rfl (Nat.le_of_ble_eq_true rfl) dX10_stack_54 ⟨Nat.zero_le _, Nat.zero_le _⟩ (fun H locs hw => ?_)
          exact r_iret C hw dX10_stack_57 h
    · replace h := pw_t hc h
      refine lv_aload_n hx hb dX10_stack_23 rfl (lv_at hl 0 rfl) ?_
      refine lv_iconst (v := (-1)) hx hb dX10_stack_24 (by decide) ?_
      obtain ⟨v25, σ24, e23, h⟩ := cal_some h
      refine r_cVI C hw (As := [.int (-1)]) (rest := []) (kX10_refuse l D cI cZ ad _ _ _ e23) YX10_refuse ml_X10_91 qC_0 clsX10 (pw_rmOK (by omega) (by decide)) rfl hl.1 rfl (Nat.le_of_ble_eq_true rfl) dX10_stack_25 ⟨Nat.zero_le _, Nat.zero_le _⟩ (fun H locs hw => ?_)
      exact r_iret C hw dX10_stack_28 h
set_option maxRecDepth 100000 in
set_option maxHeartbeats 4000000 in
theorem kX10_takeOut (l : Launch) (D : va_G) (cI cZ : ClassId) (ad : Nat → Nat) (x1 : Int32) (x2 : Int32) (σ : St) (z : Int32 × St) (h : fX10_takeOut x1 x2 σ = some z) : pw_MV l D shC cI cZ ad yX10_takeOut cX10_takeOut 3 none (pw_rm 0) [.ref (ad 0), .int x1, .int x2] σ z.2 := by
  refine pw_ofV (by decide) (Nat.le_of_ble_eq_true rfl) ?_
  intro p e s m args below meth c A C hw ls hl
  obtain ⟨hx, hb, hr, hts, hown, hlk, hml, hK, hN⟩ := id C
  have hl : lv_has ls 3 [(0, .ref (ad 0)), (1, .int x1), (2, .int x2)] := hl
  unfold fX10_takeOut at h
  refine lv_aload_n hx hb dX10_takeOut_0 rfl (lv_at hl 0 rfl) ?_
  refine r_get C hw qC_0 clsX10 3 rfl (by decide) fl_X10_30 dX10_takeOut_1 (v := .ref (ad 15)) rfl ?_
  refine r_getN C hw qC_15 clsX1 1 rfl (by decide) fn_X10_157 dX10_takeOut_4 (v := .ref (ad 17)) rfl ?_
  refine lv_iload_n hx hb dX10_takeOut_7 rfl (lv_at hl 2 rfl) ?_
  refine lv_bipush (v := (-9)) hx hb dX10_takeOut_8 (by decide) ?_
  refine r_iast C hw qC_17 dX10_takeOut_10 h (fun σ1 H locs hw h => ?_)
  refine lv_aload_n hx hb dX10_takeOut_11 rfl (lv_at hl 0 rfl) ?_
  refine r_get C hw qC_0 clsX10 2 rfl (by decide) fl_X10_23 dX10_takeOut_12 (v := .ref (ad 7)) rfl ?_
  refine r_getN C hw qC_7 clsX6 4 rfl (by decide) fn_X10_309 dX10_takeOut_15 (v := .ref (ad 12)) rfl ?_
  refine lv_iload_n hx hb dX10_takeOut_18 rfl (lv_at hl 1 rfl) ?_
  refine lv_bipush (v := (-9)) hx hb dX10_takeOut_19 (by decide) ?_
  refine r_iast C hw qC_12 dX10_takeOut_21 h (fun σ2 H locs hw h => ?_)
  exact r_vret C hw dX10_takeOut_22 h
set_option maxRecDepth 100000 in
set_option maxHeartbeats 4000000 in
theorem kX10_unstack (l : Launch) (D : va_G) (cI cZ : ClassId) (ad : Nat → Nat) (x1 : Int32) (σ : St) (z : Int32 × St) (h : fX10_unstack x1 σ = some z) : pw_MI l D shC cI cZ ad yX10_unstack cX10_unstack 3 (some .int) (pw_rm 2) [.ref (ad 0), .int x1] σ z.1 z.2 := by
  refine pw_ofI (by decide) (Nat.le_of_ble_eq_true rfl) ?_
  intro p e s m args below meth c A C hw ls hl
  obtain ⟨hx, hb, hr, hts, hown, hlk, hml, hK, hN⟩ := id C
  have hl : lv_has ls 3 [(0, .ref (ad 0)), (1, .int x1)] := hl
  unfold fX10_unstack at h
  refine lv_iload_n hx hb dX10_unstack_0 rfl (lv_at hl 1 rfl) ?_
  refine lv_bipush (v := 12) hx hb dX10_unstack_1 (by decide) ?_
  obtain ⟨v3, σ2, e1, h⟩ := cal_some h
  refine r_cSI C hw (sh := shC) (ad := ad) (As := [.int x1, .int 12]) (rest := []) (kX10_within l D cI cZ ad _ _ _ _ e1) YX10_within ml_X10_87 (pw_rmOK (by omega) (by decide)) rfl hl.1 rfl (Nat.le_of_ble_eq_true rfl) dX10_unstack_3 ⟨Nat.zero_le _, Nat.zero_le _⟩ (fun H locs hw => ?_)
  refine lv_if_ne (tgt := 15) hx hb dX10_unstack_6 (by decide) (fun hc => ?_) (fun hc => ?_)
  · replace h := pw_f hc h
    refine lv_aload_n hx hb dX10_unstack_15 rfl (lv_at hl 0 rfl) ?_
    refine r_get C hw qC_0 clsX10 3 rfl (by decide) fl_X10_30 dX10_unstack_16 (v := .ref (ad 15)) rfl ?_
    refine r_getN C hw qC_15 clsX1 1 rfl (by decide) fn_X10_157 dX10_unstack_19 (v := .ref (ad 17)) rfl ?_
    refine lv_iload_n hx hb dX10_unstack_22 rfl (lv_at hl 1 rfl) ?_
    refine r_iald C hw qC_17 dX10_unstack_23 h (fun v4 h => ?_)
    refine lv_istore_n (lv' := [(2, .int v4), (0, .ref (ad 0)), (1, .int x1)]) hx hb dX10_unstack_24 rfl hl (by decide) rfl (fun ls hl => ?_)
    refine lv_iload_n hx hb dX10_unstack_25 rfl (lv_at hl 0 rfl) ?_
    refine lv_aload_n hx hb dX10_unstack_26 rfl (lv_at hl 1 rfl) ?_
    refine r_get C hw qC_0 clsX10 2 rfl (by decide) fl_X10_23 dX10_unstack_27 (v := .ref (ad 7)) rfl ?_
    refine r_getN C hw qC_7 clsX6 7 rfl (by decide) fn_X10_118 dX10_unstack_30 (v := .int (σ2 7 7)) rfl ?_
    obtain ⟨v7, σ6, e5, h⟩ := cal_some h
    refine r_cSI C hw (sh := shC) (ad := ad) (As := [.int v4, .int (σ2 7 7)]) (rest := []) (kX10_within l D cI cZ ad _ _ _ _ e5) YX10_within ml_X10_87 (pw_rmOK (by omega) (by decide)) rfl hl.1 rfl (Nat.le_of_ble_eq_true rfl) dX10_unstack_33 ⟨Nat.zero_le _, Nat.zero_le _⟩ (fun H locs hw => ?_)
    refine lv_if_ne (tgt := 46) hx hb dX10_unstack_36 (by decide) (fun hc => ?_) (fun hc => ?_)
    · replace h := pw_f hc h
      refine lv_aload_n hx hb dX10_unstack_46 rfl (lv_at hl 1 rfl) ?_
      refine lv_iload_n hx hb dX10_unstack_47 rfl (lv_at hl 0 rfl) ?_
      refine lv_iload_n hx hb dX10_unstack_48 rfl (lv_at hl 2 rfl) ?_
      obtain ⟨r10, σ9, e8, h⟩ := cal_some h
      refine r_cVV C hw (As := [.int v4, .int x1]) (rest := []) (kX10_takeOut l D cI cZ ad _ _ _ _ e8) YX10_takeOut ml_X10_164 qC_0 clsX10 (pw_rmOK (by omega) (by decide)) rfl hl.1 rfl (Nat.le_of_ble_eq_true rfl) dX10_unstack_49 ⟨Nat.zero_le _, Nat.zero_le _⟩ (fun H locs hw => ?_)
      refine lv_iload_n hx hb dX10_unstack_52 rfl (lv_at hl 0 rfl) ?_
      exact r_iret C hw dX10_unstack_53 h
    · replace h := pw_t hc h
      refine lv_aload_n hx hb dX10_unstack_39 rfl (lv_at hl 1 rfl) ?_
      refine lv_bipush (v := (-3)) hx hb dX10_unstack_40 (by decide) ?_
      obtain ⟨v13, σ12, e11, h⟩ := cal_some h
      refine r_cVI C hw (As := [.int (-3)]) (rest := []) (kX10_refuse l D cI cZ ad _ _ _ e11) YX10_refuse ml_X10_91 qC_0 clsX10 (pw_rmOK (by omega) (by decide)) rfl hl.1 rfl (Nat.le_of_ble_eq_true rfl) dX10_unstack_42 ⟨Nat.zero_le _, Nat.zero_le _⟩ (fun H locs hw => ?_)
      exact r_iret C hw dX10_unstack_45 h
  · replace h := pw_t hc h
    refine lv_aload_n hx hb dX10_unstack_9 rfl (lv_at hl 0 rfl) ?_
    refine lv_iconst (v := (-1)) hx hb dX10_unstack_10 (by decide) ?_
    obtain ⟨v16, σ15, e14, h⟩ := cal_some h
    refine r_cVI C hw (As := [.int (-1)]) (rest := []) (kX10_refuse l D cI cZ ad _ _ _ e14) YX10_refuse ml_X10_91 qC_0 clsX10 (pw_rmOK (by omega) (by decide)) rfl hl.1 rfl (Nat.le_of_ble_eq_true rfl) dX10_unstack_11 ⟨Nat.zero_le _, Nat.zero_le _⟩ (fun H locs hw => ?_)
    exact r_iret C hw dX10_unstack_14 h
set_option maxRecDepth 100000 in
set_option maxHeartbeats 4000000 in
theorem wX1_burnHours_b2 {p : Program} {l : Launch} {e : Env} {s : State} {m : MethodId} {args : Array Value} {below : List Frame} {meth : Method} {c : Code} {D : va_G} {cI cZ : ClassId} {ad : Nat → Nat} {A : Nat → Prop} {z : Int32 × St}  (C : pw_C p s m args meth c yX1_burnHours.cls cX1_burnHours 2 none D cI cZ) : ∀ (n : Nat) (x1 : Int32) (σ : St) (H : Heap) (locs : List Loc) (ls : Array Slot), pw_H D (pw_w shC cI cZ ad σ) A s.heap H locs → lv_has ls 2 [(0, .ref (ad 15)), (1, .int x1)] → fX1_burnHours_b2  n x1 σ = some z → W p l e (pw_rm 0) s m args below meth c H locs 0 0 (pw_QV below args s D (pw_w shC cI cZ ad) A z) (F0 m 2 ls []) := by
  obtain ⟨hx, hb, hr, hts, hown, hlk, hml, hK, hN⟩ := id C
  intro n
  induction n with
  | zero =>
    intro x1 σ H locs ls hw hl h
    exact absurd h (by simp [fX1_burnHours_b2])
  | succ n ih =>
    intro x1 σ H locs ls hw hl h
    rw [fX1_burnHours_b2] at h
    refine lv_iload_n hx hb dX1_burnHours_2 rfl (lv_at hl 1 rfl) ?_
    refine lv_aload_n hx hb dX1_burnHours_3 rfl (lv_at hl 0 rfl) ?_
    refine r_get C hw qC_15 clsX1 6 rfl (by decide) fl_X1_30 dX1_burnHours_4 (v := .int (σ 15 6)) rfl ?_
    refine lv_icmp_ge (tgt := 31) hx hb dX1_burnHours_7 (by decide) (fun hc => ?_) (fun hc => ?_)
    · replace h := pw_t hc h
      refine lv_aload_n hx hb dX1_burnHours_31 rfl (lv_at hl 0 rfl) ?_
      refine lv_iconst (v := 0) hx hb dX1_burnHours_32 (by decide) ?_
      refine r_put C hw qC_15 clsX1 6 rfl (by decide) fl_X1_30 dX1_burnHours_33 rfl rfl rfl h (fun σ1 H locs hw h => ?_)
      exact r_vret C hw dX1_burnHours_36 h
    · replace h := pw_f hc h
      refine lv_aload_n hx hb dX1_burnHours_10 rfl (lv_at hl 0 rfl) ?_
      refine lv_dup hx hb dX1_burnHours_11 rfl ?_
      refine r_get C hw qC_15 clsX1 7 rfl (by decide) fl_X1_34 dX1_burnHours_12 (v := .int (σ 15 7)) rfl ?_
      refine lv_aload_n hx hb dX1_burnHours_15 rfl (lv_at hl 0 rfl) ?_
      refine r_get C hw qC_15 clsX1 5 rfl (by decide) fl_X1_27 dX1_burnHours_16 (v := .ref (ad 21)) rfl ?_
      refine lv_iload_n hx hb dX1_burnHours_19 rfl (lv_at hl 1 rfl) ?_
      refine r_iald C hw qC_21 dX1_burnHours_20 h (fun v2 h => ?_)
      refine lv_iadd hx hb dX1_burnHours_21 ?_
      refine r_put C hw qC_15 clsX1 7 rfl (by decide) fl_X1_34 dX1_burnHours_22 rfl rfl rfl h (fun σ3 H locs hw h => ?_)
      refine lv_iinc (v := (x1 + 1)) (lv' := [(1, .int (x1 + 1)), (0, .ref (ad 15))]) hx hb dX1_burnHours_25 hl (k := 1) rfl rfl (by decide) rfl (fun ls hl => ?_)
      refine lv_goto (tgt := 2) hx hb dX1_burnHours_28 (by decide) ?_
      exact ih _ _ _ _ _ hw (lv_sub hl [1, 0] rfl) h
set_option maxRecDepth 100000 in
set_option maxHeartbeats 4000000 in
theorem kX1_burnHours (l : Launch) (D : va_G) (cI cZ : ClassId) (ad : Nat → Nat)  (σ : St) (z : Int32 × St) (h : fX1_burnHours  σ = some z) : pw_MV l D shC cI cZ ad yX1_burnHours cX1_burnHours 2 none (pw_rm 0) [.ref (ad 15)] σ z.2 := by
  refine pw_ofV (by decide) (Nat.le_of_ble_eq_true rfl) ?_
  intro p e s m args below meth c A C hw ls hl
  obtain ⟨hx, hb, hr, hts, hown, hlk, hml, hK, hN⟩ := id C
  have hl : lv_has ls 2 [(0, .ref (ad 15))] := hl
  unfold fX1_burnHours at h
  refine lv_iconst (v := 0) hx hb dX1_burnHours_0 (by decide) ?_
  refine lv_istore_n (lv' := [(1, .int 0), (0, .ref (ad 15))]) hx hb dX1_burnHours_1 rfl hl (by decide) rfl (fun ls hl => ?_)
  exact wX1_burnHours_b2 C  _ _ _ _ _ _ hw (lv_sub hl [1, 0] rfl) h
