/-! the cells of the class (C) and of the reference (M), their words: laid by wip/whole/gen.py -/
def shC : List Shp := [.inr (10, [some 1, some 2, some 7, some 15, some 22, some 31, some 35, some 41, some 45, some 47, some 56, none]), .inl (6, false), .inr (0, [some 3, some 4, some 5, some 6, none]), .inl (24, false), .inl (20, false), .inl (20, false), .inl (20, false), .inr (6, [some 8, some 9, some 10, some 11, some 12, some 13, some 14, none]), .inl (80, false), .inl (80, false), .inl (80, false), .inl (80, false), .inl (80, false), .inl (80, false), .inl (80, false), .inr (1, [some 16, some 17, some 18, some 19, some 20, some 21, none, none]), .inl (24, false), .inl (12, false), .inl (12, false), .inl (12, false), .inl (12, false), .inl (48, false), .inr (8, [some 23, some 24, some 25, some 26, some 27, some 28, some 29, some 30, none]), .inl (8, false), .inl (8, false), .inl (8, false), .inl (8, false), .inl (8, false), .inl (8, false), .inl (12, false), .inl (12, false), .inr (5, [some 32, some 33, some 34]), .inl (12, false), .inl (12, false), .inl (12, false), .inr (9, [some 36, some 37, some 38, some 39, some 40, none, none, none]), .inl (3, false), .inl (8, false), .inl (8, false), .inl (8, false), .inl (3, false), .inr (3, [some 42, some 43, some 44, none, none, none]), .inl (80, false), .inl (80, false), .inl (12, false), .inr (4, [some 46]), .inl (201, false), .inr (7, [some 48, some 49, some 50, some 51, some 52, some 53, some 54, some 55, none, none, none]), .inl (32, false), .inl (32, false), .inl (32, false), .inl (60, false), .inl (60, false), .inl (60, false), .inl (2, false), .inl (2, false), .inr (2, [some 57, some 58, some 59, none]), .inl (6, false), .inl (6, false), .inl (6, false)]
theorem qC_0 : shC[0]? = some (.inr (10, [some 1, some 2, some 7, some 15, some 22, some 31, some 35, some 41, some 45, some 47, some 56, none])) := rfl
theorem qC_1 : shC[1]? = some (.inl (6, false)) := rfl
theorem qC_2 : shC[2]? = some (.inr (0, [some 3, some 4, some 5, some 6, none])) := rfl
theorem qC_3 : shC[3]? = some (.inl (24, false)) := rfl
theorem qC_4 : shC[4]? = some (.inl (20, false)) := rfl
theorem qC_5 : shC[5]? = some (.inl (20, false)) := rfl
theorem qC_6 : shC[6]? = some (.inl (20, false)) := rfl
theorem qC_7 : shC[7]? = some (.inr (6, [some 8, some 9, some 10, some 11, some 12, some 13, some 14, none])) := rfl
theorem qC_8 : shC[8]? = some (.inl (80, false)) := rfl
theorem qC_9 : shC[9]? = some (.inl (80, false)) := rfl
theorem qC_10 : shC[10]? = some (.inl (80, false)) := rfl
theorem qC_11 : shC[11]? = some (.inl (80, false)) := rfl
theorem qC_12 : shC[12]? = some (.inl (80, false)) := rfl
theorem qC_13 : shC[13]? = some (.inl (80, false)) := rfl
theorem qC_14 : shC[14]? = some (.inl (80, false)) := rfl
theorem qC_15 : shC[15]? = some (.inr (1, [some 16, some 17, some 18, some 19, some 20, some 21, none, none])) := rfl
theorem qC_16 : shC[16]? = some (.inl (24, false)) := rfl
theorem qC_17 : shC[17]? = some (.inl (12, false)) := rfl
theorem qC_18 : shC[18]? = some (.inl (12, false)) := rfl
theorem qC_19 : shC[19]? = some (.inl (12, false)) := rfl
theorem qC_20 : shC[20]? = some (.inl (12, false)) := rfl
theorem qC_21 : shC[21]? = some (.inl (48, false)) := rfl
theorem qC_22 : shC[22]? = some (.inr (8, [some 23, some 24, some 25, some 26, some 27, some 28, some 29, some 30, none])) := rfl
theorem qC_23 : shC[23]? = some (.inl (8, false)) := rfl
theorem qC_24 : shC[24]? = some (.inl (8, false)) := rfl
theorem qC_25 : shC[25]? = some (.inl (8, false)) := rfl
theorem qC_26 : shC[26]? = some (.inl (8, false)) := rfl
theorem qC_27 : shC[27]? = some (.inl (8, false)) := rfl
theorem qC_28 : shC[28]? = some (.inl (8, false)) := rfl
theorem qC_29 : shC[29]? = some (.inl (12, false)) := rfl
theorem qC_30 : shC[30]? = some (.inl (12, false)) := rfl
theorem qC_31 : shC[31]? = some (.inr (5, [some 32, some 33, some 34])) := rfl
theorem qC_32 : shC[32]? = some (.inl (12, false)) := rfl
theorem qC_33 : shC[33]? = some (.inl (12, false)) := rfl
theorem qC_34 : shC[34]? = some (.inl (12, false)) := rfl
theorem qC_35 : shC[35]? = some (.inr (9, [some 36, some 37, some 38, some 39, some 40, none, none, none])) := rfl
theorem qC_36 : shC[36]? = some (.inl (3, false)) := rfl
theorem qC_37 : shC[37]? = some (.inl (8, false)) := rfl
theorem qC_38 : shC[38]? = some (.inl (8, false)) := rfl
theorem qC_39 : shC[39]? = some (.inl (8, false)) := rfl
theorem qC_40 : shC[40]? = some (.inl (3, false)) := rfl
theorem qC_41 : shC[41]? = some (.inr (3, [some 42, some 43, some 44, none, none, none])) := rfl
theorem qC_42 : shC[42]? = some (.inl (80, false)) := rfl
theorem qC_43 : shC[43]? = some (.inl (80, false)) := rfl
theorem qC_44 : shC[44]? = some (.inl (12, false)) := rfl
theorem qC_45 : shC[45]? = some (.inr (4, [some 46])) := rfl
theorem qC_46 : shC[46]? = some (.inl (201, false)) := rfl
theorem qC_47 : shC[47]? = some (.inr (7, [some 48, some 49, some 50, some 51, some 52, some 53, some 54, some 55, none, none, none])) := rfl
theorem qC_48 : shC[48]? = some (.inl (32, false)) := rfl
theorem qC_49 : shC[49]? = some (.inl (32, false)) := rfl
theorem qC_50 : shC[50]? = some (.inl (32, false)) := rfl
theorem qC_51 : shC[51]? = some (.inl (60, false)) := rfl
theorem qC_52 : shC[52]? = some (.inl (60, false)) := rfl
theorem qC_53 : shC[53]? = some (.inl (60, false)) := rfl
theorem qC_54 : shC[54]? = some (.inl (2, false)) := rfl
theorem qC_55 : shC[55]? = some (.inl (2, false)) := rfl
theorem qC_56 : shC[56]? = some (.inr (2, [some 57, some 58, some 59, none])) := rfl
theorem qC_57 : shC[57]? = some (.inl (6, false)) := rfl
theorem qC_58 : shC[58]? = some (.inl (6, false)) := rfl
theorem qC_59 : shC[59]? = some (.inl (6, false)) := rfl
def shM : List Shp := [.inr (11, [some 1, some 2, some 3, some 4, some 5, some 6, some 7, some 8, some 9, some 10, some 11, some 12, some 13, some 14, some 15, some 16, none, none, none, none, none, none, none, none, none, none, some 17, some 18, some 19, some 20, some 21, some 22, some 23, some 24, some 25, some 26, some 27, some 28, some 29, some 30, some 31, some 32, some 33, some 34, some 35, some 36, some 37, some 38, some 39, some 40, some 41, some 42, some 43, some 44]), .inl (7, false), .inl (24, false), .inl (20, false), .inl (20, false), .inl (20, false), .inl (80, false), .inl (80, false), .inl (80, false), .inl (80, false), .inl (80, false), .inl (80, false), .inl (80, false), .inl (12, false), .inl (12, false), .inl (12, false), .inl (48, false), .inl (12, false), .inl (12, false), .inl (12, false), .inl (8, false), .inl (8, false), .inl (36864, false), .inl (8, false), .inl (12, false), .inl (12, false), .inl (12, false), .inl (3, false), .inl (8, false), .inl (8, false), .inl (3, false), .inl (80, true), .inl (80, true), .inl (202, false), .inl (32, false), .inl (32, false), .inl (32, false), .inl (60, false), .inl (60, false), .inl (60, false), .inl (16, false), .inl (16, false), .inl (6, false), .inl (6, false), .inl (6, false)]
theorem qM_0 : shM[0]? = some (.inr (11, [some 1, some 2, some 3, some 4, some 5, some 6, some 7, some 8, some 9, some 10, some 11, some 12, some 13, some 14, some 15, some 16, none, none, none, none, none, none, none, none, none, none, some 17, some 18, some 19, some 20, some 21, some 22, some 23, some 24, some 25, some 26, some 27, some 28, some 29, some 30, some 31, some 32, some 33, some 34, some 35, some 36, some 37, some 38, some 39, some 40, some 41, some 42, some 43, some 44])) := rfl
theorem qM_1 : shM[1]? = some (.inl (7, false)) := rfl
theorem qM_2 : shM[2]? = some (.inl (24, false)) := rfl
theorem qM_3 : shM[3]? = some (.inl (20, false)) := rfl
theorem qM_4 : shM[4]? = some (.inl (20, false)) := rfl
theorem qM_5 : shM[5]? = some (.inl (20, false)) := rfl
theorem qM_6 : shM[6]? = some (.inl (80, false)) := rfl
theorem qM_7 : shM[7]? = some (.inl (80, false)) := rfl
theorem qM_8 : shM[8]? = some (.inl (80, false)) := rfl
theorem qM_9 : shM[9]? = some (.inl (80, false)) := rfl
theorem qM_10 : shM[10]? = some (.inl (80, false)) := rfl
theorem qM_11 : shM[11]? = some (.inl (80, false)) := rfl
theorem qM_12 : shM[12]? = some (.inl (80, false)) := rfl
theorem qM_13 : shM[13]? = some (.inl (12, false)) := rfl
theorem qM_14 : shM[14]? = some (.inl (12, false)) := rfl
theorem qM_15 : shM[15]? = some (.inl (12, false)) := rfl
theorem qM_16 : shM[16]? = some (.inl (48, false)) := rfl
theorem qM_17 : shM[17]? = some (.inl (12, false)) := rfl
theorem qM_18 : shM[18]? = some (.inl (12, false)) := rfl
theorem qM_19 : shM[19]? = some (.inl (12, false)) := rfl
theorem qM_20 : shM[20]? = some (.inl (8, false)) := rfl
theorem qM_21 : shM[21]? = some (.inl (8, false)) := rfl
theorem qM_22 : shM[22]? = some (.inl (36864, false)) := rfl
theorem qM_23 : shM[23]? = some (.inl (8, false)) := rfl
theorem qM_24 : shM[24]? = some (.inl (12, false)) := rfl
theorem qM_25 : shM[25]? = some (.inl (12, false)) := rfl
theorem qM_26 : shM[26]? = some (.inl (12, false)) := rfl
theorem qM_27 : shM[27]? = some (.inl (3, false)) := rfl
theorem qM_28 : shM[28]? = some (.inl (8, false)) := rfl
theorem qM_29 : shM[29]? = some (.inl (8, false)) := rfl
theorem qM_30 : shM[30]? = some (.inl (3, false)) := rfl
theorem qM_31 : shM[31]? = some (.inl (80, true)) := rfl
theorem qM_32 : shM[32]? = some (.inl (80, true)) := rfl
theorem qM_33 : shM[33]? = some (.inl (202, false)) := rfl
theorem qM_34 : shM[34]? = some (.inl (32, false)) := rfl
theorem qM_35 : shM[35]? = some (.inl (32, false)) := rfl
theorem qM_36 : shM[36]? = some (.inl (32, false)) := rfl
theorem qM_37 : shM[37]? = some (.inl (60, false)) := rfl
theorem qM_38 : shM[38]? = some (.inl (60, false)) := rfl
theorem qM_39 : shM[39]? = some (.inl (60, false)) := rfl
theorem qM_40 : shM[40]? = some (.inl (16, false)) := rfl
theorem qM_41 : shM[41]? = some (.inl (16, false)) := rfl
theorem qM_42 : shM[42]? = some (.inl (6, false)) := rfl
theorem qM_43 : shM[43]? = some (.inl (6, false)) := rfl
theorem qM_44 : shM[44]? = some (.inl (6, false)) := rfl
theorem clsX0 : pw_cls 0 RX0 TX0 5 tyX0 := ⟨rfl, fun w hw => List.mem_filter.mpr ⟨(by decide +kernel : ∀ w ∈ u_ws RX0 TX0 5, w ∈ lw_tbl) w hw, (by decide +kernel : ∀ w ∈ u_ws RX0 TX0 5, goodWord w = true) w hw⟩, tyX0_ok, nmX0⟩
theorem clsX1 : pw_cls 1 RX1 TX1 8 tyX1 := ⟨rfl, fun w hw => List.mem_filter.mpr ⟨(by decide +kernel : ∀ w ∈ u_ws RX1 TX1 8, w ∈ lw_tbl) w hw, (by decide +kernel : ∀ w ∈ u_ws RX1 TX1 8, goodWord w = true) w hw⟩, tyX1_ok, nmX1⟩
theorem clsX2 : pw_cls 2 RX2 TX2 4 tyX2 := ⟨rfl, fun w hw => List.mem_filter.mpr ⟨(by decide +kernel : ∀ w ∈ u_ws RX2 TX2 4, w ∈ lw_tbl) w hw, (by decide +kernel : ∀ w ∈ u_ws RX2 TX2 4, goodWord w = true) w hw⟩, tyX2_ok, nmX2⟩
theorem clsX3 : pw_cls 3 RX3 TX3 6 tyX3 := ⟨rfl, fun w hw => List.mem_filter.mpr ⟨(by decide +kernel : ∀ w ∈ u_ws RX3 TX3 6, w ∈ lw_tbl) w hw, (by decide +kernel : ∀ w ∈ u_ws RX3 TX3 6, goodWord w = true) w hw⟩, tyX3_ok, nmX3⟩
theorem clsX4 : pw_cls 4 RX4 TX4 1 tyX4 := ⟨rfl, fun w hw => List.mem_filter.mpr ⟨(by decide +kernel : ∀ w ∈ u_ws RX4 TX4 1, w ∈ lw_tbl) w hw, (by decide +kernel : ∀ w ∈ u_ws RX4 TX4 1, goodWord w = true) w hw⟩, tyX4_ok, nmX4⟩
theorem clsX5 : pw_cls 5 RX5 TX5 3 tyX5 := ⟨rfl, fun w hw => List.mem_filter.mpr ⟨(by decide +kernel : ∀ w ∈ u_ws RX5 TX5 3, w ∈ lw_tbl) w hw, (by decide +kernel : ∀ w ∈ u_ws RX5 TX5 3, goodWord w = true) w hw⟩, tyX5_ok, nmX5⟩
theorem clsX6 : pw_cls 6 RX6 TX6 8 tyX6 := ⟨rfl, fun w hw => List.mem_filter.mpr ⟨(by decide +kernel : ∀ w ∈ u_ws RX6 TX6 8, w ∈ lw_tbl) w hw, (by decide +kernel : ∀ w ∈ u_ws RX6 TX6 8, goodWord w = true) w hw⟩, tyX6_ok, nmX6⟩
theorem clsX7 : pw_cls 7 RX7 TX7 11 tyX7 := ⟨rfl, fun w hw => List.mem_filter.mpr ⟨(by decide +kernel : ∀ w ∈ u_ws RX7 TX7 11, w ∈ lw_tbl) w hw, (by decide +kernel : ∀ w ∈ u_ws RX7 TX7 11, goodWord w = true) w hw⟩, tyX7_ok, nmX7⟩
theorem clsX8 : pw_cls 8 RX8 TX8 9 tyX8 := ⟨rfl, fun w hw => List.mem_filter.mpr ⟨(by decide +kernel : ∀ w ∈ u_ws RX8 TX8 9, w ∈ lw_tbl) w hw, (by decide +kernel : ∀ w ∈ u_ws RX8 TX8 9, goodWord w = true) w hw⟩, tyX8_ok, nmX8⟩
theorem clsX9 : pw_cls 9 RX9 TX9 8 tyX9 := ⟨rfl, fun w hw => List.mem_filter.mpr ⟨(by decide +kernel : ∀ w ∈ u_ws RX9 TX9 8, w ∈ lw_tbl) w hw, (by decide +kernel : ∀ w ∈ u_ws RX9 TX9 8, goodWord w = true) w hw⟩, tyX9_ok, nmX9⟩
theorem clsX10 : pw_cls 10 RX10 TX10 12 tyX10 := ⟨rfl, fun w hw => List.mem_filter.mpr ⟨(by decide +kernel : ∀ w ∈ u_ws RX10 TX10 12, w ∈ lw_tbl) w hw, (by decide +kernel : ∀ w ∈ u_ws RX10 TX10 12, goodWord w = true) w hw⟩, tyX10_ok, nmX10⟩
theorem clsX11 : pw_cls 11 RX11 TX11 54 tyX11 := ⟨rfl, fun w hw => List.mem_filter.mpr ⟨(by decide +kernel : ∀ w ∈ u_ws RX11 TX11 54, w ∈ lw_tbl) w hw, (by decide +kernel : ∀ w ∈ u_ws RX11 TX11 54, goodWord w = true) w hw⟩, tyX11_ok, nmX11⟩
theorem YX10_within : pw_YS yX10_within cX10_within 2 (some .boolean) 2 := ⟨in_gT (i := 365) (by decide +kernel) rfl, in_gT (i := 1) (by decide +kernel) rfl, by decide +kernel, in_gT (i := 364) (by decide +kernel) rfl⟩
theorem ml_X10_87 : Cond.methodLink RX10 87 yX10_within ∈ gT := in_gT (i := 363) (by decide +kernel) rfl
theorem fl_X10_9 : Cond.fieldLink RX10 9 "PorcelainWorks" "refusals" "[I" ∈ gT := in_gT (i := 322) (by decide +kernel) rfl
theorem fl_X0_9 : Cond.fieldLink RX0 9 "PorcelainWorks$Clay" "traits" "[I" ∈ gT := in_gT (i := 31) (by decide +kernel) rfl
theorem YX0_trait : pw_YV yX0_trait cX0_trait 3 (some .int) 2 := ⟨in_gT (i := 379) (by decide +kernel) rfl, in_gT (i := 2) (by decide +kernel) rfl, by decide +kernel, in_gT (i := 378) (by decide +kernel) rfl, in_gS (List.mem_of_getElem? (i := 2) (by decide +kernel)) rfl⟩
theorem ml_X0_31 : Cond.methodLink RX0 31 yX0_trait ∈ gT := in_gT (i := 376) (by decide +kernel) rfl
theorem fl_X10_95 : Cond.fieldLink RX10 95 "PorcelainWorks" "GREATEST_TRAITS" "[I" ∈ gT := in_gT (i := 370) (by decide +kernel) rfl
theorem fl_X10_16 : Cond.fieldLink RX10 16 "PorcelainWorks" "clay" "LPorcelainWorks$Clay;" ∈ gT := in_gT (i := 323) (by decide +kernel) rfl
theorem YX0_changeTrait : pw_YV yX0_changeTrait cX0_changeTrait 5 (some .int) 3 := ⟨in_gT (i := 375) (by decide +kernel) rfl, in_gT (i := 2) (by decide +kernel) rfl, by decide +kernel, in_gT (i := 374) (by decide +kernel) rfl, in_gS (List.mem_of_getElem? (i := 1) (by decide +kernel)) rfl⟩
theorem mn_X10_98 : Cond.methodLinkNest RX10 98 yX0_changeTrait "PorcelainWorks" ∈ pw_nw := in_nw (i := 372) (by decide +kernel) rfl
theorem YX10_refuse : pw_YV yX10_refuse cX10_refuse 3 (some .int) 1 := ⟨in_gT (i := 369) (by decide +kernel) rfl, in_gT (i := 1) (by decide +kernel) rfl, by decide +kernel, in_gT (i := 368) (by decide +kernel) rfl, in_gS (List.mem_of_getElem? (i := 0) (by decide +kernel)) rfl⟩
theorem ml_X10_91 : Cond.methodLink RX10 91 yX10_refuse ∈ gT := in_gT (i := 366) (by decide +kernel) rfl
theorem fl_X0_15 : Cond.fieldLink RX0 15 "PorcelainWorks$Clay" "batchPaste" "[I" ∈ gT := in_gT (i := 32) (by decide +kernel) rfl
theorem fl_X0_24 : Cond.fieldLink RX0 24 "PorcelainWorks$Clay" "batches" "I" ∈ gT := in_gT (i := 37) (by decide +kernel) rfl
theorem fl_X0_18 : Cond.fieldLink RX0 18 "PorcelainWorks$Clay" "batchPounds" "[I" ∈ gT := in_gT (i := 34) (by decide +kernel) rfl
theorem fl_X0_21 : Cond.fieldLink RX0 21 "PorcelainWorks$Clay" "batchDay" "[I" ∈ gT := in_gT (i := 36) (by decide +kernel) rfl
theorem fn_X10_102 : Cond.fieldLinkNest RX10 102 "PorcelainWorks$Clay" "batches" "I" "PorcelainWorks" ∈ pw_nw := in_nw (i := 38) (by decide +kernel) rfl
theorem fl_X10_83 : Cond.fieldLink RX10 83 "PorcelainWorks" "day" "I" ∈ gT := in_gT (i := 333) (by decide +kernel) rfl
theorem YX0_mix : pw_YV yX0_mix cX0_mix 4 (some .int) 3 := ⟨in_gT (i := 387) (by decide +kernel) rfl, in_gT (i := 2) (by decide +kernel) rfl, by decide +kernel, in_gT (i := 386) (by decide +kernel) rfl, in_gS (List.mem_of_getElem? (i := 3) (by decide +kernel)) rfl⟩
theorem mn_X10_105 : Cond.methodLinkNest RX10 105 yX0_mix "PorcelainWorks" ∈ pw_nw := in_nw (i := 384) (by decide +kernel) rfl
theorem ct_X2_29 : Cond.constantLong RX2 29 (2000000000) ∈ gT := in_gT (i := 404) (by decide +kernel) rfl
theorem fl_X2_15 : Cond.fieldLink RX2 15 "PorcelainWorks$Ledger" "rates" "[I" ∈ gT := in_gT (i := 309) (by decide +kernel) rfl
theorem ct_X2_31 : Cond.constantLong RX2 31 (1000) ∈ gT := in_gT (i := 405) (by decide +kernel) rfl
theorem lc_minl : Cond.code Lib.MathLoose.min_long.x Lib.MathLoose.min_long.code 4 (some .long) ∈ gT := in_gT (i := 408) (by decide +kernel) rfl
theorem ls_minl : Cond.static Lib.MathLoose.min_long.x ∈ gT := in_gT (i := 407) (by decide +kernel) rfl
theorem li_Math : Cond.initialized "java/lang/Math" ∈ gT := in_gT (i := 13) (by decide +kernel) rfl
theorem ml_X2_33 : Cond.methodLink RX2 33 Lib.MathLoose.min_long.x ∈ gT := in_gT (i := 406) (by decide +kernel) rfl
theorem fl_X2_18 : Cond.fieldLink RX2 18 "PorcelainWorks$Ledger" "madeOn" "[I" ∈ gT := in_gT (i := 310) (by decide +kernel) rfl
theorem fl_X2_9 : Cond.fieldLink RX2 9 "PorcelainWorks$Ledger" "sums" "[I" ∈ gT := in_gT (i := 307) (by decide +kernel) rfl
theorem fl_X2_21 : Cond.fieldLink RX2 21 "PorcelainWorks$Ledger" "debts" "I" ∈ gT := in_gT (i := 311) (by decide +kernel) rfl
theorem YX2_sumAfter : pw_YV yX2_sumAfter cX2_sumAfter 9 (some .int) 3 := ⟨in_gT (i := 403) (by decide +kernel) rfl, in_gT (i := 11) (by decide +kernel) rfl, by decide +kernel, in_gT (i := 402) (by decide +kernel) rfl, in_gS (List.mem_of_getElem? (i := 6) (by decide +kernel)) rfl⟩
theorem ml_X2_25 : Cond.methodLink RX2 25 yX2_sumAfter ∈ gT := in_gT (i := 400) (by decide +kernel) rfl
theorem fl_X10_79 : Cond.fieldLink RX10 79 "PorcelainWorks" "ledger" "LPorcelainWorks$Ledger;" ∈ gT := in_gT (i := 332) (by decide +kernel) rfl
theorem YX2_pass : pw_YV yX2_pass cX2_pass 4 none 2 := ⟨in_gT (i := 399) (by decide +kernel) rfl, in_gT (i := 11) (by decide +kernel) rfl, by decide +kernel, in_gT (i := 398) (by decide +kernel) rfl, in_gS (List.mem_of_getElem? (i := 5) (by decide +kernel)) rfl⟩
theorem mn_X10_320 : Cond.methodLinkNest RX10 320 yX2_pass "PorcelainWorks" ∈ pw_nw := in_nw (i := 396) (by decide +kernel) rfl
theorem YX10_pass : pw_YV yX10_pass cX10_pass 2 none 1 := ⟨in_gT (i := 395) (by decide +kernel) rfl, in_gT (i := 1) (by decide +kernel) rfl, by decide +kernel, in_gT (i := 394) (by decide +kernel) rfl, in_gS (List.mem_of_getElem? (i := 4) (by decide +kernel)) rfl⟩
theorem ml_X10_108 : Cond.methodLink RX10 108 yX10_pass ∈ gT := in_gT (i := 392) (by decide +kernel) rfl
theorem fl_X6_9 : Cond.fieldLink RX6 9 "PorcelainWorks$Pieces" "pastes" "[I" ∈ gT := in_gT (i := 57) (by decide +kernel) rfl
theorem fl_X6_33 : Cond.fieldLink RX6 33 "PorcelainWorks$Pieces" "number" "I" ∈ gT := in_gT (i := 73) (by decide +kernel) rfl
theorem fl_X6_15 : Cond.fieldLink RX6 15 "PorcelainWorks$Pieces" "kinds" "[I" ∈ gT := in_gT (i := 59) (by decide +kernel) rfl
theorem fl_X6_18 : Cond.fieldLink RX6 18 "PorcelainWorks$Pieces" "sizes" "[I" ∈ gT := in_gT (i := 62) (by decide +kernel) rfl
theorem fl_X6_21 : Cond.fieldLink RX6 21 "PorcelainWorks$Pieces" "states" "[I" ∈ gT := in_gT (i := 64) (by decide +kernel) rfl
theorem fl_X6_24 : Cond.fieldLink RX6 24 "PorcelainWorks$Pieces" "spots" "[I" ∈ gT := in_gT (i := 66) (by decide +kernel) rfl
theorem fl_X6_27 : Cond.fieldLink RX6 27 "PorcelainWorks$Pieces" "peaks" "[I" ∈ gT := in_gT (i := 68) (by decide +kernel) rfl
theorem fl_X6_30 : Cond.fieldLink RX6 30 "PorcelainWorks$Pieces" "whites" "[I" ∈ gT := in_gT (i := 70) (by decide +kernel) rfl
theorem YX0_isRipe : pw_YV yX0_isRipe cX0_isRipe 3 (some .boolean) 2 := ⟨in_gT (i := 416) (by decide +kernel) rfl, in_gT (i := 2) (by decide +kernel) rfl, by decide +kernel, in_gT (i := 415) (by decide +kernel) rfl, in_gS (List.mem_of_getElem? (i := 7) (by decide +kernel)) rfl⟩
theorem mn_X10_112 : Cond.methodLinkNest RX10 112 yX0_isRipe "PorcelainWorks" ∈ pw_nw := in_nw (i := 413) (by decide +kernel) rfl
theorem fn_X10_115 : Cond.fieldLinkNest RX10 115 "PorcelainWorks$Clay" "batchPounds" "[I" "PorcelainWorks" ∈ pw_nw := in_nw (i := 35) (by decide +kernel) rfl
theorem fl_X10_23 : Cond.fieldLink RX10 23 "PorcelainWorks" "pieces" "LPorcelainWorks$Pieces;" ∈ gT := in_gT (i := 324) (by decide +kernel) rfl
theorem fn_X10_118 : Cond.fieldLinkNest RX10 118 "PorcelainWorks$Pieces" "number" "I" "PorcelainWorks" ∈ pw_nw := in_nw (i := 75) (by decide +kernel) rfl
theorem fn_X10_121 : Cond.fieldLinkNest RX10 121 "PorcelainWorks$Clay" "batchPaste" "[I" "PorcelainWorks" ∈ pw_nw := in_nw (i := 33) (by decide +kernel) rfl
theorem YX6_shape : pw_YV yX6_shape cX6_shape 4 (some .int) 3 := ⟨in_gT (i := 420) (by decide +kernel) rfl, in_gT (i := 3) (by decide +kernel) rfl, by decide +kernel, in_gT (i := 419) (by decide +kernel) rfl, in_gS (List.mem_of_getElem? (i := 8) (by decide +kernel)) rfl⟩
theorem mn_X10_124 : Cond.methodLinkNest RX10 124 yX6_shape "PorcelainWorks" ∈ pw_nw := in_nw (i := 417) (by decide +kernel) rfl
theorem fl_X1_9 : Cond.fieldLink RX1 9 "PorcelainWorks$Kiln" "traits" "[I" ∈ gT := in_gT (i := 101) (by decide +kernel) rfl
theorem YX1_trait : pw_YV yX1_trait cX1_trait 3 (some .int) 2 := ⟨in_gT (i := 436) (by decide +kernel) rfl, in_gT (i := 4) (by decide +kernel) rfl, by decide +kernel, in_gT (i := 435) (by decide +kernel) rfl, in_gS (List.mem_of_getElem? (i := 10) (by decide +kernel)) rfl⟩
theorem ml_X1_40 : Cond.methodLink RX1 40 yX1_trait ∈ gT := in_gT (i := 433) (by decide +kernel) rfl
theorem fl_X10_127 : Cond.fieldLink RX10 127 "PorcelainWorks" "LEAST_PLACE_TRAITS" "[I" ∈ gT := in_gT (i := 425) (by decide +kernel) rfl
theorem fl_X10_130 : Cond.fieldLink RX10 130 "PorcelainWorks" "GREATEST_PLACE_TRAITS" "[I" ∈ gT := in_gT (i := 427) (by decide +kernel) rfl
theorem fl_X10_30 : Cond.fieldLink RX10 30 "PorcelainWorks" "kiln" "LPorcelainWorks$Kiln;" ∈ gT := in_gT (i := 325) (by decide +kernel) rfl
theorem YX1_changeTrait : pw_YV yX1_changeTrait cX1_changeTrait 5 (some .int) 3 := ⟨in_gT (i := 432) (by decide +kernel) rfl, in_gT (i := 4) (by decide +kernel) rfl, by decide +kernel, in_gT (i := 431) (by decide +kernel) rfl, in_gS (List.mem_of_getElem? (i := 9) (by decide +kernel)) rfl⟩
theorem mn_X10_133 : Cond.methodLinkNest RX10 133 yX1_changeTrait "PorcelainWorks" ∈ pw_nw := in_nw (i := 429) (by decide +kernel) rfl
theorem fl_X1_27 : Cond.fieldLink RX1 27 "PorcelainWorks$Kiln" "woods" "[I" ∈ gT := in_gT (i := 109) (by decide +kernel) rfl
theorem fl_X1_30 : Cond.fieldLink RX1 30 "PorcelainWorks$Kiln" "hours" "I" ∈ gT := in_gT (i := 110) (by decide +kernel) rfl
theorem fn_X10_134 : Cond.fieldLinkNest RX10 134 "PorcelainWorks$Kiln" "hours" "I" "PorcelainWorks" ∈ pw_nw := in_nw (i := 111) (by decide +kernel) rfl
theorem YX1_tellHour : pw_YV yX1_tellHour cX1_tellHour 2 (some .int) 1 := ⟨in_gT (i := 444) (by decide +kernel) rfl, in_gT (i := 4) (by decide +kernel) rfl, by decide +kernel, in_gT (i := 443) (by decide +kernel) rfl, in_gS (List.mem_of_getElem? (i := 11) (by decide +kernel)) rfl⟩
theorem mn_X10_137 : Cond.methodLinkNest RX10 137 yX1_tellHour "PorcelainWorks" ∈ pw_nw := in_nw (i := 441) (by decide +kernel) rfl
theorem YX1_forgetHours : pw_YV yX1_forgetHours cX1_forgetHours 2 (some .int) 0 := ⟨in_gT (i := 452) (by decide +kernel) rfl, in_gT (i := 4) (by decide +kernel) rfl, by decide +kernel, in_gT (i := 451) (by decide +kernel) rfl, in_gS (List.mem_of_getElem? (i := 12) (by decide +kernel)) rfl⟩
theorem mn_X10_140 : Cond.methodLinkNest RX10 140 yX1_forgetHours "PorcelainWorks" ∈ pw_nw := in_nw (i := 449) (by decide +kernel) rfl
theorem fl_X1_21 : Cond.fieldLink RX1 21 "PorcelainWorks$Kiln" "raised" "[I" ∈ gT := in_gT (i := 106) (by decide +kernel) rfl
theorem fl_X1_18 : Cond.fieldLink RX1 18 "PorcelainWorks$Kiln" "heats" "[I" ∈ gT := in_gT (i := 104) (by decide +kernel) rfl
theorem YX1_besideAbove : pw_YV yX1_besideAbove cX1_besideAbove 3 (some .int) 1 := ⟨in_gT (i := 468) (by decide +kernel) rfl, in_gT (i := 4) (by decide +kernel) rfl, by decide +kernel, in_gT (i := 467) (by decide +kernel) rfl, in_gS (List.mem_of_getElem? (i := 15) (by decide +kernel)) rfl⟩
theorem ml_X1_48 : Cond.methodLink RX1 48 yX1_besideAbove ∈ gT := in_gT (i := 465) (by decide +kernel) rfl
theorem fl_X1_24 : Cond.fieldLink RX1 24 "PorcelainWorks$Kiln" "peaks" "[I" ∈ gT := in_gT (i := 107) (by decide +kernel) rfl
theorem lc_max : Cond.code Lib.Math.max.name Lib.Math.max.code 2 (some .int) ∈ gT := in_gT (i := 471) (by decide +kernel) rfl
theorem ls_max : Cond.static Lib.Math.max.name ∈ gT := in_gT (i := 470) (by decide +kernel) rfl
theorem ml_X1_52 : Cond.methodLink RX1 52 Lib.Math.max.name ∈ gT := in_gT (i := 469) (by decide +kernel) rfl
theorem YX1_heatHour : pw_YV yX1_heatHour cX1_heatHour 3 none 1 := ⟨in_gT (i := 464) (by decide +kernel) rfl, in_gT (i := 4) (by decide +kernel) rfl, by decide +kernel, in_gT (i := 463) (by decide +kernel) rfl, in_gS (List.mem_of_getElem? (i := 14) (by decide +kernel)) rfl⟩
theorem ml_X1_44 : Cond.methodLink RX1 44 yX1_heatHour ∈ gT := in_gT (i := 461) (by decide +kernel) rfl
theorem YX1_heatUp : pw_YV yX1_heatUp cX1_heatUp 3 none 1 := ⟨in_gT (i := 460) (by decide +kernel) rfl, in_gT (i := 4) (by decide +kernel) rfl, by decide +kernel, in_gT (i := 459) (by decide +kernel) rfl, in_gS (List.mem_of_getElem? (i := 13) (by decide +kernel)) rfl⟩
theorem mn_X10_144 : Cond.methodLinkNest RX10 144 yX1_heatUp "PorcelainWorks" ∈ pw_nw := in_nw (i := 457) (by decide +kernel) rfl
theorem fn_X10_147 : Cond.fieldLinkNest RX10 147 "PorcelainWorks$Kiln" "peaks" "[I" "PorcelainWorks" ∈ pw_nw := in_nw (i := 108) (by decide +kernel) rfl
theorem fn_X10_150 : Cond.fieldLinkNest RX10 150 "PorcelainWorks$Kiln" "heats" "[I" "PorcelainWorks" ∈ pw_nw := in_nw (i := 105) (by decide +kernel) rfl
theorem fl_X8_36 : Cond.fieldLink RX8 36 "PorcelainWorks$Stacking" "wanted" "I" ∈ gT := in_gT (i := 148) (by decide +kernel) rfl
theorem fl_X8_9 : Cond.fieldLink RX8 9 "PorcelainWorks$Stacking" "told" "[I" ∈ gT := in_gT (i := 137) (by decide +kernel) rfl
theorem fn_X10_232 : Cond.fieldLinkNest RX10 232 "PorcelainWorks$Pieces" "states" "[I" "PorcelainWorks" ∈ pw_nw := in_nw (i := 65) (by decide +kernel) rfl
theorem fn_X10_309 : Cond.fieldLinkNest RX10 309 "PorcelainWorks$Pieces" "spots" "[I" "PorcelainWorks" ∈ pw_nw := in_nw (i := 67) (by decide +kernel) rfl
theorem fl_X10_37 : Cond.fieldLink RX10 37 "PorcelainWorks" "stacking" "LPorcelainWorks$Stacking;" ∈ gT := in_gT (i := 326) (by decide +kernel) rfl
theorem YX8_isTold : pw_YV yX8_isTold cX8_isTold 3 (some .boolean) 1 := ⟨in_gT (i := 487) (by decide +kernel) rfl, in_gT (i := 5) (by decide +kernel) rfl, by decide +kernel, in_gT (i := 486) (by decide +kernel) rfl, in_gS (List.mem_of_getElem? (i := 17) (by decide +kernel)) rfl⟩
theorem mn_X10_322 : Cond.methodLinkNest RX10 322 yX8_isTold "PorcelainWorks" ∈ pw_nw := in_nw (i := 484) (by decide +kernel) rfl
theorem fn_X10_157 : Cond.fieldLinkNest RX10 157 "PorcelainWorks$Kiln" "holds" "[I" "PorcelainWorks" ∈ pw_nw := in_nw (i := 103) (by decide +kernel) rfl
theorem YX10_isLoose : pw_YV yX10_isLoose cX10_isLoose 2 (some .boolean) 1 := ⟨in_gT (i := 483) (by decide +kernel) rfl, in_gT (i := 1) (by decide +kernel) rfl, by decide +kernel, in_gT (i := 482) (by decide +kernel) rfl, in_gS (List.mem_of_getElem? (i := 16) (by decide +kernel)) rfl⟩
theorem ml_X10_153 : Cond.methodLink RX10 153 yX10_isLoose ∈ gT := in_gT (i := 480) (by decide +kernel) rfl
theorem YX10_putIn : pw_YV yX10_putIn cX10_putIn 3 none 2 := ⟨in_gT (i := 491) (by decide +kernel) rfl, in_gT (i := 1) (by decide +kernel) rfl, by decide +kernel, in_gT (i := 490) (by decide +kernel) rfl, in_gS (List.mem_of_getElem? (i := 18) (by decide +kernel)) rfl⟩
theorem ml_X10_160 : Cond.methodLink RX10 160 yX10_putIn ∈ gT := in_gT (i := 488) (by decide +kernel) rfl
theorem YX10_takeOut : pw_YV yX10_takeOut cX10_takeOut 3 none 2 := ⟨in_gT (i := 499) (by decide +kernel) rfl, in_gT (i := 1) (by decide +kernel) rfl, by decide +kernel, in_gT (i := 498) (by decide +kernel) rfl, in_gS (List.mem_of_getElem? (i := 19) (by decide +kernel)) rfl⟩
theorem ml_X10_164 : Cond.methodLink RX10 164 yX10_takeOut ∈ gT := in_gT (i := 496) (by decide +kernel) rfl
theorem fl_X1_34 : Cond.fieldLink RX1 34 "PorcelainWorks$Kiln" "burned" "I" ∈ gT := in_gT (i := 112) (by decide +kernel) rfl
theorem lc_abs : Cond.code Lib.Math.abs.name Lib.Math.abs.code 1 (some .int) ∈ gT := in_gT (i := 522) (by decide +kernel) rfl
theorem ls_abs : Cond.static Lib.Math.abs.name ∈ gT := in_gT (i := 521) (by decide +kernel) rfl
theorem ml_X0_35 : Cond.methodLink RX0 35 Lib.Math.abs.name ∈ gT := in_gT (i := 520) (by decide +kernel) rfl
theorem ml_X0_41 : Cond.methodLink RX0 41 Lib.Math.max.name ∈ gT := in_gT (i := 523) (by decide +kernel) rfl
theorem YX0_bears : pw_YV yX0_bears cX0_bears 3 (some .boolean) 2 := ⟨in_gT (i := 511) (by decide +kernel) rfl, in_gT (i := 2) (by decide +kernel) rfl, by decide +kernel, in_gT (i := 510) (by decide +kernel) rfl, in_gS (List.mem_of_getElem? (i := 21) (by decide +kernel)) rfl⟩
theorem mn_X6_37 : Cond.methodLinkNest RX6 37 yX0_bears "PorcelainWorks" ∈ pw_nw := in_nw (i := 508) (by decide +kernel) rfl
theorem YX0_shrunk : pw_YV yX0_shrunk cX0_shrunk 3 (some .int) 2 := ⟨in_gT (i := 515) (by decide +kernel) rfl, in_gT (i := 2) (by decide +kernel) rfl, by decide +kernel, in_gT (i := 514) (by decide +kernel) rfl, in_gS (List.mem_of_getElem? (i := 22) (by decide +kernel)) rfl⟩
theorem mn_X6_43 : Cond.methodLinkNest RX6 43 yX0_shrunk "PorcelainWorks" ∈ pw_nw := in_nw (i := 512) (by decide +kernel) rfl
theorem YX0_whiteAt : pw_YV yX0_whiteAt cX0_whiteAt 4 (some .int) 2 := ⟨in_gT (i := 519) (by decide +kernel) rfl, in_gT (i := 2) (by decide +kernel) rfl, by decide +kernel, in_gT (i := 518) (by decide +kernel) rfl, in_gS (List.mem_of_getElem? (i := 23) (by decide +kernel)) rfl⟩
theorem mn_X6_47 : Cond.methodLinkNest RX6 47 yX0_whiteAt "PorcelainWorks" ∈ pw_nw := in_nw (i := 516) (by decide +kernel) rfl
theorem YX1_burnHours : pw_YV yX1_burnHours cX1_burnHours 2 none 0 := ⟨in_gT (i := 527) (by decide +kernel) rfl, in_gT (i := 4) (by decide +kernel) rfl, by decide +kernel, in_gT (i := 526) (by decide +kernel) rfl, in_gS (List.mem_of_getElem? (i := 24) (by decide +kernel)) rfl⟩
theorem mn_X10_171 : Cond.methodLinkNest RX10 171 yX1_burnHours "PorcelainWorks" ∈ pw_nw := in_nw (i := 524) (by decide +kernel) rfl
theorem YX6_endure : pw_YV yX6_endure cX6_endure 4 (some .boolean) 3 := ⟨in_gT (i := 507) (by decide +kernel) rfl, in_gT (i := 3) (by decide +kernel) rfl, by decide +kernel, in_gT (i := 506) (by decide +kernel) rfl, in_gS (List.mem_of_getElem? (i := 20) (by decide +kernel)) rfl⟩
theorem mn_X10_167 : Cond.methodLinkNest RX10 167 yX6_endure "PorcelainWorks" ∈ pw_nw := in_nw (i := 504) (by decide +kernel) rfl
theorem fl_X8_24 : Cond.fieldLink RX8 24 "PorcelainWorks$Stacking" "order" "[I" ∈ gT := in_gT (i := 144) (by decide +kernel) rfl
theorem fl_X8_15 : Cond.fieldLink RX8 15 "PorcelainWorks$Stacking" "worths" "[I" ∈ gT := in_gT (i := 139) (by decide +kernel) rfl
theorem fn_X10_174 : Cond.fieldLinkNest RX10 174 "PorcelainWorks$Stacking" "wanted" "I" "PorcelainWorks" ∈ pw_nw := in_nw (i := 149) (by decide +kernel) rfl
theorem YX8_tell : pw_YV yX8_tell cX8_tell 4 (some .int) 2 := ⟨in_gT (i := 535) (by decide +kernel) rfl, in_gT (i := 5) (by decide +kernel) rfl, by decide +kernel, in_gT (i := 534) (by decide +kernel) rfl, in_gS (List.mem_of_getElem? (i := 25) (by decide +kernel)) rfl⟩
theorem mn_X10_177 : Cond.methodLinkNest RX10 177 yX8_tell "PorcelainWorks" ∈ pw_nw := in_nw (i := 532) (by decide +kernel) rfl
theorem mn_X10_331 : Cond.methodLinkNest RX10 331 yX0_bears "PorcelainWorks" ∈ pw_nw := in_nw (i := 548) (by decide +kernel) rfl
theorem fn_X10_325 : Cond.fieldLinkNest RX10 325 "PorcelainWorks$Stacking" "fits" "[I" "PorcelainWorks" ∈ pw_nw := in_nw (i := 141) (by decide +kernel) rfl
theorem fn_X10_306 : Cond.fieldLinkNest RX10 306 "PorcelainWorks$Pieces" "pastes" "[I" "PorcelainWorks" ∈ pw_nw := in_nw (i := 58) (by decide +kernel) rfl
theorem fn_X10_193 : Cond.fieldLinkNest RX10 193 "PorcelainWorks$Stacking" "told" "[I" "PorcelainWorks" ∈ pw_nw := in_nw (i := 138) (by decide +kernel) rfl
theorem YX10_placesThatFire : pw_YV yX10_placesThatFire cX10_placesThatFire 4 (some .int) 1 := ⟨in_gT (i := 547) (by decide +kernel) rfl, in_gT (i := 1) (by decide +kernel) rfl, by decide +kernel, in_gT (i := 546) (by decide +kernel) rfl, in_gS (List.mem_of_getElem? (i := 27) (by decide +kernel)) rfl⟩
theorem ml_X10_328 : Cond.methodLink RX10 328 yX10_placesThatFire ∈ gT := in_gT (i := 544) (by decide +kernel) rfl
theorem fl_X8_33 : Cond.fieldLink RX8 33 "PorcelainWorks$Stacking" "movers" "[I" ∈ gT := in_gT (i := 147) (by decide +kernel) rfl
theorem fl_X8_27 : Cond.fieldLink RX8 27 "PorcelainWorks$Stacking" "seats" "[I" ∈ gT := in_gT (i := 145) (by decide +kernel) rfl
theorem fl_X8_30 : Cond.fieldLink RX8 30 "PorcelainWorks$Stacking" "sitters" "[I" ∈ gT := in_gT (i := 146) (by decide +kernel) rfl
theorem ct_J6_264 : Cond.constant RJ6 264 (65536) ∈ gT := in_gT (i := 568) (by decide +kernel) rfl
theorem YJ6_numberOfTrailingZeros_0f7a4 : pw_YS yJ6_numberOfTrailingZeros_0f7a4 cJ6_numberOfTrailingZeros_0f7a4 2 (some .int) 1 := ⟨in_gT (i := 567) (by decide +kernel) rfl, in_gT (i := 14) (by decide +kernel) rfl, by decide +kernel, in_gT (i := 566) (by decide +kernel) rfl⟩
theorem ml_X8_60 : Cond.methodLink RX8 60 yJ6_numberOfTrailingZeros_0f7a4 ∈ gT := in_gT (i := 565) (by decide +kernel) rfl
theorem fl_X8_18 : Cond.fieldLink RX8 18 "PorcelainWorks$Stacking" "fits" "[I" ∈ gT := in_gT (i := 140) (by decide +kernel) rfl
theorem YX8_noteMover : pw_YV yX8_noteMover cX8_noteMover 4 none 2 := ⟨in_gT (i := 564) (by decide +kernel) rfl, in_gT (i := 5) (by decide +kernel) rfl, by decide +kernel, in_gT (i := 563) (by decide +kernel) rfl, in_gS (List.mem_of_getElem? (i := 31) (by decide +kernel)) rfl⟩
theorem ml_X8_56 : Cond.methodLink RX8 56 yX8_noteMover ∈ gT := in_gT (i := 561) (by decide +kernel) rfl
theorem YX8_moveAlong : pw_YV yX8_moveAlong cX8_moveAlong 6 none 1 := ⟨in_gT (i := 572) (by decide +kernel) rfl, in_gT (i := 5) (by decide +kernel) rfl, by decide +kernel, in_gT (i := 571) (by decide +kernel) rfl, in_gS (List.mem_of_getElem? (i := 32) (by decide +kernel)) rfl⟩
theorem ml_X8_66 : Cond.methodLink RX8 66 yX8_moveAlong ∈ gT := in_gT (i := 569) (by decide +kernel) rfl
theorem YX8_findSeat : pw_YV yX8_findSeat cX8_findSeat 9 (some .boolean) 2 := ⟨in_gT (i := 560) (by decide +kernel) rfl, in_gT (i := 5) (by decide +kernel) rfl, by decide +kernel, in_gT (i := 559) (by decide +kernel) rfl, in_gS (List.mem_of_getElem? (i := 30) (by decide +kernel)) rfl⟩
theorem ml_X8_52 : Cond.methodLink RX8 52 yX8_findSeat ∈ gT := in_gT (i := 557) (by decide +kernel) rfl
theorem YX8_worthFrom : pw_YV yX8_worthFrom cX8_worthFrom 6 (some .int) 2 := ⟨in_gT (i := 556) (by decide +kernel) rfl, in_gT (i := 5) (by decide +kernel) rfl, by decide +kernel, in_gT (i := 555) (by decide +kernel) rfl, in_gS (List.mem_of_getElem? (i := 29) (by decide +kernel)) rfl⟩
theorem ml_X8_40 : Cond.methodLink RX8 40 yX8_worthFrom ∈ gT := in_gT (i := 553) (by decide +kernel) rfl
theorem YX10_learnFits : pw_YV yX10_learnFits cX10_learnFits 2 none 0 := ⟨in_gT (i := 543) (by decide +kernel) rfl, in_gT (i := 1) (by decide +kernel) rfl, by decide +kernel, in_gT (i := 542) (by decide +kernel) rfl, in_gS (List.mem_of_getElem? (i := 26) (by decide +kernel)) rfl⟩
theorem ml_X10_181 : Cond.methodLink RX10 181 yX10_learnFits ∈ gT := in_gT (i := 540) (by decide +kernel) rfl
theorem YX8_greatestWorth : pw_YV yX8_greatestWorth cX8_greatestWorth 1 (some .int) 0 := ⟨in_gT (i := 552) (by decide +kernel) rfl, in_gT (i := 5) (by decide +kernel) rfl, by decide +kernel, in_gT (i := 551) (by decide +kernel) rfl, in_gS (List.mem_of_getElem? (i := 28) (by decide +kernel)) rfl⟩
theorem mn_X10_184 : Cond.methodLinkNest RX10 184 yX8_greatestWorth "PorcelainWorks" ∈ pw_nw := in_nw (i := 549) (by decide +kernel) rfl
theorem YX8_leastSpot : pw_YV yX8_leastSpot cX8_leastSpot 6 (some .int) 3 := ⟨in_gT (i := 585) (by decide +kernel) rfl, in_gT (i := 5) (by decide +kernel) rfl, by decide +kernel, in_gT (i := 584) (by decide +kernel) rfl, in_gS (List.mem_of_getElem? (i := 34) (by decide +kernel)) rfl⟩
theorem ml_X8_48 : Cond.methodLink RX8 48 yX8_leastSpot ∈ gT := in_gT (i := 582) (by decide +kernel) rfl
theorem fl_X8_21 : Cond.fieldLink RX8 21 "PorcelainWorks$Stacking" "spots" "[I" ∈ gT := in_gT (i := 142) (by decide +kernel) rfl
theorem ml_X8_44 : Cond.methodLink RX8 44 yX8_greatestWorth ∈ gT := in_gT (i := 581) (by decide +kernel) rfl
theorem YX8_choose : pw_YV yX8_choose cX8_choose 5 none 0 := ⟨in_gT (i := 580) (by decide +kernel) rfl, in_gT (i := 5) (by decide +kernel) rfl, by decide +kernel, in_gT (i := 579) (by decide +kernel) rfl, in_gS (List.mem_of_getElem? (i := 33) (by decide +kernel)) rfl⟩
theorem mn_X10_187 : Cond.methodLinkNest RX10 187 yX8_choose "PorcelainWorks" ∈ pw_nw := in_nw (i := 577) (by decide +kernel) rfl
theorem fn_X10_190 : Cond.fieldLinkNest RX10 190 "PorcelainWorks$Stacking" "spots" "[I" "PorcelainWorks" ∈ pw_nw := in_nw (i := 143) (by decide +kernel) rfl
theorem YX8_forget : pw_YV yX8_forget cX8_forget 1 none 0 := ⟨in_gT (i := 593) (by decide +kernel) rfl, in_gT (i := 5) (by decide +kernel) rfl, by decide +kernel, in_gT (i := 592) (by decide +kernel) rfl, in_gS (List.mem_of_getElem? (i := 35) (by decide +kernel)) rfl⟩
theorem mn_X10_196 : Cond.methodLinkNest RX10 196 yX8_forget "PorcelainWorks" ∈ pw_nw := in_nw (i := 590) (by decide +kernel) rfl
theorem fl_X10_44 : Cond.fieldLink RX10 44 "PorcelainWorks" "palette" "LPorcelainWorks$Palette;" ∈ gT := in_gT (i := 327) (by decide +kernel) rfl
theorem fn_X10_199 : Cond.fieldLinkNest RX10 199 "PorcelainWorks$Palette" "froms" "[I" "PorcelainWorks" ∈ pw_nw := in_nw (i := 176) (by decide +kernel) rfl
theorem fn_X10_202 : Cond.fieldLinkNest RX10 202 "PorcelainWorks$Palette" "tos" "[I" "PorcelainWorks" ∈ pw_nw := in_nw (i := 178) (by decide +kernel) rfl
theorem fl_X5_9 : Cond.fieldLink RX5 9 "PorcelainWorks$Palette" "froms" "[I" ∈ gT := in_gT (i := 175) (by decide +kernel) rfl
theorem ml_X5_29 : Cond.methodLink RX5 29 Lib.Math.max.name ∈ gT := in_gT (i := 613) (by decide +kernel) rfl
theorem fl_X5_15 : Cond.fieldLink RX5 15 "PorcelainWorks$Palette" "tos" "[I" ∈ gT := in_gT (i := 177) (by decide +kernel) rfl
theorem YX5_greatestFrom : pw_YV yX5_greatestFrom cX5_greatestFrom 4 (some .int) 1 := ⟨in_gT (i := 612) (by decide +kernel) rfl, in_gT (i := 6) (by decide +kernel) rfl, by decide +kernel, in_gT (i := 611) (by decide +kernel) rfl, in_gS (List.mem_of_getElem? (i := 37) (by decide +kernel)) rfl⟩
theorem ml_X5_21 : Cond.methodLink RX5 21 yX5_greatestFrom ∈ gT := in_gT (i := 609) (by decide +kernel) rfl
theorem fl_X5_18 : Cond.fieldLink RX5 18 "PorcelainWorks$Palette" "planned" "[I" ∈ gT := in_gT (i := 179) (by decide +kernel) rfl
theorem YX5_stillUnfixed : pw_YV yX5_stillUnfixed cX5_stillUnfixed 5 (some .int) 2 := ⟨in_gT (i := 617) (by decide +kernel) rfl, in_gT (i := 6) (by decide +kernel) rfl, by decide +kernel, in_gT (i := 616) (by decide +kernel) rfl, in_gS (List.mem_of_getElem? (i := 38) (by decide +kernel)) rfl⟩
theorem ml_X5_25 : Cond.methodLink RX5 25 yX5_stillUnfixed ∈ gT := in_gT (i := 614) (by decide +kernel) rfl
theorem YX10_isColourSet : pw_YS yX10_isColourSet cX10_isColourSet 1 (some .boolean) 1 := ⟨in_gT (i := 604) (by decide +kernel) rfl, in_gT (i := 1) (by decide +kernel) rfl, by decide +kernel, in_gT (i := 603) (by decide +kernel) rfl⟩
theorem ml_X10_205 : Cond.methodLink RX10 205 yX10_isColourSet ∈ gT := in_gT (i := 602) (by decide +kernel) rfl
theorem YX5_plan : pw_YV yX5_plan cX5_plan 6 (some .int) 1 := ⟨in_gT (i := 608) (by decide +kernel) rfl, in_gT (i := 6) (by decide +kernel) rfl, by decide +kernel, in_gT (i := 607) (by decide +kernel) rfl, in_gS (List.mem_of_getElem? (i := 36) (by decide +kernel)) rfl⟩
theorem mn_X10_208 : Cond.methodLinkNest RX10 208 yX5_plan "PorcelainWorks" ∈ pw_nw := in_nw (i := 605) (by decide +kernel) rfl
theorem fn_X10_211 : Cond.fieldLinkNest RX10 211 "PorcelainWorks$Palette" "planned" "[I" "PorcelainWorks" ∈ pw_nw := in_nw (i := 180) (by decide +kernel) rfl
theorem fl_X9_9 : Cond.fieldLink RX9 9 "PorcelainWorks$Workshop" "skills" "[I" ∈ gT := in_gT (i := 194) (by decide +kernel) rfl
theorem fl_X9_34 : Cond.fieldLink RX9 34 "PorcelainWorks$Workshop" "shared" "Z" ∈ gT := in_gT (i := 204) (by decide +kernel) rfl
theorem fl_X10_51 : Cond.fieldLink RX10 51 "PorcelainWorks" "workshop" "LPorcelainWorks$Workshop;" ∈ gT := in_gT (i := 328) (by decide +kernel) rfl
theorem YX9_changeSkill : pw_YV yX9_changeSkill cX9_changeSkill 4 (some .int) 2 := ⟨in_gT (i := 629) (by decide +kernel) rfl, in_gT (i := 7) (by decide +kernel) rfl, by decide +kernel, in_gT (i := 628) (by decide +kernel) rfl, in_gS (List.mem_of_getElem? (i := 39) (by decide +kernel)) rfl⟩
theorem mn_X10_214 : Cond.methodLinkNest RX10 214 yX9_changeSkill "PorcelainWorks" ∈ pw_nw := in_nw (i := 626) (by decide +kernel) rfl
theorem fl_X9_15 : Cond.fieldLink RX9 15 "PorcelainWorks$Workshop" "loads" "[I" ∈ gT := in_gT (i := 195) (by decide +kernel) rfl
theorem fl_X9_27 : Cond.fieldLink RX9 27 "PorcelainWorks$Workshop" "jobs" "I" ∈ gT := in_gT (i := 200) (by decide +kernel) rfl
theorem fn_X10_217 : Cond.fieldLinkNest RX10 217 "PorcelainWorks$Workshop" "jobs" "I" "PorcelainWorks" ∈ pw_nw := in_nw (i := 201) (by decide +kernel) rfl
theorem YX9_addJob : pw_YV yX9_addJob cX9_addJob 2 (some .int) 1 := ⟨in_gT (i := 637) (by decide +kernel) rfl, in_gT (i := 7) (by decide +kernel) rfl, by decide +kernel, in_gT (i := 636) (by decide +kernel) rfl, in_gS (List.mem_of_getElem? (i := 40) (by decide +kernel)) rfl⟩
theorem mn_X10_220 : Cond.methodLinkNest RX10 220 yX9_addJob "PorcelainWorks" ∈ pw_nw := in_nw (i := 634) (by decide +kernel) rfl
theorem ml_X9_50 : Cond.methodLink RX9 50 Lib.Math.max.name ∈ gT := in_gT (i := 657) (by decide +kernel) rfl
theorem fl_X9_21 : Cond.fieldLink RX9 21 "PorcelainWorks$Workshop" "chosen" "[I" ∈ gT := in_gT (i := 197) (by decide +kernel) rfl
theorem fl_X9_18 : Cond.fieldLink RX9 18 "PorcelainWorks$Workshop" "trial" "[I" ∈ gT := in_gT (i := 196) (by decide +kernel) rfl
theorem fl_X9_31 : Cond.fieldLink RX9 31 "PorcelainWorks$Workshop" "shortest" "I" ∈ gT := in_gT (i := 202) (by decide +kernel) rfl
theorem YX9_daysFor : pw_YV yX9_daysFor cX9_daysFor 4 (some .int) 2 := ⟨in_gT (i := 656) (by decide +kernel) rfl, in_gT (i := 7) (by decide +kernel) rfl, by decide +kernel, in_gT (i := 655) (by decide +kernel) rfl, in_gS (List.mem_of_getElem? (i := 43) (by decide +kernel)) rfl⟩
theorem ml_X9_46 : Cond.methodLink RX9 46 yX9_daysFor ∈ gT := in_gT (i := 653) (by decide +kernel) rfl
theorem fl_X9_24 : Cond.fieldLink RX9 24 "PorcelainWorks$Workshop" "busy" "[I" ∈ gT := in_gT (i := 199) (by decide +kernel) rfl
theorem YX9_shareFrom : pw_YS yX9_shareFrom cX9_shareFrom 5 none 3 := ⟨in_gT (i := 648) (by decide +kernel) rfl, in_gT (i := 7) (by decide +kernel) rfl, by decide +kernel, in_gT (i := 647) (by decide +kernel) rfl⟩
theorem ml_X9_38 : Cond.methodLink RX9 38 yX9_shareFrom ∈ gT := in_gT (i := 646) (by decide +kernel) rfl
theorem YX9_keepTrial : pw_YV yX9_keepTrial cX9_keepTrial 3 none 1 := ⟨in_gT (i := 652) (by decide +kernel) rfl, in_gT (i := 7) (by decide +kernel) rfl, by decide +kernel, in_gT (i := 651) (by decide +kernel) rfl, in_gS (List.mem_of_getElem? (i := 42) (by decide +kernel)) rfl⟩
theorem ml_X9_42 : Cond.methodLink RX9 42 yX9_keepTrial ∈ gT := in_gT (i := 649) (by decide +kernel) rfl
theorem YX9_share : pw_YV yX9_share cX9_share 2 none 0 := ⟨in_gT (i := 645) (by decide +kernel) rfl, in_gT (i := 7) (by decide +kernel) rfl, by decide +kernel, in_gT (i := 644) (by decide +kernel) rfl, in_gS (List.mem_of_getElem? (i := 41) (by decide +kernel)) rfl⟩
theorem mn_X10_223 : Cond.methodLinkNest RX10 223 yX9_share "PorcelainWorks" ∈ pw_nw := in_nw (i := 642) (by decide +kernel) rfl
theorem fn_X10_226 : Cond.fieldLinkNest RX10 226 "PorcelainWorks$Workshop" "shortest" "I" "PorcelainWorks" ∈ pw_nw := in_nw (i := 203) (by decide +kernel) rfl
theorem fn_X10_229 : Cond.fieldLinkNest RX10 229 "PorcelainWorks$Workshop" "chosen" "[I" "PorcelainWorks" ∈ pw_nw := in_nw (i := 198) (by decide +kernel) rfl
theorem fl_X3_9 : Cond.fieldLink RX3 9 "PorcelainWorks$Matching" "row" "[I" ∈ gT := in_gT (i := 228) (by decide +kernel) rfl
theorem fl_X3_15 : Cond.fieldLink RX3 15 "PorcelainWorks$Matching" "whites" "[I" ∈ gT := in_gT (i := 229) (by decide +kernel) rfl
theorem fl_X3_21 : Cond.fieldLink RX3 21 "PorcelainWorks$Matching" "candidates" "I" ∈ gT := in_gT (i := 232) (by decide +kernel) rfl
theorem fn_X3_39 : Cond.fieldLinkNest RX3 39 "PorcelainWorks$Pieces" "number" "I" "PorcelainWorks" ∈ pw_nw := in_nw (i := 74) (by decide +kernel) rfl
theorem fn_X3_44 : Cond.fieldLinkNest RX3 44 "PorcelainWorks$Pieces" "kinds" "[I" "PorcelainWorks" ∈ pw_nw := in_nw (i := 60) (by decide +kernel) rfl
theorem YX6_isForSale : pw_YV yX6_isForSale cX6_isForSale 2 (some .boolean) 1 := ⟨in_gT (i := 684) (by decide +kernel) rfl, in_gT (i := 3) (by decide +kernel) rfl, by decide +kernel, in_gT (i := 683) (by decide +kernel) rfl, in_gS (List.mem_of_getElem? (i := 46) (by decide +kernel)) rfl⟩
theorem mn_X3_47 : Cond.methodLinkNest RX3 47 yX6_isForSale "PorcelainWorks" ∈ pw_nw := in_nw (i := 681) (by decide +kernel) rfl
theorem fn_X3_51 : Cond.fieldLinkNest RX3 51 "PorcelainWorks$Pieces" "whites" "[I" "PorcelainWorks" ∈ pw_nw := in_nw (i := 71) (by decide +kernel) rfl
theorem YX3_insert : pw_YV yX3_insert cX3_insert 4 none 2 := ⟨in_gT (i := 688) (by decide +kernel) rfl, in_gT (i := 8) (by decide +kernel) rfl, by decide +kernel, in_gT (i := 687) (by decide +kernel) rfl, in_gS (List.mem_of_getElem? (i := 47) (by decide +kernel)) rfl⟩
theorem ml_X3_52 : Cond.methodLink RX3 52 yX3_insert ∈ gT := in_gT (i := 685) (by decide +kernel) rfl
theorem fl_X3_28 : Cond.fieldLink RX3 28 "PorcelainWorks$Matching" "size" "I" ∈ gT := in_gT (i := 234) (by decide +kernel) rfl
theorem fl_X3_18 : Cond.fieldLink RX3 18 "PorcelainWorks$Matching" "members" "[I" ∈ gT := in_gT (i := 230) (by decide +kernel) rfl
theorem fl_X3_25 : Cond.fieldLink RX3 25 "PorcelainWorks$Matching" "start" "I" ∈ gT := in_gT (i := 233) (by decide +kernel) rfl
theorem YX3_take : pw_YV yX3_take cX3_take 3 none 1 := ⟨in_gT (i := 692) (by decide +kernel) rfl, in_gT (i := 8) (by decide +kernel) rfl, by decide +kernel, in_gT (i := 691) (by decide +kernel) rfl, in_gS (List.mem_of_getElem? (i := 48) (by decide +kernel)) rfl⟩
theorem ml_X3_35 : Cond.methodLink RX3 35 yX3_take ∈ gT := in_gT (i := 689) (by decide +kernel) rfl
theorem YX3_gather : pw_YV yX3_gather cX3_gather 4 none 2 := ⟨in_gT (i := 680) (by decide +kernel) rfl, in_gT (i := 8) (by decide +kernel) rfl, by decide +kernel, in_gT (i := 679) (by decide +kernel) rfl, in_gS (List.mem_of_getElem? (i := 45) (by decide +kernel)) rfl⟩
theorem ml_X3_31 : Cond.methodLink RX3 31 yX3_gather ∈ gT := in_gT (i := 677) (by decide +kernel) rfl
theorem YX10_serviceRefusal : pw_YS yX10_serviceRefusal cX10_serviceRefusal 3 (some .int) 3 := ⟨in_gT (i := 672) (by decide +kernel) rfl, in_gT (i := 1) (by decide +kernel) rfl, by decide +kernel, in_gT (i := 671) (by decide +kernel) rfl⟩
theorem ml_X10_235 : Cond.methodLink RX10 235 yX10_serviceRefusal ∈ gT := in_gT (i := 670) (by decide +kernel) rfl
theorem fl_X10_58 : Cond.fieldLink RX10 58 "PorcelainWorks" "matching" "LPorcelainWorks$Matching;" ∈ gT := in_gT (i := 329) (by decide +kernel) rfl
theorem YX3_find : pw_YV yX3_find cX3_find 6 (some .boolean) 4 := ⟨in_gT (i := 676) (by decide +kernel) rfl, in_gT (i := 8) (by decide +kernel) rfl, by decide +kernel, in_gT (i := 675) (by decide +kernel) rfl, in_gS (List.mem_of_getElem? (i := 44) (by decide +kernel)) rfl⟩
theorem mn_X10_238 : Cond.methodLinkNest RX10 238 yX3_find "PorcelainWorks" ∈ pw_nw := in_nw (i := 673) (by decide +kernel) rfl
theorem YX3_lacking : pw_YV yX3_lacking cX3_lacking 3 (some .int) 0 := ⟨in_gT (i := 696) (by decide +kernel) rfl, in_gT (i := 8) (by decide +kernel) rfl, by decide +kernel, in_gT (i := 695) (by decide +kernel) rfl, in_gS (List.mem_of_getElem? (i := 49) (by decide +kernel)) rfl⟩
theorem mn_X10_242 : Cond.methodLinkNest RX10 242 yX3_lacking "PorcelainWorks" ∈ pw_nw := in_nw (i := 693) (by decide +kernel) rfl
theorem fn_X10_245 : Cond.fieldLinkNest RX10 245 "PorcelainWorks$Matching" "size" "I" "PorcelainWorks" ∈ pw_nw := in_nw (i := 235) (by decide +kernel) rfl
theorem YX3_sortByNumber : pw_YV yX3_sortByNumber cX3_sortByNumber 4 none 0 := ⟨in_gT (i := 704) (by decide +kernel) rfl, in_gT (i := 8) (by decide +kernel) rfl, by decide +kernel, in_gT (i := 703) (by decide +kernel) rfl, in_gS (List.mem_of_getElem? (i := 50) (by decide +kernel)) rfl⟩
theorem mn_X10_248 : Cond.methodLinkNest RX10 248 yX3_sortByNumber "PorcelainWorks" ∈ pw_nw := in_nw (i := 701) (by decide +kernel) rfl
theorem fn_X10_251 : Cond.fieldLinkNest RX10 251 "PorcelainWorks$Matching" "members" "[I" "PorcelainWorks" ∈ pw_nw := in_nw (i := 231) (by decide +kernel) rfl
theorem fl_X4_9 : Cond.fieldLink RX4 9 "PorcelainWorks$Odds" "row" "[I" ∈ gT := in_gT (i := 255) (by decide +kernel) rfl
theorem ct_X4_26 : Cond.constant RX4 26 (1048576) ∈ gT := in_gT (i := 721) (by decide +kernel) rfl
theorem YX4_orMore : pw_YV yX4_orMore cX4_orMore 5 (some .int) 2 := ⟨in_gT (i := 729) (by decide +kernel) rfl, in_gT (i := 9) (by decide +kernel) rfl, by decide +kernel, in_gT (i := 728) (by decide +kernel) rfl, in_gS (List.mem_of_getElem? (i := 54) (by decide +kernel)) rfl⟩
theorem ml_X4_22 : Cond.methodLink RX4 22 yX4_orMore ∈ gT := in_gT (i := 726) (by decide +kernel) rfl
theorem YX4_makeOneMore : pw_YV yX4_makeOneMore cX4_makeOneMore 5 none 2 := ⟨in_gT (i := 725) (by decide +kernel) rfl, in_gT (i := 9) (by decide +kernel) rfl, by decide +kernel, in_gT (i := 724) (by decide +kernel) rfl, in_gS (List.mem_of_getElem? (i := 53) (by decide +kernel)) rfl⟩
theorem ml_X4_18 : Cond.methodLink RX4 18 yX4_makeOneMore ∈ gT := in_gT (i := 722) (by decide +kernel) rfl
theorem YX4_begin : pw_YV yX4_begin cX4_begin 2 none 0 := ⟨in_gT (i := 720) (by decide +kernel) rfl, in_gT (i := 9) (by decide +kernel) rfl, by decide +kernel, in_gT (i := 719) (by decide +kernel) rfl, in_gS (List.mem_of_getElem? (i := 52) (by decide +kernel)) rfl⟩
theorem ml_X4_15 : Cond.methodLink RX4 15 yX4_begin ∈ gT := in_gT (i := 717) (by decide +kernel) rfl
theorem fl_X10_65 : Cond.fieldLink RX10 65 "PorcelainWorks" "odds" "LPorcelainWorks$Odds;" ∈ gT := in_gT (i := 330) (by decide +kernel) rfl
theorem YX4_ofWhole : pw_YV yX4_ofWhole cX4_ofWhole 5 (some .int) 3 := ⟨in_gT (i := 716) (by decide +kernel) rfl, in_gT (i := 9) (by decide +kernel) rfl, by decide +kernel, in_gT (i := 715) (by decide +kernel) rfl, in_gS (List.mem_of_getElem? (i := 51) (by decide +kernel)) rfl⟩
theorem mn_X10_254 : Cond.methodLinkNest RX10 254 yX4_ofWhole "PorcelainWorks" ∈ pw_nw := in_nw (i := 713) (by decide +kernel) rfl
theorem ct_X10_257 : Cond.constant RX10 257 (1048576) ∈ gT := in_gT (i := 734) (by decide +kernel) rfl
theorem YX4_fewestFor : pw_YV yX4_fewestFor cX4_fewestFor 5 (some .int) 3 := ⟨in_gT (i := 738) (by decide +kernel) rfl, in_gT (i := 9) (by decide +kernel) rfl, by decide +kernel, in_gT (i := 737) (by decide +kernel) rfl, in_gS (List.mem_of_getElem? (i := 55) (by decide +kernel)) rfl⟩
theorem mn_X10_258 : Cond.methodLinkNest RX10 258 yX4_fewestFor "PorcelainWorks" ∈ pw_nw := in_nw (i := 735) (by decide +kernel) rfl
theorem fl_X7_36 : Cond.fieldLink RX7 36 "PorcelainWorks$Secret" "sights" "I" ∈ gT := in_gT (i := 273) (by decide +kernel) rfl
theorem fl_X7_9 : Cond.fieldLink RX7 9 "PorcelainWorks$Secret" "sightHand" "[I" ∈ gT := in_gT (i := 265) (by decide +kernel) rfl
theorem fl_X7_15 : Cond.fieldLink RX7 15 "PorcelainWorks$Secret" "sightHalf" "[I" ∈ gT := in_gT (i := 266) (by decide +kernel) rfl
theorem fl_X7_18 : Cond.fieldLink RX7 18 "PorcelainWorks$Secret" "sightDay" "[I" ∈ gT := in_gT (i := 267) (by decide +kernel) rfl
theorem fl_X10_72 : Cond.fieldLink RX10 72 "PorcelainWorks" "secret" "LPorcelainWorks$Secret;" ∈ gT := in_gT (i := 331) (by decide +kernel) rfl
theorem YX7_tellSight : pw_YV yX7_tellSight cX7_tellSight 5 (some .boolean) 3 := ⟨in_gT (i := 746) (by decide +kernel) rfl, in_gT (i := 10) (by decide +kernel) rfl, by decide +kernel, in_gT (i := 745) (by decide +kernel) rfl, in_gS (List.mem_of_getElem? (i := 56) (by decide +kernel)) rfl⟩
theorem mn_X10_261 : Cond.methodLinkNest RX10 261 yX7_tellSight "PorcelainWorks" ∈ pw_nw := in_nw (i := 743) (by decide +kernel) rfl
theorem fl_X7_27 : Cond.fieldLink RX7 27 "PorcelainWorks$Secret" "talkDay" "[I" ∈ gT := in_gT (i := 270) (by decide +kernel) rfl
theorem fl_X7_21 : Cond.fieldLink RX7 21 "PorcelainWorks$Secret" "talkA" "[I" ∈ gT := in_gT (i := 268) (by decide +kernel) rfl
theorem fl_X7_24 : Cond.fieldLink RX7 24 "PorcelainWorks$Secret" "talkB" "[I" ∈ gT := in_gT (i := 269) (by decide +kernel) rfl
theorem fl_X7_40 : Cond.fieldLink RX7 40 "PorcelainWorks$Secret" "talks" "I" ∈ gT := in_gT (i := 274) (by decide +kernel) rfl
theorem YX7_talkedOn : pw_YV yX7_talkedOn cX7_talkedOn 7 (some .boolean) 3 := ⟨in_gT (i := 754) (by decide +kernel) rfl, in_gT (i := 10) (by decide +kernel) rfl, by decide +kernel, in_gT (i := 753) (by decide +kernel) rfl, in_gS (List.mem_of_getElem? (i := 57) (by decide +kernel)) rfl⟩
theorem mn_X10_265 : Cond.methodLinkNest RX10 265 yX7_talkedOn "PorcelainWorks" ∈ pw_nw := in_nw (i := 751) (by decide +kernel) rfl
theorem fn_X10_268 : Cond.fieldLinkNest RX10 268 "PorcelainWorks$Secret" "talks" "I" "PorcelainWorks" ∈ pw_nw := in_nw (i := 275) (by decide +kernel) rfl
theorem YX7_tellTalk : pw_YV yX7_tellTalk cX7_tellTalk 4 none 3 := ⟨in_gT (i := 758) (by decide +kernel) rfl, in_gT (i := 10) (by decide +kernel) rfl, by decide +kernel, in_gT (i := 757) (by decide +kernel) rfl, in_gS (List.mem_of_getElem? (i := 58) (by decide +kernel)) rfl⟩
theorem mn_X10_271 : Cond.methodLinkNest RX10 271 yX7_tellTalk "PorcelainWorks" ∈ pw_nw := in_nw (i := 755) (by decide +kernel) rfl
theorem fl_X7_30 : Cond.fieldLink RX7 30 "PorcelainWorks$Secret" "knowers" "[I" ∈ gT := in_gT (i := 271) (by decide +kernel) rfl
theorem fl_X7_43 : Cond.fieldLink RX7 43 "PorcelainWorks$Secret" "joinedOn" "I" ∈ gT := in_gT (i := 276) (by decide +kernel) rfl
theorem YX7_noteJoined : pw_YV yX7_noteJoined cX7_noteJoined 2 none 1 := ⟨in_gT (i := 774) (by decide +kernel) rfl, in_gT (i := 10) (by decide +kernel) rfl, by decide +kernel, in_gT (i := 773) (by decide +kernel) rfl, in_gS (List.mem_of_getElem? (i := 61) (by decide +kernel)) rfl⟩
theorem ml_X7_53 : Cond.methodLink RX7 53 yX7_noteJoined ∈ gT := in_gT (i := 771) (by decide +kernel) rfl
theorem fl_X7_33 : Cond.fieldLink RX7 33 "PorcelainWorks$Secret" "before" "[I" ∈ gT := in_gT (i := 272) (by decide +kernel) rfl
theorem YX7_exchange : pw_YV yX7_exchange cX7_exchange 5 none 2 := ⟨in_gT (i := 782) (by decide +kernel) rfl, in_gT (i := 10) (by decide +kernel) rfl, by decide +kernel, in_gT (i := 781) (by decide +kernel) rfl, in_gS (List.mem_of_getElem? (i := 63) (by decide +kernel)) rfl⟩
theorem ml_X7_57 : Cond.methodLink RX7 57 yX7_exchange ∈ gT := in_gT (i := 779) (by decide +kernel) rfl
theorem YX7_seeTill : pw_YV yX7_seeTill cX7_seeTill 4 (some .int) 2 := ⟨in_gT (i := 770) (by decide +kernel) rfl, in_gT (i := 10) (by decide +kernel) rfl, by decide +kernel, in_gT (i := 769) (by decide +kernel) rfl, in_gS (List.mem_of_getElem? (i := 60) (by decide +kernel)) rfl⟩
theorem ml_X7_46 : Cond.methodLink RX7 46 yX7_seeTill ∈ gT := in_gT (i := 767) (by decide +kernel) rfl
theorem YX7_talkAllDay : pw_YV yX7_talkAllDay cX7_talkAllDay 5 (some .int) 2 := ⟨in_gT (i := 778) (by decide +kernel) rfl, in_gT (i := 10) (by decide +kernel) rfl, by decide +kernel, in_gT (i := 777) (by decide +kernel) rfl, in_gS (List.mem_of_getElem? (i := 62) (by decide +kernel)) rfl⟩
theorem ml_X7_50 : Cond.methodLink RX7 50 yX7_talkAllDay ∈ gT := in_gT (i := 775) (by decide +kernel) rfl
theorem YX7_retell : pw_YV yX7_retell cX7_retell 5 none 1 := ⟨in_gT (i := 766) (by decide +kernel) rfl, in_gT (i := 10) (by decide +kernel) rfl, by decide +kernel, in_gT (i := 765) (by decide +kernel) rfl, in_gS (List.mem_of_getElem? (i := 59) (by decide +kernel)) rfl⟩
theorem mn_X10_275 : Cond.methodLinkNest RX10 275 yX7_retell "PorcelainWorks" ∈ pw_nw := in_nw (i := 763) (by decide +kernel) rfl
theorem YX7_knownBy : pw_YV yX7_knownBy cX7_knownBy 2 (some .int) 1 := ⟨in_gT (i := 786) (by decide +kernel) rfl, in_gT (i := 10) (by decide +kernel) rfl, by decide +kernel, in_gT (i := 785) (by decide +kernel) rfl, in_gS (List.mem_of_getElem? (i := 64) (by decide +kernel)) rfl⟩
theorem mn_X10_278 : Cond.methodLinkNest RX10 278 yX7_knownBy "PorcelainWorks" ∈ pw_nw := in_nw (i := 783) (by decide +kernel) rfl
theorem fn_X10_281 : Cond.fieldLinkNest RX10 281 "PorcelainWorks$Secret" "joinedOn" "I" "PorcelainWorks" ∈ pw_nw := in_nw (i := 277) (by decide +kernel) rfl
theorem ml_X7_61 : Cond.methodLink RX7 61 yX7_retell ∈ gT := in_gT (i := 799) (by decide +kernel) rfl
theorem YX7_firstLeak : pw_YV yX7_firstLeak cX7_firstLeak 2 (some .int) 0 := ⟨in_gT (i := 798) (by decide +kernel) rfl, in_gT (i := 10) (by decide +kernel) rfl, by decide +kernel, in_gT (i := 797) (by decide +kernel) rfl, in_gS (List.mem_of_getElem? (i := 65) (by decide +kernel)) rfl⟩
theorem mn_X10_284 : Cond.methodLinkNest RX10 284 yX7_firstLeak "PorcelainWorks" ∈ pw_nw := in_nw (i := 795) (by decide +kernel) rfl
theorem ct_X10_287 : Cond.constant RX10 287 (1000000) ∈ gT := in_gT (i := 804) (by decide +kernel) rfl
theorem fn_X10_288 : Cond.fieldLinkNest RX10 288 "PorcelainWorks$Ledger" "debts" "I" "PorcelainWorks" ∈ pw_nw := in_nw (i := 312) (by decide +kernel) rfl
theorem YX2_lend : pw_YV yX2_lend cX2_lend 4 (some .int) 3 := ⟨in_gT (i := 808) (by decide +kernel) rfl, in_gT (i := 11) (by decide +kernel) rfl, by decide +kernel, in_gT (i := 807) (by decide +kernel) rfl, in_gS (List.mem_of_getElem? (i := 66) (by decide +kernel)) rfl⟩
theorem mn_X10_291 : Cond.methodLinkNest RX10 291 yX2_lend "PorcelainWorks" ∈ pw_nw := in_nw (i := 805) (by decide +kernel) rfl
theorem fn_X10_294 : Cond.fieldLinkNest RX10 294 "PorcelainWorks$Ledger" "sums" "[I" "PorcelainWorks" ∈ pw_nw := in_nw (i := 308) (by decide +kernel) rfl
theorem mn_X10_297 : Cond.methodLinkNest RX10 297 yX2_sumAfter "PorcelainWorks" ∈ pw_nw := in_nw (i := 817) (by decide +kernel) rfl
theorem fn_X10_300 : Cond.fieldLinkNest RX10 300 "PorcelainWorks$Pieces" "kinds" "[I" "PorcelainWorks" ∈ pw_nw := in_nw (i := 61) (by decide +kernel) rfl
theorem fn_X10_303 : Cond.fieldLinkNest RX10 303 "PorcelainWorks$Pieces" "sizes" "[I" "PorcelainWorks" ∈ pw_nw := in_nw (i := 63) (by decide +kernel) rfl
theorem fn_X10_310 : Cond.fieldLinkNest RX10 310 "PorcelainWorks$Pieces" "peaks" "[I" "PorcelainWorks" ∈ pw_nw := in_nw (i := 69) (by decide +kernel) rfl
theorem fn_X10_311 : Cond.fieldLinkNest RX10 311 "PorcelainWorks$Pieces" "whites" "[I" "PorcelainWorks" ∈ pw_nw := in_nw (i := 72) (by decide +kernel) rfl
theorem fn_X10_317 : Cond.fieldLinkNest RX10 317 "PorcelainWorks$Kiln" "burned" "I" "PorcelainWorks" ∈ pw_nw := in_nw (i := 113) (by decide +kernel) rfl
theorem YX6_inState : pw_YV yX6_inState cX6_inState 4 (some .int) 1 := ⟨in_gT (i := 829) (by decide +kernel) rfl, in_gT (i := 3) (by decide +kernel) rfl, by decide +kernel, in_gT (i := 828) (by decide +kernel) rfl, in_gS (List.mem_of_getElem? (i := 67) (by decide +kernel)) rfl⟩
theorem mn_X10_314 : Cond.methodLinkNest RX10 314 yX6_inState "PorcelainWorks" ∈ pw_nw := in_nw (i := 826) (by decide +kernel) rfl
theorem fl_X11_7 : Cond.fieldLink RX11 7 "PorcelainWorksModel" "refusals" "[I" ∈ gT := in_gT (i := 837) (by decide +kernel) rfl
theorem fl_X11_13 : Cond.fieldLink RX11 13 "PorcelainWorksModel" "pastes" "[I" ∈ gT := in_gT (i := 838) (by decide +kernel) rfl
theorem YX11_refuse : pw_YV yX11_refuse cX11_refuse 2 (some .int) 1 := ⟨in_gT (i := 1014) (by decide +kernel) rfl, in_gT (i := 12) (by decide +kernel) rfl, by decide +kernel, in_gT (i := 1013) (by decide +kernel) rfl, in_gS (List.mem_of_getElem? (i := 68) (by decide +kernel)) rfl⟩
theorem ml_X11_152 : Cond.methodLink RX11 152 yX11_refuse ∈ gT := in_gT (i := 1011) (by decide +kernel) rfl
theorem YX11_isIn : pw_YS yX11_isIn cX11_isIn 2 (some .boolean) 2 := ⟨in_gT (i := 1007) (by decide +kernel) rfl, in_gT (i := 12) (by decide +kernel) rfl, by decide +kernel, in_gT (i := 1006) (by decide +kernel) rfl⟩
theorem ml_X11_144 : Cond.methodLink RX11 144 yX11_isIn ∈ gT := in_gT (i := 1005) (by decide +kernel) rfl
theorem YX11_wrong : pw_YS yX11_wrong cX11_wrong 3 (some .int) 3 := ⟨in_gT (i := 1010) (by decide +kernel) rfl, in_gT (i := 12) (by decide +kernel) rfl, by decide +kernel, in_gT (i := 1009) (by decide +kernel) rfl⟩
theorem ml_X11_148 : Cond.methodLink RX11 148 yX11_wrong ∈ gT := in_gT (i := 1008) (by decide +kernel) rfl
theorem fl_X11_156 : Cond.fieldLink RX11 156 "PorcelainWorksModel" "batches" "I" ∈ gT := in_gT (i := 854) (by decide +kernel) rfl
theorem fl_X11_16 : Cond.fieldLink RX11 16 "PorcelainWorksModel" "batchPaste" "[I" ∈ gT := in_gT (i := 839) (by decide +kernel) rfl
theorem fl_X11_19 : Cond.fieldLink RX11 19 "PorcelainWorksModel" "left" "[I" ∈ gT := in_gT (i := 840) (by decide +kernel) rfl
theorem fl_X11_22 : Cond.fieldLink RX11 22 "PorcelainWorksModel" "mixed" "[I" ∈ gT := in_gT (i := 841) (by decide +kernel) rfl
theorem fl_X11_160 : Cond.fieldLink RX11 160 "PorcelainWorksModel" "day" "I" ∈ gT := in_gT (i := 853) (by decide +kernel) rfl
theorem ct_X11_265 : Cond.constantLong RX11 265 (2000000000) ∈ gT := in_gT (i := 1031) (by decide +kernel) rfl
theorem fl_X11_138 : Cond.fieldLink RX11 138 "PorcelainWorksModel" "rates" "[I" ∈ gT := in_gT (i := 889) (by decide +kernel) rfl
theorem ct_X11_180 : Cond.constantLong RX11 180 (1000) ∈ gT := in_gT (i := 1032) (by decide +kernel) rfl
theorem ml_X11_267 : Cond.methodLink RX11 267 Lib.MathLoose.min_long.x ∈ gT := in_gT (i := 1033) (by decide +kernel) rfl
theorem fl_X11_163 : Cond.fieldLink RX11 163 "PorcelainWorksModel" "debts" "I" ∈ gT := in_gT (i := 862) (by decide +kernel) rfl
theorem fl_X11_141 : Cond.fieldLink RX11 141 "PorcelainWorksModel" "made" "[I" ∈ gT := in_gT (i := 890) (by decide +kernel) rfl
theorem fl_X11_135 : Cond.fieldLink RX11 135 "PorcelainWorksModel" "owes" "[I" ∈ gT := in_gT (i := 888) (by decide +kernel) rfl
theorem YX11_grown : pw_YV yX11_grown cX11_grown 3 (some .int) 2 := ⟨in_gT (i := 1030) (by decide +kernel) rfl, in_gT (i := 12) (by decide +kernel) rfl, by decide +kernel, in_gT (i := 1029) (by decide +kernel) rfl, in_gS (List.mem_of_getElem? (i := 70) (by decide +kernel)) rfl⟩
theorem ml_X11_166 : Cond.methodLink RX11 166 yX11_grown ∈ gT := in_gT (i := 1027) (by decide +kernel) rfl
theorem YX11_goes : pw_YV yX11_goes cX11_goes 4 none 1 := ⟨in_gT (i := 1026) (by decide +kernel) rfl, in_gT (i := 12) (by decide +kernel) rfl, by decide +kernel, in_gT (i := 1025) (by decide +kernel) rfl, in_gS (List.mem_of_getElem? (i := 69) (by decide +kernel)) rfl⟩
theorem ml_X11_170 : Cond.methodLink RX11 170 yX11_goes ∈ gT := in_gT (i := 1023) (by decide +kernel) rfl
theorem fl_X11_174 : Cond.fieldLink RX11 174 "PorcelainWorksModel" "pieces" "I" ∈ gT := in_gT (i := 855) (by decide +kernel) rfl
theorem fl_X11_25 : Cond.fieldLink RX11 25 "PorcelainWorksModel" "pieceBatch" "[I" ∈ gT := in_gT (i := 842) (by decide +kernel) rfl
theorem fl_X11_28 : Cond.fieldLink RX11 28 "PorcelainWorksModel" "kind" "[I" ∈ gT := in_gT (i := 843) (by decide +kernel) rfl
theorem fl_X11_31 : Cond.fieldLink RX11 31 "PorcelainWorksModel" "size" "[I" ∈ gT := in_gT (i := 844) (by decide +kernel) rfl
theorem fl_X11_37 : Cond.fieldLink RX11 37 "PorcelainWorksModel" "spot" "[I" ∈ gT := in_gT (i := 846) (by decide +kernel) rfl
theorem fl_X11_40 : Cond.fieldLink RX11 40 "PorcelainWorksModel" "peaks" "[I" ∈ gT := in_gT (i := 847) (by decide +kernel) rfl
theorem fl_X11_43 : Cond.fieldLink RX11 43 "PorcelainWorksModel" "white" "[I" ∈ gT := in_gT (i := 848) (by decide +kernel) rfl
theorem fl_X11_49 : Cond.fieldLink RX11 49 "PorcelainWorksModel" "loss" "[I" ∈ gT := in_gT (i := 850) (by decide +kernel) rfl
theorem fl_X11_46 : Cond.fieldLink RX11 46 "PorcelainWorksModel" "gain" "[I" ∈ gT := in_gT (i := 849) (by decide +kernel) rfl
theorem fl_X11_55 : Cond.fieldLink RX11 55 "PorcelainWorksModel" "woods" "[I" ∈ gT := in_gT (i := 852) (by decide +kernel) rfl
theorem fl_X11_177 : Cond.fieldLink RX11 177 "PorcelainWorksModel" "hours" "I" ∈ gT := in_gT (i := 856) (by decide +kernel) rfl
theorem fl_X11_58 : Cond.fieldLink RX11 58 "PorcelainWorksModel" "heat" "[I" ∈ gT := in_gT (i := 863) (by decide +kernel) rfl
theorem fl_X11_61 : Cond.fieldLink RX11 61 "PorcelainWorksModel" "made0" "[I" ∈ gT := in_gT (i := 864) (by decide +kernel) rfl
theorem fl_X11_64 : Cond.fieldLink RX11 64 "PorcelainWorksModel" "peak" "[I" ∈ gT := in_gT (i := 865) (by decide +kernel) rfl
theorem ml_X11_182 : Cond.methodLink RX11 182 Lib.Math.max.name ∈ gT := in_gT (i := 1058) (by decide +kernel) rfl
theorem YX11_burns : pw_YV yX11_burns cX11_burns 5 none 1 := ⟨in_gT (i := 1057) (by decide +kernel) rfl, in_gT (i := 12) (by decide +kernel) rfl, by decide +kernel, in_gT (i := 1056) (by decide +kernel) rfl, in_gS (List.mem_of_getElem? (i := 71) (by decide +kernel)) rfl⟩
theorem ml_X11_187 : Cond.methodLink RX11 187 yX11_burns ∈ gT := in_gT (i := 1054) (by decide +kernel) rfl
theorem fl_X11_212 : Cond.fieldLink RX11 212 "PorcelainWorksModel" "wants" "I" ∈ gT := in_gT (i := 858) (by decide +kernel) rfl
theorem fl_X11_67 : Cond.fieldLink RX11 67 "PorcelainWorksModel" "wanted" "[I" ∈ gT := in_gT (i := 866) (by decide +kernel) rfl
theorem YX11_isPiece : pw_YV yX11_isPiece cX11_isPiece 2 (some .boolean) 1 := ⟨in_gT (i := 1070) (by decide +kernel) rfl, in_gT (i := 12) (by decide +kernel) rfl, by decide +kernel, in_gT (i := 1069) (by decide +kernel) rfl, in_gS (List.mem_of_getElem? (i := 72) (by decide +kernel)) rfl⟩
theorem ml_X11_190 : Cond.methodLink RX11 190 yX11_isPiece ∈ gT := in_gT (i := 1067) (by decide +kernel) rfl
theorem fl_X11_34 : Cond.fieldLink RX11 34 "PorcelainWorksModel" "state" "[I" ∈ gT := in_gT (i := 845) (by decide +kernel) rfl
theorem YX11_isWanted : pw_YV yX11_isWanted cX11_isWanted 4 (some .boolean) 1 := ⟨in_gT (i := 1074) (by decide +kernel) rfl, in_gT (i := 12) (by decide +kernel) rfl, by decide +kernel, in_gT (i := 1073) (by decide +kernel) rfl, in_gS (List.mem_of_getElem? (i := 73) (by decide +kernel)) rfl⟩
theorem ml_X11_194 : Cond.methodLink RX11 194 yX11_isWanted ∈ gT := in_gT (i := 1071) (by decide +kernel) rfl
theorem fl_X11_52 : Cond.fieldLink RX11 52 "PorcelainWorksModel" "in" "[I" ∈ gT := in_gT (i := 851) (by decide +kernel) rfl
theorem YX11_takes : pw_YV yX11_takes cX11_takes 3 (some .int) 1 := ⟨in_gT (i := 1082) (by decide +kernel) rfl, in_gT (i := 12) (by decide +kernel) rfl, by decide +kernel, in_gT (i := 1081) (by decide +kernel) rfl, in_gS (List.mem_of_getElem? (i := 74) (by decide +kernel)) rfl⟩
theorem ml_X11_197 : Cond.methodLink RX11 197 yX11_takes ∈ gT := in_gT (i := 1079) (by decide +kernel) rfl
theorem YX11_pasteOf : pw_YV yX11_pasteOf cX11_pasteOf 3 (some .int) 2 := ⟨in_gT (i := 1094) (by decide +kernel) rfl, in_gT (i := 12) (by decide +kernel) rfl, by decide +kernel, in_gT (i := 1093) (by decide +kernel) rfl, in_gS (List.mem_of_getElem? (i := 76) (by decide +kernel)) rfl⟩
theorem ml_X11_200 : Cond.methodLink RX11 200 yX11_pasteOf ∈ gT := in_gT (i := 1091) (by decide +kernel) rfl
theorem fl_X11_209 : Cond.fieldLink RX11 209 "PorcelainWorksModel" "burned" "I" ∈ gT := in_gT (i := 857) (by decide +kernel) rfl
theorem YX11_bears : pw_YV yX11_bears cX11_bears 3 (some .boolean) 2 := ⟨in_gT (i := 1090) (by decide +kernel) rfl, in_gT (i := 12) (by decide +kernel) rfl, by decide +kernel, in_gT (i := 1089) (by decide +kernel) rfl, in_gS (List.mem_of_getElem? (i := 75) (by decide +kernel)) rfl⟩
theorem ml_X11_203 : Cond.methodLink RX11 203 yX11_bears ∈ gT := in_gT (i := 1087) (by decide +kernel) rfl
theorem ml_X11_206 : Cond.methodLink RX11 206 Lib.Math.abs.name ∈ gT := in_gT (i := 1095) (by decide +kernel) rfl
theorem fl_X11_70 : Cond.fieldLink RX11 70 "PorcelainWorksModel" "worth" "[I" ∈ gT := in_gT (i := 867) (by decide +kernel) rfl
theorem fl_X11_77 : Cond.fieldLink RX11 77 "PorcelainWorksModel" "placed" "[I" ∈ gT := in_gT (i := 869) (by decide +kernel) rfl
theorem YX11_mayLie : pw_YV yX11_mayLie cX11_mayLie 4 (some .boolean) 3 := ⟨in_gT (i := 1111) (by decide +kernel) rfl, in_gT (i := 12) (by decide +kernel) rfl, by decide +kernel, in_gT (i := 1110) (by decide +kernel) rfl, in_gS (List.mem_of_getElem? (i := 78) (by decide +kernel)) rfl⟩
theorem ml_X11_215 : Cond.methodLink RX11 215 yX11_mayLie ∈ gT := in_gT (i := 1108) (by decide +kernel) rfl
theorem fl_X11_74 : Cond.fieldLink RX11 74 "PorcelainWorksModel" "most" "[I" ∈ gT := in_gT (i := 868) (by decide +kernel) rfl
theorem YX11_finds : pw_YV yX11_finds cX11_finds 6 (some .int) 0 := ⟨in_gT (i := 1107) (by decide +kernel) rfl, in_gT (i := 12) (by decide +kernel) rfl, by decide +kernel, in_gT (i := 1106) (by decide +kernel) rfl, in_gS (List.mem_of_getElem? (i := 77) (by decide +kernel)) rfl⟩
theorem ml_X11_219 : Cond.methodLink RX11 219 yX11_finds ∈ gT := in_gT (i := 1104) (by decide +kernel) rfl
theorem fl_X11_80 : Cond.fieldLink RX11 80 "PorcelainWorksModel" "from" "[I" ∈ gT := in_gT (i := 870) (by decide +kernel) rfl
theorem fl_X11_83 : Cond.fieldLink RX11 83 "PorcelainWorksModel" "to" "[I" ∈ gT := in_gT (i := 871) (by decide +kernel) rfl
theorem fl_X11_86 : Cond.fieldLink RX11 86 "PorcelainWorksModel" "heats" "[I" ∈ gT := in_gT (i := 872) (by decide +kernel) rfl
theorem YX11_firesOf : pw_YV yX11_firesOf cX11_firesOf 6 (some .int) 1 := ⟨in_gT (i := 1131) (by decide +kernel) rfl, in_gT (i := 12) (by decide +kernel) rfl, by decide +kernel, in_gT (i := 1130) (by decide +kernel) rfl, in_gS (List.mem_of_getElem? (i := 79) (by decide +kernel)) rfl⟩
theorem ml_X11_223 : Cond.methodLink RX11 223 yX11_firesOf ∈ gT := in_gT (i := 1128) (by decide +kernel) rfl
theorem fl_X11_89 : Cond.fieldLink RX11 89 "PorcelainWorksModel" "skills" "[I" ∈ gT := in_gT (i := 873) (by decide +kernel) rfl
theorem fl_X11_92 : Cond.fieldLink RX11 92 "PorcelainWorksModel" "loads" "[I" ∈ gT := in_gT (i := 874) (by decide +kernel) rfl
theorem fl_X11_226 : Cond.fieldLink RX11 226 "PorcelainWorksModel" "jobs" "I" ∈ gT := in_gT (i := 859) (by decide +kernel) rfl
theorem fl_X11_95 : Cond.fieldLink RX11 95 "PorcelainWorksModel" "painters" "[I" ∈ gT := in_gT (i := 875) (by decide +kernel) rfl
theorem fl_X11_98 : Cond.fieldLink RX11 98 "PorcelainWorksModel" "busy" "[I" ∈ gT := in_gT (i := 876) (by decide +kernel) rfl
theorem YX11_leastOf : pw_YV yX11_leastOf cX11_leastOf 7 (some .int) 0 := ⟨in_gT (i := 1151) (by decide +kernel) rfl, in_gT (i := 12) (by decide +kernel) rfl, by decide +kernel, in_gT (i := 1150) (by decide +kernel) rfl, in_gS (List.mem_of_getElem? (i := 80) (by decide +kernel)) rfl⟩
theorem ml_X11_229 : Cond.methodLink RX11 229 yX11_leastOf ∈ gT := in_gT (i := 1148) (by decide +kernel) rfl
theorem fl_X11_101 : Cond.fieldLink RX11 101 "PorcelainWorksModel" "matched" "[Z" ∈ gT := in_gT (i := 877) (by decide +kernel) rfl
theorem fl_X11_105 : Cond.fieldLink RX11 105 "PorcelainWorksModel" "trial" "[Z" ∈ gT := in_gT (i := 878) (by decide +kernel) rfl
theorem YX11_isWhole : pw_YV yX11_isWhole cX11_isWhole 3 (some .boolean) 2 := ⟨in_gT (i := 1175) (by decide +kernel) rfl, in_gT (i := 12) (by decide +kernel) rfl, by decide +kernel, in_gT (i := 1174) (by decide +kernel) rfl, in_gS (List.mem_of_getElem? (i := 83) (by decide +kernel)) rfl⟩
theorem ml_X11_232 : Cond.methodLink RX11 232 yX11_isWhole ∈ gT := in_gT (i := 1172) (by decide +kernel) rfl
theorem YX11_wrongService : pw_YV yX11_wrongService cX11_wrongService 4 (some .int) 3 := ⟨in_gT (i := 1167) (by decide +kernel) rfl, in_gT (i := 12) (by decide +kernel) rfl, by decide +kernel, in_gT (i := 1166) (by decide +kernel) rfl, in_gS (List.mem_of_getElem? (i := 81) (by decide +kernel)) rfl⟩
theorem ml_X11_235 : Cond.methodLink RX11 235 yX11_wrongService ∈ gT := in_gT (i := 1164) (by decide +kernel) rfl
theorem YX11_matches : pw_YV yX11_matches cX11_matches 11 (some .int) 3 := ⟨in_gT (i := 1171) (by decide +kernel) rfl, in_gT (i := 12) (by decide +kernel) rfl, by decide +kernel, in_gT (i := 1170) (by decide +kernel) rfl, in_gS (List.mem_of_getElem? (i := 82) (by decide +kernel)) rfl⟩
theorem ml_X11_238 : Cond.methodLink RX11 238 yX11_matches ∈ gT := in_gT (i := 1168) (by decide +kernel) rfl
theorem fl_X11_108 : Cond.fieldLink RX11 108 "PorcelainWorksModel" "parts" "[I" ∈ gT := in_gT (i := 879) (by decide +kernel) rfl
theorem ct_X11_241 : Cond.constant RX11 241 (1048576) ∈ gT := in_gT (i := 1192) (by decide +kernel) rfl
theorem ct_X11_242 : Cond.constantLong RX11 242 (1024) ∈ gT := in_gT (i := 1197) (by decide +kernel) rfl
theorem YX11_orMore : pw_YV yX11_orMore cX11_orMore 4 (some .int) 1 := ⟨in_gT (i := 1201) (by decide +kernel) rfl, in_gT (i := 12) (by decide +kernel) rfl, by decide +kernel, in_gT (i := 1200) (by decide +kernel) rfl, in_gS (List.mem_of_getElem? (i := 86) (by decide +kernel)) rfl⟩
theorem ml_X11_250 : Cond.methodLink RX11 250 yX11_orMore ∈ gT := in_gT (i := 1198) (by decide +kernel) rfl
theorem YX11_oneMore : pw_YV yX11_oneMore cX11_oneMore 5 none 1 := ⟨in_gT (i := 1196) (by decide +kernel) rfl, in_gT (i := 12) (by decide +kernel) rfl, by decide +kernel, in_gT (i := 1195) (by decide +kernel) rfl, in_gS (List.mem_of_getElem? (i := 85) (by decide +kernel)) rfl⟩
theorem ml_X11_247 : Cond.methodLink RX11 247 yX11_oneMore ∈ gT := in_gT (i := 1193) (by decide +kernel) rfl
theorem YX11_begins : pw_YV yX11_begins cX11_begins 2 none 0 := ⟨in_gT (i := 1191) (by decide +kernel) rfl, in_gT (i := 12) (by decide +kernel) rfl, by decide +kernel, in_gT (i := 1190) (by decide +kernel) rfl, in_gS (List.mem_of_getElem? (i := 84) (by decide +kernel)) rfl⟩
theorem ml_X11_244 : Cond.methodLink RX11 244 yX11_begins ∈ gT := in_gT (i := 1188) (by decide +kernel) rfl
theorem fl_X11_253 : Cond.fieldLink RX11 253 "PorcelainWorksModel" "sees" "I" ∈ gT := in_gT (i := 861) (by decide +kernel) rfl
theorem fl_X11_111 : Cond.fieldLink RX11 111 "PorcelainWorksModel" "seeHand" "[I" ∈ gT := in_gT (i := 880) (by decide +kernel) rfl
theorem fl_X11_114 : Cond.fieldLink RX11 114 "PorcelainWorksModel" "seeHalf" "[I" ∈ gT := in_gT (i := 881) (by decide +kernel) rfl
theorem fl_X11_117 : Cond.fieldLink RX11 117 "PorcelainWorksModel" "seeDay" "[I" ∈ gT := in_gT (i := 882) (by decide +kernel) rfl
theorem fl_X11_120 : Cond.fieldLink RX11 120 "PorcelainWorksModel" "talkA" "[I" ∈ gT := in_gT (i := 883) (by decide +kernel) rfl
theorem fl_X11_123 : Cond.fieldLink RX11 123 "PorcelainWorksModel" "talkB" "[I" ∈ gT := in_gT (i := 884) (by decide +kernel) rfl
theorem fl_X11_256 : Cond.fieldLink RX11 256 "PorcelainWorksModel" "talks" "I" ∈ gT := in_gT (i := 860) (by decide +kernel) rfl
theorem fl_X11_126 : Cond.fieldLink RX11 126 "PorcelainWorksModel" "talkDay" "[I" ∈ gT := in_gT (i := 885) (by decide +kernel) rfl
theorem YX11_nextDay : pw_YV yX11_nextDay cX11_nextDay 4 (some .int) 1 := ⟨in_gT (i := 1225) (by decide +kernel) rfl, in_gT (i := 12) (by decide +kernel) rfl, by decide +kernel, in_gT (i := 1224) (by decide +kernel) rfl, in_gS (List.mem_of_getElem? (i := 88) (by decide +kernel)) rfl⟩
theorem ml_X11_259 : Cond.methodLink RX11 259 yX11_nextDay ∈ gT := in_gT (i := 1222) (by decide +kernel) rfl
theorem fl_X11_129 : Cond.fieldLink RX11 129 "PorcelainWorksModel" "known" "[I" ∈ gT := in_gT (i := 886) (by decide +kernel) rfl
theorem fl_X11_132 : Cond.fieldLink RX11 132 "PorcelainWorksModel" "ahead" "[I" ∈ gT := in_gT (i := 887) (by decide +kernel) rfl
theorem YX11_tells : pw_YV yX11_tells cX11_tells 6 (some .int) 1 := ⟨in_gT (i := 1221) (by decide +kernel) rfl, in_gT (i := 12) (by decide +kernel) rfl, by decide +kernel, in_gT (i := 1220) (by decide +kernel) rfl, in_gS (List.mem_of_getElem? (i := 87) (by decide +kernel)) rfl⟩
theorem ml_X11_262 : Cond.methodLink RX11 262 yX11_tells ∈ gT := in_gT (i := 1218) (by decide +kernel) rfl
theorem ct_X11_271 : Cond.constant RX11 271 (1000000) ∈ gT := in_gT (i := 1238) (by decide +kernel) rfl
theorem lc_min : Cond.code Lib.Math.min.name Lib.Math.min.code 2 (some .int) ∈ gT := in_gT (i := 1245) (by decide +kernel) rfl
theorem ls_min : Cond.static Lib.Math.min.name ∈ gT := in_gT (i := 1244) (by decide +kernel) rfl
theorem ml_X11_272 : Cond.methodLink RX11 272 Lib.Math.min.name ∈ gT := in_gT (i := 1243) (by decide +kernel) rfl
