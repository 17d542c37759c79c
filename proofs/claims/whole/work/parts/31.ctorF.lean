def shX0 : List Shp := [.inr (0, [some 1, some 2, some 3, some 4, none]), .inl (24, false), .inl (20, false), .inl (20, false), .inl (20, false)]
theorem qX0_0 : shX0[0]? = some (.inr (0, [some 1, some 2, some 3, some 4, none])) := rfl
theorem qX0_1 : shX0[1]? = some (.inl (24, false)) := rfl
theorem qX0_2 : shX0[2]? = some (.inl (20, false)) := rfl
theorem qX0_3 : shX0[3]? = some (.inl (20, false)) := rfl
theorem qX0_4 : shX0[4]? = some (.inl (20, false)) := rfl
def shX1 : List Shp := [.inr (1, [some 1, some 2, some 3, some 4, some 5, some 6, none, none]), .inl (24, false), .inl (12, false), .inl (12, false), .inl (12, false), .inl (12, false), .inl (48, false)]
theorem qX1_0 : shX1[0]? = some (.inr (1, [some 1, some 2, some 3, some 4, some 5, some 6, none, none])) := rfl
theorem qX1_1 : shX1[1]? = some (.inl (24, false)) := rfl
theorem qX1_2 : shX1[2]? = some (.inl (12, false)) := rfl
theorem qX1_3 : shX1[3]? = some (.inl (12, false)) := rfl
theorem qX1_4 : shX1[4]? = some (.inl (12, false)) := rfl
theorem qX1_5 : shX1[5]? = some (.inl (12, false)) := rfl
theorem qX1_6 : shX1[6]? = some (.inl (48, false)) := rfl
def shX2 : List Shp := [.inr (2, [some 1, some 2, some 3, none]), .inl (6, false), .inl (6, false), .inl (6, false)]
theorem qX2_0 : shX2[0]? = some (.inr (2, [some 1, some 2, some 3, none])) := rfl
theorem qX2_1 : shX2[1]? = some (.inl (6, false)) := rfl
theorem qX2_2 : shX2[2]? = some (.inl (6, false)) := rfl
theorem qX2_3 : shX2[3]? = some (.inl (6, false)) := rfl
def shX3 : List Shp := [.inr (3, [some 1, some 2, some 3, none, none, none]), .inl (80, false), .inl (80, false), .inl (12, false)]
theorem qX3_0 : shX3[0]? = some (.inr (3, [some 1, some 2, some 3, none, none, none])) := rfl
theorem qX3_1 : shX3[1]? = some (.inl (80, false)) := rfl
theorem qX3_2 : shX3[2]? = some (.inl (80, false)) := rfl
theorem qX3_3 : shX3[3]? = some (.inl (12, false)) := rfl
def shX4 : List Shp := [.inr (4, [some 1]), .inl (201, false)]
theorem qX4_0 : shX4[0]? = some (.inr (4, [some 1])) := rfl
theorem qX4_1 : shX4[1]? = some (.inl (201, false)) := rfl
def shX5 : List Shp := [.inr (5, [some 1, some 2, some 3]), .inl (12, false), .inl (12, false), .inl (12, false)]
theorem qX5_0 : shX5[0]? = some (.inr (5, [some 1, some 2, some 3])) := rfl
theorem qX5_1 : shX5[1]? = some (.inl (12, false)) := rfl
theorem qX5_2 : shX5[2]? = some (.inl (12, false)) := rfl
theorem qX5_3 : shX5[3]? = some (.inl (12, false)) := rfl
def shX6 : List Shp := [.inr (6, [some 1, some 2, some 3, some 4, some 5, some 6, some 7, none]), .inl (80, false), .inl (80, false), .inl (80, false), .inl (80, false), .inl (80, false), .inl (80, false), .inl (80, false)]
theorem qX6_0 : shX6[0]? = some (.inr (6, [some 1, some 2, some 3, some 4, some 5, some 6, some 7, none])) := rfl
theorem qX6_1 : shX6[1]? = some (.inl (80, false)) := rfl
theorem qX6_2 : shX6[2]? = some (.inl (80, false)) := rfl
theorem qX6_3 : shX6[3]? = some (.inl (80, false)) := rfl
theorem qX6_4 : shX6[4]? = some (.inl (80, false)) := rfl
theorem qX6_5 : shX6[5]? = some (.inl (80, false)) := rfl
theorem qX6_6 : shX6[6]? = some (.inl (80, false)) := rfl
theorem qX6_7 : shX6[7]? = some (.inl (80, false)) := rfl
def shX7 : List Shp := [.inr (7, [some 1, some 2, some 3, some 4, some 5, some 6, some 7, some 8, none, none, none]), .inl (32, false), .inl (32, false), .inl (32, false), .inl (60, false), .inl (60, false), .inl (60, false), .inl (2, false), .inl (2, false)]
theorem qX7_0 : shX7[0]? = some (.inr (7, [some 1, some 2, some 3, some 4, some 5, some 6, some 7, some 8, none, none, none])) := rfl
theorem qX7_1 : shX7[1]? = some (.inl (32, false)) := rfl
theorem qX7_2 : shX7[2]? = some (.inl (32, false)) := rfl
theorem qX7_3 : shX7[3]? = some (.inl (32, false)) := rfl
theorem qX7_4 : shX7[4]? = some (.inl (60, false)) := rfl
theorem qX7_5 : shX7[5]? = some (.inl (60, false)) := rfl
theorem qX7_6 : shX7[6]? = some (.inl (60, false)) := rfl
theorem qX7_7 : shX7[7]? = some (.inl (2, false)) := rfl
theorem qX7_8 : shX7[8]? = some (.inl (2, false)) := rfl
def shX8 : List Shp := [.inr (8, [some 1, some 2, some 3, some 4, some 5, some 6, some 7, some 8, none]), .inl (8, false), .inl (8, false), .inl (8, false), .inl (8, false), .inl (8, false), .inl (8, false), .inl (12, false), .inl (12, false)]
theorem qX8_0 : shX8[0]? = some (.inr (8, [some 1, some 2, some 3, some 4, some 5, some 6, some 7, some 8, none])) := rfl
theorem qX8_1 : shX8[1]? = some (.inl (8, false)) := rfl
theorem qX8_2 : shX8[2]? = some (.inl (8, false)) := rfl
theorem qX8_3 : shX8[3]? = some (.inl (8, false)) := rfl
theorem qX8_4 : shX8[4]? = some (.inl (8, false)) := rfl
theorem qX8_5 : shX8[5]? = some (.inl (8, false)) := rfl
theorem qX8_6 : shX8[6]? = some (.inl (8, false)) := rfl
theorem qX8_7 : shX8[7]? = some (.inl (12, false)) := rfl
theorem qX8_8 : shX8[8]? = some (.inl (12, false)) := rfl
def shX9 : List Shp := [.inr (9, [some 1, some 2, some 3, some 4, some 5, none, none, none]), .inl (3, false), .inl (8, false), .inl (8, false), .inl (8, false), .inl (3, false)]
theorem qX9_0 : shX9[0]? = some (.inr (9, [some 1, some 2, some 3, some 4, some 5, none, none, none])) := rfl
theorem qX9_1 : shX9[1]? = some (.inl (3, false)) := rfl
theorem qX9_2 : shX9[2]? = some (.inl (8, false)) := rfl
theorem qX9_3 : shX9[3]? = some (.inl (8, false)) := rfl
theorem qX9_4 : shX9[4]? = some (.inl (8, false)) := rfl
theorem qX9_5 : shX9[5]? = some (.inl (3, false)) := rfl
theorem ko_inst : Cond.instanceMethod objectInit ∈ gT := in_gT (i := 21) (by decide +kernel) rfl
theorem ko_code : Cond.code objectInit ⟨#[0xb1]⟩ 1 none ∈ gT := in_gT (i := 22) (by decide +kernel) rfl
theorem ml_X0_3 : Cond.methodLink RX0 3 objectInit ∈ gT := in_gT (i := 28) (by decide +kernel) rfl
theorem ka_int : Cond.arrayClass .int ∈ gT := in_gT (i := 50) (by decide +kernel) rfl
theorem fn_X0_28 : Cond.fieldLinkNest RX0 28 "PorcelainWorks" "FIRST_TRAITS" "[I" "PorcelainWorks" ∈ pw_nw := in_nw (i := 29) (by decide +kernel) rfl
theorem ml_X1_3 : Cond.methodLink RX1 3 objectInit ∈ gT := in_gT (i := 98) (by decide +kernel) rfl
theorem fl_X1_15 : Cond.fieldLink RX1 15 "PorcelainWorks$Kiln" "holds" "[I" ∈ gT := in_gT (i := 102) (by decide +kernel) rfl
theorem fn_X1_37 : Cond.fieldLinkNest RX1 37 "PorcelainWorks" "FIRST_PLACE_TRAITS" "[I" "PorcelainWorks" ∈ pw_nw := in_nw (i := 99) (by decide +kernel) rfl
theorem ml_X2_3 : Cond.methodLink RX2 3 objectInit ∈ gT := in_gT (i := 306) (by decide +kernel) rfl
theorem ml_X3_3 : Cond.methodLink RX3 3 objectInit ∈ gT := in_gT (i := 227) (by decide +kernel) rfl
theorem ml_X4_3 : Cond.methodLink RX4 3 objectInit ∈ gT := in_gT (i := 254) (by decide +kernel) rfl
theorem ml_X5_3 : Cond.methodLink RX5 3 objectInit ∈ gT := in_gT (i := 174) (by decide +kernel) rfl
theorem ml_X6_3 : Cond.methodLink RX6 3 objectInit ∈ gT := in_gT (i := 56) (by decide +kernel) rfl
theorem ml_X7_3 : Cond.methodLink RX7 3 objectInit ∈ gT := in_gT (i := 264) (by decide +kernel) rfl
theorem ml_X8_3 : Cond.methodLink RX8 3 objectInit ∈ gT := in_gT (i := 136) (by decide +kernel) rfl
theorem ml_X9_3 : Cond.methodLink RX9 3 objectInit ∈ gT := in_gT (i := 193) (by decide +kernel) rfl
theorem ml_X11_1 : Cond.methodLink RX11 1 objectInit ∈ gT := in_gT (i := 835) (by decide +kernel) rfl
theorem ct_X11_73 : Cond.constant RX11 73 (36864) ∈ gT := in_gT (i := 836) (by decide +kernel) rfl
theorem ka_boolean : Cond.arrayClass .boolean ∈ gT := in_gT (i := 1000) (by decide +kernel) rfl
theorem ml_X10_3 : Cond.methodLink RX10 3 objectInit ∈ gT := in_gT (i := 20) (by decide +kernel) rfl
theorem kc_X10_13 : Cond.classLink RX10 13 RX0 ∈ gT := in_gT (i := 23) (by decide +kernel) rfl
theorem kn_X0 : Cond.instantiable RX0 5 ∈ gT := in_gT (i := 24) (by decide +kernel) rfl
theorem YX0_init : pw_YK yX0_init cX0_init 2 := ⟨in_gT (i := 27) (by decide +kernel) rfl, in_gT (i := 2) (by decide +kernel) rfl, by decide +kernel, in_gT (i := 26) (by decide +kernel) rfl, rfl, rfl⟩
theorem mn_X10_15 : Cond.methodLinkNest RX10 15 yX0_init "PorcelainWorks" ∈ pw_nw := in_nw (i := 25) (by decide +kernel) rfl
theorem kc_X10_20 : Cond.classLink RX10 20 RX6 ∈ gT := in_gT (i := 51) (by decide +kernel) rfl
theorem kn_X6 : Cond.instantiable RX6 8 ∈ gT := in_gT (i := 52) (by decide +kernel) rfl
theorem YX6_init : pw_YK yX6_init cX6_init 1 := ⟨in_gT (i := 55) (by decide +kernel) rfl, in_gT (i := 3) (by decide +kernel) rfl, by decide +kernel, in_gT (i := 54) (by decide +kernel) rfl, rfl, rfl⟩
theorem mn_X10_22 : Cond.methodLinkNest RX10 22 yX6_init "PorcelainWorks" ∈ pw_nw := in_nw (i := 53) (by decide +kernel) rfl
theorem kc_X10_27 : Cond.classLink RX10 27 RX1 ∈ gT := in_gT (i := 93) (by decide +kernel) rfl
theorem kn_X1 : Cond.instantiable RX1 8 ∈ gT := in_gT (i := 94) (by decide +kernel) rfl
theorem YX1_init : pw_YK yX1_init cX1_init 2 := ⟨in_gT (i := 97) (by decide +kernel) rfl, in_gT (i := 4) (by decide +kernel) rfl, by decide +kernel, in_gT (i := 96) (by decide +kernel) rfl, rfl, rfl⟩
theorem mn_X10_29 : Cond.methodLinkNest RX10 29 yX1_init "PorcelainWorks" ∈ pw_nw := in_nw (i := 95) (by decide +kernel) rfl
theorem kc_X10_34 : Cond.classLink RX10 34 RX8 ∈ gT := in_gT (i := 131) (by decide +kernel) rfl
theorem kn_X8 : Cond.instantiable RX8 9 ∈ gT := in_gT (i := 132) (by decide +kernel) rfl
theorem YX8_init : pw_YK yX8_init cX8_init 1 := ⟨in_gT (i := 135) (by decide +kernel) rfl, in_gT (i := 5) (by decide +kernel) rfl, by decide +kernel, in_gT (i := 134) (by decide +kernel) rfl, rfl, rfl⟩
theorem mn_X10_36 : Cond.methodLinkNest RX10 36 yX8_init "PorcelainWorks" ∈ pw_nw := in_nw (i := 133) (by decide +kernel) rfl
theorem kc_X10_41 : Cond.classLink RX10 41 RX5 ∈ gT := in_gT (i := 169) (by decide +kernel) rfl
theorem kn_X5 : Cond.instantiable RX5 3 ∈ gT := in_gT (i := 170) (by decide +kernel) rfl
theorem YX5_init : pw_YK yX5_init cX5_init 1 := ⟨in_gT (i := 173) (by decide +kernel) rfl, in_gT (i := 6) (by decide +kernel) rfl, by decide +kernel, in_gT (i := 172) (by decide +kernel) rfl, rfl, rfl⟩
theorem mn_X10_43 : Cond.methodLinkNest RX10 43 yX5_init "PorcelainWorks" ∈ pw_nw := in_nw (i := 171) (by decide +kernel) rfl
theorem kc_X10_48 : Cond.classLink RX10 48 RX9 ∈ gT := in_gT (i := 188) (by decide +kernel) rfl
theorem kn_X9 : Cond.instantiable RX9 8 ∈ gT := in_gT (i := 189) (by decide +kernel) rfl
theorem YX9_init : pw_YK yX9_init cX9_init 2 := ⟨in_gT (i := 192) (by decide +kernel) rfl, in_gT (i := 7) (by decide +kernel) rfl, by decide +kernel, in_gT (i := 191) (by decide +kernel) rfl, rfl, rfl⟩
theorem mn_X10_50 : Cond.methodLinkNest RX10 50 yX9_init "PorcelainWorks" ∈ pw_nw := in_nw (i := 190) (by decide +kernel) rfl
theorem kc_X10_55 : Cond.classLink RX10 55 RX3 ∈ gT := in_gT (i := 222) (by decide +kernel) rfl
theorem kn_X3 : Cond.instantiable RX3 6 ∈ gT := in_gT (i := 223) (by decide +kernel) rfl
theorem YX3_init : pw_YK yX3_init cX3_init 1 := ⟨in_gT (i := 226) (by decide +kernel) rfl, in_gT (i := 8) (by decide +kernel) rfl, by decide +kernel, in_gT (i := 225) (by decide +kernel) rfl, rfl, rfl⟩
theorem mn_X10_57 : Cond.methodLinkNest RX10 57 yX3_init "PorcelainWorks" ∈ pw_nw := in_nw (i := 224) (by decide +kernel) rfl
theorem kc_X10_62 : Cond.classLink RX10 62 RX4 ∈ gT := in_gT (i := 249) (by decide +kernel) rfl
theorem kn_X4 : Cond.instantiable RX4 1 ∈ gT := in_gT (i := 250) (by decide +kernel) rfl
theorem YX4_init : pw_YK yX4_init cX4_init 1 := ⟨in_gT (i := 253) (by decide +kernel) rfl, in_gT (i := 9) (by decide +kernel) rfl, by decide +kernel, in_gT (i := 252) (by decide +kernel) rfl, rfl, rfl⟩
theorem mn_X10_64 : Cond.methodLinkNest RX10 64 yX4_init "PorcelainWorks" ∈ pw_nw := in_nw (i := 251) (by decide +kernel) rfl
theorem kc_X10_69 : Cond.classLink RX10 69 RX7 ∈ gT := in_gT (i := 259) (by decide +kernel) rfl
theorem kn_X7 : Cond.instantiable RX7 11 ∈ gT := in_gT (i := 260) (by decide +kernel) rfl
theorem YX7_init : pw_YK yX7_init cX7_init 1 := ⟨in_gT (i := 263) (by decide +kernel) rfl, in_gT (i := 10) (by decide +kernel) rfl, by decide +kernel, in_gT (i := 262) (by decide +kernel) rfl, rfl, rfl⟩
theorem mn_X10_71 : Cond.methodLinkNest RX10 71 yX7_init "PorcelainWorks" ∈ pw_nw := in_nw (i := 261) (by decide +kernel) rfl
theorem kc_X10_76 : Cond.classLink RX10 76 RX2 ∈ gT := in_gT (i := 301) (by decide +kernel) rfl
theorem kn_X2 : Cond.instantiable RX2 4 ∈ gT := in_gT (i := 302) (by decide +kernel) rfl
theorem YX2_init : pw_YK yX2_init cX2_init 1 := ⟨in_gT (i := 305) (by decide +kernel) rfl, in_gT (i := 11) (by decide +kernel) rfl, by decide +kernel, in_gT (i := 304) (by decide +kernel) rfl, rfl, rfl⟩
theorem mn_X10_78 : Cond.methodLinkNest RX10 78 yX2_init "PorcelainWorks" ∈ pw_nw := in_nw (i := 303) (by decide +kernel) rfl
theorem YX10_init : pw_YK yX10_init cX10_init 1 := ⟨in_gT (i := 19) (by decide +kernel) rfl, in_gT (i := 1) (by decide +kernel) rfl, by decide +kernel, in_gT (i := 18) (by decide +kernel) rfl, rfl, rfl⟩
theorem YX11_init : pw_YK yX11_init cX11_init 2 := ⟨in_gT (i := 834) (by decide +kernel) rfl, in_gT (i := 12) (by decide +kernel) rfl, by decide +kernel, in_gT (i := 833) (by decide +kernel) rfl, rfl, rfl⟩
theorem kn_X10 : Cond.instantiable RX10 12 ∈ gT := in_gT (i := 16) (by decide +kernel) rfl
theorem kn_X11 : Cond.instantiable RX11 54 ∈ gT := in_gT (i := 831) (by decide +kernel) rfl
