theorem pw_out38 {x : Int32} (h0 : ¬ x = 0) (h1 : ¬ x = 1) (h2 : ¬ x = 2) (h3 : ¬ x = 3) (h4 : ¬ x = 4) (h5 : ¬ x = 5) (h6 : ¬ x = 6) (h7 : ¬ x = 7) (h8 : ¬ x = 8) (h9 : ¬ x = 9) (h10 : ¬ x = 10) (h11 : ¬ x = 11) (h12 : ¬ x = 12) (h13 : ¬ x = 13) (h14 : ¬ x = 14) (h15 : ¬ x = 15) (h16 : ¬ x = 16) (h17 : ¬ x = 17) (h18 : ¬ x = 18) (h19 : ¬ x = 19) (h20 : ¬ x = 20) (h21 : ¬ x = 21) (h22 : ¬ x = 22) (h23 : ¬ x = 23) (h24 : ¬ x = 24) (h25 : ¬ x = 25) (h26 : ¬ x = 26) (h27 : ¬ x = 27) (h28 : ¬ x = 28) (h29 : ¬ x = 29) (h30 : ¬ x = 30) (h31 : ¬ x = 31) (h32 : ¬ x = 32) (h33 : ¬ x = 33) (h34 : ¬ x = 34) (h35 : ¬ x = 35) (h36 : ¬ x = 36) (h37 : ¬ x = 37) (h38 : ¬ x = 38) : x.toInt < 0 ∨ 38 < x.toInt := by
  have n0 : x.toInt ≠ 0 := pw_ne h0
  have n1 : x.toInt ≠ 1 := pw_ne h1
  have n2 : x.toInt ≠ 2 := pw_ne h2
  have n3 : x.toInt ≠ 3 := pw_ne h3
  have n4 : x.toInt ≠ 4 := pw_ne h4
  have n5 : x.toInt ≠ 5 := pw_ne h5
  have n6 : x.toInt ≠ 6 := pw_ne h6
  have n7 : x.toInt ≠ 7 := pw_ne h7
  have n8 : x.toInt ≠ 8 := pw_ne h8
  have n9 : x.toInt ≠ 9 := pw_ne h9
  have n10 : x.toInt ≠ 10 := pw_ne h10
  have n11 : x.toInt ≠ 11 := pw_ne h11
  have n12 : x.toInt ≠ 12 := pw_ne h12
  have n13 : x.toInt ≠ 13 := pw_ne h13
  have n14 : x.toInt ≠ 14 := pw_ne h14
  have n15 : x.toInt ≠ 15 := pw_ne h15
  have n16 : x.toInt ≠ 16 := pw_ne h16
  have n17 : x.toInt ≠ 17 := pw_ne h17
  have n18 : x.toInt ≠ 18 := pw_ne h18
  have n19 : x.toInt ≠ 19 := pw_ne h19
  have n20 : x.toInt ≠ 20 := pw_ne h20
  have n21 : x.toInt ≠ 21 := pw_ne h21
  have n22 : x.toInt ≠ 22 := pw_ne h22
  have n23 : x.toInt ≠ 23 := pw_ne h23
  have n24 : x.toInt ≠ 24 := pw_ne h24
  have n25 : x.toInt ≠ 25 := pw_ne h25
  have n26 : x.toInt ≠ 26 := pw_ne h26
  have n27 : x.toInt ≠ 27 := pw_ne h27
  have n28 : x.toInt ≠ 28 := pw_ne h28
  have n29 : x.toInt ≠ 29 := pw_ne h29
  have n30 : x.toInt ≠ 30 := pw_ne h30
  have n31 : x.toInt ≠ 31 := pw_ne h31
  have n32 : x.toInt ≠ 32 := pw_ne h32
  have n33 : x.toInt ≠ 33 := pw_ne h33
  have n34 : x.toInt ≠ 34 := pw_ne h34
  have n35 : x.toInt ≠ 35 := pw_ne h35
  have n36 : x.toInt ≠ 36 := pw_ne h36
  have n37 : x.toInt ≠ 37 := pw_ne h37
  have n38 : x.toInt ≠ 38 := pw_ne h38
  omega
theorem YX10_paste : pw_YV yX10_paste cX10_paste 4 (some .int) 3 := ⟨in_gT (i := 362) (by decide +kernel) rfl, in_gT (i := 1) (by decide +kernel) rfl, by decide +kernel, in_gT (i := 360) (by decide +kernel) rfl, in_gT (i := 361) (by decide +kernel) rfl⟩
theorem ml_L_13 : Cond.methodLink RL 13 yX10_paste ∈ gT := in_gT (i := 359) (by decide +kernel) rfl
theorem YX11_paste : pw_YV yX11_paste cX11_paste 6 (some .int) 3 := ⟨in_gT (i := 1004) (by decide +kernel) rfl, in_gT (i := 12) (by decide +kernel) rfl, by decide +kernel, in_gT (i := 1002) (by decide +kernel) rfl, in_gT (i := 1003) (by decide +kernel) rfl⟩
theorem ml_L_17 : Cond.methodLink RL 17 yX11_paste ∈ gT := in_gT (i := 1001) (by decide +kernel) rfl
theorem YX10_batch : pw_YV yX10_batch cX10_batch 3 (some .int) 2 := ⟨in_gT (i := 383) (by decide +kernel) rfl, in_gT (i := 1) (by decide +kernel) rfl, by decide +kernel, in_gT (i := 381) (by decide +kernel) rfl, in_gT (i := 382) (by decide +kernel) rfl⟩
theorem ml_L_18 : Cond.methodLink RL 18 yX10_batch ∈ gT := in_gT (i := 380) (by decide +kernel) rfl
theorem YX11_batch : pw_YV yX11_batch cX11_batch 3 (some .int) 2 := ⟨in_gT (i := 1018) (by decide +kernel) rfl, in_gT (i := 12) (by decide +kernel) rfl, by decide +kernel, in_gT (i := 1016) (by decide +kernel) rfl, in_gT (i := 1017) (by decide +kernel) rfl⟩
theorem ml_L_22 : Cond.methodLink RL 22 yX11_batch ∈ gT := in_gT (i := 1015) (by decide +kernel) rfl
theorem YX10_days : pw_YV yX10_days cX10_days 2 (some .int) 1 := ⟨in_gT (i := 391) (by decide +kernel) rfl, in_gT (i := 1) (by decide +kernel) rfl, by decide +kernel, in_gT (i := 389) (by decide +kernel) rfl, in_gT (i := 390) (by decide +kernel) rfl⟩
theorem ml_L_23 : Cond.methodLink RL 23 yX10_days ∈ gT := in_gT (i := 388) (by decide +kernel) rfl
theorem YX11_days : pw_YV yX11_days cX11_days 3 (some .int) 1 := ⟨in_gT (i := 1022) (by decide +kernel) rfl, in_gT (i := 12) (by decide +kernel) rfl, by decide +kernel, in_gT (i := 1020) (by decide +kernel) rfl, in_gT (i := 1021) (by decide +kernel) rfl⟩
theorem ml_L_27 : Cond.methodLink RL 27 yX11_days ∈ gT := in_gT (i := 1019) (by decide +kernel) rfl
theorem YX10_piece : pw_YV yX10_piece cX10_piece 5 (some .int) 4 := ⟨in_gT (i := 412) (by decide +kernel) rfl, in_gT (i := 1) (by decide +kernel) rfl, by decide +kernel, in_gT (i := 410) (by decide +kernel) rfl, in_gT (i := 411) (by decide +kernel) rfl⟩
theorem ml_L_28 : Cond.methodLink RL 28 yX10_piece ∈ gT := in_gT (i := 409) (by decide +kernel) rfl
theorem YX11_piece : pw_YV yX11_piece cX11_piece 5 (some .int) 4 := ⟨in_gT (i := 1037) (by decide +kernel) rfl, in_gT (i := 12) (by decide +kernel) rfl, by decide +kernel, in_gT (i := 1035) (by decide +kernel) rfl, in_gT (i := 1036) (by decide +kernel) rfl⟩
theorem ml_L_32 : Cond.methodLink RL 32 yX11_piece ∈ gT := in_gT (i := 1034) (by decide +kernel) rfl
theorem YX10_place : pw_YV yX10_place cX10_place 4 (some .int) 3 := ⟨in_gT (i := 424) (by decide +kernel) rfl, in_gT (i := 1) (by decide +kernel) rfl, by decide +kernel, in_gT (i := 422) (by decide +kernel) rfl, in_gT (i := 423) (by decide +kernel) rfl⟩
theorem ml_L_33 : Cond.methodLink RL 33 yX10_place ∈ gT := in_gT (i := 421) (by decide +kernel) rfl
theorem YX11_place : pw_YV yX11_place cX11_place 6 (some .int) 3 := ⟨in_gT (i := 1041) (by decide +kernel) rfl, in_gT (i := 12) (by decide +kernel) rfl, by decide +kernel, in_gT (i := 1039) (by decide +kernel) rfl, in_gT (i := 1040) (by decide +kernel) rfl⟩
theorem ml_L_36 : Cond.methodLink RL 36 yX11_place ∈ gT := in_gT (i := 1038) (by decide +kernel) rfl
theorem YX10_wood : pw_YV yX10_wood cX10_wood 2 (some .int) 1 := ⟨in_gT (i := 440) (by decide +kernel) rfl, in_gT (i := 1) (by decide +kernel) rfl, by decide +kernel, in_gT (i := 438) (by decide +kernel) rfl, in_gT (i := 439) (by decide +kernel) rfl⟩
theorem ml_L_37 : Cond.methodLink RL 37 yX10_wood ∈ gT := in_gT (i := 437) (by decide +kernel) rfl
theorem YX11_wood : pw_YV yX11_wood cX11_wood 3 (some .int) 1 := ⟨in_gT (i := 1045) (by decide +kernel) rfl, in_gT (i := 12) (by decide +kernel) rfl, by decide +kernel, in_gT (i := 1043) (by decide +kernel) rfl, in_gT (i := 1044) (by decide +kernel) rfl⟩
theorem ml_L_40 : Cond.methodLink RL 40 yX11_wood ∈ gT := in_gT (i := 1042) (by decide +kernel) rfl
theorem YX10_clear : pw_YV yX10_clear cX10_clear 1 (some .int) 0 := ⟨in_gT (i := 448) (by decide +kernel) rfl, in_gT (i := 1) (by decide +kernel) rfl, by decide +kernel, in_gT (i := 446) (by decide +kernel) rfl, in_gT (i := 447) (by decide +kernel) rfl⟩
theorem ml_L_41 : Cond.methodLink RL 41 yX10_clear ∈ gT := in_gT (i := 445) (by decide +kernel) rfl
theorem YX11_clear : pw_YV yX11_clear cX11_clear 2 (some .int) 0 := ⟨in_gT (i := 1049) (by decide +kernel) rfl, in_gT (i := 12) (by decide +kernel) rfl, by decide +kernel, in_gT (i := 1047) (by decide +kernel) rfl, in_gT (i := 1048) (by decide +kernel) rfl⟩
theorem ml_L_45 : Cond.methodLink RL 45 yX11_clear ∈ gT := in_gT (i := 1046) (by decide +kernel) rfl
theorem YX10_peak : pw_YV yX10_peak cX10_peak 2 (some .int) 1 := ⟨in_gT (i := 456) (by decide +kernel) rfl, in_gT (i := 1) (by decide +kernel) rfl, by decide +kernel, in_gT (i := 454) (by decide +kernel) rfl, in_gT (i := 455) (by decide +kernel) rfl⟩
theorem ml_L_46 : Cond.methodLink RL 46 yX10_peak ∈ gT := in_gT (i := 453) (by decide +kernel) rfl
theorem YX11_peak : pw_YV yX11_peak cX11_peak 2 (some .int) 1 := ⟨in_gT (i := 1053) (by decide +kernel) rfl, in_gT (i := 12) (by decide +kernel) rfl, by decide +kernel, in_gT (i := 1051) (by decide +kernel) rfl, in_gT (i := 1052) (by decide +kernel) rfl⟩
theorem ml_L_49 : Cond.methodLink RL 49 yX11_peak ∈ gT := in_gT (i := 1050) (by decide +kernel) rfl
theorem YX10_heat : pw_YV yX10_heat cX10_heat 3 (some .int) 2 := ⟨in_gT (i := 475) (by decide +kernel) rfl, in_gT (i := 1) (by decide +kernel) rfl, by decide +kernel, in_gT (i := 473) (by decide +kernel) rfl, in_gT (i := 474) (by decide +kernel) rfl⟩
theorem ml_L_50 : Cond.methodLink RL 50 yX10_heat ∈ gT := in_gT (i := 472) (by decide +kernel) rfl
theorem YX11_heat : pw_YV yX11_heat cX11_heat 4 (some .int) 2 := ⟨in_gT (i := 1062) (by decide +kernel) rfl, in_gT (i := 12) (by decide +kernel) rfl, by decide +kernel, in_gT (i := 1060) (by decide +kernel) rfl, in_gT (i := 1061) (by decide +kernel) rfl⟩
theorem ml_L_53 : Cond.methodLink RL 53 yX11_heat ∈ gT := in_gT (i := 1059) (by decide +kernel) rfl
theorem YX10_stack : pw_YV yX10_stack cX10_stack 3 (some .int) 2 := ⟨in_gT (i := 479) (by decide +kernel) rfl, in_gT (i := 1) (by decide +kernel) rfl, by decide +kernel, in_gT (i := 477) (by decide +kernel) rfl, in_gT (i := 478) (by decide +kernel) rfl⟩
theorem ml_L_54 : Cond.methodLink RL 54 yX10_stack ∈ gT := in_gT (i := 476) (by decide +kernel) rfl
theorem YX11_stack : pw_YV yX11_stack cX11_stack 3 (some .int) 2 := ⟨in_gT (i := 1066) (by decide +kernel) rfl, in_gT (i := 12) (by decide +kernel) rfl, by decide +kernel, in_gT (i := 1064) (by decide +kernel) rfl, in_gT (i := 1065) (by decide +kernel) rfl⟩
theorem ml_L_57 : Cond.methodLink RL 57 yX11_stack ∈ gT := in_gT (i := 1063) (by decide +kernel) rfl
theorem YX10_unstack : pw_YV yX10_unstack cX10_unstack 3 (some .int) 1 := ⟨in_gT (i := 495) (by decide +kernel) rfl, in_gT (i := 1) (by decide +kernel) rfl, by decide +kernel, in_gT (i := 493) (by decide +kernel) rfl, in_gT (i := 494) (by decide +kernel) rfl⟩
theorem ml_L_58 : Cond.methodLink RL 58 yX10_unstack ∈ gT := in_gT (i := 492) (by decide +kernel) rfl
theorem YX11_unstack : pw_YV yX11_unstack cX11_unstack 2 (some .int) 1 := ⟨in_gT (i := 1078) (by decide +kernel) rfl, in_gT (i := 12) (by decide +kernel) rfl, by decide +kernel, in_gT (i := 1076) (by decide +kernel) rfl, in_gT (i := 1077) (by decide +kernel) rfl⟩
theorem ml_L_61 : Cond.methodLink RL 61 yX11_unstack ∈ gT := in_gT (i := 1075) (by decide +kernel) rfl
theorem YX10_fire : pw_YV yX10_fire cX10_fire 4 (some .int) 0 := ⟨in_gT (i := 503) (by decide +kernel) rfl, in_gT (i := 1) (by decide +kernel) rfl, by decide +kernel, in_gT (i := 501) (by decide +kernel) rfl, in_gT (i := 502) (by decide +kernel) rfl⟩
theorem ml_L_62 : Cond.methodLink RL 62 yX10_fire ∈ gT := in_gT (i := 500) (by decide +kernel) rfl
theorem YX11_fire : pw_YV yX11_fire cX11_fire 4 (some .int) 0 := ⟨in_gT (i := 1086) (by decide +kernel) rfl, in_gT (i := 12) (by decide +kernel) rfl, by decide +kernel, in_gT (i := 1084) (by decide +kernel) rfl, in_gT (i := 1085) (by decide +kernel) rfl⟩
theorem ml_L_65 : Cond.methodLink RL 65 yX11_fire ∈ gT := in_gT (i := 1083) (by decide +kernel) rfl
theorem YX10_want : pw_YV yX10_want cX10_want 3 (some .int) 2 := ⟨in_gT (i := 531) (by decide +kernel) rfl, in_gT (i := 1) (by decide +kernel) rfl, by decide +kernel, in_gT (i := 529) (by decide +kernel) rfl, in_gT (i := 530) (by decide +kernel) rfl⟩
theorem ml_L_66 : Cond.methodLink RL 66 yX10_want ∈ gT := in_gT (i := 528) (by decide +kernel) rfl
theorem YX11_want : pw_YV yX11_want cX11_want 4 (some .int) 2 := ⟨in_gT (i := 1099) (by decide +kernel) rfl, in_gT (i := 12) (by decide +kernel) rfl, by decide +kernel, in_gT (i := 1097) (by decide +kernel) rfl, in_gT (i := 1098) (by decide +kernel) rfl⟩
theorem ml_L_69 : Cond.methodLink RL 69 yX11_want ∈ gT := in_gT (i := 1096) (by decide +kernel) rfl
theorem YX10_best : pw_YV yX10_best cX10_best 1 (some .int) 0 := ⟨in_gT (i := 539) (by decide +kernel) rfl, in_gT (i := 1) (by decide +kernel) rfl, by decide +kernel, in_gT (i := 537) (by decide +kernel) rfl, in_gT (i := 538) (by decide +kernel) rfl⟩
theorem ml_L_70 : Cond.methodLink RL 70 yX10_best ∈ gT := in_gT (i := 536) (by decide +kernel) rfl
theorem YX11_best : pw_YV yX11_best cX11_best 1 (some .int) 0 := ⟨in_gT (i := 1103) (by decide +kernel) rfl, in_gT (i := 12) (by decide +kernel) rfl, by decide +kernel, in_gT (i := 1101) (by decide +kernel) rfl, in_gT (i := 1102) (by decide +kernel) rfl⟩
theorem ml_L_73 : Cond.methodLink RL 73 yX11_best ∈ gT := in_gT (i := 1100) (by decide +kernel) rfl
theorem YX10_bestPlace : pw_YV yX10_bestPlace cX10_bestPlace 2 (some .int) 1 := ⟨in_gT (i := 576) (by decide +kernel) rfl, in_gT (i := 1) (by decide +kernel) rfl, by decide +kernel, in_gT (i := 574) (by decide +kernel) rfl, in_gT (i := 575) (by decide +kernel) rfl⟩
theorem ml_L_74 : Cond.methodLink RL 74 yX10_bestPlace ∈ gT := in_gT (i := 573) (by decide +kernel) rfl
theorem YX11_bestPlace : pw_YV yX11_bestPlace cX11_bestPlace 3 (some .int) 1 := ⟨in_gT (i := 1115) (by decide +kernel) rfl, in_gT (i := 12) (by decide +kernel) rfl, by decide +kernel, in_gT (i := 1113) (by decide +kernel) rfl, in_gT (i := 1114) (by decide +kernel) rfl⟩
theorem ml_L_77 : Cond.methodLink RL 77 yX11_bestPlace ∈ gT := in_gT (i := 1112) (by decide +kernel) rfl
theorem YX10_lay : pw_YV yX10_lay cX10_lay 4 (some .int) 0 := ⟨in_gT (i := 589) (by decide +kernel) rfl, in_gT (i := 1) (by decide +kernel) rfl, by decide +kernel, in_gT (i := 587) (by decide +kernel) rfl, in_gT (i := 588) (by decide +kernel) rfl⟩
theorem ml_L_78 : Cond.methodLink RL 78 yX10_lay ∈ gT := in_gT (i := 586) (by decide +kernel) rfl
theorem YX11_lay : pw_YV yX11_lay cX11_lay 4 (some .int) 0 := ⟨in_gT (i := 1119) (by decide +kernel) rfl, in_gT (i := 12) (by decide +kernel) rfl, by decide +kernel, in_gT (i := 1117) (by decide +kernel) rfl, in_gT (i := 1118) (by decide +kernel) rfl⟩
theorem ml_L_81 : Cond.methodLink RL 81 yX11_lay ∈ gT := in_gT (i := 1116) (by decide +kernel) rfl
theorem YX10_colour : pw_YV yX10_colour cX10_colour 4 (some .int) 3 := ⟨in_gT (i := 597) (by decide +kernel) rfl, in_gT (i := 1) (by decide +kernel) rfl, by decide +kernel, in_gT (i := 595) (by decide +kernel) rfl, in_gT (i := 596) (by decide +kernel) rfl⟩
theorem ml_L_82 : Cond.methodLink RL 82 yX10_colour ∈ gT := in_gT (i := 594) (by decide +kernel) rfl
theorem YX11_colour : pw_YV yX11_colour cX11_colour 4 (some .int) 3 := ⟨in_gT (i := 1123) (by decide +kernel) rfl, in_gT (i := 12) (by decide +kernel) rfl, by decide +kernel, in_gT (i := 1121) (by decide +kernel) rfl, in_gT (i := 1122) (by decide +kernel) rfl⟩
theorem ml_L_85 : Cond.methodLink RL 85 yX11_colour ∈ gT := in_gT (i := 1120) (by decide +kernel) rfl
theorem YX10_fires : pw_YV yX10_fires cX10_fires 2 (some .int) 1 := ⟨in_gT (i := 601) (by decide +kernel) rfl, in_gT (i := 1) (by decide +kernel) rfl, by decide +kernel, in_gT (i := 599) (by decide +kernel) rfl, in_gT (i := 600) (by decide +kernel) rfl⟩
theorem ml_L_86 : Cond.methodLink RL 86 yX10_fires ∈ gT := in_gT (i := 598) (by decide +kernel) rfl
theorem YX11_fires : pw_YV yX11_fires cX11_fires 2 (some .int) 1 := ⟨in_gT (i := 1127) (by decide +kernel) rfl, in_gT (i := 12) (by decide +kernel) rfl, by decide +kernel, in_gT (i := 1125) (by decide +kernel) rfl, in_gT (i := 1126) (by decide +kernel) rfl⟩
theorem ml_L_89 : Cond.methodLink RL 89 yX11_fires ∈ gT := in_gT (i := 1124) (by decide +kernel) rfl
theorem YX10_fireHeat : pw_YV yX10_fireHeat cX10_fireHeat 3 (some .int) 2 := ⟨in_gT (i := 621) (by decide +kernel) rfl, in_gT (i := 1) (by decide +kernel) rfl, by decide +kernel, in_gT (i := 619) (by decide +kernel) rfl, in_gT (i := 620) (by decide +kernel) rfl⟩
theorem ml_L_90 : Cond.methodLink RL 90 yX10_fireHeat ∈ gT := in_gT (i := 618) (by decide +kernel) rfl
theorem YX11_fireHeat : pw_YV yX11_fireHeat cX11_fireHeat 3 (some .int) 2 := ⟨in_gT (i := 1135) (by decide +kernel) rfl, in_gT (i := 12) (by decide +kernel) rfl, by decide +kernel, in_gT (i := 1133) (by decide +kernel) rfl, in_gT (i := 1134) (by decide +kernel) rfl⟩
theorem ml_L_93 : Cond.methodLink RL 93 yX11_fireHeat ∈ gT := in_gT (i := 1132) (by decide +kernel) rfl
theorem YX10_skill : pw_YV yX10_skill cX10_skill 3 (some .int) 2 := ⟨in_gT (i := 625) (by decide +kernel) rfl, in_gT (i := 1) (by decide +kernel) rfl, by decide +kernel, in_gT (i := 623) (by decide +kernel) rfl, in_gT (i := 624) (by decide +kernel) rfl⟩
theorem ml_L_94 : Cond.methodLink RL 94 yX10_skill ∈ gT := in_gT (i := 622) (by decide +kernel) rfl
theorem YX11_skill : pw_YV yX11_skill cX11_skill 5 (some .int) 2 := ⟨in_gT (i := 1139) (by decide +kernel) rfl, in_gT (i := 12) (by decide +kernel) rfl, by decide +kernel, in_gT (i := 1137) (by decide +kernel) rfl, in_gT (i := 1138) (by decide +kernel) rfl⟩
theorem ml_L_97 : Cond.methodLink RL 97 yX11_skill ∈ gT := in_gT (i := 1136) (by decide +kernel) rfl
theorem YX10_job : pw_YV yX10_job cX10_job 2 (some .int) 1 := ⟨in_gT (i := 633) (by decide +kernel) rfl, in_gT (i := 1) (by decide +kernel) rfl, by decide +kernel, in_gT (i := 631) (by decide +kernel) rfl, in_gT (i := 632) (by decide +kernel) rfl⟩
theorem ml_L_98 : Cond.methodLink RL 98 yX10_job ∈ gT := in_gT (i := 630) (by decide +kernel) rfl
theorem YX11_job : pw_YV yX11_job cX11_job 3 (some .int) 1 := ⟨in_gT (i := 1143) (by decide +kernel) rfl, in_gT (i := 12) (by decide +kernel) rfl, by decide +kernel, in_gT (i := 1141) (by decide +kernel) rfl, in_gT (i := 1142) (by decide +kernel) rfl⟩
theorem ml_L_101 : Cond.methodLink RL 101 yX11_job ∈ gT := in_gT (i := 1140) (by decide +kernel) rfl
theorem YX10_least : pw_YV yX10_least cX10_least 1 (some .int) 0 := ⟨in_gT (i := 641) (by decide +kernel) rfl, in_gT (i := 1) (by decide +kernel) rfl, by decide +kernel, in_gT (i := 639) (by decide +kernel) rfl, in_gT (i := 640) (by decide +kernel) rfl⟩
theorem ml_L_102 : Cond.methodLink RL 102 yX10_least ∈ gT := in_gT (i := 638) (by decide +kernel) rfl
theorem YX11_least : pw_YV yX11_least cX11_least 1 (some .int) 0 := ⟨in_gT (i := 1147) (by decide +kernel) rfl, in_gT (i := 12) (by decide +kernel) rfl, by decide +kernel, in_gT (i := 1145) (by decide +kernel) rfl, in_gT (i := 1146) (by decide +kernel) rfl⟩
theorem ml_L_105 : Cond.methodLink RL 105 yX11_least ∈ gT := in_gT (i := 1144) (by decide +kernel) rfl
theorem YX10_painter : pw_YV yX10_painter cX10_painter 2 (some .int) 1 := ⟨in_gT (i := 661) (by decide +kernel) rfl, in_gT (i := 1) (by decide +kernel) rfl, by decide +kernel, in_gT (i := 659) (by decide +kernel) rfl, in_gT (i := 660) (by decide +kernel) rfl⟩
theorem ml_L_106 : Cond.methodLink RL 106 yX10_painter ∈ gT := in_gT (i := 658) (by decide +kernel) rfl
theorem YX11_painter : pw_YV yX11_painter cX11_painter 3 (some .int) 1 := ⟨in_gT (i := 1155) (by decide +kernel) rfl, in_gT (i := 12) (by decide +kernel) rfl, by decide +kernel, in_gT (i := 1153) (by decide +kernel) rfl, in_gT (i := 1154) (by decide +kernel) rfl⟩
theorem ml_L_109 : Cond.methodLink RL 109 yX11_painter ∈ gT := in_gT (i := 1152) (by decide +kernel) rfl
theorem YX10_paint : pw_YV yX10_paint cX10_paint 2 (some .int) 1 := ⟨in_gT (i := 665) (by decide +kernel) rfl, in_gT (i := 1) (by decide +kernel) rfl, by decide +kernel, in_gT (i := 663) (by decide +kernel) rfl, in_gT (i := 664) (by decide +kernel) rfl⟩
theorem ml_L_110 : Cond.methodLink RL 110 yX10_paint ∈ gT := in_gT (i := 662) (by decide +kernel) rfl
theorem YX11_paint : pw_YV yX11_paint cX11_paint 2 (some .int) 1 := ⟨in_gT (i := 1159) (by decide +kernel) rfl, in_gT (i := 12) (by decide +kernel) rfl, by decide +kernel, in_gT (i := 1157) (by decide +kernel) rfl, in_gT (i := 1158) (by decide +kernel) rfl⟩
theorem ml_L_113 : Cond.methodLink RL 113 yX11_paint ∈ gT := in_gT (i := 1156) (by decide +kernel) rfl
theorem YX10_service : pw_YV yX10_service cX10_service 5 (some .int) 3 := ⟨in_gT (i := 669) (by decide +kernel) rfl, in_gT (i := 1) (by decide +kernel) rfl, by decide +kernel, in_gT (i := 667) (by decide +kernel) rfl, in_gT (i := 668) (by decide +kernel) rfl⟩
theorem ml_L_114 : Cond.methodLink RL 114 yX10_service ∈ gT := in_gT (i := 666) (by decide +kernel) rfl
theorem YX11_service : pw_YV yX11_service cX11_service 5 (some .int) 3 := ⟨in_gT (i := 1163) (by decide +kernel) rfl, in_gT (i := 12) (by decide +kernel) rfl, by decide +kernel, in_gT (i := 1161) (by decide +kernel) rfl, in_gT (i := 1162) (by decide +kernel) rfl⟩
theorem ml_L_117 : Cond.methodLink RL 117 yX11_service ∈ gT := in_gT (i := 1160) (by decide +kernel) rfl
theorem YX10_matched : pw_YV yX10_matched cX10_matched 6 (some .int) 4 := ⟨in_gT (i := 700) (by decide +kernel) rfl, in_gT (i := 1) (by decide +kernel) rfl, by decide +kernel, in_gT (i := 698) (by decide +kernel) rfl, in_gT (i := 699) (by decide +kernel) rfl⟩
theorem ml_L_118 : Cond.methodLink RL 118 yX10_matched ∈ gT := in_gT (i := 697) (by decide +kernel) rfl
theorem YX11_matched : pw_YV yX11_matched cX11_matched 8 (some .int) 4 := ⟨in_gT (i := 1179) (by decide +kernel) rfl, in_gT (i := 12) (by decide +kernel) rfl, by decide +kernel, in_gT (i := 1177) (by decide +kernel) rfl, in_gT (i := 1178) (by decide +kernel) rfl⟩
theorem ml_L_121 : Cond.methodLink RL 121 yX11_matched ∈ gT := in_gT (i := 1176) (by decide +kernel) rfl
theorem YX10_sell : pw_YV yX10_sell cX10_sell 6 (some .int) 3 := ⟨in_gT (i := 708) (by decide +kernel) rfl, in_gT (i := 1) (by decide +kernel) rfl, by decide +kernel, in_gT (i := 706) (by decide +kernel) rfl, in_gT (i := 707) (by decide +kernel) rfl⟩
theorem ml_L_122 : Cond.methodLink RL 122 yX10_sell ∈ gT := in_gT (i := 705) (by decide +kernel) rfl
theorem YX11_sell : pw_YV yX11_sell cX11_sell 6 (some .int) 3 := ⟨in_gT (i := 1183) (by decide +kernel) rfl, in_gT (i := 12) (by decide +kernel) rfl, by decide +kernel, in_gT (i := 1181) (by decide +kernel) rfl, in_gT (i := 1182) (by decide +kernel) rfl⟩
theorem ml_L_125 : Cond.methodLink RL 125 yX11_sell ∈ gT := in_gT (i := 1180) (by decide +kernel) rfl
theorem YX10_chance : pw_YV yX10_chance cX10_chance 4 (some .int) 3 := ⟨in_gT (i := 712) (by decide +kernel) rfl, in_gT (i := 1) (by decide +kernel) rfl, by decide +kernel, in_gT (i := 710) (by decide +kernel) rfl, in_gT (i := 711) (by decide +kernel) rfl⟩
theorem ml_L_126 : Cond.methodLink RL 126 yX10_chance ∈ gT := in_gT (i := 709) (by decide +kernel) rfl
theorem YX11_chance : pw_YV yX11_chance cX11_chance 5 (some .int) 3 := ⟨in_gT (i := 1187) (by decide +kernel) rfl, in_gT (i := 12) (by decide +kernel) rfl, by decide +kernel, in_gT (i := 1185) (by decide +kernel) rfl, in_gT (i := 1186) (by decide +kernel) rfl⟩
theorem ml_L_129 : Cond.methodLink RL 129 yX11_chance ∈ gT := in_gT (i := 1184) (by decide +kernel) rfl
theorem YX10_make : pw_YV yX10_make cX10_make 4 (some .int) 3 := ⟨in_gT (i := 733) (by decide +kernel) rfl, in_gT (i := 1) (by decide +kernel) rfl, by decide +kernel, in_gT (i := 731) (by decide +kernel) rfl, in_gT (i := 732) (by decide +kernel) rfl⟩
theorem ml_L_130 : Cond.methodLink RL 130 yX10_make ∈ gT := in_gT (i := 730) (by decide +kernel) rfl
theorem YX11_make : pw_YV yX11_make cX11_make 5 (some .int) 3 := ⟨in_gT (i := 1205) (by decide +kernel) rfl, in_gT (i := 12) (by decide +kernel) rfl, by decide +kernel, in_gT (i := 1203) (by decide +kernel) rfl, in_gT (i := 1204) (by decide +kernel) rfl⟩
theorem ml_L_133 : Cond.methodLink RL 133 yX11_make ∈ gT := in_gT (i := 1202) (by decide +kernel) rfl
theorem YX10_see : pw_YV yX10_see cX10_see 3 (some .int) 2 := ⟨in_gT (i := 742) (by decide +kernel) rfl, in_gT (i := 1) (by decide +kernel) rfl, by decide +kernel, in_gT (i := 740) (by decide +kernel) rfl, in_gT (i := 741) (by decide +kernel) rfl⟩
theorem ml_L_134 : Cond.methodLink RL 134 yX10_see ∈ gT := in_gT (i := 739) (by decide +kernel) rfl
theorem YX11_see : pw_YV yX11_see cX11_see 4 (some .int) 2 := ⟨in_gT (i := 1209) (by decide +kernel) rfl, in_gT (i := 12) (by decide +kernel) rfl, by decide +kernel, in_gT (i := 1207) (by decide +kernel) rfl, in_gT (i := 1208) (by decide +kernel) rfl⟩
theorem ml_L_137 : Cond.methodLink RL 137 yX11_see ∈ gT := in_gT (i := 1206) (by decide +kernel) rfl
theorem YX10_talk : pw_YV yX10_talk cX10_talk 3 (some .int) 2 := ⟨in_gT (i := 750) (by decide +kernel) rfl, in_gT (i := 1) (by decide +kernel) rfl, by decide +kernel, in_gT (i := 748) (by decide +kernel) rfl, in_gT (i := 749) (by decide +kernel) rfl⟩
theorem ml_L_138 : Cond.methodLink RL 138 yX10_talk ∈ gT := in_gT (i := 747) (by decide +kernel) rfl
theorem YX11_talk : pw_YV yX11_talk cX11_talk 4 (some .int) 2 := ⟨in_gT (i := 1213) (by decide +kernel) rfl, in_gT (i := 12) (by decide +kernel) rfl, by decide +kernel, in_gT (i := 1211) (by decide +kernel) rfl, in_gT (i := 1212) (by decide +kernel) rfl⟩
theorem ml_L_141 : Cond.methodLink RL 141 yX11_talk ∈ gT := in_gT (i := 1210) (by decide +kernel) rfl
theorem YX10_knows : pw_YV yX10_knows cX10_knows 2 (some .int) 1 := ⟨in_gT (i := 762) (by decide +kernel) rfl, in_gT (i := 1) (by decide +kernel) rfl, by decide +kernel, in_gT (i := 760) (by decide +kernel) rfl, in_gT (i := 761) (by decide +kernel) rfl⟩
theorem ml_L_142 : Cond.methodLink RL 142 yX10_knows ∈ gT := in_gT (i := 759) (by decide +kernel) rfl
theorem YX11_knows : pw_YV yX11_knows cX11_knows 3 (some .int) 1 := ⟨in_gT (i := 1217) (by decide +kernel) rfl, in_gT (i := 12) (by decide +kernel) rfl, by decide +kernel, in_gT (i := 1215) (by decide +kernel) rfl, in_gT (i := 1216) (by decide +kernel) rfl⟩
theorem ml_L_145 : Cond.methodLink RL 145 yX11_knows ∈ gT := in_gT (i := 1214) (by decide +kernel) rfl
theorem YX10_joined : pw_YV yX10_joined cX10_joined 1 (some .int) 0 := ⟨in_gT (i := 790) (by decide +kernel) rfl, in_gT (i := 1) (by decide +kernel) rfl, by decide +kernel, in_gT (i := 788) (by decide +kernel) rfl, in_gT (i := 789) (by decide +kernel) rfl⟩
theorem ml_L_146 : Cond.methodLink RL 146 yX10_joined ∈ gT := in_gT (i := 787) (by decide +kernel) rfl
theorem YX11_joined : pw_YV yX11_joined cX11_joined 1 (some .int) 0 := ⟨in_gT (i := 1229) (by decide +kernel) rfl, in_gT (i := 12) (by decide +kernel) rfl, by decide +kernel, in_gT (i := 1227) (by decide +kernel) rfl, in_gT (i := 1228) (by decide +kernel) rfl⟩
theorem ml_L_149 : Cond.methodLink RL 149 yX11_joined ∈ gT := in_gT (i := 1226) (by decide +kernel) rfl
theorem YX10_leak : pw_YV yX10_leak cX10_leak 1 (some .int) 0 := ⟨in_gT (i := 794) (by decide +kernel) rfl, in_gT (i := 1) (by decide +kernel) rfl, by decide +kernel, in_gT (i := 792) (by decide +kernel) rfl, in_gT (i := 793) (by decide +kernel) rfl⟩
theorem ml_L_150 : Cond.methodLink RL 150 yX10_leak ∈ gT := in_gT (i := 791) (by decide +kernel) rfl
theorem YX11_leak : pw_YV yX11_leak cX11_leak 2 (some .int) 0 := ⟨in_gT (i := 1233) (by decide +kernel) rfl, in_gT (i := 12) (by decide +kernel) rfl, by decide +kernel, in_gT (i := 1231) (by decide +kernel) rfl, in_gT (i := 1232) (by decide +kernel) rfl⟩
theorem ml_L_153 : Cond.methodLink RL 153 yX11_leak ∈ gT := in_gT (i := 1230) (by decide +kernel) rfl
theorem YX10_debt : pw_YV yX10_debt cX10_debt 3 (some .int) 2 := ⟨in_gT (i := 803) (by decide +kernel) rfl, in_gT (i := 1) (by decide +kernel) rfl, by decide +kernel, in_gT (i := 801) (by decide +kernel) rfl, in_gT (i := 802) (by decide +kernel) rfl⟩
theorem ml_L_154 : Cond.methodLink RL 154 yX10_debt ∈ gT := in_gT (i := 800) (by decide +kernel) rfl
theorem YX11_debt : pw_YV yX11_debt cX11_debt 3 (some .int) 2 := ⟨in_gT (i := 1237) (by decide +kernel) rfl, in_gT (i := 12) (by decide +kernel) rfl, by decide +kernel, in_gT (i := 1235) (by decide +kernel) rfl, in_gT (i := 1236) (by decide +kernel) rfl⟩
theorem ml_L_157 : Cond.methodLink RL 157 yX11_debt ∈ gT := in_gT (i := 1234) (by decide +kernel) rfl
theorem YX10_pay : pw_YV yX10_pay cX10_pay 3 (some .int) 2 := ⟨in_gT (i := 812) (by decide +kernel) rfl, in_gT (i := 1) (by decide +kernel) rfl, by decide +kernel, in_gT (i := 810) (by decide +kernel) rfl, in_gT (i := 811) (by decide +kernel) rfl⟩
theorem ml_L_158 : Cond.methodLink RL 158 yX10_pay ∈ gT := in_gT (i := 809) (by decide +kernel) rfl
theorem YX11_pay : pw_YV yX11_pay cX11_pay 4 (some .int) 2 := ⟨in_gT (i := 1242) (by decide +kernel) rfl, in_gT (i := 12) (by decide +kernel) rfl, by decide +kernel, in_gT (i := 1240) (by decide +kernel) rfl, in_gT (i := 1241) (by decide +kernel) rfl⟩
theorem ml_L_161 : Cond.methodLink RL 161 yX11_pay ∈ gT := in_gT (i := 1239) (by decide +kernel) rfl
theorem YX10_owed : pw_YV yX10_owed cX10_owed 3 (some .int) 2 := ⟨in_gT (i := 816) (by decide +kernel) rfl, in_gT (i := 1) (by decide +kernel) rfl, by decide +kernel, in_gT (i := 814) (by decide +kernel) rfl, in_gT (i := 815) (by decide +kernel) rfl⟩
theorem ml_L_162 : Cond.methodLink RL 162 yX10_owed ∈ gT := in_gT (i := 813) (by decide +kernel) rfl
theorem YX11_owed : pw_YV yX11_owed cX11_owed 6 (some .int) 2 := ⟨in_gT (i := 1249) (by decide +kernel) rfl, in_gT (i := 12) (by decide +kernel) rfl, by decide +kernel, in_gT (i := 1247) (by decide +kernel) rfl, in_gT (i := 1248) (by decide +kernel) rfl⟩
theorem ml_L_165 : Cond.methodLink RL 165 yX11_owed ∈ gT := in_gT (i := 1246) (by decide +kernel) rfl
theorem YX10_pieceOf : pw_YV yX10_pieceOf cX10_pieceOf 3 (some .int) 2 := ⟨in_gT (i := 821) (by decide +kernel) rfl, in_gT (i := 1) (by decide +kernel) rfl, by decide +kernel, in_gT (i := 819) (by decide +kernel) rfl, in_gT (i := 820) (by decide +kernel) rfl⟩
theorem ml_L_166 : Cond.methodLink RL 166 yX10_pieceOf ∈ gT := in_gT (i := 818) (by decide +kernel) rfl
theorem YX11_pieceOf : pw_YV yX11_pieceOf cX11_pieceOf 3 (some .int) 2 := ⟨in_gT (i := 1253) (by decide +kernel) rfl, in_gT (i := 12) (by decide +kernel) rfl, by decide +kernel, in_gT (i := 1251) (by decide +kernel) rfl, in_gT (i := 1252) (by decide +kernel) rfl⟩
theorem ml_L_169 : Cond.methodLink RL 169 yX11_pieceOf ∈ gT := in_gT (i := 1250) (by decide +kernel) rfl
theorem YX10_count : pw_YV yX10_count cX10_count 2 (some .int) 1 := ⟨in_gT (i := 825) (by decide +kernel) rfl, in_gT (i := 1) (by decide +kernel) rfl, by decide +kernel, in_gT (i := 823) (by decide +kernel) rfl, in_gT (i := 824) (by decide +kernel) rfl⟩
theorem ml_L_170 : Cond.methodLink RL 170 yX10_count ∈ gT := in_gT (i := 822) (by decide +kernel) rfl
theorem YX11_count : pw_YV yX11_count cX11_count 4 (some .int) 1 := ⟨in_gT (i := 1257) (by decide +kernel) rfl, in_gT (i := 12) (by decide +kernel) rfl, by decide +kernel, in_gT (i := 1255) (by decide +kernel) rfl, in_gT (i := 1256) (by decide +kernel) rfl⟩
theorem ml_L_173 : Cond.methodLink RL 173 yX11_count ∈ gT := in_gT (i := 1254) (by decide +kernel) rfl
theorem kc_L_7 : Cond.classLink RL 7 RX10 ∈ gT := in_gT (i := 15) (by decide +kernel) rfl
theorem kc_L_10 : Cond.classLink RL 10 RX11 ∈ gT := in_gT (i := 830) (by decide +kernel) rfl
theorem ml_L_9 : Cond.methodLink RL 9 yX10_init ∈ gT := in_gT (i := 17) (by decide +kernel) rfl
theorem ml_L_12 : Cond.methodLink RL 12 yX11_init ∈ gT := in_gT (i := 832) (by decide +kernel) rfl
theorem lst_FIRST_TRAITS : Cond.laysStatic "PorcelainWorks" "FIRST_TRAITS" "[I" ∈ lw_tbl := List.mem_append_right _ (List.mem_of_getElem? (i := 30) (by decide +kernel))
theorem lst_FIRST_PLACE_TRAITS : Cond.laysStatic "PorcelainWorks" "FIRST_PLACE_TRAITS" "[I" ∈ lw_tbl := List.mem_append_right _ (List.mem_of_getElem? (i := 100) (by decide +kernel))
theorem lst_GREATEST_TRAITS : Cond.laysStatic "PorcelainWorks" "GREATEST_TRAITS" "[I" ∈ lw_tbl := List.mem_append_right _ (List.mem_of_getElem? (i := 371) (by decide +kernel))
theorem lst_LEAST_PLACE_TRAITS : Cond.laysStatic "PorcelainWorks" "LEAST_PLACE_TRAITS" "[I" ∈ lw_tbl := List.mem_append_right _ (List.mem_of_getElem? (i := 426) (by decide +kernel))
theorem lst_GREATEST_PLACE_TRAITS : Cond.laysStatic "PorcelainWorks" "GREATEST_PLACE_TRAITS" "[I" ∈ lw_tbl := List.mem_append_right _ (List.mem_of_getElem? (i := 428) (by decide +kernel))
