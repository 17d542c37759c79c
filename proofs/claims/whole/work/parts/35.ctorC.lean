set_option maxRecDepth 100000 in
set_option maxHeartbeats 4000000 in
theorem wX10_init_b122 {p : Program} {l : Launch} {e : Env} {R : Room} {s : State} {m : MethodId} {args : Array Value} {below : List Frame} {meth : Method} {c : Code} {D : va_G} {cI cZ : ClassId} {ad : Nat → Nat} {A : Nat → Prop} {z : Int32 × St} {cells slots : Nat} (hX : pw_X A s) (C : pw_C p s m args meth c yX10_init.cls cX10_init 1 none D cI cZ) : ∀  (σ : St) (H : Heap) (locs : List Loc) (ls : Array Slot), pw_H D (pw_w shC cI cZ ad σ) A s.heap H locs → lv_has ls 1 [(0, .ref (ad 0))] → fX10_init_b122  σ = some z → W p l e R s m args below meth c H locs cells slots (pw_QK below args s D cI cZ shC z.2 (ad 0) A cells slots) (F0 m 122 ls []) := by
  obtain ⟨hx, hb, hr, hts, hown, hlk, hml, hK, hN⟩ := id C
  intro σ H locs ls hw hl h
  unfold fX10_init_b122 at h
  refine lv_aload_n hx hb dX10_init_122 rfl (lv_at hl 0 rfl) ?_
  refine lv_iconst (v := 0) hx hb dX10_init_123 (by decide) ?_
  refine r_put C hw qC_0 clsX10 11 rfl (by decide) fl_X10_83 dX10_init_124 rfl rfl rfl h (fun σ1 H locs hw h => ?_)
  exact r_kret C hw dX10_init_127 h
set_option maxRecDepth 100000 in
set_option maxHeartbeats 4000000 in
theorem kX10_init (l : Launch) (D : va_G) (cI cZ : ClassId) (zX0 : Int32 × St) (hX0 : fX0_init_b36 (fun _ _ => 0) = some zX0) (zX6 : Int32 × St) (hX6 : fX6_init_b60 (fun _ _ => 0) = some zX6) (zX1 : Int32 × St) (hX1 : fX1_init_b52 (fun _ _ => 0) = some zX1) (zX8 : Int32 × St) (hX8 : fX8_init_b68 (fun _ _ => 0) = some zX8) (zX5 : Int32 × St) (hX5 : fX5_init_b28 (fun _ _ => 0) = some zX5) (zX9 : Int32 × St) (hX9 : fX9_init_b42 (fun _ _ => 0) = some zX9) (zX3 : Int32 × St) (hX3 : fX3_init_b28 (fun _ _ => 0) = some zX3) (zX4 : Int32 × St) (hX4 : fX4_init_b13 (fun _ _ => 0) = some zX4) (zX7 : Int32 × St) (hX7 : fX7_init_b66 (fun _ _ => 0) = some zX7) (zX2 : Int32 × St) (hX2 : fX2_init_b28 (fun _ _ => 0) = some zX2) (z : Int32 × St) (h : fX10_init_b122 (pw_s0 zX0 zX6 zX1 zX8 zX5 zX9 zX3 zX4 zX7 zX2) = some z) : pw_MK l D cI cZ yX10_init cX10_init 1 (pw_rk 2 59 1642) 59 1642 10 [.null, .null, .null, .null, .null, .null, .null, .null, .null, .null, .null, .int 0] shC z.2 := by
  refine pw_ofK (by decide) rfl (by decide) ?_
  intro h0 p e s m args below meth c A C hin hX hw ls hl
  obtain ⟨hx, hb, hr, hts, hown, hlk, hml, hK, hN⟩ := id C
  have hlen : ([.null, .null, .null, .null, .null, .null, .null, .null, .null, .null, .null, .int 0] : List Value).length = 12 := rfl
  refine lv_aload_n hx hb dX10_init_0 rfl (lv_at hl 0 rfl) ?_
  refine W.objInit hx hb hown (hts _ ml_X10_3) (hts _ ko_inst) (hts _ ko_code) rfl (by rw [hml]; exact hl.1) rfl dX10_init_1 (by decide) (Nat.le_of_ble_eq_true rfl) ?_
  refine W.eq (g2 := F0 m 4 ls []) rfl ?_
  refine lv_aload_n hx hb dX10_init_4 rfl (lv_at hl 0 rfl) ?_
  refine lv_bipush (v := 6) hx hb dX10_init_5 (by decide) ?_
  refine r_newI C hw clsX10 hin 0 (by decide) hlen rfl rfl rfl fl_X10_9 ka_int 6 (by decide) (by decide) (by decide) (by decide) (by decide) dX10_init_7 dX10_init_9 (fun q0 fs_ arrs_ H locs ef0 ea0 hlen hw => ?_)
  refine lv_aload_n hx hb dX10_init_12 rfl (lv_at hl 0 rfl) ?_
  refine r_newO C hX hw clsX10 hin 1 (by decide) hlen rfl rfl (On := "PorcelainWorks$Clay") rfl fl_X10_16 (kX0_init l D cI cZ zX0 hX0) clsX0 YX0_init kc_X10_13 kn_X0 (by decide +kernel) mn_X10_15 ⟨rfl, rfl, by decide, by decide⟩ hl.1 (by decide) (by decide) (Nat.le_of_ble_eq_true rfl) dX10_init_13 dX10_init_16 dX10_init_17 dX10_init_20 (fun u1 fs_ arrs_ H locs ef1 ea1 hlen hw => ?_)
  refine lv_aload_n hx hb dX10_init_23 rfl (lv_at hl 0 rfl) ?_
  refine r_newO C hX hw clsX10 hin 2 (by decide) hlen rfl rfl (On := "PorcelainWorks$Pieces") rfl fl_X10_23 (kX6_init l D cI cZ zX6 hX6) clsX6 YX6_init kc_X10_20 kn_X6 (by decide +kernel) mn_X10_22 ⟨rfl, rfl, by decide, by decide⟩ hl.1 (by decide) (by decide) (Nat.le_of_ble_eq_true rfl) dX10_init_24 dX10_init_27 dX10_init_28 dX10_init_31 (fun u2 fs_ arrs_ H locs ef2 ea2 hlen hw => ?_)
  refine lv_aload_n hx hb dX10_init_34 rfl (lv_at hl 0 rfl) ?_
  refine r_newO C hX hw clsX10 hin 3 (by decide) hlen rfl rfl (On := "PorcelainWorks$Kiln") rfl fl_X10_30 (kX1_init l D cI cZ zX1 hX1) clsX1 YX1_init kc_X10_27 kn_X1 (by decide +kernel) mn_X10_29 ⟨rfl, rfl, by decide, by decide⟩ hl.1 (by decide) (by decide) (Nat.le_of_ble_eq_true rfl) dX10_init_35 dX10_init_38 dX10_init_39 dX10_init_42 (fun u3 fs_ arrs_ H locs ef3 ea3 hlen hw => ?_)
  refine lv_aload_n hx hb dX10_init_45 rfl (lv_at hl 0 rfl) ?_
  refine r_newO C hX hw clsX10 hin 4 (by decide) hlen rfl rfl (On := "PorcelainWorks$Stacking") rfl fl_X10_37 (kX8_init l D cI cZ zX8 hX8) clsX8 YX8_init kc_X10_34 kn_X8 (by decide +kernel) mn_X10_36 ⟨rfl, rfl, by decide, by decide⟩ hl.1 (by decide) (by decide) (Nat.le_of_ble_eq_true rfl) dX10_init_46 dX10_init_49 dX10_init_50 dX10_init_53 (fun u4 fs_ arrs_ H locs ef4 ea4 hlen hw => ?_)
  refine lv_aload_n hx hb dX10_init_56 rfl (lv_at hl 0 rfl) ?_
  refine r_newO C hX hw clsX10 hin 5 (by decide) hlen rfl rfl (On := "PorcelainWorks$Palette") rfl fl_X10_44 (kX5_init l D cI cZ zX5 hX5) clsX5 YX5_init kc_X10_41 kn_X5 (by decide +kernel) mn_X10_43 ⟨rfl, rfl, by decide, by decide⟩ hl.1 (by decide) (by decide) (Nat.le_of_ble_eq_true rfl) dX10_init_57 dX10_init_60 dX10_init_61 dX10_init_64 (fun u5 fs_ arrs_ H locs ef5 ea5 hlen hw => ?_)
  refine lv_aload_n hx hb dX10_init_67 rfl (lv_at hl 0 rfl) ?_
  refine r_newO C hX hw clsX10 hin 6 (by decide) hlen rfl rfl (On := "PorcelainWorks$Workshop") rfl fl_X10_51 (kX9_init l D cI cZ zX9 hX9) clsX9 YX9_init kc_X10_48 kn_X9 (by decide +kernel) mn_X10_50 ⟨rfl, rfl, by decide, by decide⟩ hl.1 (by decide) (by decide) (Nat.le_of_ble_eq_true rfl) dX10_init_68 dX10_init_71 dX10_init_72 dX10_init_75 (fun u6 fs_ arrs_ H locs ef6 ea6 hlen hw => ?_)
  refine lv_aload_n hx hb dX10_init_78 rfl (lv_at hl 0 rfl) ?_
  refine r_newO C hX hw clsX10 hin 7 (by decide) hlen rfl rfl (On := "PorcelainWorks$Matching") rfl fl_X10_58 (kX3_init l D cI cZ zX3 hX3) clsX3 YX3_init kc_X10_55 kn_X3 (by decide +kernel) mn_X10_57 ⟨rfl, rfl, by decide, by decide⟩ hl.1 (by decide) (by decide) (Nat.le_of_ble_eq_true rfl) dX10_init_79 dX10_init_82 dX10_init_83 dX10_init_86 (fun u7 fs_ arrs_ H locs ef7 ea7 hlen hw => ?_)
  refine lv_aload_n hx hb dX10_init_89 rfl (lv_at hl 0 rfl) ?_
  refine r_newO C hX hw clsX10 hin 8 (by decide) hlen rfl rfl (On := "PorcelainWorks$Odds") rfl fl_X10_65 (kX4_init l D cI cZ zX4 hX4) clsX4 YX4_init kc_X10_62 kn_X4 (by decide +kernel) mn_X10_64 ⟨rfl, rfl, by decide, by decide⟩ hl.1 (by decide) (by decide) (Nat.le_of_ble_eq_true rfl) dX10_init_90 dX10_init_93 dX10_init_94 dX10_init_97 (fun u8 fs_ arrs_ H locs ef8 ea8 hlen hw => ?_)
  refine lv_aload_n hx hb dX10_init_100 rfl (lv_at hl 0 rfl) ?_
  refine r_newO C hX hw clsX10 hin 9 (by decide) hlen rfl rfl (On := "PorcelainWorks$Secret") rfl fl_X10_72 (kX7_init l D cI cZ zX7 hX7) clsX7 YX7_init kc_X10_69 kn_X7 (by decide +kernel) mn_X10_71 ⟨rfl, rfl, by decide, by decide⟩ hl.1 (by decide) (by decide) (Nat.le_of_ble_eq_true rfl) dX10_init_101 dX10_init_104 dX10_init_105 dX10_init_108 (fun u9 fs_ arrs_ H locs ef9 ea9 hlen hw => ?_)
  refine lv_aload_n hx hb dX10_init_111 rfl (lv_at hl 0 rfl) ?_
  refine r_newO C hX hw clsX10 hin 10 (by decide) hlen rfl rfl (On := "PorcelainWorks$Ledger") rfl fl_X10_79 (kX2_init l D cI cZ zX2 hX2) clsX2 YX2_init kc_X10_76 kn_X2 (by decide +kernel) mn_X10_78 ⟨rfl, rfl, by decide, by decide⟩ hl.1 (by decide) (by decide) (Nat.le_of_ble_eq_true rfl) dX10_init_112 dX10_init_115 dX10_init_116 dX10_init_119 (fun u10 fs_ arrs_ H locs ef10 ea10 hlen hw => ?_)
  subst ef10
  subst ea10
  subst ef9
  subst ea9
  subst ef8
  subst ea8
  subst ef7
  subst ea7
  subst ef6
  subst ea6
  subst ef5
  subst ea5
  subst ef4
  subst ea4
  subst ef3
  subst ea3
  subst ef2
  subst ea2
  subst ef1
  subst ea1
  subst ef0
  subst ea0
  have hw : pw_H D (pw_w shC cI cZ (pw_nth [h0, q0, u1 0, u1 1, u1 2, u1 3, u1 4, u2 0, u2 1, u2 2, u2 3, u2 4, u2 5, u2 6, u2 7, u3 0, u3 1, u3 2, u3 3, u3 4, u3 5, u3 6, u4 0, u4 1, u4 2, u4 3, u4 4, u4 5, u4 6, u4 7, u4 8, u5 0, u5 1, u5 2, u5 3, u6 0, u6 1, u6 2, u6 3, u6 4, u6 5, u7 0, u7 1, u7 2, u7 3, u8 0, u8 1, u9 0, u9 1, u9 2, u9 3, u9 4, u9 5, u9 6, u9 7, u9 8, u10 0, u10 1, u10 2, u10 3]) (pw_s0 zX0 zX6 zX1 zX8 zX5 zX9 zX3 zX4 zX7 zX2)) A s.heap H locs := hw.of (by simp only [pw_w_eq]; rfl)
  exact wX10_init_b122 (ad := (pw_nth [h0, q0, u1 0, u1 1, u1 2, u1 3, u1 4, u2 0, u2 1, u2 2, u2 3, u2 4, u2 5, u2 6, u2 7, u3 0, u3 1, u3 2, u3 3, u3 4, u3 5, u3 6, u4 0, u4 1, u4 2, u4 3, u4 4, u4 5, u4 6, u4 7, u4 8, u5 0, u5 1, u5 2, u5 3, u6 0, u6 1, u6 2, u6 3, u6 4, u6 5, u7 0, u7 1, u7 2, u7 3, u8 0, u8 1, u9 0, u9 1, u9 2, u9 3, u9 4, u9 5, u9 6, u9 7, u9 8, u10 0, u10 1, u10 2, u10 3])) hX C _ _ _ _ hw (lv_sub hl [0] rfl) h
