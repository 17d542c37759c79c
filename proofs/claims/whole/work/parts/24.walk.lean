set_option maxRecDepth 100000 in
set_option maxHeartbeats 4000000 in
theorem wX10_count_b44 {p : Program} {l : Launch} {e : Env} {s : State} {m : MethodId} {args : Array Value} {below : List Frame} {meth : Method} {c : Code} {D : va_G} {cI cZ : ClassId} {ad : Nat → Nat} {A : Nat → Prop} {z : Int32 × St}  (C : pw_C p s m args meth c yX10_count.cls cX10_count 2 (some .int) D cI cZ) : ∀ (x1 : Int32) (σ : St) (H : Heap) (locs : List Loc) (ls : Array Slot), pw_H D (pw_w shC cI cZ ad σ) A s.heap H locs → lv_has ls 2 [(0, .ref (ad 0)), (1, .int x1)] → fX10_count_b44  x1 σ = some z → W p l e (pw_rm 1) s m args below meth c H locs 0 0 (pw_QI below args s D (pw_w shC cI cZ ad) A z) (F0 m 44 ls []) := by
  obtain ⟨hx, hb, hr, hts, hown, hlk, hml, hK, hN⟩ := id C
  intro x1 σ H locs ls hw hl h
  unfold fX10_count_b44 at h
  refine lv_iload_n hx hb dX10_count_44 rfl (lv_at hl 1 rfl) ?_
  refine lv_bipush (v := 20) hx hb dX10_count_45 (by decide) ?_
  refine lv_icmp_lt (tgt := 85) hx hb dX10_count_47 (by decide) (fun hc => ?_) (fun hc => ?_)
  · replace h := pw_t hc h
    refine lv_iload_n hx hb dX10_count_85 rfl (lv_at hl 1 rfl) ?_
    by_cases hc0 : x1 = 0
    · replace h := pw_t hc0 h
      refine lv_tableIn (off := 58) (tgt := 144) hx hb dX10_count_86 (by rw [hc0]; decide) (by rw [hc0]; decide) (by rw [hc0]; rfl) (by decide) ?_
      refine lv_aload_n hx hb dX10_count_144 rfl (lv_at hl 0 rfl) ?_
      refine r_get C hw qC_0 clsX10 11 rfl (by decide) fl_X10_83 dX10_count_145 (v := .int (σ 0 11)) rfl ?_
      exact r_iret C hw dX10_count_148 h
    replace h := pw_f hc0 h
    by_cases hc1 : x1 = 1
    · replace h := pw_t hc1 h
      refine lv_tableIn (off := 63) (tgt := 149) hx hb dX10_count_86 (by rw [hc1]; decide) (by rw [hc1]; decide) (by rw [hc1]; rfl) (by decide) ?_
      refine lv_aload_n hx hb dX10_count_149 rfl (lv_at hl 0 rfl) ?_
      refine r_get C hw qC_0 clsX10 1 rfl (by decide) fl_X10_16 dX10_count_150 (v := .ref (ad 2)) rfl ?_
      refine r_getN C hw qC_2 clsX0 4 rfl (by decide) fn_X10_102 dX10_count_153 (v := .int (σ 2 4)) rfl ?_
      exact r_iret C hw dX10_count_156 h
    replace h := pw_f hc1 h
    by_cases hc2 : x1 = 2
    · replace h := pw_t hc2 h
      refine lv_tableIn (off := 71) (tgt := 157) hx hb dX10_count_86 (by rw [hc2]; decide) (by rw [hc2]; decide) (by rw [hc2]; rfl) (by decide) ?_
      refine lv_aload_n hx hb dX10_count_157 rfl (lv_at hl 0 rfl) ?_
      refine r_get C hw qC_0 clsX10 2 rfl (by decide) fl_X10_23 dX10_count_158 (v := .ref (ad 7)) rfl ?_
      refine r_getN C hw qC_7 clsX6 7 rfl (by decide) fn_X10_118 dX10_count_161 (v := .int (σ 7 7)) rfl ?_
      exact r_iret C hw dX10_count_164 h
    replace h := pw_f hc2 h
    by_cases hc3 : x1 = 3
    · replace h := pw_t hc3 h
      refine lv_tableIn (off := 103) (tgt := 189) hx hb dX10_count_86 (by rw [hc3]; decide) (by rw [hc3]; decide) (by rw [hc3]; rfl) (by decide) ?_
      refine lv_bipush (v := (-9)) hx hb dX10_count_189 (by decide) ?_
      exact r_iret C hw dX10_count_191 h
    replace h := pw_f hc3 h
    by_cases hc4 : x1 = 4
    · replace h := pw_t hc4 h
      refine lv_tableIn (off := 103) (tgt := 189) hx hb dX10_count_86 (by rw [hc4]; decide) (by rw [hc4]; decide) (by rw [hc4]; rfl) (by decide) ?_
      refine lv_bipush (v := (-9)) hx hb dX10_count_189 (by decide) ?_
      exact r_iret C hw dX10_count_191 h
    replace h := pw_f hc4 h
    by_cases hc5 : x1 = 5
    · replace h := pw_t hc5 h
      refine lv_tableIn (off := 103) (tgt := 189) hx hb dX10_count_86 (by rw [hc5]; decide) (by rw [hc5]; decide) (by rw [hc5]; rfl) (by decide) ?_
      refine lv_bipush (v := (-9)) hx hb dX10_count_189 (by decide) ?_
      exact r_iret C hw dX10_count_191 h
    replace h := pw_f hc5 h
    by_cases hc6 : x1 = 6
    · replace h := pw_t hc6 h
      refine lv_tableIn (off := 103) (tgt := 189) hx hb dX10_count_86 (by rw [hc6]; decide) (by rw [hc6]; decide) (by rw [hc6]; rfl) (by decide) ?_
      refine lv_bipush (v := (-9)) hx hb dX10_count_189 (by decide) ?_
      exact r_iret C hw dX10_count_191 h
    replace h := pw_f hc6 h
    by_cases hc7 : x1 = 7
    · replace h := pw_t hc7 h
      refine lv_tableIn (off := 103) (tgt := 189) hx hb dX10_count_86 (by rw [hc7]; decide) (by rw [hc7]; decide) (by rw [hc7]; rfl) (by decide) ?_
      refine lv_bipush (v := (-9)) hx hb dX10_count_189 (by decide) ?_
      exact r_iret C hw dX10_count_191 h
    replace h := pw_f hc7 h
    by_cases hc8 : x1 = 8
    · replace h := pw_t hc8 h
      refine lv_tableIn (off := 79) (tgt := 165) hx hb dX10_count_86 (by rw [hc8]; decide) (by rw [hc8]; decide) (by rw [hc8]; rfl) (by decide) ?_
      refine lv_aload_n hx hb dX10_count_165 rfl (lv_at hl 0 rfl) ?_
      refine r_get C hw qC_0 clsX10 3 rfl (by decide) fl_X10_30 dX10_count_166 (v := .ref (ad 15)) rfl ?_
      refine r_getN C hw qC_15 clsX1 6 rfl (by decide) fn_X10_134 dX10_count_169 (v := .int (σ 15 6)) rfl ?_
      exact r_iret C hw dX10_count_172 h
    replace h := pw_f hc8 h
    by_cases hc9 : x1 = 9
    · replace h := pw_t hc9 h
      refine lv_tableIn (off := 87) (tgt := 173) hx hb dX10_count_86 (by rw [hc9]; decide) (by rw [hc9]; decide) (by rw [hc9]; rfl) (by decide) ?_
      refine lv_aload_n hx hb dX10_count_173 rfl (lv_at hl 0 rfl) ?_
      refine r_get C hw qC_0 clsX10 3 rfl (by decide) fl_X10_30 dX10_count_174 (v := .ref (ad 15)) rfl ?_
      refine r_getN C hw qC_15 clsX1 7 rfl (by decide) fn_X10_317 dX10_count_177 (v := .int (σ 15 7)) rfl ?_
      exact r_iret C hw dX10_count_180 h
    replace h := pw_f hc9 h
    by_cases hc10 : x1 = 10
    · replace h := pw_t hc10 h
      refine lv_tableIn (off := 95) (tgt := 181) hx hb dX10_count_86 (by rw [hc10]; decide) (by rw [hc10]; decide) (by rw [hc10]; rfl) (by decide) ?_
      refine lv_aload_n hx hb dX10_count_181 rfl (lv_at hl 0 rfl) ?_
      refine r_get C hw qC_0 clsX10 9 rfl (by decide) fl_X10_72 dX10_count_182 (v := .ref (ad 47)) rfl ?_
      refine r_getN C hw qC_47 clsX7 9 rfl (by decide) fn_X10_268 dX10_count_185 (v := .int (σ 47 9)) rfl ?_
      exact r_iret C hw dX10_count_188 h
    replace h := pw_f hc10 h
    refine lv_tableOut (tgt := 189) hx hb dX10_count_86 (pw_out10 hc0 hc1 hc2 hc3 hc4 hc5 hc6 hc7 hc8 hc9 hc10) (by decide) ?_
    refine lv_bipush (v := (-9)) hx hb dX10_count_189 (by decide) ?_
    exact r_iret C hw dX10_count_191 h
  · replace h := pw_f hc h
    refine lv_iload_n hx hb dX10_count_50 rfl (lv_at hl 1 rfl) ?_
    refine lv_bipush (v := 20) hx hb dX10_count_51 (by decide) ?_
    refine lv_isub hx hb dX10_count_53 ?_
    refine lv_aload_n hx hb dX10_count_54 rfl (lv_at hl 0 rfl) ?_
    refine r_get C hw qC_0 clsX10 1 rfl (by decide) fl_X10_16 dX10_count_55 (v := .ref (ad 2)) rfl ?_
    refine r_getN C hw qC_2 clsX0 4 rfl (by decide) fn_X10_102 dX10_count_58 (v := .int (σ 2 4)) rfl ?_
    obtain ⟨v3, σ2, e1, h⟩ := cal_some h
    refine r_cSI C hw (sh := shC) (ad := ad) (As := [.int (x1 - 20), .int (σ 2 4)]) (rest := []) (kX10_within l D cI cZ ad _ _ _ _ e1) YX10_within ml_X10_87 (pw_rmOK (by omega) (by decide)) rfl hl.1 rfl (Nat.le_of_ble_eq_true rfl) dX10_count_61 ⟨Nat.zero_le _, Nat.zero_le _⟩ (fun H locs hw => ?_)
    refine lv_if_eq (tgt := 82) hx hb dX10_count_64 (by decide) (fun hc => ?_) (fun hc => ?_)
    · replace h := pw_t hc h
      refine lv_bipush (v := (-9)) hx hb dX10_count_82 (by decide) ?_
      exact r_iret C hw dX10_count_84 h
    · replace h := pw_f hc h
      refine lv_aload_n hx hb dX10_count_67 rfl (lv_at hl 0 rfl) ?_
      refine r_get C hw qC_0 clsX10 1 rfl (by decide) fl_X10_16 dX10_count_68 (v := .ref (ad 2)) rfl ?_
      refine r_getN C hw qC_2 clsX0 2 rfl (by decide) fn_X10_115 dX10_count_71 (v := .ref (ad 5)) rfl ?_
      refine lv_iload_n hx hb dX10_count_74 rfl (lv_at hl 1 rfl) ?_
      refine lv_bipush (v := 20) hx hb dX10_count_75 (by decide) ?_
      refine lv_isub hx hb dX10_count_77 ?_
      refine r_iald C hw qC_5 dX10_count_78 h (fun v4 h => ?_)
      refine lv_goto (tgt := 84) hx hb dX10_count_79 (by decide) ?_
      exact r_iret C hw dX10_count_84 h
set_option maxRecDepth 100000 in
set_option maxHeartbeats 4000000 in
theorem wX10_count_b22 {p : Program} {l : Launch} {e : Env} {s : State} {m : MethodId} {args : Array Value} {below : List Frame} {meth : Method} {c : Code} {D : va_G} {cI cZ : ClassId} {ad : Nat → Nat} {A : Nat → Prop} {z : Int32 × St}  (C : pw_C p s m args meth c yX10_count.cls cX10_count 2 (some .int) D cI cZ) : ∀ (x1 : Int32) (σ : St) (H : Heap) (locs : List Loc) (ls : Array Slot), pw_H D (pw_w shC cI cZ ad σ) A s.heap H locs → lv_has ls 2 [(0, .ref (ad 0)), (1, .int x1)] → fX10_count_b22  x1 σ = some z → W p l e (pw_rm 1) s m args below meth c H locs 0 0 (pw_QI below args s D (pw_w shC cI cZ ad) A z) (F0 m 22 ls []) := by
  obtain ⟨hx, hb, hr, hts, hown, hlk, hml, hK, hN⟩ := id C
  intro x1 σ H locs ls hw hl h
  unfold fX10_count_b22 at h
  refine lv_iload_n hx hb dX10_count_22 rfl (lv_at hl 1 rfl) ?_
  refine lv_bipush (v := 11) hx hb dX10_count_23 (by decide) ?_
  refine lv_icmp_lt (tgt := 44) hx hb dX10_count_25 (by decide) (fun hc => ?_) (fun hc => ?_)
  · replace h := pw_t hc h
    exact wX10_count_b44 C  _ _ _ _ _ hw (lv_sub hl [0, 1] rfl) h
  · replace h := pw_f hc h
    refine lv_iload_n hx hb dX10_count_28 rfl (lv_at hl 1 rfl) ?_
    refine lv_bipush (v := 16) hx hb dX10_count_29 (by decide) ?_
    refine lv_icmp_gt (tgt := 44) hx hb dX10_count_31 (by decide) (fun hc => ?_) (fun hc => ?_)
    · replace h := pw_t hc h
      exact wX10_count_b44 C  _ _ _ _ _ hw (lv_sub hl [0, 1] rfl) h
    · replace h := pw_f hc h
      refine lv_aload_n hx hb dX10_count_34 rfl (lv_at hl 0 rfl) ?_
      refine r_get C hw qC_0 clsX10 0 rfl (by decide) fl_X10_9 dX10_count_35 (v := .ref (ad 1)) rfl ?_
      refine lv_iload_n hx hb dX10_count_38 rfl (lv_at hl 1 rfl) ?_
      refine lv_bipush (v := 11) hx hb dX10_count_39 (by decide) ?_
      refine lv_isub hx hb dX10_count_41 ?_
      refine r_iald C hw qC_1 dX10_count_42 h (fun v5 h => ?_)
      exact r_iret C hw dX10_count_43 h
set_option maxRecDepth 100000 in
set_option maxHeartbeats 4000000 in
theorem kX10_count (l : Launch) (D : va_G) (cI cZ : ClassId) (ad : Nat → Nat) (x1 : Int32) (σ : St) (z : Int32 × St) (h : fX10_count x1 σ = some z) : pw_MI l D shC cI cZ ad yX10_count cX10_count 2 (some .int) (pw_rm 1) [.ref (ad 0), .int x1] σ z.1 z.2 := by
  refine pw_ofI (by decide) (Nat.le_of_ble_eq_true rfl) ?_
  intro p e s m args below meth c A C hw ls hl
  obtain ⟨hx, hb, hr, hts, hown, hlk, hml, hK, hN⟩ := id C
  have hl : lv_has ls 2 [(0, .ref (ad 0)), (1, .int x1)] := hl
  unfold fX10_count at h
  refine lv_iload_n hx hb dX10_count_0 rfl (lv_at hl 1 rfl) ?_
  refine lv_iconst (v := 3) hx hb dX10_count_1 (by decide) ?_
  refine lv_icmp_lt (tgt := 22) hx hb dX10_count_2 (by decide) (fun hc => ?_) (fun hc => ?_)
  · replace h := pw_t hc h
    exact wX10_count_b22 C  _ _ _ _ _ hw (lv_sub hl [0, 1] rfl) h
  · replace h := pw_f hc h
    refine lv_iload_n hx hb dX10_count_5 rfl (lv_at hl 1 rfl) ?_
    refine lv_bipush (v := 7) hx hb dX10_count_6 (by decide) ?_
    refine lv_icmp_gt (tgt := 22) hx hb dX10_count_8 (by decide) (fun hc => ?_) (fun hc => ?_)
    · replace h := pw_t hc h
      exact wX10_count_b22 C  _ _ _ _ _ hw (lv_sub hl [0, 1] rfl) h
    · replace h := pw_f hc h
      refine lv_aload_n hx hb dX10_count_11 rfl (lv_at hl 0 rfl) ?_
      refine r_get C hw qC_0 clsX10 2 rfl (by decide) fl_X10_23 dX10_count_12 (v := .ref (ad 7)) rfl ?_
      refine lv_iload_n hx hb dX10_count_15 rfl (lv_at hl 1 rfl) ?_
      refine lv_iconst (v := 3) hx hb dX10_count_16 (by decide) ?_
      refine lv_isub hx hb dX10_count_17 ?_
      obtain ⟨v8, σ7, e6, h⟩ := cal_some h
      refine r_cNI C hw (As := [.int (x1 - 3)]) (rest := []) (kX6_inState l D cI cZ ad _ _ _ e6) YX6_inState mn_X10_314 qC_7 clsX6 (pw_rmOK (by omega) (by decide)) rfl hl.1 rfl (Nat.le_of_ble_eq_true rfl) dX10_count_18 ⟨Nat.zero_le _, Nat.zero_le _⟩ (fun H locs hw => ?_)
      exact r_iret C hw dX10_count_21 h
set_option maxRecDepth 100000 in
set_option maxHeartbeats 4000000 in
theorem kX11_refuse (l : Launch) (D : va_G) (cI cZ : ClassId) (ad : Nat → Nat) (x1 : Int32) (σ : St) (z : Int32 × St) (h : fX11_refuse x1 σ = some z) : pw_MI l D shM cI cZ ad yX11_refuse cX11_refuse 2 (some .int) (pw_rm 0) [.ref (ad 0), .int x1] σ z.1 z.2 := by
  refine pw_ofI (by decide) (Nat.le_of_ble_eq_true rfl) ?_
  intro p e s m args below meth c A C hw ls hl
  obtain ⟨hx, hb, hr, hts, hown, hlk, hml, hK, hN⟩ := id C
  have hl : lv_has ls 2 [(0, .ref (ad 0)), (1, .int x1)] := hl
  unfold fX11_refuse at h
  refine lv_aload_n hx hb dX11_refuse_0 rfl (lv_at hl 0 rfl) ?_
  refine r_get C hw qM_0 clsX11 0 rfl (by decide) fl_X11_7 dX11_refuse_1 (v := .ref (ad 1)) rfl ?_
  refine lv_iload_n hx hb dX11_refuse_4 rfl (lv_at hl 1 rfl) ?_
  refine lv_ineg hx hb dX11_refuse_5 ?_
  refine lv_dup2_11 hx hb dX11_refuse_6 rfl rfl ?_
  refine r_iald C hw qM_1 dX11_refuse_7 h (fun v1 h => ?_)
  refine lv_iconst (v := 1) hx hb dX11_refuse_8 (by decide) ?_
  refine lv_iadd hx hb dX11_refuse_9 ?_
  refine r_iast C hw qM_1 dX11_refuse_10 h (fun σ2 H locs hw h => ?_)
  refine lv_iload_n hx hb dX11_refuse_11 rfl (lv_at hl 1 rfl) ?_
  exact r_iret C hw dX11_refuse_12 h
set_option maxRecDepth 100000 in
set_option maxHeartbeats 4000000 in
theorem kX11_isIn (l : Launch) (D : va_G) (cI cZ : ClassId) (ad : Nat → Nat) (x0 : Int32) (x1 : Int32) (σ : St) (z : Int32 × St) (h : fX11_isIn x0 x1 σ = some z) : pw_MI l D shM cI cZ ad yX11_isIn cX11_isIn 2 (some .boolean) (pw_rm 0) [.int x0, .int x1] σ z.1 z.2 := by
  refine pw_ofI (by decide) (Nat.le_of_ble_eq_true rfl) ?_
  intro p e s m args below meth c A C hw ls hl
  obtain ⟨hx, hb, hr, hts, hown, hlk, hml, hK, hN⟩ := id C
  have hl : lv_has ls 2 [(0, .int x0), (1, .int x1)] := hl
  unfold fX11_isIn at h
  refine lv_iload_n hx hb dX11_isIn_0 rfl (lv_at hl 0 rfl) ?_
  refine lv_if_lt (tgt := 13) hx hb dX11_isIn_1 (by decide) (fun hc => ?_) (fun hc => ?_)
  · replace h := pw_t hc h
    refine lv_iconst (v := 0) hx hb dX11_isIn_13 (by decide) ?_
    exact r_zret C hw dX11_isIn_14 h
  · replace h := pw_f hc h
    refine lv_iload_n hx hb dX11_isIn_4 rfl (lv_at hl 0 rfl) ?_
    refine lv_iload_n hx hb dX11_isIn_5 rfl (lv_at hl 1 rfl) ?_
    refine lv_icmp_ge (tgt := 13) hx hb dX11_isIn_6 (by decide) (fun hc => ?_) (fun hc => ?_)
    · replace h := pw_t hc h
      refine lv_iconst (v := 0) hx hb dX11_isIn_13 (by decide) ?_
      exact r_zret C hw dX11_isIn_14 h
    · replace h := pw_f hc h
      refine lv_iconst (v := 1) hx hb dX11_isIn_9 (by decide) ?_
      refine lv_goto (tgt := 14) hx hb dX11_isIn_10 (by decide) ?_
      exact r_zret C hw dX11_isIn_14 h
set_option maxRecDepth 100000 in
set_option maxHeartbeats 4000000 in
theorem kX11_wrong (l : Launch) (D : va_G) (cI cZ : ClassId) (ad : Nat → Nat) (x0 : Int32) (x1 : Int32) (x2 : Int32) (σ : St) (z : Int32 × St) (h : fX11_wrong x0 x1 x2 σ = some z) : pw_MI l D shM cI cZ ad yX11_wrong cX11_wrong 3 (some .int) (pw_rm 0) [.int x0, .int x1, .int x2] σ z.1 z.2 := by
  refine pw_ofI (by decide) (Nat.le_of_ble_eq_true rfl) ?_
  intro p e s m args below meth c A C hw ls hl
  obtain ⟨hx, hb, hr, hts, hown, hlk, hml, hK, hN⟩ := id C
  have hl : lv_has ls 3 [(0, .int x0), (1, .int x1), (2, .int x2)] := hl
  unfold fX11_wrong at h
  refine lv_iload_n hx hb dX11_wrong_0 rfl (lv_at hl 0 rfl) ?_
  refine lv_iload_n hx hb dX11_wrong_1 rfl (lv_at hl 1 rfl) ?_
  refine lv_icmp_ge (tgt := 10) hx hb dX11_wrong_2 (by decide) (fun hc => ?_) (fun hc => ?_)
  · replace h := pw_t hc h
    refine lv_iload_n hx hb dX11_wrong_10 rfl (lv_at hl 0 rfl) ?_
    refine lv_iload_n hx hb dX11_wrong_11 rfl (lv_at hl 2 rfl) ?_
    refine lv_icmp_le (tgt := 20) hx hb dX11_wrong_12 (by decide) (fun hc => ?_) (fun hc => ?_)
    · replace h := pw_t hc h
      refine lv_iconst (v := 0) hx hb dX11_wrong_20 (by decide) ?_
      exact r_iret C hw dX11_wrong_21 h
    · replace h := pw_f hc h
      refine lv_bipush (v := (-6)) hx hb dX11_wrong_15 (by decide) ?_
      refine lv_goto (tgt := 21) hx hb dX11_wrong_17 (by decide) ?_
      exact r_iret C hw dX11_wrong_21 h
  · replace h := pw_f hc h
    refine lv_bipush (v := (-4)) hx hb dX11_wrong_5 (by decide) ?_
    refine lv_goto (tgt := 21) hx hb dX11_wrong_7 (by decide) ?_
    exact r_iret C hw dX11_wrong_21 h
set_option maxRecDepth 100000 in
set_option maxHeartbeats 4000000 in
theorem wX11_paste_b55 {p : Program} {l : Launch} {e : Env} {s : State} {m : MethodId} {args : Array Value} {below : List Frame} {meth : Method} {c : Code} {D : va_G} {cI cZ : ClassId} {ad : Nat → Nat} {A : Nat → Prop} {z : Int32 × St}  (C : pw_C p s m args meth c yX11_paste.cls cX11_paste 6 (some .int) D cI cZ) : ∀ (x1 : Int32) (x2 : Int32) (x3 : Int32) (s0 : Int32) (σ : St) (H : Heap) (locs : List Loc) (ls : Array Slot), pw_H D (pw_w shM cI cZ ad σ) A s.heap H locs → lv_has ls 6 [(0, .ref (ad 0)), (1, .int x1), (2, .int x2), (3, .int x3)] → fX11_paste_b55  x1 x2 x3 s0 σ = some z → W p l e (pw_rm 1) s m args below meth c H locs 0 0 (pw_QI below args s D (pw_w shM cI cZ ad) A z) (F0 m 55 ls [.int s0]) := by
  obtain ⟨hx, hb, hr, hts, hown, hlk, hml, hK, hN⟩ := id C
  intro x1 x2 x3 s0 σ H locs ls hw hl h
  unfold fX11_paste_b55 at h
  refine lv_istore (lv' := [(4, .int s0), (0, .ref (ad 0)), (1, .int x1), (2, .int x2), (3, .int x3)]) hx hb dX11_paste_55 hl (by decide) rfl (fun ls hl => ?_)
  refine lv_iload hx hb dX11_paste_57 (lv_at hl 0 rfl) ?_
  refine lv_if_eq (tgt := 69) hx hb dX11_paste_59 (by decide) (fun hc => ?_) (fun hc => ?_)
  · replace h := pw_t hc h
    refine lv_aload_n hx hb dX11_paste_69 rfl (lv_at hl 1 rfl) ?_
    refine r_get C hw qM_0 clsX11 1 rfl (by decide) fl_X11_13 dX11_paste_70 (v := .ref (ad 2)) rfl ?_
    refine lv_iconst (v := 4) hx hb dX11_paste_73 (by decide) ?_
    refine lv_iload_n hx hb dX11_paste_74 rfl (lv_at hl 2 rfl) ?_
    refine lv_imul hx hb dX11_paste_75 ?_
    refine lv_iload_n hx hb dX11_paste_76 rfl (lv_at hl 3 rfl) ?_
    refine lv_iadd hx hb dX11_paste_77 ?_
    refine r_iald C hw qM_2 dX11_paste_78 h (fun v1 h => ?_)
    refine lv_istore (lv' := [(5, .int v1), (4, .int s0), (0, .ref (ad 0)), (1, .int x1), (2, .int x2), (3, .int x3)]) hx hb dX11_paste_79 hl (by decide) rfl (fun ls hl => ?_)
    refine lv_aload_n hx hb dX11_paste_81 rfl (lv_at hl 2 rfl) ?_
    refine r_get C hw qM_0 clsX11 1 rfl (by decide) fl_X11_13 dX11_paste_82 (v := .ref (ad 2)) rfl ?_
    refine lv_iconst (v := 4) hx hb dX11_paste_85 (by decide) ?_
    refine lv_iload_n hx hb dX11_paste_86 rfl (lv_at hl 3 rfl) ?_
    refine lv_imul hx hb dX11_paste_87 ?_
    refine lv_iload_n hx hb dX11_paste_88 rfl (lv_at hl 4 rfl) ?_
    refine lv_iadd hx hb dX11_paste_89 ?_
    refine lv_iload_n hx hb dX11_paste_90 rfl (lv_at hl 5 rfl) ?_
    refine r_iast C hw qM_2 dX11_paste_91 h (fun σ2 H locs hw h => ?_)
    refine lv_iload hx hb dX11_paste_92 (lv_at hl 0 rfl) ?_
    exact r_iret C hw dX11_paste_94 h
  · replace h := pw_f hc h
    refine lv_aload_n hx hb dX11_paste_62 rfl (lv_at hl 1 rfl) ?_
    refine lv_iload hx hb dX11_paste_63 (lv_at hl 0 rfl) ?_
    obtain ⟨v5, σ4, e3, h⟩ := cal_some h
    refine r_cVI C hw (As := [.int s0]) (rest := []) (kX11_refuse l D cI cZ ad _ _ _ e3) YX11_refuse ml_X11_152 qM_0 clsX11 (pw_rmOK (by omega) (by decide)) rfl hl.1 rfl (Nat.le_of_ble_eq_true rfl) dX11_paste_65 ⟨Nat.zero_le _, Nat.zero_le _⟩ (fun H locs hw => ?_)
    exact r_iret C hw dX11_paste_68 h
set_option maxRecDepth 100000 in
set_option maxHeartbeats 4000000 in
theorem kX11_paste (l : Launch) (D : va_G) (cI cZ : ClassId) (ad : Nat → Nat) (x1 : Int32) (x2 : Int32) (x3 : Int32) (σ : St) (z : Int32 × St) (h : fX11_paste x1 x2 x3 σ = some z) : pw_MI l D shM cI cZ ad yX11_paste cX11_paste 6 (some .int) (pw_rm 1) [.ref (ad 0), .int x1, .int x2, .int x3] σ z.1 z.2 := by
  refine pw_ofI (by decide) (Nat.le_of_ble_eq_true rfl) ?_
  intro p e s m args below meth c A C hw ls hl
  obtain ⟨hx, hb, hr, hts, hown, hlk, hml, hK, hN⟩ := id C
  have hl : lv_has ls 6 [(0, .ref (ad 0)), (1, .int x1), (2, .int x2), (3, .int x3)] := hl
  unfold fX11_paste at h
  refine lv_iload_n hx hb dX11_paste_0 rfl (lv_at hl 1 rfl) ?_
  refine lv_bipush (v := 6) hx hb dX11_paste_1 (by decide) ?_
  obtain ⟨v8, σ7, e6, h⟩ := cal_some h
  refine r_cSI C hw (sh := shM) (ad := ad) (As := [.int x1, .int 6]) (rest := []) (kX11_isIn l D cI cZ ad _ _ _ _ e6) YX11_isIn ml_X11_144 (pw_rmOK (by omega) (by decide)) rfl hl.1 rfl (Nat.le_of_ble_eq_true rfl) dX11_paste_3 ⟨Nat.zero_le _, Nat.zero_le _⟩ (fun H locs hw => ?_)
  refine lv_if_ne (tgt := 13) hx hb dX11_paste_6 (by decide) (fun hc => ?_) (fun hc => ?_)
  · replace h := pw_f hc h
    refine lv_iload_n hx hb dX11_paste_13 rfl (lv_at hl 2 rfl) ?_
    refine lv_iconst (v := 4) hx hb dX11_paste_14 (by decide) ?_
    obtain ⟨v11, σ10, e9, h⟩ := cal_some h
    refine r_cSI C hw (sh := shM) (ad := ad) (As := [.int x2, .int 4]) (rest := []) (kX11_isIn l D cI cZ ad _ _ _ _ e9) YX11_isIn ml_X11_144 (pw_rmOK (by omega) (by decide)) rfl hl.1 rfl (Nat.le_of_ble_eq_true rfl) dX11_paste_15 ⟨Nat.zero_le _, Nat.zero_le _⟩ (fun H locs hw => ?_)
    refine lv_if_ne (tgt := 26) hx hb dX11_paste_18 (by decide) (fun hc => ?_) (fun hc => ?_)
    · replace h := pw_f hc h
      refine lv_iload_n hx hb dX11_paste_26 rfl (lv_at hl 3 rfl) ?_
      refine lv_iconst (v := 0) hx hb dX11_paste_27 (by decide) ?_
      refine lv_iload_n hx hb dX11_paste_28 rfl (lv_at hl 2 rfl) ?_
      refine lv_if_ne (tgt := 38) hx hb dX11_paste_29 (by decide) (fun hc => ?_) (fun hc => ?_)
      · replace h := pw_f hc h
        refine lv_iload_n hx hb dX11_paste_38 rfl (lv_at hl 2 rfl) ?_
        refine lv_iconst (v := 1) hx hb dX11_paste_39 (by decide) ?_
        refine lv_icmp_ne (tgt := 49) hx hb dX11_paste_40 (by decide) (fun hc => ?_) (fun hc => ?_)
        · replace h := pw_f hc h
          refine lv_sipush (v := 2000) hx hb dX11_paste_49 (by decide) ?_
          obtain ⟨v14, σ13, e12, h⟩ := cal_some h
          refine r_cSI C hw (sh := shM) (ad := ad) (As := [.int x3, .int 0, .int 2000]) (rest := []) (kX11_wrong l D cI cZ ad _ _ _ _ _ e12) YX11_wrong ml_X11_148 (pw_rmOK (by omega) (by decide)) rfl hl.1 rfl (Nat.le_of_ble_eq_true rfl) dX11_paste_52 ⟨Nat.zero_le _, Nat.zero_le _⟩ (fun H locs hw => ?_)
          exact wX11_paste_b55 C  _ _ _ _ _ _ _ _ hw (lv_sub hl [0, 1, 2, 3] rfl) h
        · replace h := pw_t hc h
          refine lv_sipush (v := 300) hx hb dX11_paste_43 (by decide) ?_
          refine lv_goto (tgt := 52) hx hb dX11_paste_46 (by decide) ?_
          obtain ⟨v17, σ16, e15, h⟩ := cal_some h
          refine r_cSI C hw (sh := shM) (ad := ad) (As := [.int x3, .int 0, .int 300]) (rest := []) (kX11_wrong l D cI cZ ad _ _ _ _ _ e15) YX11_wrong ml_X11_148 (pw_rmOK (by omega) (by decide)) rfl hl.1 rfl (Nat.le_of_ble_eq_true rfl) dX11_paste_52 ⟨Nat.zero_le _, Nat.zero_le _⟩ (fun H locs hw => ?_)
          exact wX11_paste_b55 C  _ _ _ _ _ _ _ _ hw (lv_sub hl [0, 1, 2, 3] rfl) h
      · replace h := pw_t hc h
        refine lv_sipush (v := 200) hx hb dX11_paste_32 (by decide) ?_
        refine lv_goto (tgt := 52) hx hb dX11_paste_35 (by decide) ?_
        obtain ⟨v20, σ19, e18, h⟩ := cal_some h
        refine r_cSI C hw (sh := shM) (ad := ad) (As := [.int x3, .int 0, .int 200]) (rest := []) (kX11_wrong l D cI cZ ad _ _ _ _ _ e18) YX11_wrong ml_X11_148 (pw_rmOK (by omega) (by decide)) rfl hl.1 rfl (Nat.le_of_ble_eq_true rfl) dX11_paste_52 ⟨Nat.zero_le _, Nat.zero_le _⟩ (fun H locs hw => ?_)
        exact wX11_paste_b55 C  _ _ _ _ _ _ _ _ hw (lv_sub hl [0, 1, 2, 3] rfl) h
    · replace h := pw_t hc h
      refine lv_bipush (v := (-2)) hx hb dX11_paste_21 (by decide) ?_
      refine lv_goto (tgt := 55) hx hb dX11_paste_23 (by decide) ?_
      exact wX11_paste_b55 C  _ _ _ _ _ _ _ _ hw (lv_sub hl [0, 1, 2, 3] rfl) h
  · replace h := pw_t hc h
    refine lv_iconst (v := (-1)) hx hb dX11_paste_9 (by decide) ?_
    refine lv_goto (tgt := 55) hx hb dX11_paste_10 (by decide) ?_
    exact wX11_paste_b55 C  _ _ _ _ _ _ _ _ hw (lv_sub hl [0, 1, 2, 3] rfl) h
set_option maxRecDepth 100000 in
set_option maxHeartbeats 4000000 in
theorem kX11_batch (l : Launch) (D : va_G) (cI cZ : ClassId) (ad : Nat → Nat) (x1 : Int32) (x2 : Int32) (σ : St) (z : Int32 × St) (h : fX11_batch x1 x2 σ = some z) : pw_MI l D shM cI cZ ad yX11_batch cX11_batch 3 (some .int) (pw_rm 1) [.ref (ad 0), .int x1, .int x2] σ z.1 z.2 := by
  refine pw_ofI (by decide) (Nat.le_of_ble_eq_true rfl) ?_
  intro p e s m args below meth c A C hw ls hl
  obtain ⟨hx, hb, hr, hts, hown, hlk, hml, hK, hN⟩ := id C
  have hl : lv_has ls 3 [(0, .ref (ad 0)), (1, .int x1), (2, .int x2)] := hl
  unfold fX11_batch at h
  refine lv_iload_n hx hb dX11_batch_0 rfl (lv_at hl 1 rfl) ?_
  refine lv_bipush (v := 6) hx hb dX11_batch_1 (by decide) ?_
  obtain ⟨v3, σ2, e1, h⟩ := cal_some h
  refine r_cSI C hw (sh := shM) (ad := ad) (As := [.int x1, .int 6]) (rest := []) (kX11_isIn l D cI cZ ad _ _ _ _ e1) YX11_isIn ml_X11_144 (pw_rmOK (by omega) (by decide)) rfl hl.1 rfl (Nat.le_of_ble_eq_true rfl) dX11_batch_3 ⟨Nat.zero_le _, Nat.zero_le _⟩ (fun H locs hw => ?_)
  refine lv_if_ne (tgt := 15) hx hb dX11_batch_6 (by decide) (fun hc => ?_) (fun hc => ?_)
  · replace h := pw_f hc h
    refine lv_iload_n hx hb dX11_batch_15 rfl (lv_at hl 2 rfl) ?_
    refine lv_iconst (v := 1) hx hb dX11_batch_16 (by decide) ?_
    refine lv_icmp_ge (tgt := 27) hx hb dX11_batch_17 (by decide) (fun hc => ?_) (fun hc => ?_)
    · replace h := pw_t hc h
      refine lv_iload_n hx hb dX11_batch_27 rfl (lv_at hl 2 rfl) ?_
      refine lv_sipush (v := 1000) hx hb dX11_batch_28 (by decide) ?_
      refine lv_icmp_gt (tgt := 43) hx hb dX11_batch_31 (by decide) (fun hc => ?_) (fun hc => ?_)
      · replace h := pw_t hc h
        refine lv_aload_n hx hb dX11_batch_43 rfl (lv_at hl 0 rfl) ?_
        refine lv_bipush (v := (-6)) hx hb dX11_batch_44 (by decide) ?_
        obtain ⟨v6, σ5, e4, h⟩ := cal_some h
        refine r_cVI C hw (As := [.int (-6)]) (rest := []) (kX11_refuse l D cI cZ ad _ _ _ e4) YX11_refuse ml_X11_152 qM_0 clsX11 (pw_rmOK (by omega) (by decide)) rfl hl.1 rfl (Nat.le_of_ble_eq_true rfl) dX11_batch_46 ⟨Nat.zero_le _, Nat.zero_le _⟩ (fun H locs hw => ?_)
        exact r_iret C hw dX11_batch_49 h
      · replace h := pw_f hc h
        refine lv_aload_n hx hb dX11_batch_34 rfl (lv_at hl 0 rfl) ?_
        refine r_get C hw qM_0 clsX11 17 rfl (by decide) fl_X11_156 dX11_batch_35 (v := .int (σ2 0 17)) rfl ?_
        refine lv_bipush (v := 20) hx hb dX11_batch_38 (by decide) ?_
        refine lv_icmp_ne (tgt := 50) hx hb dX11_batch_40 (by decide) (fun hc => ?_) (fun hc => ?_)
        · replace h := pw_f hc h
          refine lv_aload_n hx hb dX11_batch_50 rfl (lv_at hl 0 rfl) ?_
          refine r_get C hw qM_0 clsX11 2 rfl (by decide) fl_X11_16 dX11_batch_51 (v := .ref (ad 3)) rfl ?_
          refine lv_aload_n hx hb dX11_batch_54 rfl (lv_at hl 0 rfl) ?_
          refine r_get C hw qM_0 clsX11 17 rfl (by decide) fl_X11_156 dX11_batch_55 (v := .int (σ2 0 17)) rfl ?_
          refine lv_iload_n hx hb dX11_batch_58 rfl (lv_at hl 1 rfl) ?_
          refine r_iast C hw qM_3 dX11_batch_59 h (fun σ7 H locs hw h => ?_)
          refine lv_aload_n hx hb dX11_batch_60 rfl (lv_at hl 0 rfl) ?_
          refine r_get C hw qM_0 clsX11 3 rfl (by decide) fl_X11_19 dX11_batch_61 (v := .ref (ad 4)) rfl ?_
          refine lv_aload_n hx hb dX11_batch_64 rfl (lv_at hl 0 rfl) ?_
          refine r_get C hw qM_0 clsX11 17 rfl (by decide) fl_X11_156 dX11_batch_65 (v := .int (σ7 0 17)) rfl ?_
          refine lv_iload_n hx hb dX11_batch_68 rfl (lv_at hl 2 rfl) ?_
          refine r_iast C hw qM_4 dX11_batch_69 h (fun σ8 H locs hw h => ?_)
          refine lv_aload_n hx hb dX11_batch_70 rfl (lv_at hl 0 rfl) ?_
          refine r_get C hw qM_0 clsX11 4 rfl (by decide) fl_X11_22 dX11_batch_71 (v := .ref (ad 5)) rfl ?_
          refine lv_aload_n hx hb dX11_batch_74 rfl (lv_at hl 0 rfl) ?_
          refine r_get C hw qM_0 clsX11 17 rfl (by decide) fl_X11_156 dX11_batch_75 (v := .int (σ8 0 17)) rfl ?_
          refine lv_aload_n hx hb dX11_batch_78 rfl (lv_at hl 0 rfl) ?_
          refine r_get C hw qM_0 clsX11 16 rfl (by decide) fl_X11_160 dX11_batch_79 (v := .int (σ8 0 16)) rfl ?_
          refine r_iast C hw qM_5 dX11_batch_82 h (fun σ9 H locs hw h => ?_)
          refine lv_aload_n hx hb dX11_batch_83 rfl (lv_at hl 0 rfl) ?_
          refine lv_dup hx hb dX11_batch_84 rfl ?_
          refine r_get C hw qM_0 clsX11 17 rfl (by decide) fl_X11_156 dX11_batch_85 (v := .int (σ9 0 17)) rfl ?_
          refine lv_iconst (v := 1) hx hb dX11_batch_88 (by decide) ?_
          refine lv_iadd hx hb dX11_batch_89 ?_
          refine r_put C hw qM_0 clsX11 17 rfl (by decide) fl_X11_156 dX11_batch_90 rfl rfl rfl h (fun σ10 H locs hw h => ?_)
          refine lv_aload_n hx hb dX11_batch_93 rfl (lv_at hl 0 rfl) ?_
          refine r_get C hw qM_0 clsX11 17 rfl (by decide) fl_X11_156 dX11_batch_94 (v := .int (σ10 0 17)) rfl ?_
          refine lv_iconst (v := 1) hx hb dX11_batch_97 (by decide) ?_
          refine lv_isub hx hb dX11_batch_98 ?_
          exact r_iret C hw dX11_batch_99 h
        · replace h := pw_t hc h
          refine lv_aload_n hx hb dX11_batch_43 rfl (lv_at hl 0 rfl) ?_
          refine lv_bipush (v := (-6)) hx hb dX11_batch_44 (by decide) ?_
          obtain ⟨v13, σ12, e11, h⟩ := cal_some h
          refine r_cVI C hw (As := [.int (-6)]) (rest := []) (kX11_refuse l D cI cZ ad _ _ _ e11) YX11_refuse ml_X11_152 qM_0 clsX11 (pw_rmOK (by omega) (by decide)) rfl hl.1 rfl (Nat.le_of_ble_eq_true rfl) dX11_batch_46 ⟨Nat.zero_le _, Nat.zero_le _⟩ (fun H locs hw => ?_)
          exact r_iret C hw dX11_batch_49 h
    · replace h := pw_f hc h
      refine lv_aload_n hx hb dX11_batch_20 rfl (lv_at hl 0 rfl) ?_
      refine lv_bipush (v := (-4)) hx hb dX11_batch_21 (by decide) ?_
      obtain ⟨v16, σ15, e14, h⟩ := cal_some h
      refine r_cVI C hw (As := [.int (-4)]) (rest := []) (kX11_refuse l D cI cZ ad _ _ _ e14) YX11_refuse ml_X11_152 qM_0 clsX11 (pw_rmOK (by omega) (by decide)) rfl hl.1 rfl (Nat.le_of_ble_eq_true rfl) dX11_batch_23 ⟨Nat.zero_le _, Nat.zero_le _⟩ (fun H locs hw => ?_)
      exact r_iret C hw dX11_batch_26 h
  · replace h := pw_t hc h
    refine lv_aload_n hx hb dX11_batch_9 rfl (lv_at hl 0 rfl) ?_
    refine lv_iconst (v := (-1)) hx hb dX11_batch_10 (by decide) ?_
    obtain ⟨v19, σ18, e17, h⟩ := cal_some h
    refine r_cVI C hw (As := [.int (-1)]) (rest := []) (kX11_refuse l D cI cZ ad _ _ _ e17) YX11_refuse ml_X11_152 qM_0 clsX11 (pw_rmOK (by omega) (by decide)) rfl hl.1 rfl (Nat.le_of_ble_eq_true rfl) dX11_batch_11 ⟨Nat.zero_le _, Nat.zero_le _⟩ (fun H locs hw => ?_)
    exact r_iret C hw dX11_batch_14 h
set_option maxRecDepth 100000 in
set_option maxHeartbeats 4000000 in
theorem kX11_grown (l : Launch) (D : va_G) (cI cZ : ClassId) (ad : Nat → Nat) (x1 : Int32) (x2 : Int32) (σ : St) (z : Int32 × St) (h : fX11_grown x1 x2 σ = some z) : pw_MI l D shM cI cZ ad yX11_grown cX11_grown 3 (some .int) (pw_rm 1) [.ref (ad 0), .int x1, .int x2] σ z.1 z.2 := by
  refine pw_ofI (by decide) (Nat.le_of_ble_eq_true rfl) ?_
  intro p e s m args below meth c A C hw ls hl
  obtain ⟨hx, hb, hr, hts, hown, hlk, hml, hK, hN⟩ := id C
  have hl : lv_has ls 3 [(0, .ref (ad 0)), (1, .int x1), (2, .int x2)] := hl
  unfold fX11_grown at h
  refine lv_ldc2 (v := 2000000000) hx hb hown (hts _ ct_X11_265) dX11_grown_0 ?_
  refine lv_iload_n hx hb dX11_grown_3 rfl (lv_at hl 2 rfl) ?_
  refine lv_i2l (v := (x2).toInt64) hx hb dX11_grown_4 rfl ?_
  refine lv_iload_n hx hb dX11_grown_5 rfl (lv_at hl 2 rfl) ?_
  refine lv_i2l (v := (x2).toInt64) hx hb dX11_grown_6 rfl ?_
  refine lv_aload_n hx hb dX11_grown_7 rfl (lv_at hl 0 rfl) ?_
  refine r_get C hw qM_0 clsX11 52 rfl (by decide) fl_X11_138 dX11_grown_8 (v := .ref (ad 43)) rfl ?_
  refine lv_iload_n hx hb dX11_grown_11 rfl (lv_at hl 1 rfl) ?_
  refine r_iald C hw qM_43 dX11_grown_12 h (fun v1 h => ?_)
  refine lv_i2l (v := (v1).toInt64) hx hb dX11_grown_13 rfl ?_
  refine lv_lmul hx hb dX11_grown_14 ?_
  refine lv_ldc2 (v := 1000) hx hb hown (hts _ ct_X11_180) dX11_grown_15 ?_
  refine lv_ldiv hx hb dX11_grown_18 (by decide) ?_
  refine lv_ladd hx hb dX11_grown_19 ?_
  refine va_mmin_long hx hb (hml.trans hl.1.symm) hown (hts _ ml_X11_267) (hts _ ls_minl) (hts _ li_Math) (hts _ lc_minl) (pw_fr (by omega)) (pw_lo (Nat.le_of_ble_eq_true rfl) (by omega)) (Nat.zero_le _) (Nat.zero_le _) dX11_grown_20 ?_
  refine lv_l2i (v := (if ((x2).toInt64 + (((x2).toInt64 * (v1).toInt64) / 1000)) < 2000000000 then ((x2).toInt64 + (((x2).toInt64 * (v1).toInt64) / 1000)) else 2000000000).toInt32) hx hb dX11_grown_23 rfl ?_
  exact r_iret C hw dX11_grown_24 h
set_option maxRecDepth 100000 in
set_option maxHeartbeats 4000000 in
theorem wX11_goes_b19 {p : Program} {l : Launch} {e : Env} {s : State} {m : MethodId} {args : Array Value} {below : List Frame} {meth : Method} {c : Code} {D : va_G} {cI cZ : ClassId} {ad : Nat → Nat} {A : Nat → Prop} {z : Int32 × St} {k2 : Int32 → Int32 → St → Option (Int32 × St)} (C : pw_C p s m args meth c yX11_goes.cls cX11_goes 4 none D cI cZ) (hk2 : ∀ (x1 : Int32) (x2 : Int32) (σ : St) (H : Heap) (locs : List Loc) (ls : Array Slot), pw_H D (pw_w shM cI cZ ad σ) A s.heap H locs → lv_has ls 4 [(0, .ref (ad 0)), (1, .int x1), (2, .int x2)] → k2 x1 x2 σ = some z → W p l e (pw_rm 2) s m args below meth c H locs 0 0 (pw_QV below args s D (pw_w shM cI cZ ad) A z) (F0 m 2 ls [])) : ∀ (n : Nat) (x1 : Int32) (x2 : Int32) (x3 : Int32) (σ : St) (H : Heap) (locs : List Loc) (ls : Array Slot), pw_H D (pw_w shM cI cZ ad σ) A s.heap H locs → lv_has ls 4 [(0, .ref (ad 0)), (1, .int x1), (2, .int x2), (3, .int x3)] → fX11_goes_b19 k2 n x1 x2 x3 σ = some z → W p l e (pw_rm 2) s m args below meth c H locs 0 0 (pw_QV below args s D (pw_w shM cI cZ ad) A z) (F0 m 19 ls []) := by
  obtain ⟨hx, hb, hr, hts, hown, hlk, hml, hK, hN⟩ := id C
  intro n
  induction n with
  | zero =>
    intro x1 x2 x3 σ H locs ls hw hl h
    exact absurd h (by simp [fX11_goes_b19])
  | succ n ih =>
    intro x1 x2 x3 σ H locs ls hw hl h
    rw [fX11_goes_b19] at h
    refine lv_iload_n hx hb dX11_goes_19 rfl (lv_at hl 3 rfl) ?_
    refine lv_aload_n hx hb dX11_goes_20 rfl (lv_at hl 0 rfl) ?_
    refine r_get C hw qM_0 clsX11 25 rfl (by decide) fl_X11_163 dX11_goes_21 (v := .int (σ 0 25)) rfl ?_
    refine lv_icmp_ge (tgt := 67) hx hb dX11_goes_24 (by decide) (fun hc => ?_) (fun hc => ?_)
    · replace h := pw_t hc h
      refine lv_iinc (v := (x2 + 1)) (lv' := [(2, .int (x2 + 1)), (0, .ref (ad 0)), (1, .int x1), (3, .int x3)]) hx hb dX11_goes_67 hl (k := 2) rfl rfl (by decide) rfl (fun ls hl => ?_)
      refine lv_goto (tgt := 2) hx hb dX11_goes_70 (by decide) ?_
      exact hk2 _ _ _ _ _ _ hw (lv_sub hl [1, 2, 0] rfl) h
    · replace h := pw_f hc h
      refine lv_aload_n hx hb dX11_goes_27 rfl (lv_at hl 0 rfl) ?_
      refine r_get C hw qM_0 clsX11 16 rfl (by decide) fl_X11_160 dX11_goes_28 (v := .int (σ 0 16)) rfl ?_
      refine lv_aload_n hx hb dX11_goes_31 rfl (lv_at hl 0 rfl) ?_
      refine r_get C hw qM_0 clsX11 53 rfl (by decide) fl_X11_141 dX11_goes_32 (v := .ref (ad 44)) rfl ?_
      refine lv_iload_n hx hb dX11_goes_35 rfl (lv_at hl 3 rfl) ?_
      refine r_iald C hw qM_44 dX11_goes_36 h (fun v1 h => ?_)
      refine lv_isub hx hb dX11_goes_37 ?_
      refine lv_bipush (v := 30) hx hb dX11_goes_38 (by decide) ?_
      refine lv_irem hx hb dX11_goes_40 (by decide) ?_
      refine lv_if_ne (tgt := 61) hx hb dX11_goes_41 (by decide) (fun hc => ?_) (fun hc => ?_)
      · replace h := pw_f hc h
        refine lv_iinc (v := (x3 + 1)) (lv' := [(3, .int (x3 + 1)), (0, .ref (ad 0)), (1, .int x1), (2, .int x2)]) hx hb dX11_goes_61 hl (k := 3) rfl rfl (by decide) rfl (fun ls hl => ?_)
        refine lv_goto (tgt := 19) hx hb dX11_goes_64 (by decide) ?_
        exact ih _ _ _ _ _ _ _ hw (lv_sub hl [1, 2, 3, 0] rfl) h
      · replace h := pw_t hc h
        refine lv_aload_n hx hb dX11_goes_44 rfl (lv_at hl 0 rfl) ?_
        refine r_get C hw qM_0 clsX11 51 rfl (by decide) fl_X11_135 dX11_goes_45 (v := .ref (ad 42)) rfl ?_
        refine lv_iload_n hx hb dX11_goes_48 rfl (lv_at hl 3 rfl) ?_
        refine lv_aload_n hx hb dX11_goes_49 rfl (lv_at hl 0 rfl) ?_
        refine lv_iload_n hx hb dX11_goes_50 rfl (lv_at hl 3 rfl) ?_
        refine lv_aload_n hx hb dX11_goes_51 rfl (lv_at hl 0 rfl) ?_
        refine r_get C hw qM_0 clsX11 51 rfl (by decide) fl_X11_135 dX11_goes_52 (v := .ref (ad 42)) rfl ?_
        refine lv_iload_n hx hb dX11_goes_55 rfl (lv_at hl 3 rfl) ?_
        refine r_iald C hw qM_42 dX11_goes_56 h (fun v2 h => ?_)
        obtain ⟨v5, σ4, e3, h⟩ := cal_some h
        refine r_cVI C hw (As := [.int x3, .int v2]) (rest := [.int x3, .ref (ad 42)]) (kX11_grown l D cI cZ ad _ _ _ _ e3) YX11_grown ml_X11_166 qM_0 clsX11 (pw_rmOK (by omega) (by decide)) rfl hl.1 rfl (Nat.le_of_ble_eq_true rfl) dX11_goes_57 ⟨Nat.zero_le _, Nat.zero_le _⟩ (fun H locs hw => ?_)
        refine r_iast C hw qM_42 dX11_goes_60 h (fun σ6 H locs hw h => ?_)
        refine lv_iinc (v := (x3 + 1)) (lv' := [(3, .int (x3 + 1)), (0, .ref (ad 0)), (1, .int x1), (2, .int x2)]) hx hb dX11_goes_61 hl (k := 3) rfl rfl (by decide) rfl (fun ls hl => ?_)
        refine lv_goto (tgt := 19) hx hb dX11_goes_64 (by decide) ?_
        exact ih _ _ _ _ _ _ _ hw (lv_sub hl [1, 2, 3, 0] rfl) h
set_option maxRecDepth 100000 in
set_option maxHeartbeats 4000000 in
theorem wX11_goes_b2 {p : Program} {l : Launch} {e : Env} {s : State} {m : MethodId} {args : Array Value} {below : List Frame} {meth : Method} {c : Code} {D : va_G} {cI cZ : ClassId} {ad : Nat → Nat} {A : Nat → Prop} {z : Int32 × St}  (C : pw_C p s m args meth c yX11_goes.cls cX11_goes 4 none D cI cZ) : ∀ (n : Nat) (x1 : Int32) (x2 : Int32) (σ : St) (H : Heap) (locs : List Loc) (ls : Array Slot), pw_H D (pw_w shM cI cZ ad σ) A s.heap H locs → lv_has ls 4 [(0, .ref (ad 0)), (1, .int x1), (2, .int x2)] → fX11_goes_b2  n x1 x2 σ = some z → W p l e (pw_rm 2) s m args below meth c H locs 0 0 (pw_QV below args s D (pw_w shM cI cZ ad) A z) (F0 m 2 ls []) := by
  obtain ⟨hx, hb, hr, hts, hown, hlk, hml, hK, hN⟩ := id C
  intro n
  induction n with
  | zero =>
    intro x1 x2 σ H locs ls hw hl h
    exact absurd h (by simp [fX11_goes_b2])
  | succ n ih =>
    intro x1 x2 σ H locs ls hw hl h
    rw [fX11_goes_b2] at h
    refine lv_iload_n hx hb dX11_goes_2 rfl (lv_at hl 2 rfl) ?_
    refine lv_iload_n hx hb dX11_goes_3 rfl (lv_at hl 1 rfl) ?_
    refine lv_icmp_ge (tgt := 73) hx hb dX11_goes_4 (by decide) (fun hc => ?_) (fun hc => ?_)
    · replace h := pw_t hc h
      exact r_vret C hw dX11_goes_73 h
    · replace h := pw_f hc h
      refine lv_aload_n hx hb dX11_goes_7 rfl (lv_at hl 0 rfl) ?_
      refine lv_dup hx hb dX11_goes_8 rfl ?_
      refine r_get C hw qM_0 clsX11 16 rfl (by decide) fl_X11_160 dX11_goes_9 (v := .int (σ 0 16)) rfl ?_
      refine lv_iconst (v := 1) hx hb dX11_goes_12 (by decide) ?_
      refine lv_iadd hx hb dX11_goes_13 ?_
      refine r_put C hw qM_0 clsX11 16 rfl (by decide) fl_X11_160 dX11_goes_14 rfl rfl rfl h (fun σ7 H locs hw h => ?_)
      refine lv_iconst (v := 0) hx hb dX11_goes_17 (by decide) ?_
      refine lv_istore_n (lv' := [(3, .int 0), (0, .ref (ad 0)), (1, .int x1), (2, .int x2)]) hx hb dX11_goes_18 rfl hl (by decide) rfl (fun ls hl => ?_)
      exact wX11_goes_b19 C ih _ _ _ _ _ _ _ _ hw (lv_sub hl [1, 2, 3, 0] rfl) h
set_option maxRecDepth 100000 in
set_option maxHeartbeats 4000000 in
theorem kX11_goes (l : Launch) (D : va_G) (cI cZ : ClassId) (ad : Nat → Nat) (x1 : Int32) (σ : St) (z : Int32 × St) (h : fX11_goes x1 σ = some z) : pw_MV l D shM cI cZ ad yX11_goes cX11_goes 4 none (pw_rm 2) [.ref (ad 0), .int x1] σ z.2 := by
  refine pw_ofV (by decide) (Nat.le_of_ble_eq_true rfl) ?_
  intro p e s m args below meth c A C hw ls hl
  obtain ⟨hx, hb, hr, hts, hown, hlk, hml, hK, hN⟩ := id C
  have hl : lv_has ls 4 [(0, .ref (ad 0)), (1, .int x1)] := hl
  unfold fX11_goes at h
  refine lv_iconst (v := 0) hx hb dX11_goes_0 (by decide) ?_
  refine lv_istore_n (lv' := [(2, .int 0), (0, .ref (ad 0)), (1, .int x1)]) hx hb dX11_goes_1 rfl hl (by decide) rfl (fun ls hl => ?_)
  exact wX11_goes_b2 C  _ _ _ _ _ _ _ hw (lv_sub hl [1, 2, 0] rfl) h
set_option maxRecDepth 100000 in
set_option maxHeartbeats 4000000 in
theorem kX11_days (l : Launch) (D : va_G) (cI cZ : ClassId) (ad : Nat → Nat) (x1 : Int32) (σ : St) (z : Int32 × St) (h : fX11_days x1 σ = some z) : pw_MI l D shM cI cZ ad yX11_days cX11_days 3 (some .int) (pw_rm 3) [.ref (ad 0), .int x1] σ z.1 z.2 := by
  refine pw_ofI (by decide) (Nat.le_of_ble_eq_true rfl) ?_
  intro p e s m args below meth c A C hw ls hl
  obtain ⟨hx, hb, hr, hts, hown, hlk, hml, hK, hN⟩ := id C
  have hl : lv_has ls 3 [(0, .ref (ad 0)), (1, .int x1)] := hl
  unfold fX11_days at h
  refine lv_iload_n hx hb dX11_days_0 rfl (lv_at hl 1 rfl) ?_
  refine lv_iconst (v := 1) hx hb dX11_days_1 (by decide) ?_
  refine lv_sipush (v := 4000) hx hb dX11_days_2 (by decide) ?_
  refine lv_aload_n hx hb dX11_days_5 rfl (lv_at hl 0 rfl) ?_
  refine r_get C hw qM_0 clsX11 16 rfl (by decide) fl_X11_160 dX11_days_6 (v := .int (σ 0 16)) rfl ?_
  refine lv_isub hx hb dX11_days_9 ?_
  obtain ⟨v3, σ2, e1, h⟩ := cal_some h
  refine r_cSI C hw (sh := shM) (ad := ad) (As := [.int x1, .int 1, .int (4000 - (σ 0 16))]) (rest := []) (kX11_wrong l D cI cZ ad _ _ _ _ _ e1) YX11_wrong ml_X11_148 (pw_rmOK (by omega) (by decide)) rfl hl.1 rfl (Nat.le_of_ble_eq_true rfl) dX11_days_10 ⟨Nat.zero_le _, Nat.zero_le _⟩ (fun H locs hw => ?_)
  refine lv_istore_n (lv' := [(2, .int v3), (0, .ref (ad 0)), (1, .int x1)]) hx hb dX11_days_13 rfl hl (by decide) rfl (fun ls hl => ?_)
  refine lv_iload_n hx hb dX11_days_14 rfl (lv_at hl 0 rfl) ?_
  refine lv_if_eq (tgt := 24) hx hb dX11_days_15 (by decide) (fun hc => ?_) (fun hc => ?_)
  · replace h := pw_t hc h
    refine lv_aload_n hx hb dX11_days_24 rfl (lv_at hl 1 rfl) ?_
    refine lv_iload_n hx hb dX11_days_25 rfl (lv_at hl 2 rfl) ?_
    obtain ⟨r6, σ5, e4, h⟩ := cal_some h
    refine r_cVV C hw (As := [.int x1]) (rest := []) (kX11_goes l D cI cZ ad _ _ _ e4) YX11_goes ml_X11_170 qM_0 clsX11 (pw_rmOK (by omega) (by decide)) rfl hl.1 rfl (Nat.le_of_ble_eq_true rfl) dX11_days_26 ⟨Nat.zero_le _, Nat.zero_le _⟩ (fun H locs hw => ?_)
    refine lv_aload_n hx hb dX11_days_29 rfl (lv_at hl 1 rfl) ?_
    refine r_get C hw qM_0 clsX11 16 rfl (by decide) fl_X11_160 dX11_days_30 (v := .int (σ5 0 16)) rfl ?_
    exact r_iret C hw dX11_days_33 h
  · replace h := pw_f hc h
    refine lv_aload_n hx hb dX11_days_18 rfl (lv_at hl 1 rfl) ?_
    refine lv_iload_n hx hb dX11_days_19 rfl (lv_at hl 0 rfl) ?_
    obtain ⟨v9, σ8, e7, h⟩ := cal_some h
    refine r_cVI C hw (As := [.int v3]) (rest := []) (kX11_refuse l D cI cZ ad _ _ _ e7) YX11_refuse ml_X11_152 qM_0 clsX11 (pw_rmOK (by omega) (by decide)) rfl hl.1 rfl (Nat.le_of_ble_eq_true rfl) dX11_days_20 ⟨Nat.zero_le _, Nat.zero_le _⟩ (fun H locs hw => ?_)
    exact r_iret C hw dX11_days_23 h
set_option maxRecDepth 100000 in
set_option maxHeartbeats 4000000 in
theorem wX11_piece_b112 {p : Program} {l : Launch} {e : Env} {s : State} {m : MethodId} {args : Array Value} {below : List Frame} {meth : Method} {c : Code} {D : va_G} {cI cZ : ClassId} {ad : Nat → Nat} {A : Nat → Prop} {z : Int32 × St}  (C : pw_C p s m args meth c yX11_piece.cls cX11_piece 5 (some .int) D cI cZ) : ∀  (σ : St) (H : Heap) (locs : List Loc) (ls : Array Slot), pw_H D (pw_w shM cI cZ ad σ) A s.heap H locs → lv_has ls 5 [(0, .ref (ad 0))] → fX11_piece_b112   σ = some z → W p l e (pw_rm 1) s m args below meth c H locs 0 0 (pw_QI below args s D (pw_w shM cI cZ ad) A z) (F0 m 112 ls []) := by
  obtain ⟨hx, hb, hr, hts, hown, hlk, hml, hK, hN⟩ := id C
  intro σ H locs ls hw hl h
  unfold fX11_piece_b112 at h
  refine lv_aload_n hx hb dX11_piece_112 rfl (lv_at hl 0 rfl) ?_
  refine lv_bipush (v := (-6)) hx hb dX11_piece_113 (by decide) ?_
  obtain ⟨v3, σ2, e1, h⟩ := cal_some h
  refine r_cVI C hw (As := [.int (-6)]) (rest := []) (kX11_refuse l D cI cZ ad _ _ _ e1) YX11_refuse ml_X11_152 qM_0 clsX11 (pw_rmOK (by omega) (by decide)) rfl hl.1 rfl (Nat.le_of_ble_eq_true rfl) dX11_piece_115 ⟨Nat.zero_le _, Nat.zero_le _⟩ (fun H locs hw => ?_)
  exact r_iret C hw dX11_piece_118 h
set_option maxRecDepth 100000 in
set_option maxHeartbeats 4000000 in
theorem kX11_piece (l : Launch) (D : va_G) (cI cZ : ClassId) (ad : Nat → Nat) (x1 : Int32) (x2 : Int32) (x3 : Int32) (x4 : Int32) (σ : St) (z : Int32 × St) (h : fX11_piece x1 x2 x3 x4 σ = some z) : pw_MI l D shM cI cZ ad yX11_piece cX11_piece 5 (some .int) (pw_rm 1) [.ref (ad 0), .int x1, .int x2, .int x3, .int x4] σ z.1 z.2 := by
  refine pw_ofI (by decide) (Nat.le_of_ble_eq_true rfl) ?_
  intro p e s m args below meth c A C hw ls hl
  obtain ⟨hx, hb, hr, hts, hown, hlk, hml, hK, hN⟩ := id C
  have hl : lv_has ls 5 [(0, .ref (ad 0)), (1, .int x1), (2, .int x2), (3, .int x3), (4, .int x4)] := hl
  unfold fX11_piece at h
  refine lv_iload_n hx hb dX11_piece_0 rfl (lv_at hl 1 rfl) ?_
  refine lv_aload_n hx hb dX11_piece_1 rfl (lv_at hl 0 rfl) ?_
  refine r_get C hw qM_0 clsX11 17 rfl (by decide) fl_X11_156 dX11_piece_2 (v := .int (σ 0 17)) rfl ?_
  obtain ⟨v6, σ5, e4, h⟩ := cal_some h
  refine r_cSI C hw (sh := shM) (ad := ad) (As := [.int x1, .int (σ 0 17)]) (rest := []) (kX11_isIn l D cI cZ ad _ _ _ _ e4) YX11_isIn ml_X11_144 (pw_rmOK (by omega) (by decide)) rfl hl.1 rfl (Nat.le_of_ble_eq_true rfl) dX11_piece_5 ⟨Nat.zero_le _, Nat.zero_le _⟩ (fun H locs hw => ?_)
  refine lv_if_eq (tgt := 20) hx hb dX11_piece_8 (by decide) (fun hc => ?_) (fun hc => ?_)
  · replace h := pw_t hc h
    refine lv_aload_n hx hb dX11_piece_20 rfl (lv_at hl 0 rfl) ?_
    refine lv_iconst (v := (-1)) hx hb dX11_piece_21 (by decide) ?_
    obtain ⟨v9, σ8, e7, h⟩ := cal_some h
    refine r_cVI C hw (As := [.int (-1)]) (rest := []) (kX11_refuse l D cI cZ ad _ _ _ e7) YX11_refuse ml_X11_152 qM_0 clsX11 (pw_rmOK (by omega) (by decide)) rfl hl.1 rfl (Nat.le_of_ble_eq_true rfl) dX11_piece_22 ⟨Nat.zero_le _, Nat.zero_le _⟩ (fun H locs hw => ?_)
    exact r_iret C hw dX11_piece_25 h
  · replace h := pw_f hc h
    refine lv_iload_n hx hb dX11_piece_11 rfl (lv_at hl 2 rfl) ?_
    refine lv_bipush (v := 10) hx hb dX11_piece_12 (by decide) ?_
    obtain ⟨v12, σ11, e10, h⟩ := cal_some h
    refine r_cSI C hw (sh := shM) (ad := ad) (As := [.int x2, .int 10]) (rest := []) (kX11_isIn l D cI cZ ad _ _ _ _ e10) YX11_isIn ml_X11_144 (pw_rmOK (by omega) (by decide)) rfl hl.1 rfl (Nat.le_of_ble_eq_true rfl) dX11_piece_14 ⟨Nat.zero_le _, Nat.zero_le _⟩ (fun H locs hw => ?_)
    refine lv_if_ne (tgt := 26) hx hb dX11_piece_17 (by decide) (fun hc => ?_) (fun hc => ?_)
    · replace h := pw_f hc h
      refine lv_aload_n hx hb dX11_piece_26 rfl (lv_at hl 0 rfl) ?_
      refine r_get C hw qM_0 clsX11 16 rfl (by decide) fl_X11_160 dX11_piece_27 (v := .int (σ11 0 16)) rfl ?_
      refine lv_aload_n hx hb dX11_piece_30 rfl (lv_at hl 0 rfl) ?_
      refine r_get C hw qM_0 clsX11 4 rfl (by decide) fl_X11_22 dX11_piece_31 (v := .ref (ad 5)) rfl ?_
      refine lv_iload_n hx hb dX11_piece_34 rfl (lv_at hl 1 rfl) ?_
      refine r_iald C hw qM_5 dX11_piece_35 h (fun v13 h => ?_)
      refine lv_isub hx hb dX11_piece_36 ?_
      refine lv_aload_n hx hb dX11_piece_37 rfl (lv_at hl 0 rfl) ?_
      refine r_get C hw qM_0 clsX11 1 rfl (by decide) fl_X11_13 dX11_piece_38 (v := .ref (ad 2)) rfl ?_
      refine lv_iconst (v := 4) hx hb dX11_piece_41 (by decide) ?_
      refine lv_aload_n hx hb dX11_piece_42 rfl (lv_at hl 0 rfl) ?_
      refine r_get C hw qM_0 clsX11 2 rfl (by decide) fl_X11_16 dX11_piece_43 (v := .ref (ad 3)) rfl ?_
      refine lv_iload_n hx hb dX11_piece_46 rfl (lv_at hl 1 rfl) ?_
      refine r_iald C hw qM_3 dX11_piece_47 h (fun v14 h => ?_)
      refine lv_imul hx hb dX11_piece_48 ?_
      refine r_iald C hw qM_2 dX11_piece_49 h (fun v15 h => ?_)
      refine lv_icmp_ge (tgt := 60) hx hb dX11_piece_50 (by decide) (fun hc => ?_) (fun hc => ?_)
      · replace h := pw_t hc h
        refine lv_iload_n hx hb dX11_piece_60 rfl (lv_at hl 3 rfl) ?_
        refine lv_iconst (v := 1) hx hb dX11_piece_61 (by decide) ?_
        refine lv_icmp_lt (tgt := 72) hx hb dX11_piece_62 (by decide) (fun hc => ?_) (fun hc => ?_)
        · replace h := pw_t hc h
          refine lv_aload_n hx hb dX11_piece_72 rfl (lv_at hl 0 rfl) ?_
          refine lv_bipush (v := (-4)) hx hb dX11_piece_73 (by decide) ?_
          obtain ⟨v18, σ17, e16, h⟩ := cal_some h
          refine r_cVI C hw (As := [.int (-4)]) (rest := []) (kX11_refuse l D cI cZ ad _ _ _ e16) YX11_refuse ml_X11_152 qM_0 clsX11 (pw_rmOK (by omega) (by decide)) rfl hl.1 rfl (Nat.le_of_ble_eq_true rfl) dX11_piece_75 ⟨Nat.zero_le _, Nat.zero_le _⟩ (fun H locs hw => ?_)
          exact r_iret C hw dX11_piece_78 h
        · replace h := pw_f hc h
          refine lv_iload hx hb dX11_piece_65 (lv_at hl 4 rfl) ?_
          refine lv_bipush (v := 10) hx hb dX11_piece_67 (by decide) ?_
          refine lv_icmp_ge (tgt := 79) hx hb dX11_piece_69 (by decide) (fun hc => ?_) (fun hc => ?_)
          · replace h := pw_t hc h
            refine lv_iload_n hx hb dX11_piece_79 rfl (lv_at hl 3 rfl) ?_
            refine lv_bipush (v := 40) hx hb dX11_piece_80 (by decide) ?_
            refine lv_icmp_gt (tgt := 112) hx hb dX11_piece_82 (by decide) (fun hc => ?_) (fun hc => ?_)
            · replace h := pw_t hc h
              exact wX11_piece_b112 C  _ _ _ _ hw (lv_sub hl [0] rfl) h
            · replace h := pw_f hc h
              refine lv_iload_n hx hb dX11_piece_85 rfl (lv_at hl 3 rfl) ?_
              refine lv_aload_n hx hb dX11_piece_86 rfl (lv_at hl 0 rfl) ?_
              refine r_get C hw qM_0 clsX11 3 rfl (by decide) fl_X11_19 dX11_piece_87 (v := .ref (ad 4)) rfl ?_
              refine lv_iload_n hx hb dX11_piece_90 rfl (lv_at hl 1 rfl) ?_
              refine r_iald C hw qM_4 dX11_piece_91 h (fun v19 h => ?_)
              refine lv_icmp_gt (tgt := 112) hx hb dX11_piece_92 (by decide) (fun hc => ?_) (fun hc => ?_)
              · replace h := pw_t hc h
                exact wX11_piece_b112 C  _ _ _ _ hw (lv_sub hl [0] rfl) h
              · replace h := pw_f hc h
                refine lv_iload hx hb dX11_piece_95 (lv_at hl 4 rfl) ?_
                refine lv_sipush (v := 900) hx hb dX11_piece_97 (by decide) ?_
                refine lv_icmp_gt (tgt := 112) hx hb dX11_piece_100 (by decide) (fun hc => ?_) (fun hc => ?_)
                · replace h := pw_t hc h
                  exact wX11_piece_b112 C  _ _ _ _ hw (lv_sub hl [0] rfl) h
                · replace h := pw_f hc h
                  refine lv_aload_n hx hb dX11_piece_103 rfl (lv_at hl 0 rfl) ?_
                  refine r_get C hw qM_0 clsX11 18 rfl (by decide) fl_X11_174 dX11_piece_104 (v := .int (σ11 0 18)) rfl ?_
                  refine lv_bipush (v := 80) hx hb dX11_piece_107 (by decide) ?_
                  refine lv_icmp_ne (tgt := 119) hx hb dX11_piece_109 (by decide) (fun hc => ?_) (fun hc => ?_)
                  · replace h := pw_f hc h
                    refine lv_aload_n hx hb dX11_piece_119 rfl (lv_at hl 0 rfl) ?_
                    refine r_get C hw qM_0 clsX11 3 rfl (by decide) fl_X11_19 dX11_piece_120 (v := .ref (ad 4)) rfl ?_
                    refine lv_iload_n hx hb dX11_piece_123 rfl (lv_at hl 1 rfl) ?_
                    refine lv_dup2_11 hx hb dX11_piece_124 rfl rfl ?_
                    refine r_iald C hw qM_4 dX11_piece_125 h (fun v20 h => ?_)
                    refine lv_iload_n hx hb dX11_piece_126 rfl (lv_at hl 3 rfl) ?_
                    refine lv_isub hx hb dX11_piece_127 ?_
                    refine r_iast C hw qM_4 dX11_piece_128 h (fun σ21 H locs hw h => ?_)
                    refine lv_aload_n hx hb dX11_piece_129 rfl (lv_at hl 0 rfl) ?_
                    refine r_get C hw qM_0 clsX11 5 rfl (by decide) fl_X11_25 dX11_piece_130 (v := .ref (ad 6)) rfl ?_
                    refine lv_aload_n hx hb dX11_piece_133 rfl (lv_at hl 0 rfl) ?_
                    refine r_get C hw qM_0 clsX11 18 rfl (by decide) fl_X11_174 dX11_piece_134 (v := .int (σ21 0 18)) rfl ?_
                    refine lv_iload_n hx hb dX11_piece_137 rfl (lv_at hl 1 rfl) ?_
                    refine r_iast C hw qM_6 dX11_piece_138 h (fun σ22 H locs hw h => ?_)
                    refine lv_aload_n hx hb dX11_piece_139 rfl (lv_at hl 0 rfl) ?_
                    refine r_get C hw qM_0 clsX11 6 rfl (by decide) fl_X11_28 dX11_piece_140 (v := .ref (ad 7)) rfl ?_
                    refine lv_aload_n hx hb dX11_piece_143 rfl (lv_at hl 0 rfl) ?_
                    refine r_get C hw qM_0 clsX11 18 rfl (by decide) fl_X11_174 dX11_piece_144 (v := .int (σ22 0 18)) rfl ?_
                    refine lv_iload_n hx hb dX11_piece_147 rfl (lv_at hl 2 rfl) ?_
                    refine r_iast C hw qM_7 dX11_piece_148 h (fun σ23 H locs hw h => ?_)
                    refine lv_aload_n hx hb dX11_piece_149 rfl (lv_at hl 0 rfl) ?_
                    refine r_get C hw qM_0 clsX11 7 rfl (by decide) fl_X11_31 dX11_piece_150 (v := .ref (ad 8)) rfl ?_
                    refine lv_aload_n hx hb dX11_piece_153 rfl (lv_at hl 0 rfl) ?_
                    refine r_get C hw qM_0 clsX11 18 rfl (by decide) fl_X11_174 dX11_piece_154 (v := .int (σ23 0 18)) rfl ?_
                    refine lv_iload hx hb dX11_piece_157 (lv_at hl 4 rfl) ?_
                    refine r_iast C hw qM_8 dX11_piece_159 h (fun σ24 H locs hw h => ?_)
                    refine lv_aload_n hx hb dX11_piece_160 rfl (lv_at hl 0 rfl) ?_
                    refine r_get C hw qM_0 clsX11 9 rfl (by decide) fl_X11_37 dX11_piece_161 (v := .ref (ad 10)) rfl ?_
                    refine lv_aload_n hx hb dX11_piece_164 rfl (lv_at hl 0 rfl) ?_
                    refine r_get C hw qM_0 clsX11 18 rfl (by decide) fl_X11_174 dX11_piece_165 (v := .int (σ24 0 18)) rfl ?_
                    refine lv_bipush (v := (-9)) hx hb dX11_piece_168 (by decide) ?_
                    refine r_iast C hw qM_10 dX11_piece_170 h (fun σ25 H locs hw h => ?_)
                    refine lv_aload_n hx hb dX11_piece_171 rfl (lv_at hl 0 rfl) ?_
                    refine r_get C hw qM_0 clsX11 10 rfl (by decide) fl_X11_40 dX11_piece_172 (v := .ref (ad 11)) rfl ?_
                    refine lv_aload_n hx hb dX11_piece_175 rfl (lv_at hl 0 rfl) ?_
                    refine r_get C hw qM_0 clsX11 18 rfl (by decide) fl_X11_174 dX11_piece_176 (v := .int (σ25 0 18)) rfl ?_
                    refine lv_bipush (v := (-9)) hx hb dX11_piece_179 (by decide) ?_
                    refine r_iast C hw qM_11 dX11_piece_181 h (fun σ26 H locs hw h => ?_)
                    refine lv_aload_n hx hb dX11_piece_182 rfl (lv_at hl 0 rfl) ?_
                    refine r_get C hw qM_0 clsX11 11 rfl (by decide) fl_X11_43 dX11_piece_183 (v := .ref (ad 12)) rfl ?_
                    refine lv_aload_n hx hb dX11_piece_186 rfl (lv_at hl 0 rfl) ?_
                    refine r_get C hw qM_0 clsX11 18 rfl (by decide) fl_X11_174 dX11_piece_187 (v := .int (σ26 0 18)) rfl ?_
                    refine lv_bipush (v := (-9)) hx hb dX11_piece_190 (by decide) ?_
                    refine r_iast C hw qM_12 dX11_piece_192 h (fun σ27 H locs hw h => ?_)
                    refine lv_aload_n hx hb dX11_piece_193 rfl (lv_at hl 0 rfl) ?_
                    refine lv_dup hx hb dX11_piece_194 rfl ?_
                    refine r_get C hw qM_0 clsX11 18 rfl (by decide) fl_X11_174 dX11_piece_195 (v := .int (σ27 0 18)) rfl ?_
                    refine lv_iconst (v := 1) hx hb dX11_piece_198 (by decide) ?_
                    refine lv_iadd hx hb dX11_piece_199 ?_
                    refine r_put C hw qM_0 clsX11 18 rfl (by decide) fl_X11_174 dX11_piece_200 rfl rfl rfl h (fun σ28 H locs hw h => ?_)
                    refine lv_aload_n hx hb dX11_piece_203 rfl (lv_at hl 0 rfl) ?_
                    refine r_get C hw qM_0 clsX11 18 rfl (by decide) fl_X11_174 dX11_piece_204 (v := .int (σ28 0 18)) rfl ?_
                    refine lv_iconst (v := 1) hx hb dX11_piece_207 (by decide) ?_
                    refine lv_isub hx hb dX11_piece_208 ?_
                    exact r_iret C hw dX11_piece_209 h
                  · replace h := pw_t hc h
                    exact wX11_piece_b112 C  _ _ _ _ hw (lv_sub hl [0] rfl) h
          · replace h := pw_f hc h
            refine lv_aload_n hx hb dX11_piece_72 rfl (lv_at hl 0 rfl) ?_
            refine lv_bipush (v := (-4)) hx hb dX11_piece_73 (by decide) ?_
            obtain ⟨v31, σ30, e29, h⟩ := cal_some h
            refine r_cVI C hw (As := [.int (-4)]) (rest := []) (kX11_refuse l D cI cZ ad _ _ _ e29) YX11_refuse ml_X11_152 qM_0 clsX11 (pw_rmOK (by omega) (by decide)) rfl hl.1 rfl (Nat.le_of_ble_eq_true rfl) dX11_piece_75 ⟨Nat.zero_le _, Nat.zero_le _⟩ (fun H locs hw => ?_)
            exact r_iret C hw dX11_piece_78 h
      · replace h := pw_f hc h
        refine lv_aload_n hx hb dX11_piece_53 rfl (lv_at hl 0 rfl) ?_
        refine lv_bipush (v := (-3)) hx hb dX11_piece_54 (by decide) ?_
        obtain ⟨v34, σ33, e32, h⟩ := cal_some h
        refine r_cVI C hw (As := [.int (-3)]) (rest := []) (kX11_refuse l D cI cZ ad _ _ _ e32) YX11_refuse ml_X11_152 qM_0 clsX11 (pw_rmOK (by omega) (by decide)) rfl hl.1 rfl (Nat.le_of_ble_eq_true rfl) dX11_piece_56 ⟨Nat.zero_le _, Nat.zero_le _⟩ (fun H locs hw => ?_)
        exact r_iret C hw dX11_piece_59 h
    · replace h := pw_t hc h
      refine lv_aload_n hx hb dX11_piece_20 rfl (lv_at hl 0 rfl) ?_
      refine lv_iconst (v := (-1)) hx hb dX11_piece_21 (by decide) ?_
      obtain ⟨v37, σ36, e35, h⟩ := cal_some h
      refine r_cVI C hw (As := [.int (-1)]) (rest := []) (kX11_refuse l D cI cZ ad _ _ _ e35) YX11_refuse ml_X11_152 qM_0 clsX11 (pw_rmOK (by omega) (by decide)) rfl hl.1 rfl (Nat.le_of_ble_eq_true rfl) dX11_piece_22 ⟨Nat.zero_le _, Nat.zero_le _⟩ (fun H locs hw => ?_)
      exact r_iret C hw dX11_piece_25 h
set_option maxRecDepth 100000 in
set_option maxHeartbeats 4000000 in
theorem wX11_place_b84 {p : Program} {l : Launch} {e : Env} {s : State} {m : MethodId} {args : Array Value} {below : List Frame} {meth : Method} {c : Code} {D : va_G} {cI cZ : ClassId} {ad : Nat → Nat} {A : Nat → Prop} {z : Int32 × St}  (C : pw_C p s m args meth c yX11_place.cls cX11_place 6 (some .int) D cI cZ) : ∀ (x1 : Int32) (x2 : Int32) (x3 : Int32) (s0 : Int32) (σ : St) (H : Heap) (locs : List Loc) (ls : Array Slot), pw_H D (pw_w shM cI cZ ad σ) A s.heap H locs → lv_has ls 6 [(0, .ref (ad 0)), (1, .int x1), (2, .int x2), (3, .int x3)] → fX11_place_b84  x1 x2 x3 s0 σ = some z → W p l e (pw_rm 1) s m args below meth c H locs 0 0 (pw_QI below args s D (pw_w shM cI cZ ad) A z) (F0 m 84 ls [.int s0]) := by
  obtain ⟨hx, hb, hr, hts, hown, hlk, hml, hK, hN⟩ := id C
  intro x1 x2 x3 s0 σ H locs ls hw hl h
  unfold fX11_place_b84 at h
  refine lv_istore (lv' := [(5, .int s0), (0, .ref (ad 0)), (1, .int x1), (2, .int x2), (3, .int x3)]) hx hb dX11_place_84 hl (by decide) rfl (fun ls hl => ?_)
  refine lv_iload_n hx hb dX11_place_86 rfl (lv_at hl 3 rfl) ?_
  refine lv_if_ne (tgt := 100) hx hb dX11_place_87 (by decide) (fun hc => ?_) (fun hc => ?_)
  · replace h := pw_f hc h
    refine lv_aload_n hx hb dX11_place_100 rfl (lv_at hl 1 rfl) ?_
    refine r_get C hw qM_0 clsX11 13 rfl (by decide) fl_X11_49 dX11_place_101 (v := .ref (ad 14)) rfl ?_
    refine lv_iload_n hx hb dX11_place_104 rfl (lv_at hl 2 rfl) ?_
    refine lv_iload_n hx hb dX11_place_105 rfl (lv_at hl 4 rfl) ?_
    refine r_iast C hw qM_14 dX11_place_106 h (fun σ1 H locs hw h => ?_)
    refine lv_iload hx hb dX11_place_107 (lv_at hl 0 rfl) ?_
    exact r_iret C hw dX11_place_109 h
  · replace h := pw_t hc h
    refine lv_aload_n hx hb dX11_place_90 rfl (lv_at hl 1 rfl) ?_
    refine r_get C hw qM_0 clsX11 12 rfl (by decide) fl_X11_46 dX11_place_91 (v := .ref (ad 13)) rfl ?_
    refine lv_iload_n hx hb dX11_place_94 rfl (lv_at hl 2 rfl) ?_
    refine lv_iload_n hx hb dX11_place_95 rfl (lv_at hl 4 rfl) ?_
    refine r_iast C hw qM_13 dX11_place_96 h (fun σ2 H locs hw h => ?_)
    refine lv_goto (tgt := 107) hx hb dX11_place_97 (by decide) ?_
    refine lv_iload hx hb dX11_place_107 (lv_at hl 0 rfl) ?_
    exact r_iret C hw dX11_place_109 h
set_option maxRecDepth 100000 in
set_option maxHeartbeats 4000000 in
theorem wX11_place_b51 {p : Program} {l : Launch} {e : Env} {s : State} {m : MethodId} {args : Array Value} {below : List Frame} {meth : Method} {c : Code} {D : va_G} {cI cZ : ClassId} {ad : Nat → Nat} {A : Nat → Prop} {z : Int32 × St}  (C : pw_C p s m args meth c yX11_place.cls cX11_place 6 (some .int) D cI cZ) : ∀ (x1 : Int32) (x2 : Int32) (x3 : Int32) (s0 : Int32) (σ : St) (H : Heap) (locs : List Loc) (ls : Array Slot), pw_H D (pw_w shM cI cZ ad σ) A s.heap H locs → lv_has ls 6 [(0, .ref (ad 0)), (1, .int x1), (2, .int x2), (3, .int x3)] → fX11_place_b51  x1 x2 x3 s0 σ = some z → W p l e (pw_rm 1) s m args below meth c H locs 0 0 (pw_QI below args s D (pw_w shM cI cZ ad) A z) (F0 m 51 ls [.int s0]) := by
  obtain ⟨hx, hb, hr, hts, hown, hlk, hml, hK, hN⟩ := id C
  intro x1 x2 x3 s0 σ H locs ls hw hl h
  unfold fX11_place_b51 at h
  refine lv_istore (lv' := [(4, .int s0), (0, .ref (ad 0)), (1, .int x1), (2, .int x2), (3, .int x3)]) hx hb dX11_place_51 hl (by decide) rfl (fun ls hl => ?_)
  refine lv_iload hx hb dX11_place_53 (lv_at hl 0 rfl) ?_
  refine lv_if_eq (tgt := 65) hx hb dX11_place_55 (by decide) (fun hc => ?_) (fun hc => ?_)
  · replace h := pw_t hc h
    refine lv_iload_n hx hb dX11_place_65 rfl (lv_at hl 3 rfl) ?_
    refine lv_if_ne (tgt := 78) hx hb dX11_place_66 (by decide) (fun hc => ?_) (fun hc => ?_)
    · replace h := pw_f hc h
      refine lv_aload_n hx hb dX11_place_78 rfl (lv_at hl 1 rfl) ?_
      refine r_get C hw qM_0 clsX11 13 rfl (by decide) fl_X11_49 dX11_place_79 (v := .ref (ad 14)) rfl ?_
      refine lv_iload_n hx hb dX11_place_82 rfl (lv_at hl 2 rfl) ?_
      refine r_iald C hw qM_14 dX11_place_83 h (fun v3 h => ?_)
      exact wX11_place_b84 C  _ _ _ _ _ _ _ _ hw (lv_sub hl [1, 2, 3, 4] rfl) h
    · replace h := pw_t hc h
      refine lv_aload_n hx hb dX11_place_69 rfl (lv_at hl 1 rfl) ?_
      refine r_get C hw qM_0 clsX11 12 rfl (by decide) fl_X11_46 dX11_place_70 (v := .ref (ad 13)) rfl ?_
      refine lv_iload_n hx hb dX11_place_73 rfl (lv_at hl 2 rfl) ?_
      refine r_iald C hw qM_13 dX11_place_74 h (fun v4 h => ?_)
      refine lv_goto (tgt := 84) hx hb dX11_place_75 (by decide) ?_
      exact wX11_place_b84 C  _ _ _ _ _ _ _ _ hw (lv_sub hl [1, 2, 3, 4] rfl) h
  · replace h := pw_f hc h
    refine lv_aload_n hx hb dX11_place_58 rfl (lv_at hl 1 rfl) ?_
    refine lv_iload hx hb dX11_place_59 (lv_at hl 0 rfl) ?_
    obtain ⟨v7, σ6, e5, h⟩ := cal_some h
    refine r_cVI C hw (As := [.int s0]) (rest := []) (kX11_refuse l D cI cZ ad _ _ _ e5) YX11_refuse ml_X11_152 qM_0 clsX11 (pw_rmOK (by omega) (by decide)) rfl hl.1 rfl (Nat.le_of_ble_eq_true rfl) dX11_place_61 ⟨Nat.zero_le _, Nat.zero_le _⟩ (fun H locs hw => ?_)
    exact r_iret C hw dX11_place_64 h
set_option maxRecDepth 100000 in
set_option maxHeartbeats 4000000 in
theorem kX11_place (l : Launch) (D : va_G) (cI cZ : ClassId) (ad : Nat → Nat) (x1 : Int32) (x2 : Int32) (x3 : Int32) (σ : St) (z : Int32 × St) (h : fX11_place x1 x2 x3 σ = some z) : pw_MI l D shM cI cZ ad yX11_place cX11_place 6 (some .int) (pw_rm 1) [.ref (ad 0), .int x1, .int x2, .int x3] σ z.1 z.2 := by
  refine pw_ofI (by decide) (Nat.le_of_ble_eq_true rfl) ?_
  intro p e s m args below meth c A C hw ls hl
  obtain ⟨hx, hb, hr, hts, hown, hlk, hml, hK, hN⟩ := id C
  have hl : lv_has ls 6 [(0, .ref (ad 0)), (1, .int x1), (2, .int x2), (3, .int x3)] := hl
  unfold fX11_place at h
  refine lv_iload_n hx hb dX11_place_0 rfl (lv_at hl 1 rfl) ?_
  refine lv_bipush (v := 12) hx hb dX11_place_1 (by decide) ?_
  obtain ⟨v10, σ9, e8, h⟩ := cal_some h
  refine r_cSI C hw (sh := shM) (ad := ad) (As := [.int x1, .int 12]) (rest := []) (kX11_isIn l D cI cZ ad _ _ _ _ e8) YX11_isIn ml_X11_144 (pw_rmOK (by omega) (by decide)) rfl hl.1 rfl (Nat.le_of_ble_eq_true rfl) dX11_place_3 ⟨Nat.zero_le _, Nat.zero_le _⟩ (fun H locs hw => ?_)
  refine lv_if_ne (tgt := 13) hx hb dX11_place_6 (by decide) (fun hc => ?_) (fun hc => ?_)
  · replace h := pw_f hc h
    refine lv_iload_n hx hb dX11_place_13 rfl (lv_at hl 2 rfl) ?_
    refine lv_iconst (v := 2) hx hb dX11_place_14 (by decide) ?_
    obtain ⟨v13, σ12, e11, h⟩ := cal_some h
    refine r_cSI C hw (sh := shM) (ad := ad) (As := [.int x2, .int 2]) (rest := []) (kX11_isIn l D cI cZ ad _ _ _ _ e11) YX11_isIn ml_X11_144 (pw_rmOK (by omega) (by decide)) rfl hl.1 rfl (Nat.le_of_ble_eq_true rfl) dX11_place_15 ⟨Nat.zero_le _, Nat.zero_le _⟩ (fun H locs hw => ?_)
    refine lv_if_ne (tgt := 26) hx hb dX11_place_18 (by decide) (fun hc => ?_) (fun hc => ?_)
    · replace h := pw_f hc h
      refine lv_iload_n hx hb dX11_place_26 rfl (lv_at hl 3 rfl) ?_
      refine lv_iload_n hx hb dX11_place_27 rfl (lv_at hl 2 rfl) ?_
      refine lv_if_ne (tgt := 35) hx hb dX11_place_28 (by decide) (fun hc => ?_) (fun hc => ?_)
      · replace h := pw_f hc h
        refine lv_iconst (v := 0) hx hb dX11_place_35 (by decide) ?_
        refine lv_iload_n hx hb dX11_place_36 rfl (lv_at hl 2 rfl) ?_
        refine lv_if_ne (tgt := 45) hx hb dX11_place_37 (by decide) (fun hc => ?_) (fun hc => ?_)
        · replace h := pw_f hc h
          refine lv_sipush (v := 200) hx hb dX11_place_45 (by decide) ?_
          obtain ⟨v16, σ15, e14, h⟩ := cal_some h
          refine r_cSI C hw (sh := shM) (ad := ad) (As := [.int x3, .int 0, .int 200]) (rest := []) (kX11_wrong l D cI cZ ad _ _ _ _ _ e14) YX11_wrong ml_X11_148 (pw_rmOK (by omega) (by decide)) rfl hl.1 rfl (Nat.le_of_ble_eq_true rfl) dX11_place_48 ⟨Nat.zero_le _, Nat.zero_le _⟩ (fun H locs hw => ?_)
          exact wX11_place_b51 C  _ _ _ _ _ _ _ _ hw (lv_sub hl [0, 1, 2, 3] rfl) h
        · replace h := pw_t hc h
          refine lv_bipush (v := 40) hx hb dX11_place_40 (by decide) ?_
          refine lv_goto (tgt := 48) hx hb dX11_place_42 (by decide) ?_
          obtain ⟨v19, σ18, e17, h⟩ := cal_some h
          refine r_cSI C hw (sh := shM) (ad := ad) (As := [.int x3, .int 0, .int 40]) (rest := []) (kX11_wrong l D cI cZ ad _ _ _ _ _ e17) YX11_wrong ml_X11_148 (pw_rmOK (by omega) (by decide)) rfl hl.1 rfl (Nat.le_of_ble_eq_true rfl) dX11_place_48 ⟨Nat.zero_le _, Nat.zero_le _⟩ (fun H locs hw => ?_)
          exact wX11_place_b51 C  _ _ _ _ _ _ _ _ hw (lv_sub hl [0, 1, 2, 3] rfl) h
      · replace h := pw_t hc h
        refine lv_iconst (v := 1) hx hb dX11_place_31 (by decide) ?_
        refine lv_goto (tgt := 36) hx hb dX11_place_32 (by decide) ?_
        refine lv_iload_n hx hb dX11_place_36 rfl (lv_at hl 2 rfl) ?_
        refine lv_if_ne (tgt := 45) hx hb dX11_place_37 (by decide) (fun hc => ?_) (fun hc => ?_)
        · replace h := pw_f hc h
          refine lv_sipush (v := 200) hx hb dX11_place_45 (by decide) ?_
          obtain ⟨v22, σ21, e20, h⟩ := cal_some h
          refine r_cSI C hw (sh := shM) (ad := ad) (As := [.int x3, .int 1, .int 200]) (rest := []) (kX11_wrong l D cI cZ ad _ _ _ _ _ e20) YX11_wrong ml_X11_148 (pw_rmOK (by omega) (by decide)) rfl hl.1 rfl (Nat.le_of_ble_eq_true rfl) dX11_place_48 ⟨Nat.zero_le _, Nat.zero_le _⟩ (fun H locs hw => ?_)
          exact wX11_place_b51 C  _ _ _ _ _ _ _ _ hw (lv_sub hl [0, 1, 2, 3] rfl) h
        · replace h := pw_t hc h
          refine lv_bipush (v := 40) hx hb dX11_place_40 (by decide) ?_
          refine lv_goto (tgt := 48) hx hb dX11_place_42 (by decide) ?_
          obtain ⟨v25, σ24, e23, h⟩ := cal_some h
          refine r_cSI C hw (sh := shM) (ad := ad) (As := [.int x3, .int 1, .int 40]) (rest := []) (kX11_wrong l D cI cZ ad _ _ _ _ _ e23) YX11_wrong ml_X11_148 (pw_rmOK (by omega) (by decide)) rfl hl.1 rfl (Nat.le_of_ble_eq_true rfl) dX11_place_48 ⟨Nat.zero_le _, Nat.zero_le _⟩ (fun H locs hw => ?_)
          exact wX11_place_b51 C  _ _ _ _ _ _ _ _ hw (lv_sub hl [0, 1, 2, 3] rfl) h
    · replace h := pw_t hc h
      refine lv_bipush (v := (-2)) hx hb dX11_place_21 (by decide) ?_
      refine lv_goto (tgt := 51) hx hb dX11_place_23 (by decide) ?_
      exact wX11_place_b51 C  _ _ _ _ _ _ _ _ hw (lv_sub hl [0, 1, 2, 3] rfl) h
  · replace h := pw_t hc h
    refine lv_iconst (v := (-1)) hx hb dX11_place_9 (by decide) ?_
    refine lv_goto (tgt := 51) hx hb dX11_place_10 (by decide) ?_
    exact wX11_place_b51 C  _ _ _ _ _ _ _ _ hw (lv_sub hl [0, 1, 2, 3] rfl) h
set_option maxRecDepth 100000 in
set_option maxHeartbeats 4000000 in
theorem wX11_wood_b24 {p : Program} {l : Launch} {e : Env} {s : State} {m : MethodId} {args : Array Value} {below : List Frame} {meth : Method} {c : Code} {D : va_G} {cI cZ : ClassId} {ad : Nat → Nat} {A : Nat → Prop} {z : Int32 × St}  (C : pw_C p s m args meth c yX11_wood.cls cX11_wood 3 (some .int) D cI cZ) : ∀ (x1 : Int32) (x2 : Int32) (σ : St) (H : Heap) (locs : List Loc) (ls : Array Slot), pw_H D (pw_w shM cI cZ ad σ) A s.heap H locs → lv_has ls 3 [(0, .ref (ad 0)), (1, .int x1), (2, .int x2)] → fX11_wood_b24  x1 x2 σ = some z → W p l e (pw_rm 1) s m args below meth c H locs 0 0 (pw_QI below args s D (pw_w shM cI cZ ad) A z) (F0 m 24 ls []) := by
  obtain ⟨hx, hb, hr, hts, hown, hlk, hml, hK, hN⟩ := id C
  intro x1 x2 σ H locs ls hw hl h
  unfold fX11_wood_b24 at h
  refine lv_iload_n hx hb dX11_wood_24 rfl (lv_at hl 2 rfl) ?_
  refine lv_if_eq (tgt := 34) hx hb dX11_wood_25 (by decide) (fun hc => ?_) (fun hc => ?_)
  · replace h := pw_t hc h
    refine lv_aload_n hx hb dX11_wood_34 rfl (lv_at hl 0 rfl) ?_
    refine r_get C hw qM_0 clsX11 15 rfl (by decide) fl_X11_55 dX11_wood_35 (v := .ref (ad 16)) rfl ?_
    refine lv_aload_n hx hb dX11_wood_38 rfl (lv_at hl 0 rfl) ?_
    refine r_get C hw qM_0 clsX11 19 rfl (by decide) fl_X11_177 dX11_wood_39 (v := .int (σ 0 19)) rfl ?_
    refine lv_iload_n hx hb dX11_wood_42 rfl (lv_at hl 1 rfl) ?_
    refine r_iast C hw qM_16 dX11_wood_43 h (fun σ1 H locs hw h => ?_)
    refine lv_aload_n hx hb dX11_wood_44 rfl (lv_at hl 0 rfl) ?_
    refine lv_dup hx hb dX11_wood_45 rfl ?_
    refine r_get C hw qM_0 clsX11 19 rfl (by decide) fl_X11_177 dX11_wood_46 (v := .int (σ1 0 19)) rfl ?_
    refine lv_iconst (v := 1) hx hb dX11_wood_49 (by decide) ?_
    refine lv_iadd hx hb dX11_wood_50 ?_
    refine r_put C hw qM_0 clsX11 19 rfl (by decide) fl_X11_177 dX11_wood_51 rfl rfl rfl h (fun σ2 H locs hw h => ?_)
    refine lv_aload_n hx hb dX11_wood_54 rfl (lv_at hl 0 rfl) ?_
    refine r_get C hw qM_0 clsX11 19 rfl (by decide) fl_X11_177 dX11_wood_55 (v := .int (σ2 0 19)) rfl ?_
    exact r_iret C hw dX11_wood_58 h
  · replace h := pw_f hc h
    refine lv_aload_n hx hb dX11_wood_28 rfl (lv_at hl 0 rfl) ?_
    refine lv_iload_n hx hb dX11_wood_29 rfl (lv_at hl 2 rfl) ?_
    obtain ⟨v5, σ4, e3, h⟩ := cal_some h
    refine r_cVI C hw (As := [.int x2]) (rest := []) (kX11_refuse l D cI cZ ad _ _ _ e3) YX11_refuse ml_X11_152 qM_0 clsX11 (pw_rmOK (by omega) (by decide)) rfl hl.1 rfl (Nat.le_of_ble_eq_true rfl) dX11_wood_30 ⟨Nat.zero_le _, Nat.zero_le _⟩ (fun H locs hw => ?_)
    exact r_iret C hw dX11_wood_33 h
set_option maxRecDepth 100000 in
set_option maxHeartbeats 4000000 in
theorem kX11_wood (l : Launch) (D : va_G) (cI cZ : ClassId) (ad : Nat → Nat) (x1 : Int32) (σ : St) (z : Int32 × St) (h : fX11_wood x1 σ = some z) : pw_MI l D shM cI cZ ad yX11_wood cX11_wood 3 (some .int) (pw_rm 1) [.ref (ad 0), .int x1] σ z.1 z.2 := by
  refine pw_ofI (by decide) (Nat.le_of_ble_eq_true rfl) ?_
  intro p e s m args below meth c A C hw ls hl
  obtain ⟨hx, hb, hr, hts, hown, hlk, hml, hK, hN⟩ := id C
  have hl : lv_has ls 3 [(0, .ref (ad 0)), (1, .int x1)] := hl
  unfold fX11_wood at h
  refine lv_iload_n hx hb dX11_wood_0 rfl (lv_at hl 1 rfl) ?_
  refine lv_iconst (v := 0) hx hb dX11_wood_1 (by decide) ?_
  refine lv_bipush (v := 50) hx hb dX11_wood_2 (by decide) ?_
  obtain ⟨v8, σ7, e6, h⟩ := cal_some h
  refine r_cSI C hw (sh := shM) (ad := ad) (As := [.int x1, .int 0, .int 50]) (rest := []) (kX11_wrong l D cI cZ ad _ _ _ _ _ e6) YX11_wrong ml_X11_148 (pw_rmOK (by omega) (by decide)) rfl hl.1 rfl (Nat.le_of_ble_eq_true rfl) dX11_wood_4 ⟨Nat.zero_le _, Nat.zero_le _⟩ (fun H locs hw => ?_)
  refine lv_istore_n (lv' := [(2, .int v8), (0, .ref (ad 0)), (1, .int x1)]) hx hb dX11_wood_7 rfl hl (by decide) rfl (fun ls hl => ?_)
  refine lv_iload_n hx hb dX11_wood_8 rfl (lv_at hl 0 rfl) ?_
  refine lv_if_ne (tgt := 24) hx hb dX11_wood_9 (by decide) (fun hc => ?_) (fun hc => ?_)
  · replace h := pw_f hc h
    exact wX11_wood_b24 C  _ _ _ _ _ _ hw (lv_sub hl [1, 2, 0] rfl) h
  · replace h := pw_t hc h
    refine lv_aload_n hx hb dX11_wood_12 rfl (lv_at hl 1 rfl) ?_
    refine r_get C hw qM_0 clsX11 19 rfl (by decide) fl_X11_177 dX11_wood_13 (v := .int (σ7 0 19)) rfl ?_
    refine lv_bipush (v := 48) hx hb dX11_wood_16 (by decide) ?_
    refine lv_icmp_ne (tgt := 24) hx hb dX11_wood_18 (by decide) (fun hc => ?_) (fun hc => ?_)
    · replace h := pw_f hc h
      exact wX11_wood_b24 C  _ _ _ _ _ _ hw (lv_sub hl [1, 2, 0] rfl) h
    · replace h := pw_t hc h
      refine lv_bipush (v := (-6)) hx hb dX11_wood_21 (by decide) ?_
      refine lv_istore_n (lv' := [(2, .int (-6)), (0, .ref (ad 0)), (1, .int x1)]) hx hb dX11_wood_23 rfl hl (by decide) rfl (fun ls hl => ?_)
      exact wX11_wood_b24 C  _ _ _ _ _ _ hw (lv_sub hl [1, 2, 0] rfl) h
set_option maxRecDepth 100000 in
set_option maxHeartbeats 4000000 in
theorem kX11_clear (l : Launch) (D : va_G) (cI cZ : ClassId) (ad : Nat → Nat)  (σ : St) (z : Int32 × St) (h : fX11_clear  σ = some z) : pw_MI l D shM cI cZ ad yX11_clear cX11_clear 2 (some .int) (pw_rm 0) [.ref (ad 0)] σ z.1 z.2 := by
  refine pw_ofI (by decide) (Nat.le_of_ble_eq_true rfl) ?_
  intro p e s m args below meth c A C hw ls hl
  obtain ⟨hx, hb, hr, hts, hown, hlk, hml, hK, hN⟩ := id C
  have hl : lv_has ls 2 [(0, .ref (ad 0))] := hl
  unfold fX11_clear at h
  refine lv_aload_n hx hb dX11_clear_0 rfl (lv_at hl 0 rfl) ?_
  refine r_get C hw qM_0 clsX11 19 rfl (by decide) fl_X11_177 dX11_clear_1 (v := .int (σ 0 19)) rfl ?_
  refine lv_istore_n (lv' := [(1, .int (σ 0 19)), (0, .ref (ad 0))]) hx hb dX11_clear_4 rfl hl (by decide) rfl (fun ls hl => ?_)
  refine lv_aload_n hx hb dX11_clear_5 rfl (lv_at hl 1 rfl) ?_
  refine lv_iconst (v := 0) hx hb dX11_clear_6 (by decide) ?_
  refine r_put C hw qM_0 clsX11 19 rfl (by decide) fl_X11_177 dX11_clear_7 rfl rfl rfl h (fun σ1 H locs hw h => ?_)
  refine lv_iload_n hx hb dX11_clear_10 rfl (lv_at hl 0 rfl) ?_
  exact r_iret C hw dX11_clear_11 h
set_option maxRecDepth 100000 in
set_option maxHeartbeats 4000000 in
theorem wX11_burns_b154 {p : Program} {l : Launch} {e : Env} {s : State} {m : MethodId} {args : Array Value} {below : List Frame} {meth : Method} {c : Code} {D : va_G} {cI cZ : ClassId} {ad : Nat → Nat} {A : Nat → Prop} {z : Int32 × St} {k30 : Int32 → Int32 → St → Option (Int32 × St)} {k98 : Int32 → Int32 → Int32 → St → Option (Int32 × St)} (C : pw_C p s m args meth c yX11_burns.cls cX11_burns 5 none D cI cZ) (hk30 : ∀ (x1 : Int32) (x2 : Int32) (σ : St) (H : Heap) (locs : List Loc) (ls : Array Slot), pw_H D (pw_w shM cI cZ ad σ) A s.heap H locs → lv_has ls 5 [(0, .ref (ad 0)), (1, .int x1), (2, .int x2)] → k30 x1 x2 σ = some z → W p l e (pw_rm 1) s m args below meth c H locs 0 0 (pw_QV below args s D (pw_w shM cI cZ ad) A z) (F0 m 30 ls [])) (hk98 : ∀ (x1 : Int32) (x2 : Int32) (x3 : Int32) (σ : St) (H : Heap) (locs : List Loc) (ls : Array Slot), pw_H D (pw_w shM cI cZ ad σ) A s.heap H locs → lv_has ls 5 [(0, .ref (ad 0)), (1, .int x1), (2, .int x2), (3, .int x3)] → k98 x1 x2 x3 σ = some z → W p l e (pw_rm 1) s m args below meth c H locs 0 0 (pw_QV below args s D (pw_w shM cI cZ ad) A z) (F0 m 98 ls [])) : ∀ (x1 : Int32) (x2 : Int32) (x3 : Int32) (s0 : Int32) (s1 : Int32) (σ : St) (H : Heap) (locs : List Loc) (ls : Array Slot), pw_H D (pw_w shM cI cZ ad σ) A s.heap H locs → lv_has ls 5 [(0, .ref (ad 0)), (1, .int x1), (2, .int x2), (3, .int x3)] → fX11_burns_b154 k30 k98 x1 x2 x3 s0 s1 σ = some z → W p l e (pw_rm 1) s m args below meth c H locs 0 0 (pw_QV below args s D (pw_w shM cI cZ ad) A z) (F0 m 154 ls [.int s1, .int s0]) := by
  obtain ⟨hx, hb, hr, hts, hown, hlk, hml, hK, hN⟩ := id C
  intro x1 x2 x3 s0 s1 σ H locs ls hw hl h
  unfold fX11_burns_b154 at h
  refine lv_iadd hx hb dX11_burns_154 ?_
  refine lv_istore (lv' := [(4, .int (s0 + s1)), (0, .ref (ad 0)), (1, .int x1), (2, .int x2), (3, .int x3)]) hx hb dX11_burns_155 hl (by decide) rfl (fun ls hl => ?_)
  refine lv_aload_n hx hb dX11_burns_157 rfl (lv_at hl 1 rfl) ?_
  refine r_get C hw qM_0 clsX11 26 rfl (by decide) fl_X11_58 dX11_burns_158 (v := .ref (ad 17)) rfl ?_
  refine lv_iload_n hx hb dX11_burns_161 rfl (lv_at hl 4 rfl) ?_
  refine lv_aload_n hx hb dX11_burns_162 rfl (lv_at hl 1 rfl) ?_
  refine r_get C hw qM_0 clsX11 27 rfl (by decide) fl_X11_61 dX11_burns_163 (v := .ref (ad 18)) rfl ?_
  refine lv_iload_n hx hb dX11_burns_166 rfl (lv_at hl 4 rfl) ?_
  refine r_iald C hw qM_18 dX11_burns_167 h (fun v1 h => ?_)
  refine lv_iload hx hb dX11_burns_168 (lv_at hl 0 rfl) ?_
  refine lv_bipush (v := 10) hx hb dX11_burns_170 (by decide) ?_
  refine lv_idiv hx hb dX11_burns_172 (by decide) ?_
  refine lv_iadd hx hb dX11_burns_173 ?_
  refine r_iast C hw qM_17 dX11_burns_174 h (fun σ2 H locs hw h => ?_)
  refine lv_aload_n hx hb dX11_burns_175 rfl (lv_at hl 1 rfl) ?_
  refine r_get C hw qM_0 clsX11 28 rfl (by decide) fl_X11_64 dX11_burns_176 (v := .ref (ad 19)) rfl ?_
  refine lv_iload_n hx hb dX11_burns_179 rfl (lv_at hl 4 rfl) ?_
  refine lv_iload_n hx hb dX11_burns_180 rfl (lv_at hl 3 rfl) ?_
  refine lv_if_ne (tgt := 193) hx hb dX11_burns_181 (by decide) (fun hc => ?_) (fun hc => ?_)
  · replace h := pw_f hc h
    refine lv_aload_n hx hb dX11_burns_193 rfl (lv_at hl 1 rfl) ?_
    refine r_get C hw qM_0 clsX11 28 rfl (by decide) fl_X11_64 dX11_burns_194 (v := .ref (ad 19)) rfl ?_
    refine lv_iload_n hx hb dX11_burns_197 rfl (lv_at hl 4 rfl) ?_
    refine r_iald C hw qM_19 dX11_burns_198 h (fun v3 h => ?_)
    refine lv_aload_n hx hb dX11_burns_199 rfl (lv_at hl 1 rfl) ?_
    refine r_get C hw qM_0 clsX11 26 rfl (by decide) fl_X11_58 dX11_burns_200 (v := .ref (ad 17)) rfl ?_
    refine lv_iload_n hx hb dX11_burns_203 rfl (lv_at hl 4 rfl) ?_
    refine r_iald C hw qM_17 dX11_burns_204 h (fun v4 h => ?_)
    refine va_mmax hx hb (hml.trans hl.1.symm) hown (hts _ ml_X11_182) (hts _ ls_max) (hts _ li_Math) (hts _ lc_max) (pw_fr (by omega)) (pw_lo (Nat.le_of_ble_eq_true rfl) (by omega)) (Nat.zero_le _) (Nat.zero_le _) dX11_burns_205 ?_
    refine r_iast C hw qM_19 dX11_burns_208 h (fun σ5 H locs hw h => ?_)
    refine lv_iinc (v := (x3 + 1)) (lv' := [(3, .int (x3 + 1)), (4, .int (s0 + s1)), (0, .ref (ad 0)), (1, .int x1), (2, .int x2)]) hx hb dX11_burns_209 hl (k := 4) rfl rfl (by decide) rfl (fun ls hl => ?_)
    refine lv_goto (tgt := 98) hx hb dX11_burns_212 (by decide) ?_
    exact hk98 _ _ _ _ _ _ _ hw (lv_sub hl [2, 3, 4, 0] rfl) h
  · replace h := pw_t hc h
    refine lv_aload_n hx hb dX11_burns_184 rfl (lv_at hl 1 rfl) ?_
    refine r_get C hw qM_0 clsX11 26 rfl (by decide) fl_X11_58 dX11_burns_185 (v := .ref (ad 17)) rfl ?_
    refine lv_iload_n hx hb dX11_burns_188 rfl (lv_at hl 4 rfl) ?_
    refine r_iald C hw qM_17 dX11_burns_189 h (fun v6 h => ?_)
    refine lv_goto (tgt := 208) hx hb dX11_burns_190 (by decide) ?_
    refine r_iast C hw qM_19 dX11_burns_208 h (fun σ7 H locs hw h => ?_)
    refine lv_iinc (v := (x3 + 1)) (lv' := [(3, .int (x3 + 1)), (4, .int (s0 + s1)), (0, .ref (ad 0)), (1, .int x1), (2, .int x2)]) hx hb dX11_burns_209 hl (k := 4) rfl rfl (by decide) rfl (fun ls hl => ?_)
    refine lv_goto (tgt := 98) hx hb dX11_burns_212 (by decide) ?_
    exact hk98 _ _ _ _ _ _ _ hw (lv_sub hl [2, 3, 4, 0] rfl) h
set_option maxRecDepth 100000 in
set_option maxHeartbeats 4000000 in
theorem wX11_burns_b127 {p : Program} {l : Launch} {e : Env} {s : State} {m : MethodId} {args : Array Value} {below : List Frame} {meth : Method} {c : Code} {D : va_G} {cI cZ : ClassId} {ad : Nat → Nat} {A : Nat → Prop} {z : Int32 × St} {k30 : Int32 → Int32 → St → Option (Int32 × St)} {k98 : Int32 → Int32 → Int32 → St → Option (Int32 × St)} (C : pw_C p s m args meth c yX11_burns.cls cX11_burns 5 none D cI cZ) (hk30 : ∀ (x1 : Int32) (x2 : Int32) (σ : St) (H : Heap) (locs : List Loc) (ls : Array Slot), pw_H D (pw_w shM cI cZ ad σ) A s.heap H locs → lv_has ls 5 [(0, .ref (ad 0)), (1, .int x1), (2, .int x2)] → k30 x1 x2 σ = some z → W p l e (pw_rm 1) s m args below meth c H locs 0 0 (pw_QV below args s D (pw_w shM cI cZ ad) A z) (F0 m 30 ls [])) (hk98 : ∀ (x1 : Int32) (x2 : Int32) (x3 : Int32) (σ : St) (H : Heap) (locs : List Loc) (ls : Array Slot), pw_H D (pw_w shM cI cZ ad σ) A s.heap H locs → lv_has ls 5 [(0, .ref (ad 0)), (1, .int x1), (2, .int x2), (3, .int x3)] → k98 x1 x2 x3 σ = some z → W p l e (pw_rm 1) s m args below meth c H locs 0 0 (pw_QV below args s D (pw_w shM cI cZ ad) A z) (F0 m 98 ls [])) : ∀ (x1 : Int32) (x2 : Int32) (x3 : Int32) (s0 : Int32) (σ : St) (H : Heap) (locs : List Loc) (ls : Array Slot), pw_H D (pw_w shM cI cZ ad σ) A s.heap H locs → lv_has ls 5 [(0, .ref (ad 0)), (1, .int x1), (2, .int x2), (3, .int x3)] → fX11_burns_b127 k30 k98 x1 x2 x3 s0 σ = some z → W p l e (pw_rm 1) s m args below meth c H locs 0 0 (pw_QV below args s D (pw_w shM cI cZ ad) A z) (F0 m 127 ls [.int s0]) := by
  obtain ⟨hx, hb, hr, hts, hown, hlk, hml, hK, hN⟩ := id C
  intro x1 x2 x3 s0 σ H locs ls hw hl h
  unfold fX11_burns_b127 at h
  refine lv_iload_n hx hb dX11_burns_127 rfl (lv_at hl 3 rfl) ?_
  refine lv_iconst (v := 1) hx hb dX11_burns_128 (by decide) ?_
  refine lv_iadd hx hb dX11_burns_129 ?_
  refine lv_bipush (v := 12) hx hb dX11_burns_130 (by decide) ?_
  refine lv_icmp_ge (tgt := 153) hx hb dX11_burns_132 (by decide) (fun hc => ?_) (fun hc => ?_)
  · replace h := pw_t hc h
    refine lv_iconst (v := 0) hx hb dX11_burns_153 (by decide) ?_
    exact wX11_burns_b154 C hk30 hk98 _ _ _ _ _ _ _ _ _ hw (lv_sub hl [0, 1, 2, 3] rfl) h
  · replace h := pw_f hc h
    refine lv_aload_n hx hb dX11_burns_135 rfl (lv_at hl 0 rfl) ?_
    refine r_get C hw qM_0 clsX11 27 rfl (by decide) fl_X11_61 dX11_burns_136 (v := .ref (ad 18)) rfl ?_
    refine lv_iload_n hx hb dX11_burns_139 rfl (lv_at hl 3 rfl) ?_
    refine lv_iconst (v := 1) hx hb dX11_burns_140 (by decide) ?_
    refine lv_iadd hx hb dX11_burns_141 ?_
    refine r_iald C hw qM_18 dX11_burns_142 h (fun v8 h => ?_)
    refine lv_aload_n hx hb dX11_burns_143 rfl (lv_at hl 0 rfl) ?_
    refine r_get C hw qM_0 clsX11 27 rfl (by decide) fl_X11_61 dX11_burns_144 (v := .ref (ad 18)) rfl ?_
    refine lv_iload_n hx hb dX11_burns_147 rfl (lv_at hl 3 rfl) ?_
    refine r_iald C hw qM_18 dX11_burns_148 h (fun v9 h => ?_)
    refine lv_isub hx hb dX11_burns_149 ?_
    refine lv_goto (tgt := 154) hx hb dX11_burns_150 (by decide) ?_
    exact wX11_burns_b154 C hk30 hk98 _ _ _ _ _ _ _ _ _ hw (lv_sub hl [0, 1, 2, 3] rfl) h
set_option maxRecDepth 100000 in
set_option maxHeartbeats 4000000 in
theorem wX11_burns_b98 {p : Program} {l : Launch} {e : Env} {s : State} {m : MethodId} {args : Array Value} {below : List Frame} {meth : Method} {c : Code} {D : va_G} {cI cZ : ClassId} {ad : Nat → Nat} {A : Nat → Prop} {z : Int32 × St} {k30 : Int32 → Int32 → St → Option (Int32 × St)} (C : pw_C p s m args meth c yX11_burns.cls cX11_burns 5 none D cI cZ) (hk30 : ∀ (x1 : Int32) (x2 : Int32) (σ : St) (H : Heap) (locs : List Loc) (ls : Array Slot), pw_H D (pw_w shM cI cZ ad σ) A s.heap H locs → lv_has ls 5 [(0, .ref (ad 0)), (1, .int x1), (2, .int x2)] → k30 x1 x2 σ = some z → W p l e (pw_rm 1) s m args below meth c H locs 0 0 (pw_QV below args s D (pw_w shM cI cZ ad) A z) (F0 m 30 ls [])) : ∀ (n : Nat) (x1 : Int32) (x2 : Int32) (x3 : Int32) (σ : St) (H : Heap) (locs : List Loc) (ls : Array Slot), pw_H D (pw_w shM cI cZ ad σ) A s.heap H locs → lv_has ls 5 [(0, .ref (ad 0)), (1, .int x1), (2, .int x2), (3, .int x3)] → fX11_burns_b98 k30 n x1 x2 x3 σ = some z → W p l e (pw_rm 1) s m args below meth c H locs 0 0 (pw_QV below args s D (pw_w shM cI cZ ad) A z) (F0 m 98 ls []) := by
  obtain ⟨hx, hb, hr, hts, hown, hlk, hml, hK, hN⟩ := id C
  intro n
  induction n with
  | zero =>
    intro x1 x2 x3 σ H locs ls hw hl h
    exact absurd h (by simp [fX11_burns_b98])
  | succ n ih =>
    intro x1 x2 x3 σ H locs ls hw hl h
    rw [fX11_burns_b98] at h
    refine lv_iload_n hx hb dX11_burns_98 rfl (lv_at hl 3 rfl) ?_
    refine lv_bipush (v := 12) hx hb dX11_burns_99 (by decide) ?_
    refine lv_icmp_ge (tgt := 215) hx hb dX11_burns_101 (by decide) (fun hc => ?_) (fun hc => ?_)
    · replace h := pw_t hc h
      refine lv_iinc (v := (x2 + 1)) (lv' := [(2, .int (x2 + 1)), (0, .ref (ad 0)), (1, .int x1), (3, .int x3)]) hx hb dX11_burns_215 hl (k := 2) rfl rfl (by decide) rfl (fun ls hl => ?_)
      refine lv_goto (tgt := 30) hx hb dX11_burns_218 (by decide) ?_
      exact hk30 _ _ _ _ _ _ hw (lv_sub hl [1, 2, 0] rfl) h
    · replace h := pw_f hc h
      refine lv_iload_n hx hb dX11_burns_104 rfl (lv_at hl 3 rfl) ?_
      refine lv_if_le (tgt := 126) hx hb dX11_burns_105 (by decide) (fun hc => ?_) (fun hc => ?_)
      · replace h := pw_t hc h
        refine lv_iconst (v := 0) hx hb dX11_burns_126 (by decide) ?_
        exact wX11_burns_b127 C hk30 ih _ _ _ _ _ _ _ _ hw (lv_sub hl [0, 1, 2, 3] rfl) h
      · replace h := pw_f hc h
        refine lv_aload_n hx hb dX11_burns_108 rfl (lv_at hl 0 rfl) ?_
        refine r_get C hw qM_0 clsX11 27 rfl (by decide) fl_X11_61 dX11_burns_109 (v := .ref (ad 18)) rfl ?_
        refine lv_iload_n hx hb dX11_burns_112 rfl (lv_at hl 3 rfl) ?_
        refine lv_iconst (v := 1) hx hb dX11_burns_113 (by decide) ?_
        refine lv_isub hx hb dX11_burns_114 ?_
        refine r_iald C hw qM_18 dX11_burns_115 h (fun v10 h => ?_)
        refine lv_aload_n hx hb dX11_burns_116 rfl (lv_at hl 0 rfl) ?_
        refine r_get C hw qM_0 clsX11 27 rfl (by decide) fl_X11_61 dX11_burns_117 (v := .ref (ad 18)) rfl ?_
        refine lv_iload_n hx hb dX11_burns_120 rfl (lv_at hl 3 rfl) ?_
        refine r_iald C hw qM_18 dX11_burns_121 h (fun v11 h => ?_)
        refine lv_isub hx hb dX11_burns_122 ?_
        refine lv_goto (tgt := 127) hx hb dX11_burns_123 (by decide) ?_
        exact wX11_burns_b127 C hk30 ih _ _ _ _ _ _ _ _ hw (lv_sub hl [0, 1, 2, 3] rfl) h
set_option maxRecDepth 100000 in
set_option maxHeartbeats 4000000 in
theorem wX11_burns_b37 {p : Program} {l : Launch} {e : Env} {s : State} {m : MethodId} {args : Array Value} {below : List Frame} {meth : Method} {c : Code} {D : va_G} {cI cZ : ClassId} {ad : Nat → Nat} {A : Nat → Prop} {z : Int32 × St} {k30 : Int32 → Int32 → St → Option (Int32 × St)} (C : pw_C p s m args meth c yX11_burns.cls cX11_burns 5 none D cI cZ) (hk30 : ∀ (x1 : Int32) (x2 : Int32) (σ : St) (H : Heap) (locs : List Loc) (ls : Array Slot), pw_H D (pw_w shM cI cZ ad σ) A s.heap H locs → lv_has ls 5 [(0, .ref (ad 0)), (1, .int x1), (2, .int x2)] → k30 x1 x2 σ = some z → W p l e (pw_rm 1) s m args below meth c H locs 0 0 (pw_QV below args s D (pw_w shM cI cZ ad) A z) (F0 m 30 ls [])) : ∀ (n : Nat) (x1 : Int32) (x2 : Int32) (x3 : Int32) (σ : St) (H : Heap) (locs : List Loc) (ls : Array Slot), pw_H D (pw_w shM cI cZ ad σ) A s.heap H locs → lv_has ls 5 [(0, .ref (ad 0)), (1, .int x1), (2, .int x2), (3, .int x3)] → fX11_burns_b37 k30 n x1 x2 x3 σ = some z → W p l e (pw_rm 1) s m args below meth c H locs 0 0 (pw_QV below args s D (pw_w shM cI cZ ad) A z) (F0 m 37 ls []) := by
  obtain ⟨hx, hb, hr, hts, hown, hlk, hml, hK, hN⟩ := id C
  intro n
  induction n with
  | zero =>
    intro x1 x2 x3 σ H locs ls hw hl h
    exact absurd h (by simp [fX11_burns_b37])
  | succ n ih =>
    intro x1 x2 x3 σ H locs ls hw hl h
    rw [fX11_burns_b37] at h
    refine lv_iload_n hx hb dX11_burns_37 rfl (lv_at hl 3 rfl) ?_
    refine lv_bipush (v := 12) hx hb dX11_burns_38 (by decide) ?_
    refine lv_icmp_ge (tgt := 96) hx hb dX11_burns_40 (by decide) (fun hc => ?_) (fun hc => ?_)
    · replace h := pw_t hc h
      refine lv_iconst (v := 0) hx hb dX11_burns_96 (by decide) ?_
      refine lv_istore_n (lv' := [(3, .int 0), (0, .ref (ad 0)), (1, .int x1), (2, .int x2)]) hx hb dX11_burns_97 rfl hl (by decide) rfl (fun ls hl => ?_)
      exact wX11_burns_b98 C hk30 _ _ _ _ _ _ _ _ hw (lv_sub hl [1, 2, 3, 0] rfl) h
    · replace h := pw_f hc h
      refine lv_aload_n hx hb dX11_burns_43 rfl (lv_at hl 0 rfl) ?_
      refine r_get C hw qM_0 clsX11 27 rfl (by decide) fl_X11_61 dX11_burns_44 (v := .ref (ad 18)) rfl ?_
      refine lv_iload_n hx hb dX11_burns_47 rfl (lv_at hl 3 rfl) ?_
      refine lv_aload_n hx hb dX11_burns_48 rfl (lv_at hl 0 rfl) ?_
      refine r_get C hw qM_0 clsX11 26 rfl (by decide) fl_X11_58 dX11_burns_49 (v := .ref (ad 17)) rfl ?_
      refine lv_iload_n hx hb dX11_burns_52 rfl (lv_at hl 3 rfl) ?_
      refine r_iald C hw qM_17 dX11_burns_53 h (fun v12 h => ?_)
      refine lv_aload_n hx hb dX11_burns_54 rfl (lv_at hl 0 rfl) ?_
      refine r_get C hw qM_0 clsX11 12 rfl (by decide) fl_X11_46 dX11_burns_55 (v := .ref (ad 13)) rfl ?_
      refine lv_iload_n hx hb dX11_burns_58 rfl (lv_at hl 3 rfl) ?_
      refine r_iald C hw qM_13 dX11_burns_59 h (fun v13 h => ?_)
      refine lv_aload_n hx hb dX11_burns_60 rfl (lv_at hl 0 rfl) ?_
      refine r_get C hw qM_0 clsX11 15 rfl (by decide) fl_X11_55 dX11_burns_61 (v := .ref (ad 16)) rfl ?_
      refine lv_iload_n hx hb dX11_burns_64 rfl (lv_at hl 2 rfl) ?_
      refine r_iald C hw qM_16 dX11_burns_65 h (fun v14 h => ?_)
      refine lv_imul hx hb dX11_burns_66 ?_
      refine lv_iadd hx hb dX11_burns_67 ?_
      refine lv_aload_n hx hb dX11_burns_68 rfl (lv_at hl 0 rfl) ?_
      refine r_get C hw qM_0 clsX11 26 rfl (by decide) fl_X11_58 dX11_burns_69 (v := .ref (ad 17)) rfl ?_
      refine lv_iload_n hx hb dX11_burns_72 rfl (lv_at hl 3 rfl) ?_
      refine r_iald C hw qM_17 dX11_burns_73 h (fun v15 h => ?_)
      refine lv_i2l (v := (v15).toInt64) hx hb dX11_burns_74 rfl ?_
      refine lv_aload_n hx hb dX11_burns_75 rfl (lv_at hl 0 rfl) ?_
      refine r_get C hw qM_0 clsX11 13 rfl (by decide) fl_X11_49 dX11_burns_76 (v := .ref (ad 14)) rfl ?_
      refine lv_iload_n hx hb dX11_burns_79 rfl (lv_at hl 3 rfl) ?_
      refine r_iald C hw qM_14 dX11_burns_80 h (fun v16 h => ?_)
      refine lv_i2l (v := (v16).toInt64) hx hb dX11_burns_81 rfl ?_
      refine lv_lmul hx hb dX11_burns_82 ?_
      refine lv_ldc2 (v := 1000) hx hb hown (hts _ ct_X11_180) dX11_burns_83 ?_
      refine lv_ldiv hx hb dX11_burns_86 (by decide) ?_
      refine lv_l2i (v := (((v15).toInt64 * (v16).toInt64) / 1000).toInt32) hx hb dX11_burns_87 rfl ?_
      refine lv_isub hx hb dX11_burns_88 ?_
      refine r_iast C hw qM_18 dX11_burns_89 h (fun σ17 H locs hw h => ?_)
      refine lv_iinc (v := (x3 + 1)) (lv' := [(3, .int (x3 + 1)), (0, .ref (ad 0)), (1, .int x1), (2, .int x2)]) hx hb dX11_burns_90 hl (k := 3) rfl rfl (by decide) rfl (fun ls hl => ?_)
      refine lv_goto (tgt := 37) hx hb dX11_burns_93 (by decide) ?_
      exact ih _ _ _ _ _ _ _ hw (lv_sub hl [1, 2, 3, 0] rfl) h
set_option maxRecDepth 100000 in
set_option maxHeartbeats 4000000 in
theorem wX11_burns_b30 {p : Program} {l : Launch} {e : Env} {s : State} {m : MethodId} {args : Array Value} {below : List Frame} {meth : Method} {c : Code} {D : va_G} {cI cZ : ClassId} {ad : Nat → Nat} {A : Nat → Prop} {z : Int32 × St}  (C : pw_C p s m args meth c yX11_burns.cls cX11_burns 5 none D cI cZ) : ∀ (n : Nat) (x1 : Int32) (x2 : Int32) (σ : St) (H : Heap) (locs : List Loc) (ls : Array Slot), pw_H D (pw_w shM cI cZ ad σ) A s.heap H locs → lv_has ls 5 [(0, .ref (ad 0)), (1, .int x1), (2, .int x2)] → fX11_burns_b30  n x1 x2 σ = some z → W p l e (pw_rm 1) s m args below meth c H locs 0 0 (pw_QV below args s D (pw_w shM cI cZ ad) A z) (F0 m 30 ls []) := by
  obtain ⟨hx, hb, hr, hts, hown, hlk, hml, hK, hN⟩ := id C
  intro n
  induction n with
  | zero =>
    intro x1 x2 σ H locs ls hw hl h
    exact absurd h (by simp [fX11_burns_b30])
  | succ n ih =>
    intro x1 x2 σ H locs ls hw hl h
    rw [fX11_burns_b30] at h
    refine lv_iload_n hx hb dX11_burns_30 rfl (lv_at hl 2 rfl) ?_
    refine lv_iload_n hx hb dX11_burns_31 rfl (lv_at hl 1 rfl) ?_
    refine lv_icmp_ge (tgt := 221) hx hb dX11_burns_32 (by decide) (fun hc => ?_) (fun hc => ?_)
    · replace h := pw_t hc h
      exact r_vret C hw dX11_burns_221 h
    · replace h := pw_f hc h
      refine lv_iconst (v := 0) hx hb dX11_burns_35 (by decide) ?_
      refine lv_istore_n (lv' := [(3, .int 0), (0, .ref (ad 0)), (1, .int x1), (2, .int x2)]) hx hb dX11_burns_36 rfl hl (by decide) rfl (fun ls hl => ?_)
      exact wX11_burns_b37 C ih _ _ _ _ _ _ _ _ hw (lv_sub hl [1, 2, 3, 0] rfl) h
set_option maxRecDepth 100000 in
set_option maxHeartbeats 4000000 in
theorem wX11_burns_b2 {p : Program} {l : Launch} {e : Env} {s : State} {m : MethodId} {args : Array Value} {below : List Frame} {meth : Method} {c : Code} {D : va_G} {cI cZ : ClassId} {ad : Nat → Nat} {A : Nat → Prop} {z : Int32 × St}  (C : pw_C p s m args meth c yX11_burns.cls cX11_burns 5 none D cI cZ) : ∀ (n : Nat) (x1 : Int32) (x2 : Int32) (σ : St) (H : Heap) (locs : List Loc) (ls : Array Slot), pw_H D (pw_w shM cI cZ ad σ) A s.heap H locs → lv_has ls 5 [(0, .ref (ad 0)), (1, .int x1), (2, .int x2)] → fX11_burns_b2  n x1 x2 σ = some z → W p l e (pw_rm 1) s m args below meth c H locs 0 0 (pw_QV below args s D (pw_w shM cI cZ ad) A z) (F0 m 2 ls []) := by
  obtain ⟨hx, hb, hr, hts, hown, hlk, hml, hK, hN⟩ := id C
  intro n
  induction n with
  | zero =>
    intro x1 x2 σ H locs ls hw hl h
    exact absurd h (by simp [fX11_burns_b2])
  | succ n ih =>
    intro x1 x2 σ H locs ls hw hl h
    rw [fX11_burns_b2] at h
    refine lv_iload_n hx hb dX11_burns_2 rfl (lv_at hl 2 rfl) ?_
    refine lv_bipush (v := 12) hx hb dX11_burns_3 (by decide) ?_
    refine lv_icmp_ge (tgt := 28) hx hb dX11_burns_5 (by decide) (fun hc => ?_) (fun hc => ?_)
    · replace h := pw_t hc h
      refine lv_iconst (v := 0) hx hb dX11_burns_28 (by decide) ?_
      refine lv_istore_n (lv' := [(2, .int 0), (0, .ref (ad 0)), (1, .int x1)]) hx hb dX11_burns_29 rfl hl (by decide) rfl (fun ls hl => ?_)
      exact wX11_burns_b30 C  _ _ _ _ _ _ _ hw (lv_sub hl [1, 2, 0] rfl) h
    · replace h := pw_f hc h
      refine lv_aload_n hx hb dX11_burns_8 rfl (lv_at hl 0 rfl) ?_
      refine r_get C hw qM_0 clsX11 26 rfl (by decide) fl_X11_58 dX11_burns_9 (v := .ref (ad 17)) rfl ?_
      refine lv_iload_n hx hb dX11_burns_12 rfl (lv_at hl 2 rfl) ?_
      refine lv_iconst (v := 0) hx hb dX11_burns_13 (by decide) ?_
      refine r_iast C hw qM_17 dX11_burns_14 h (fun σ18 H locs hw h => ?_)
      refine lv_aload_n hx hb dX11_burns_15 rfl (lv_at hl 0 rfl) ?_
      refine r_get C hw qM_0 clsX11 28 rfl (by decide) fl_X11_64 dX11_burns_16 (v := .ref (ad 19)) rfl ?_
      refine lv_iload_n hx hb dX11_burns_19 rfl (lv_at hl 2 rfl) ?_
      refine lv_iconst (v := 0) hx hb dX11_burns_20 (by decide) ?_
      refine r_iast C hw qM_19 dX11_burns_21 h (fun σ19 H locs hw h => ?_)
      refine lv_iinc (v := (x2 + 1)) (lv' := [(2, .int (x2 + 1)), (0, .ref (ad 0)), (1, .int x1)]) hx hb dX11_burns_22 hl (k := 2) rfl rfl (by decide) rfl (fun ls hl => ?_)
      refine lv_goto (tgt := 2) hx hb dX11_burns_25 (by decide) ?_
      exact ih _ _ _ _ _ _ hw (lv_sub hl [1, 2, 0] rfl) h
set_option maxRecDepth 100000 in
set_option maxHeartbeats 4000000 in
theorem kX11_burns (l : Launch) (D : va_G) (cI cZ : ClassId) (ad : Nat → Nat) (x1 : Int32) (σ : St) (z : Int32 × St) (h : fX11_burns x1 σ = some z) : pw_MV l D shM cI cZ ad yX11_burns cX11_burns 5 none (pw_rm 1) [.ref (ad 0), .int x1] σ z.2 := by
  refine pw_ofV (by decide) (Nat.le_of_ble_eq_true rfl) ?_
  intro p e s m args below meth c A C hw ls hl
  obtain ⟨hx, hb, hr, hts, hown, hlk, hml, hK, hN⟩ := id C
  have hl : lv_has ls 5 [(0, .ref (ad 0)), (1, .int x1)] := hl
  unfold fX11_burns at h
  refine lv_iconst (v := 0) hx hb dX11_burns_0 (by decide) ?_
  refine lv_istore_n (lv' := [(2, .int 0), (0, .ref (ad 0)), (1, .int x1)]) hx hb dX11_burns_1 rfl hl (by decide) rfl (fun ls hl => ?_)
  exact wX11_burns_b2 C  _ _ _ _ _ _ _ hw (lv_sub hl [1, 2, 0] rfl) h
set_option maxRecDepth 100000 in
set_option maxHeartbeats 4000000 in
theorem kX11_peak (l : Launch) (D : va_G) (cI cZ : ClassId) (ad : Nat → Nat) (x1 : Int32) (σ : St) (z : Int32 × St) (h : fX11_peak x1 σ = some z) : pw_MI l D shM cI cZ ad yX11_peak cX11_peak 2 (some .int) (pw_rm 2) [.ref (ad 0), .int x1] σ z.1 z.2 := by
  refine pw_ofI (by decide) (Nat.le_of_ble_eq_true rfl) ?_
  intro p e s m args below meth c A C hw ls hl
  obtain ⟨hx, hb, hr, hts, hown, hlk, hml, hK, hN⟩ := id C
  have hl : lv_has ls 2 [(0, .ref (ad 0)), (1, .int x1)] := hl
  unfold fX11_peak at h
  refine lv_iload_n hx hb dX11_peak_0 rfl (lv_at hl 1 rfl) ?_
  refine lv_bipush (v := 12) hx hb dX11_peak_1 (by decide) ?_
  obtain ⟨v3, σ2, e1, h⟩ := cal_some h
  refine r_cSI C hw (sh := shM) (ad := ad) (As := [.int x1, .int 12]) (rest := []) (kX11_isIn l D cI cZ ad _ _ _ _ e1) YX11_isIn ml_X11_144 (pw_rmOK (by omega) (by decide)) rfl hl.1 rfl (Nat.le_of_ble_eq_true rfl) dX11_peak_3 ⟨Nat.zero_le _, Nat.zero_le _⟩ (fun H locs hw => ?_)
  refine lv_if_ne (tgt := 15) hx hb dX11_peak_6 (by decide) (fun hc => ?_) (fun hc => ?_)
  · replace h := pw_f hc h
    refine lv_aload_n hx hb dX11_peak_15 rfl (lv_at hl 0 rfl) ?_
    refine lv_aload_n hx hb dX11_peak_16 rfl (lv_at hl 0 rfl) ?_
    refine r_get C hw qM_0 clsX11 19 rfl (by decide) fl_X11_177 dX11_peak_17 (v := .int (σ2 0 19)) rfl ?_
    obtain ⟨r6, σ5, e4, h⟩ := cal_some h
    refine r_cVV C hw (As := [.int (σ2 0 19)]) (rest := []) (kX11_burns l D cI cZ ad _ _ _ e4) YX11_burns ml_X11_187 qM_0 clsX11 (pw_rmOK (by omega) (by decide)) rfl hl.1 rfl (Nat.le_of_ble_eq_true rfl) dX11_peak_20 ⟨Nat.zero_le _, Nat.zero_le _⟩ (fun H locs hw => ?_)
    refine lv_aload_n hx hb dX11_peak_23 rfl (lv_at hl 0 rfl) ?_
    refine r_get C hw qM_0 clsX11 28 rfl (by decide) fl_X11_64 dX11_peak_24 (v := .ref (ad 19)) rfl ?_
    refine lv_iload_n hx hb dX11_peak_27 rfl (lv_at hl 1 rfl) ?_
    refine r_iald C hw qM_19 dX11_peak_28 h (fun v7 h => ?_)
    exact r_iret C hw dX11_peak_29 h
  · replace h := pw_t hc h
    refine lv_aload_n hx hb dX11_peak_9 rfl (lv_at hl 0 rfl) ?_
    refine lv_iconst (v := (-1)) hx hb dX11_peak_10 (by decide) ?_
    obtain ⟨v10, σ9, e8, h⟩ := cal_some h
    refine r_cVI C hw (As := [.int (-1)]) (rest := []) (kX11_refuse l D cI cZ ad _ _ _ e8) YX11_refuse ml_X11_152 qM_0 clsX11 (pw_rmOK (by omega) (by decide)) rfl hl.1 rfl (Nat.le_of_ble_eq_true rfl) dX11_peak_11 ⟨Nat.zero_le _, Nat.zero_le _⟩ (fun H locs hw => ?_)
    exact r_iret C hw dX11_peak_14 h
set_option maxRecDepth 100000 in
set_option maxHeartbeats 4000000 in
theorem wX11_heat_b22 {p : Program} {l : Launch} {e : Env} {s : State} {m : MethodId} {args : Array Value} {below : List Frame} {meth : Method} {c : Code} {D : va_G} {cI cZ : ClassId} {ad : Nat → Nat} {A : Nat → Prop} {z : Int32 × St}  (C : pw_C p s m args meth c yX11_heat.cls cX11_heat 4 (some .int) D cI cZ) : ∀ (x1 : Int32) (x2 : Int32) (s0 : Int32) (σ : St) (H : Heap) (locs : List Loc) (ls : Array Slot), pw_H D (pw_w shM cI cZ ad σ) A s.heap H locs → lv_has ls 4 [(0, .ref (ad 0)), (1, .int x1), (2, .int x2)] → fX11_heat_b22  x1 x2 s0 σ = some z → W p l e (pw_rm 2) s m args below meth c H locs 0 0 (pw_QI below args s D (pw_w shM cI cZ ad) A z) (F0 m 22 ls [.int s0]) := by
  obtain ⟨hx, hb, hr, hts, hown, hlk, hml, hK, hN⟩ := id C
  intro x1 x2 s0 σ H locs ls hw hl h
  unfold fX11_heat_b22 at h
  refine lv_istore_n (lv' := [(3, .int s0), (0, .ref (ad 0)), (1, .int x1), (2, .int x2)]) hx hb dX11_heat_22 rfl hl (by decide) rfl (fun ls hl => ?_)
  refine lv_iload_n hx hb dX11_heat_23 rfl (lv_at hl 0 rfl) ?_
  refine lv_if_eq (tgt := 33) hx hb dX11_heat_24 (by decide) (fun hc => ?_) (fun hc => ?_)
  · replace h := pw_t hc h
    refine lv_aload_n hx hb dX11_heat_33 rfl (lv_at hl 1 rfl) ?_
    refine lv_iload_n hx hb dX11_heat_34 rfl (lv_at hl 3 rfl) ?_
    obtain ⟨r3, σ2, e1, h⟩ := cal_some h
    refine r_cVV C hw (As := [.int x2]) (rest := []) (kX11_burns l D cI cZ ad _ _ _ e1) YX11_burns ml_X11_187 qM_0 clsX11 (pw_rmOK (by omega) (by decide)) rfl hl.1 rfl (Nat.le_of_ble_eq_true rfl) dX11_heat_35 ⟨Nat.zero_le _, Nat.zero_le _⟩ (fun H locs hw => ?_)
    refine lv_aload_n hx hb dX11_heat_38 rfl (lv_at hl 1 rfl) ?_
    refine r_get C hw qM_0 clsX11 26 rfl (by decide) fl_X11_58 dX11_heat_39 (v := .ref (ad 17)) rfl ?_
    refine lv_iload_n hx hb dX11_heat_42 rfl (lv_at hl 2 rfl) ?_
    refine r_iald C hw qM_17 dX11_heat_43 h (fun v4 h => ?_)
    exact r_iret C hw dX11_heat_44 h
  · replace h := pw_f hc h
    refine lv_aload_n hx hb dX11_heat_27 rfl (lv_at hl 1 rfl) ?_
    refine lv_iload_n hx hb dX11_heat_28 rfl (lv_at hl 0 rfl) ?_
    obtain ⟨v7, σ6, e5, h⟩ := cal_some h
    refine r_cVI C hw (As := [.int s0]) (rest := []) (kX11_refuse l D cI cZ ad _ _ _ e5) YX11_refuse ml_X11_152 qM_0 clsX11 (pw_rmOK (by omega) (by decide)) rfl hl.1 rfl (Nat.le_of_ble_eq_true rfl) dX11_heat_29 ⟨Nat.zero_le _, Nat.zero_le _⟩ (fun H locs hw => ?_)
    exact r_iret C hw dX11_heat_32 h
set_option maxRecDepth 100000 in
set_option maxHeartbeats 4000000 in
theorem kX11_heat (l : Launch) (D : va_G) (cI cZ : ClassId) (ad : Nat → Nat) (x1 : Int32) (x2 : Int32) (σ : St) (z : Int32 × St) (h : fX11_heat x1 x2 σ = some z) : pw_MI l D shM cI cZ ad yX11_heat cX11_heat 4 (some .int) (pw_rm 2) [.ref (ad 0), .int x1, .int x2] σ z.1 z.2 := by
  refine pw_ofI (by decide) (Nat.le_of_ble_eq_true rfl) ?_
  intro p e s m args below meth c A C hw ls hl
  obtain ⟨hx, hb, hr, hts, hown, hlk, hml, hK, hN⟩ := id C
  have hl : lv_has ls 4 [(0, .ref (ad 0)), (1, .int x1), (2, .int x2)] := hl
  unfold fX11_heat at h
  refine lv_iload_n hx hb dX11_heat_0 rfl (lv_at hl 1 rfl) ?_
  refine lv_bipush (v := 12) hx hb dX11_heat_1 (by decide) ?_
  obtain ⟨v10, σ9, e8, h⟩ := cal_some h
  refine r_cSI C hw (sh := shM) (ad := ad) (As := [.int x1, .int 12]) (rest := []) (kX11_isIn l D cI cZ ad _ _ _ _ e8) YX11_isIn ml_X11_144 (pw_rmOK (by omega) (by decide)) rfl hl.1 rfl (Nat.le_of_ble_eq_true rfl) dX11_heat_3 ⟨Nat.zero_le _, Nat.zero_le _⟩ (fun H locs hw => ?_)
  refine lv_if_eq (tgt := 21) hx hb dX11_heat_6 (by decide) (fun hc => ?_) (fun hc => ?_)
  · replace h := pw_t hc h
    refine lv_iconst (v := (-1)) hx hb dX11_heat_21 (by decide) ?_
    exact wX11_heat_b22 C  _ _ _ _ _ _ _ hw (lv_sub hl [0, 1, 2] rfl) h
  · replace h := pw_f hc h
    refine lv_iload_n hx hb dX11_heat_9 rfl (lv_at hl 2 rfl) ?_
    refine lv_iconst (v := 0) hx hb dX11_heat_10 (by decide) ?_
    refine lv_aload_n hx hb dX11_heat_11 rfl (lv_at hl 0 rfl) ?_
    refine r_get C hw qM_0 clsX11 19 rfl (by decide) fl_X11_177 dX11_heat_12 (v := .int (σ9 0 19)) rfl ?_
    obtain ⟨v13, σ12, e11, h⟩ := cal_some h
    refine r_cSI C hw (sh := shM) (ad := ad) (As := [.int x2, .int 0, .int (σ9 0 19)]) (rest := []) (kX11_wrong l D cI cZ ad _ _ _ _ _ e11) YX11_wrong ml_X11_148 (pw_rmOK (by omega) (by decide)) rfl hl.1 rfl (Nat.le_of_ble_eq_true rfl) dX11_heat_15 ⟨Nat.zero_le _, Nat.zero_le _⟩ (fun H locs hw => ?_)
    refine lv_goto (tgt := 22) hx hb dX11_heat_18 (by decide) ?_
    exact wX11_heat_b22 C  _ _ _ _ _ _ _ hw (lv_sub hl [0, 1, 2] rfl) h
set_option maxRecDepth 100000 in
set_option maxHeartbeats 4000000 in
theorem kX11_isPiece (l : Launch) (D : va_G) (cI cZ : ClassId) (ad : Nat → Nat) (x1 : Int32) (σ : St) (z : Int32 × St) (h : fX11_isPiece x1 σ = some z) : pw_MI l D shM cI cZ ad yX11_isPiece cX11_isPiece 2 (some .boolean) (pw_rm 1) [.ref (ad 0), .int x1] σ z.1 z.2 := by
  refine pw_ofI (by decide) (Nat.le_of_ble_eq_true rfl) ?_
  intro p e s m args below meth c A C hw ls hl
  obtain ⟨hx, hb, hr, hts, hown, hlk, hml, hK, hN⟩ := id C
  have hl : lv_has ls 2 [(0, .ref (ad 0)), (1, .int x1)] := hl
  unfold fX11_isPiece at h
  refine lv_iload_n hx hb dX11_isPiece_0 rfl (lv_at hl 1 rfl) ?_
  refine lv_aload_n hx hb dX11_isPiece_1 rfl (lv_at hl 0 rfl) ?_
  refine r_get C hw qM_0 clsX11 18 rfl (by decide) fl_X11_174 dX11_isPiece_2 (v := .int (σ 0 18)) rfl ?_
  obtain ⟨v3, σ2, e1, h⟩ := cal_some h
  refine r_cSI C hw (sh := shM) (ad := ad) (As := [.int x1, .int (σ 0 18)]) (rest := []) (kX11_isIn l D cI cZ ad _ _ _ _ e1) YX11_isIn ml_X11_144 (pw_rmOK (by omega) (by decide)) rfl hl.1 rfl (Nat.le_of_ble_eq_true rfl) dX11_isPiece_5 ⟨Nat.zero_le _, Nat.zero_le _⟩ (fun H locs hw => ?_)
  exact r_zret C hw dX11_isPiece_8 h
set_option maxRecDepth 100000 in
set_option maxHeartbeats 4000000 in
theorem wX11_isWanted_b4 {p : Program} {l : Launch} {e : Env} {s : State} {m : MethodId} {args : Array Value} {below : List Frame} {meth : Method} {c : Code} {D : va_G} {cI cZ : ClassId} {ad : Nat → Nat} {A : Nat → Prop} {z : Int32 × St}  (C : pw_C p s m args meth c yX11_isWanted.cls cX11_isWanted 4 (some .boolean) D cI cZ) : ∀ (n : Nat) (x1 : Int32) (x2 : Int32) (x3 : Int32) (σ : St) (H : Heap) (locs : List Loc) (ls : Array Slot), pw_H D (pw_w shM cI cZ ad σ) A s.heap H locs → lv_has ls 4 [(0, .ref (ad 0)), (1, .int x1), (2, .int x2), (3, .int x3)] → fX11_isWanted_b4  n x1 x2 x3 σ = some z → W p l e (pw_rm 0) s m args below meth c H locs 0 0 (pw_QI below args s D (pw_w shM cI cZ ad) A z) (F0 m 4 ls []) := by
  obtain ⟨hx, hb, hr, hts, hown, hlk, hml, hK, hN⟩ := id C
  intro n
  induction n with
  | zero =>
    intro x1 x2 x3 σ H locs ls hw hl h
    exact absurd h (by simp [fX11_isWanted_b4])
  | succ n ih =>
    intro x1 x2 x3 σ H locs ls hw hl h
    rw [fX11_isWanted_b4] at h
    refine lv_iload_n hx hb dX11_isWanted_4 rfl (lv_at hl 3 rfl) ?_
    refine lv_aload_n hx hb dX11_isWanted_5 rfl (lv_at hl 0 rfl) ?_
    refine r_get C hw qM_0 clsX11 21 rfl (by decide) fl_X11_212 dX11_isWanted_6 (v := .int (σ 0 21)) rfl ?_
    refine lv_icmp_ge (tgt := 38) hx hb dX11_isWanted_9 (by decide) (fun hc => ?_) (fun hc => ?_)
    · replace h := pw_t hc h
      refine lv_iload_n hx hb dX11_isWanted_38 rfl (lv_at hl 2 rfl) ?_
      exact r_zret C hw dX11_isWanted_39 h
    · replace h := pw_f hc h
      refine lv_iload_n hx hb dX11_isWanted_12 rfl (lv_at hl 2 rfl) ?_
      refine lv_if_ne (tgt := 26) hx hb dX11_isWanted_13 (by decide) (fun hc => ?_) (fun hc => ?_)
      · replace h := pw_f hc h
        refine lv_iconst (v := 1) hx hb dX11_isWanted_26 (by decide) ?_
        refine lv_goto (tgt := 31) hx hb dX11_isWanted_27 (by decide) ?_
        refine lv_istore_n (lv' := [(2, .int 1), (0, .ref (ad 0)), (1, .int x1), (3, .int x3)]) hx hb dX11_isWanted_31 rfl hl (by decide) rfl (fun ls hl => ?_)
        refine lv_iinc (v := (x3 + 1)) (lv' := [(3, .int (x3 + 1)), (2, .int 1), (0, .ref (ad 0)), (1, .int x1)]) hx hb dX11_isWanted_32 hl (k := 3) rfl rfl (by decide) rfl (fun ls hl => ?_)
        refine lv_goto (tgt := 4) hx hb dX11_isWanted_35 (by decide) ?_
        exact ih _ _ _ _ _ _ _ hw (lv_sub hl [2, 3, 1, 0] rfl) h
      · replace h := pw_t hc h
        refine lv_aload_n hx hb dX11_isWanted_16 rfl (lv_at hl 0 rfl) ?_
        refine r_get C hw qM_0 clsX11 29 rfl (by decide) fl_X11_67 dX11_isWanted_17 (v := .ref (ad 20)) rfl ?_
        refine lv_iload_n hx hb dX11_isWanted_20 rfl (lv_at hl 3 rfl) ?_
        refine r_iald C hw qM_20 dX11_isWanted_21 h (fun v1 h => ?_)
        refine lv_iload_n hx hb dX11_isWanted_22 rfl (lv_at hl 1 rfl) ?_
        refine lv_icmp_ne (tgt := 30) hx hb dX11_isWanted_23 (by decide) (fun hc => ?_) (fun hc => ?_)
        · replace h := pw_f hc h
          refine lv_iconst (v := 0) hx hb dX11_isWanted_30 (by decide) ?_
          refine lv_istore_n (lv' := [(2, .int 0), (0, .ref (ad 0)), (1, .int x1), (3, .int x3)]) hx hb dX11_isWanted_31 rfl hl (by decide) rfl (fun ls hl => ?_)
          refine lv_iinc (v := (x3 + 1)) (lv' := [(3, .int (x3 + 1)), (2, .int 0), (0, .ref (ad 0)), (1, .int x1)]) hx hb dX11_isWanted_32 hl (k := 3) rfl rfl (by decide) rfl (fun ls hl => ?_)
          refine lv_goto (tgt := 4) hx hb dX11_isWanted_35 (by decide) ?_
          exact ih _ _ _ _ _ _ _ hw (lv_sub hl [2, 3, 1, 0] rfl) h
        · replace h := pw_t hc h
          refine lv_iconst (v := 1) hx hb dX11_isWanted_26 (by decide) ?_
          refine lv_goto (tgt := 31) hx hb dX11_isWanted_27 (by decide) ?_
          refine lv_istore_n (lv' := [(2, .int 1), (0, .ref (ad 0)), (1, .int x1), (3, .int x3)]) hx hb dX11_isWanted_31 rfl hl (by decide) rfl (fun ls hl => ?_)
          refine lv_iinc (v := (x3 + 1)) (lv' := [(3, .int (x3 + 1)), (2, .int 1), (0, .ref (ad 0)), (1, .int x1)]) hx hb dX11_isWanted_32 hl (k := 3) rfl rfl (by decide) rfl (fun ls hl => ?_)
          refine lv_goto (tgt := 4) hx hb dX11_isWanted_35 (by decide) ?_
          exact ih _ _ _ _ _ _ _ hw (lv_sub hl [2, 3, 1, 0] rfl) h
set_option maxRecDepth 100000 in
set_option maxHeartbeats 4000000 in
theorem kX11_isWanted (l : Launch) (D : va_G) (cI cZ : ClassId) (ad : Nat → Nat) (x1 : Int32) (σ : St) (z : Int32 × St) (h : fX11_isWanted x1 σ = some z) : pw_MI l D shM cI cZ ad yX11_isWanted cX11_isWanted 4 (some .boolean) (pw_rm 0) [.ref (ad 0), .int x1] σ z.1 z.2 := by
  refine pw_ofI (by decide) (Nat.le_of_ble_eq_true rfl) ?_
  intro p e s m args below meth c A C hw ls hl
  obtain ⟨hx, hb, hr, hts, hown, hlk, hml, hK, hN⟩ := id C
  have hl : lv_has ls 4 [(0, .ref (ad 0)), (1, .int x1)] := hl
  unfold fX11_isWanted at h
  refine lv_iconst (v := 0) hx hb dX11_isWanted_0 (by decide) ?_
  refine lv_istore_n (lv' := [(2, .int 0), (0, .ref (ad 0)), (1, .int x1)]) hx hb dX11_isWanted_1 rfl hl (by decide) rfl (fun ls hl => ?_)
  refine lv_iconst (v := 0) hx hb dX11_isWanted_2 (by decide) ?_
  refine lv_istore_n (lv' := [(3, .int 0), (2, .int 0), (0, .ref (ad 0)), (1, .int x1)]) hx hb dX11_isWanted_3 rfl hl (by decide) rfl (fun ls hl => ?_)
  exact wX11_isWanted_b4 C  _ _ _ _ _ _ _ _ hw (lv_sub hl [2, 3, 1, 0] rfl) h
set_option maxRecDepth 100000 in
set_option maxHeartbeats 4000000 in
theorem wX11_stack_b58 {p : Program} {l : Launch} {e : Env} {s : State} {m : MethodId} {args : Array Value} {below : List Frame} {meth : Method} {c : Code} {D : va_G} {cI cZ : ClassId} {ad : Nat → Nat} {A : Nat → Prop} {z : Int32 × St}  (C : pw_C p s m args meth c yX11_stack.cls cX11_stack 3 (some .int) D cI cZ) : ∀  (σ : St) (H : Heap) (locs : List Loc) (ls : Array Slot), pw_H D (pw_w shM cI cZ ad σ) A s.heap H locs → lv_has ls 3 [(0, .ref (ad 0))] → fX11_stack_b58   σ = some z → W p l e (pw_rm 2) s m args below meth c H locs 0 0 (pw_QI below args s D (pw_w shM cI cZ ad) A z) (F0 m 58 ls []) := by
  obtain ⟨hx, hb, hr, hts, hown, hlk, hml, hK, hN⟩ := id C
  intro σ H locs ls hw hl h
  unfold fX11_stack_b58 at h
  refine lv_aload_n hx hb dX11_stack_58 rfl (lv_at hl 0 rfl) ?_
  refine lv_bipush (v := (-3)) hx hb dX11_stack_59 (by decide) ?_
  obtain ⟨v3, σ2, e1, h⟩ := cal_some h
  refine r_cVI C hw (As := [.int (-3)]) (rest := []) (kX11_refuse l D cI cZ ad _ _ _ e1) YX11_refuse ml_X11_152 qM_0 clsX11 (pw_rmOK (by omega) (by decide)) rfl hl.1 rfl (Nat.le_of_ble_eq_true rfl) dX11_stack_61 ⟨Nat.zero_le _, Nat.zero_le _⟩ (fun H locs hw => ?_)
  exact r_iret C hw dX11_stack_64 h
set_option maxRecDepth 100000 in
set_option maxHeartbeats 4000000 in
theorem kX11_stack (l : Launch) (D : va_G) (cI cZ : ClassId) (ad : Nat → Nat) (x1 : Int32) (x2 : Int32) (σ : St) (z : Int32 × St) (h : fX11_stack x1 x2 σ = some z) : pw_MI l D shM cI cZ ad yX11_stack cX11_stack 3 (some .int) (pw_rm 2) [.ref (ad 0), .int x1, .int x2] σ z.1 z.2 := by
  refine pw_ofI (by decide) (Nat.le_of_ble_eq_true rfl) ?_
  intro p e s m args below meth c A C hw ls hl
  obtain ⟨hx, hb, hr, hts, hown, hlk, hml, hK, hN⟩ := id C
  have hl : lv_has ls 3 [(0, .ref (ad 0)), (1, .int x1), (2, .int x2)] := hl
  unfold fX11_stack at h
  refine lv_aload_n hx hb dX11_stack_0 rfl (lv_at hl 0 rfl) ?_
  refine lv_iload_n hx hb dX11_stack_1 rfl (lv_at hl 1 rfl) ?_
  obtain ⟨v6, σ5, e4, h⟩ := cal_some h
  refine r_cVI C hw (As := [.int x1]) (rest := []) (kX11_isPiece l D cI cZ ad _ _ _ e4) YX11_isPiece ml_X11_190 qM_0 clsX11 (pw_rmOK (by omega) (by decide)) rfl hl.1 rfl (Nat.le_of_ble_eq_true rfl) dX11_stack_2 ⟨Nat.zero_le _, Nat.zero_le _⟩ (fun H locs hw => ?_)
  refine lv_if_eq (tgt := 17) hx hb dX11_stack_5 (by decide) (fun hc => ?_) (fun hc => ?_)
  · replace h := pw_t hc h
    refine lv_aload_n hx hb dX11_stack_17 rfl (lv_at hl 0 rfl) ?_
    refine lv_iconst (v := (-1)) hx hb dX11_stack_18 (by decide) ?_
    obtain ⟨v9, σ8, e7, h⟩ := cal_some h
    refine r_cVI C hw (As := [.int (-1)]) (rest := []) (kX11_refuse l D cI cZ ad _ _ _ e7) YX11_refuse ml_X11_152 qM_0 clsX11 (pw_rmOK (by omega) (by decide)) rfl hl.1 rfl (Nat.le_of_ble_eq_true rfl) dX11_stack_19 ⟨Nat.zero_le _, Nat.zero_le _⟩ (fun H locs hw => ?_)
    exact r_iret C hw dX11_stack_22 h
  · replace h := pw_f hc h
    refine lv_iload_n hx hb dX11_stack_8 rfl (lv_at hl 2 rfl) ?_
    refine lv_bipush (v := 12) hx hb dX11_stack_9 (by decide) ?_
    obtain ⟨v12, σ11, e10, h⟩ := cal_some h
    refine r_cSI C hw (sh := shM) (ad := ad) (As := [.int x2, .int 12]) (rest := []) (kX11_isIn l D cI cZ ad _ _ _ _ e10) YX11_isIn ml_X11_144 (pw_rmOK (by omega) (by decide)) rfl hl.1 rfl (Nat.le_of_ble_eq_true rfl) dX11_stack_11 ⟨Nat.zero_le _, Nat.zero_le _⟩ (fun H locs hw => ?_)
    refine lv_if_ne (tgt := 23) hx hb dX11_stack_14 (by decide) (fun hc => ?_) (fun hc => ?_)
    · replace h := pw_f hc h
      refine lv_aload_n hx hb dX11_stack_23 rfl (lv_at hl 0 rfl) ?_
      refine r_get C hw qM_0 clsX11 8 rfl (by decide) fl_X11_34 dX11_stack_24 (v := .ref (ad 9)) rfl ?_
      refine lv_iload_n hx hb dX11_stack_27 rfl (lv_at hl 1 rfl) ?_
      refine r_iald C hw qM_9 dX11_stack_28 h (fun v13 h => ?_)
      refine lv_if_ne (tgt := 58) hx hb dX11_stack_29 (by decide) (fun hc => ?_) (fun hc => ?_)
      · replace h := pw_f hc h
        exact wX11_stack_b58 C  _ _ _ _ hw (lv_sub hl [0] rfl) h
      · replace h := pw_t hc h
        refine lv_aload_n hx hb dX11_stack_32 rfl (lv_at hl 0 rfl) ?_
        refine r_get C hw qM_0 clsX11 9 rfl (by decide) fl_X11_37 dX11_stack_33 (v := .ref (ad 10)) rfl ?_
        refine lv_iload_n hx hb dX11_stack_36 rfl (lv_at hl 1 rfl) ?_
        refine r_iald C hw qM_10 dX11_stack_37 h (fun v14 h => ?_)
        refine lv_if_ge (tgt := 58) hx hb dX11_stack_38 (by decide) (fun hc => ?_) (fun hc => ?_)
        · replace h := pw_t hc h
          exact wX11_stack_b58 C  _ _ _ _ hw (lv_sub hl [0] rfl) h
        · replace h := pw_f hc h
          refine lv_aload_n hx hb dX11_stack_41 rfl (lv_at hl 0 rfl) ?_
          refine lv_iload_n hx hb dX11_stack_42 rfl (lv_at hl 1 rfl) ?_
          obtain ⟨v17, σ16, e15, h⟩ := cal_some h
          refine r_cVI C hw (As := [.int x1]) (rest := []) (kX11_isWanted l D cI cZ ad _ _ _ e15) YX11_isWanted ml_X11_194 qM_0 clsX11 (pw_rmOK (by omega) (by decide)) rfl hl.1 rfl (Nat.le_of_ble_eq_true rfl) dX11_stack_43 ⟨Nat.zero_le _, Nat.zero_le _⟩ (fun H locs hw => ?_)
          refine lv_if_ne (tgt := 58) hx hb dX11_stack_46 (by decide) (fun hc => ?_) (fun hc => ?_)
          · replace h := pw_f hc h
            exact wX11_stack_b58 C  _ _ _ _ hw (lv_sub hl [0] rfl) h
          · replace h := pw_t hc h
            refine lv_aload_n hx hb dX11_stack_49 rfl (lv_at hl 0 rfl) ?_
            refine r_get C hw qM_0 clsX11 14 rfl (by decide) fl_X11_52 dX11_stack_50 (v := .ref (ad 15)) rfl ?_
            refine lv_iload_n hx hb dX11_stack_53 rfl (lv_at hl 2 rfl) ?_
            refine r_iald C hw qM_15 dX11_stack_54 h (fun v18 h => ?_)
            refine lv_if_lt (tgt := 65) hx hb dX11_stack_55 (by decide) (fun hc => ?_) (fun hc => ?_)
            · replace h := pw_t hc h
              refine lv_aload_n hx hb dX11_stack_65 rfl (lv_at hl 0 rfl) ?_
              refine r_get C hw qM_0 clsX11 14 rfl (by decide) fl_X11_52 dX11_stack_66 (v := .ref (ad 15)) rfl ?_
              refine lv_iload_n hx hb dX11_stack_69 rfl (lv_at hl 2 rfl) ?_
              refine lv_iload_n hx hb dX11_stack_70 rfl (lv_at hl 1 rfl) ?_
              refine r_iast C hw qM_15 dX11_stack_71 h (fun σ19 H locs hw h => ?_)
              refine lv_aload_n hx hb dX11_stack_72 rfl (lv_at hl 0 rfl) ?_
              refine r_get C hw qM_0 clsX11 9 rfl (by decide) fl_X11_37 dX11_stack_73 (v := .ref (ad 10)) rfl ?_
              refine lv_iload_n hx hb dX11_stack_76 rfl (lv_at hl 1 rfl) ?_
              refine lv_iload_n hx hb dX11_stack_77 rfl (lv_at hl 2 rfl) ?_
              refine r_iast C hw qM_10 dX11_stack_78 h (fun σ20 H locs hw h => ?_)
              refine lv_iconst (v := 1) hx hb dX11_stack_79 (by decide) ?_
              exact r_iret C hw dX11_stack_80 h
            · replace h := pw_f hc h
              exact wX11_stack_b58 C  _ _ _ _ hw (lv_sub hl [0] rfl) h
    · replace h := pw_t hc h
      refine lv_aload_n hx hb dX11_stack_17 rfl (lv_at hl 0 rfl) ?_
      refine lv_iconst (v := (-1)) hx hb dX11_stack_18 (by decide) ?_
      obtain ⟨v23, σ22, e21, h⟩ := cal_some h
      refine r_cVI C hw (As := [.int (-1)]) (rest := []) (kX11_refuse l D cI cZ ad _ _ _ e21) YX11_refuse ml_X11_152 qM_0 clsX11 (pw_rmOK (by omega) (by decide)) rfl hl.1 rfl (Nat.le_of_ble_eq_true rfl) dX11_stack_19 ⟨Nat.zero_le _, Nat.zero_le _⟩ (fun H locs hw => ?_)
      exact r_iret C hw dX11_stack_22 h
set_option maxRecDepth 100000 in
set_option maxHeartbeats 4000000 in
theorem kX11_takes (l : Launch) (D : va_G) (cI cZ : ClassId) (ad : Nat → Nat) (x1 : Int32) (σ : St) (z : Int32 × St) (h : fX11_takes x1 σ = some z) : pw_MI l D shM cI cZ ad yX11_takes cX11_takes 3 (some .int) (pw_rm 0) [.ref (ad 0), .int x1] σ z.1 z.2 := by
  refine pw_ofI (by decide) (Nat.le_of_ble_eq_true rfl) ?_
  intro p e s m args below meth c A C hw ls hl
  obtain ⟨hx, hb, hr, hts, hown, hlk, hml, hK, hN⟩ := id C
  have hl : lv_has ls 3 [(0, .ref (ad 0)), (1, .int x1)] := hl
  unfold fX11_takes at h
  refine lv_aload_n hx hb dX11_takes_0 rfl (lv_at hl 0 rfl) ?_
  refine r_get C hw qM_0 clsX11 14 rfl (by decide) fl_X11_52 dX11_takes_1 (v := .ref (ad 15)) rfl ?_
  refine lv_iload_n hx hb dX11_takes_4 rfl (lv_at hl 1 rfl) ?_
  refine r_iald C hw qM_15 dX11_takes_5 h (fun v1 h => ?_)
  refine lv_istore_n (lv' := [(2, .int v1), (0, .ref (ad 0)), (1, .int x1)]) hx hb dX11_takes_6 rfl hl (by decide) rfl (fun ls hl => ?_)
  refine lv_aload_n hx hb dX11_takes_7 rfl (lv_at hl 1 rfl) ?_
  refine r_get C hw qM_0 clsX11 14 rfl (by decide) fl_X11_52 dX11_takes_8 (v := .ref (ad 15)) rfl ?_
  refine lv_iload_n hx hb dX11_takes_11 rfl (lv_at hl 2 rfl) ?_
  refine lv_bipush (v := (-9)) hx hb dX11_takes_12 (by decide) ?_
  refine r_iast C hw qM_15 dX11_takes_14 h (fun σ2 H locs hw h => ?_)
  refine lv_aload_n hx hb dX11_takes_15 rfl (lv_at hl 1 rfl) ?_
  refine r_get C hw qM_0 clsX11 9 rfl (by decide) fl_X11_37 dX11_takes_16 (v := .ref (ad 10)) rfl ?_
  refine lv_iload_n hx hb dX11_takes_19 rfl (lv_at hl 0 rfl) ?_
  refine lv_bipush (v := (-9)) hx hb dX11_takes_20 (by decide) ?_
  refine r_iast C hw qM_10 dX11_takes_22 h (fun σ3 H locs hw h => ?_)
  refine lv_iload_n hx hb dX11_takes_23 rfl (lv_at hl 0 rfl) ?_
  exact r_iret C hw dX11_takes_24 h
set_option maxRecDepth 100000 in
set_option maxHeartbeats 4000000 in
theorem kX11_unstack (l : Launch) (D : va_G) (cI cZ : ClassId) (ad : Nat → Nat) (x1 : Int32) (σ : St) (z : Int32 × St) (h : fX11_unstack x1 σ = some z) : pw_MI l D shM cI cZ ad yX11_unstack cX11_unstack 2 (some .int) (pw_rm 1) [.ref (ad 0), .int x1] σ z.1 z.2 := by
  refine pw_ofI (by decide) (Nat.le_of_ble_eq_true rfl) ?_
  intro p e s m args below meth c A C hw ls hl
  obtain ⟨hx, hb, hr, hts, hown, hlk, hml, hK, hN⟩ := id C
  have hl : lv_has ls 2 [(0, .ref (ad 0)), (1, .int x1)] := hl
  unfold fX11_unstack at h
  refine lv_iload_n hx hb dX11_unstack_0 rfl (lv_at hl 1 rfl) ?_
  refine lv_bipush (v := 12) hx hb dX11_unstack_1 (by decide) ?_
  obtain ⟨v3, σ2, e1, h⟩ := cal_some h
  refine r_cSI C hw (sh := shM) (ad := ad) (As := [.int x1, .int 12]) (rest := []) (kX11_isIn l D cI cZ ad _ _ _ _ e1) YX11_isIn ml_X11_144 (pw_rmOK (by omega) (by decide)) rfl hl.1 rfl (Nat.le_of_ble_eq_true rfl) dX11_unstack_3 ⟨Nat.zero_le _, Nat.zero_le _⟩ (fun H locs hw => ?_)
  refine lv_if_ne (tgt := 15) hx hb dX11_unstack_6 (by decide) (fun hc => ?_) (fun hc => ?_)
  · replace h := pw_f hc h
    refine lv_aload_n hx hb dX11_unstack_15 rfl (lv_at hl 0 rfl) ?_
    refine r_get C hw qM_0 clsX11 14 rfl (by decide) fl_X11_52 dX11_unstack_16 (v := .ref (ad 15)) rfl ?_
    refine lv_iload_n hx hb dX11_unstack_19 rfl (lv_at hl 1 rfl) ?_
    refine r_iald C hw qM_15 dX11_unstack_20 h (fun v4 h => ?_)
    refine lv_if_ge (tgt := 33) hx hb dX11_unstack_21 (by decide) (fun hc => ?_) (fun hc => ?_)
    · replace h := pw_t hc h
      refine lv_aload_n hx hb dX11_unstack_33 rfl (lv_at hl 0 rfl) ?_
      refine lv_iload_n hx hb dX11_unstack_34 rfl (lv_at hl 1 rfl) ?_
      obtain ⟨v7, σ6, e5, h⟩ := cal_some h
      refine r_cVI C hw (As := [.int x1]) (rest := []) (kX11_takes l D cI cZ ad _ _ _ e5) YX11_takes ml_X11_197 qM_0 clsX11 (pw_rmOK (by omega) (by decide)) rfl hl.1 rfl (Nat.le_of_ble_eq_true rfl) dX11_unstack_35 ⟨Nat.zero_le _, Nat.zero_le _⟩ (fun H locs hw => ?_)
      exact r_iret C hw dX11_unstack_38 h
    · replace h := pw_f hc h
      refine lv_aload_n hx hb dX11_unstack_24 rfl (lv_at hl 0 rfl) ?_
      refine lv_bipush (v := (-3)) hx hb dX11_unstack_25 (by decide) ?_
      obtain ⟨v10, σ9, e8, h⟩ := cal_some h
      refine r_cVI C hw (As := [.int (-3)]) (rest := []) (kX11_refuse l D cI cZ ad _ _ _ e8) YX11_refuse ml_X11_152 qM_0 clsX11 (pw_rmOK (by omega) (by decide)) rfl hl.1 rfl (Nat.le_of_ble_eq_true rfl) dX11_unstack_27 ⟨Nat.zero_le _, Nat.zero_le _⟩ (fun H locs hw => ?_)
      refine lv_goto (tgt := 38) hx hb dX11_unstack_30 (by decide) ?_
      exact r_iret C hw dX11_unstack_38 h
  · replace h := pw_t hc h
    refine lv_aload_n hx hb dX11_unstack_9 rfl (lv_at hl 0 rfl) ?_
    refine lv_iconst (v := (-1)) hx hb dX11_unstack_10 (by decide) ?_
    obtain ⟨v13, σ12, e11, h⟩ := cal_some h
    refine r_cVI C hw (As := [.int (-1)]) (rest := []) (kX11_refuse l D cI cZ ad _ _ _ e11) YX11_refuse ml_X11_152 qM_0 clsX11 (pw_rmOK (by omega) (by decide)) rfl hl.1 rfl (Nat.le_of_ble_eq_true rfl) dX11_unstack_11 ⟨Nat.zero_le _, Nat.zero_le _⟩ (fun H locs hw => ?_)
    exact r_iret C hw dX11_unstack_14 h
