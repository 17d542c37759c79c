set_option maxRecDepth 100000 in
set_option maxHeartbeats 4000000 in
theorem kX11_pasteOf (l : Launch) (D : va_G) (cI cZ : ClassId) (ad : Nat → Nat) (x1 : Int32) (x2 : Int32) (σ : St) (z : Int32 × St) (h : fX11_pasteOf x1 x2 σ = some z) : pw_MI l D shM cI cZ ad yX11_pasteOf cX11_pasteOf 3 (some .int) (pw_rm 0) [.ref (ad 0), .int x1, .int x2] σ z.1 z.2 := by
  refine pw_ofI (by decide) (Nat.le_of_ble_eq_true rfl) ?_
  intro p e s m args below meth c A C hw ls hl
  obtain ⟨hx, hb, hr, hts, hown, hlk, hml, hK, hN⟩ := id C
  have hl : lv_has ls 3 [(0, .ref (ad 0)), (1, .int x1), (2, .int x2)] := hl
  unfold fX11_pasteOf at h
  refine lv_aload_n hx hb dX11_pasteOf_0 rfl (lv_at hl 0 rfl) ?_
  refine r_get C hw qM_0 clsX11 1 rfl (by decide) fl_X11_13 dX11_pasteOf_1 (v := .ref (ad 2)) rfl ?_
  refine lv_iconst (v := 4) hx hb dX11_pasteOf_4 (by decide) ?_
  refine lv_aload_n hx hb dX11_pasteOf_5 rfl (lv_at hl 0 rfl) ?_
  refine r_get C hw qM_0 clsX11 2 rfl (by decide) fl_X11_16 dX11_pasteOf_6 (v := .ref (ad 3)) rfl ?_
  refine lv_aload_n hx hb dX11_pasteOf_9 rfl (lv_at hl 0 rfl) ?_
  refine r_get C hw qM_0 clsX11 5 rfl (by decide) fl_X11_25 dX11_pasteOf_10 (v := .ref (ad 6)) rfl ?_
  refine lv_iload_n hx hb dX11_pasteOf_13 rfl (lv_at hl 1 rfl) ?_
  refine r_iald C hw qM_6 dX11_pasteOf_14 h (fun v1 h => ?_)
  refine r_iald C hw qM_3 dX11_pasteOf_15 h (fun v2 h => ?_)
  refine lv_imul hx hb dX11_pasteOf_16 ?_
  refine lv_iload_n hx hb dX11_pasteOf_17 rfl (lv_at hl 2 rfl) ?_
  refine lv_iadd hx hb dX11_pasteOf_18 ?_
  refine r_iald C hw qM_2 dX11_pasteOf_19 h (fun v3 h => ?_)
  exact r_iret C hw dX11_pasteOf_20 h
set_option maxRecDepth 100000 in
set_option maxHeartbeats 4000000 in
theorem kX11_bears (l : Launch) (D : va_G) (cI cZ : ClassId) (ad : Nat → Nat) (x1 : Int32) (x2 : Int32) (σ : St) (z : Int32 × St) (h : fX11_bears x1 x2 σ = some z) : pw_MI l D shM cI cZ ad yX11_bears cX11_bears 3 (some .boolean) (pw_rm 1) [.ref (ad 0), .int x1, .int x2] σ z.1 z.2 := by
  refine pw_ofI (by decide) (Nat.le_of_ble_eq_true rfl) ?_
  intro p e s m args below meth c A C hw ls hl
  obtain ⟨hx, hb, hr, hts, hown, hlk, hml, hK, hN⟩ := id C
  have hl : lv_has ls 3 [(0, .ref (ad 0)), (1, .int x1), (2, .int x2)] := hl
  unfold fX11_bears at h
  refine lv_aload_n hx hb dX11_bears_0 rfl (lv_at hl 0 rfl) ?_
  refine r_get C hw qM_0 clsX11 28 rfl (by decide) fl_X11_64 dX11_bears_1 (v := .ref (ad 19)) rfl ?_
  refine lv_iload_n hx hb dX11_bears_4 rfl (lv_at hl 2 rfl) ?_
  refine r_iald C hw qM_19 dX11_bears_5 h (fun v1 h => ?_)
  refine lv_aload_n hx hb dX11_bears_6 rfl (lv_at hl 0 rfl) ?_
  refine lv_iload_n hx hb dX11_bears_7 rfl (lv_at hl 1 rfl) ?_
  refine lv_iconst (v := 2) hx hb dX11_bears_8 (by decide) ?_
  obtain ⟨v4, σ3, e2, h⟩ := cal_some h
  refine r_cVI C hw (As := [.int x1, .int 2]) (rest := [.int v1]) (kX11_pasteOf l D cI cZ ad _ _ _ _ e2) YX11_pasteOf ml_X11_200 qM_0 clsX11 (pw_rmOK (by omega) (by decide)) rfl hl.1 rfl (Nat.le_of_ble_eq_true rfl) dX11_bears_9 ⟨Nat.zero_le _, Nat.zero_le _⟩ (fun H locs hw => ?_)
  refine lv_icmp_lt (tgt := 34) hx hb dX11_bears_12 (by decide) (fun hc => ?_) (fun hc => ?_)
  · replace h := pw_t hc h
    refine lv_iconst (v := 0) hx hb dX11_bears_34 (by decide) ?_
    exact r_zret C hw dX11_bears_35 h
  · replace h := pw_f hc h
    refine lv_aload_n hx hb dX11_bears_15 rfl (lv_at hl 0 rfl) ?_
    refine r_get C hw qM_0 clsX11 28 rfl (by decide) fl_X11_64 dX11_bears_16 (v := .ref (ad 19)) rfl ?_
    refine lv_iload_n hx hb dX11_bears_19 rfl (lv_at hl 2 rfl) ?_
    refine r_iald C hw qM_19 dX11_bears_20 h (fun v5 h => ?_)
    refine lv_aload_n hx hb dX11_bears_21 rfl (lv_at hl 0 rfl) ?_
    refine lv_iload_n hx hb dX11_bears_22 rfl (lv_at hl 1 rfl) ?_
    refine lv_iconst (v := 3) hx hb dX11_bears_23 (by decide) ?_
    obtain ⟨v8, σ7, e6, h⟩ := cal_some h
    refine r_cVI C hw (As := [.int x1, .int 3]) (rest := [.int v5]) (kX11_pasteOf l D cI cZ ad _ _ _ _ e6) YX11_pasteOf ml_X11_200 qM_0 clsX11 (pw_rmOK (by omega) (by decide)) rfl hl.1 rfl (Nat.le_of_ble_eq_true rfl) dX11_bears_24 ⟨Nat.zero_le _, Nat.zero_le _⟩ (fun H locs hw => ?_)
    refine lv_icmp_gt (tgt := 34) hx hb dX11_bears_27 (by decide) (fun hc => ?_) (fun hc => ?_)
    · replace h := pw_t hc h
      refine lv_iconst (v := 0) hx hb dX11_bears_34 (by decide) ?_
      exact r_zret C hw dX11_bears_35 h
    · replace h := pw_f hc h
      refine lv_iconst (v := 1) hx hb dX11_bears_30 (by decide) ?_
      refine lv_goto (tgt := 35) hx hb dX11_bears_31 (by decide) ?_
      exact r_zret C hw dX11_bears_35 h
set_option maxRecDepth 100000 in
set_option maxHeartbeats 4000000 in
theorem wX11_fire_b184 {p : Program} {l : Launch} {e : Env} {s : State} {m : MethodId} {args : Array Value} {below : List Frame} {meth : Method} {c : Code} {D : va_G} {cI cZ : ClassId} {ad : Nat → Nat} {A : Nat → Prop} {z : Int32 × St}  (C : pw_C p s m args meth c yX11_fire.cls cX11_fire 4 (some .int) D cI cZ) : ∀ (n : Nat) (x1 : Int32) (x2 : Int32) (σ : St) (H : Heap) (locs : List Loc) (ls : Array Slot), pw_H D (pw_w shM cI cZ ad σ) A s.heap H locs → lv_has ls 4 [(0, .ref (ad 0)), (1, .int x1), (2, .int x2)] → fX11_fire_b184  n x1 x2 σ = some z → W p l e (pw_rm 3) s m args below meth c H locs 0 0 (pw_QI below args s D (pw_w shM cI cZ ad) A z) (F0 m 184 ls []) := by
  obtain ⟨hx, hb, hr, hts, hown, hlk, hml, hK, hN⟩ := id C
  intro n
  induction n with
  | zero =>
    intro x1 x2 σ H locs ls hw hl h
    exact absurd h (by simp [fX11_fire_b184])
  | succ n ih =>
    intro x1 x2 σ H locs ls hw hl h
    rw [fX11_fire_b184] at h
    refine lv_iload_n hx hb dX11_fire_184 rfl (lv_at hl 2 rfl) ?_
    refine lv_aload_n hx hb dX11_fire_185 rfl (lv_at hl 0 rfl) ?_
    refine r_get C hw qM_0 clsX11 19 rfl (by decide) fl_X11_177 dX11_fire_186 (v := .int (σ 0 19)) rfl ?_
    refine lv_icmp_ge (tgt := 213) hx hb dX11_fire_189 (by decide) (fun hc => ?_) (fun hc => ?_)
    · replace h := pw_t hc h
      refine lv_aload_n hx hb dX11_fire_213 rfl (lv_at hl 0 rfl) ?_
      refine lv_iconst (v := 0) hx hb dX11_fire_214 (by decide) ?_
      refine r_put C hw qM_0 clsX11 19 rfl (by decide) fl_X11_177 dX11_fire_215 rfl rfl rfl h (fun σ1 H locs hw h => ?_)
      refine lv_aload_n hx hb dX11_fire_218 rfl (lv_at hl 0 rfl) ?_
      refine lv_iconst (v := 2) hx hb dX11_fire_219 (by decide) ?_
      obtain ⟨r4, σ3, e2, h⟩ := cal_some h
      refine r_cVV C hw (As := [.int 2]) (rest := []) (kX11_goes l D cI cZ ad _ _ _ e2) YX11_goes ml_X11_170 qM_0 clsX11 (pw_rmOK (by omega) (by decide)) rfl hl.1 rfl (Nat.le_of_ble_eq_true rfl) dX11_fire_220 ⟨Nat.zero_le _, Nat.zero_le _⟩ (fun H locs hw => ?_)
      refine lv_iload_n hx hb dX11_fire_223 rfl (lv_at hl 1 rfl) ?_
      exact r_iret C hw dX11_fire_224 h
    · replace h := pw_f hc h
      refine lv_aload_n hx hb dX11_fire_192 rfl (lv_at hl 0 rfl) ?_
      refine lv_dup hx hb dX11_fire_193 rfl ?_
      refine r_get C hw qM_0 clsX11 20 rfl (by decide) fl_X11_209 dX11_fire_194 (v := .int (σ 0 20)) rfl ?_
      refine lv_aload_n hx hb dX11_fire_197 rfl (lv_at hl 0 rfl) ?_
      refine r_get C hw qM_0 clsX11 15 rfl (by decide) fl_X11_55 dX11_fire_198 (v := .ref (ad 16)) rfl ?_
      refine lv_iload_n hx hb dX11_fire_201 rfl (lv_at hl 2 rfl) ?_
      refine r_iald C hw qM_16 dX11_fire_202 h (fun v5 h => ?_)
      refine lv_iadd hx hb dX11_fire_203 ?_
      refine r_put C hw qM_0 clsX11 20 rfl (by decide) fl_X11_209 dX11_fire_204 rfl rfl rfl h (fun σ6 H locs hw h => ?_)
      refine lv_iinc (v := (x2 + 1)) (lv' := [(2, .int (x2 + 1)), (0, .ref (ad 0)), (1, .int x1)]) hx hb dX11_fire_207 hl (k := 2) rfl rfl (by decide) rfl (fun ls hl => ?_)
      refine lv_goto (tgt := 184) hx hb dX11_fire_210 (by decide) ?_
      exact ih _ _ _ _ _ _ hw (lv_sub hl [1, 2, 0] rfl) h
set_option maxRecDepth 100000 in
set_option maxHeartbeats 4000000 in
theorem wX11_fire_b45 {p : Program} {l : Launch} {e : Env} {s : State} {m : MethodId} {args : Array Value} {below : List Frame} {meth : Method} {c : Code} {D : va_G} {cI cZ : ClassId} {ad : Nat → Nat} {A : Nat → Prop} {z : Int32 × St}  (C : pw_C p s m args meth c yX11_fire.cls cX11_fire 4 (some .int) D cI cZ) : ∀ (n : Nat) (x1 : Int32) (x2 : Int32) (σ : St) (H : Heap) (locs : List Loc) (ls : Array Slot), pw_H D (pw_w shM cI cZ ad σ) A s.heap H locs → lv_has ls 4 [(0, .ref (ad 0)), (1, .int x1), (2, .int x2)] → fX11_fire_b45  n x1 x2 σ = some z → W p l e (pw_rm 3) s m args below meth c H locs 0 0 (pw_QI below args s D (pw_w shM cI cZ ad) A z) (F0 m 45 ls []) := by
  obtain ⟨hx, hb, hr, hts, hown, hlk, hml, hK, hN⟩ := id C
  intro n
  induction n with
  | zero =>
    intro x1 x2 σ H locs ls hw hl h
    exact absurd h (by simp [fX11_fire_b45])
  | succ n ih =>
    intro x1 x2 σ H locs ls hw hl h
    rw [fX11_fire_b45] at h
    refine lv_iload_n hx hb dX11_fire_45 rfl (lv_at hl 2 rfl) ?_
    refine lv_bipush (v := 12) hx hb dX11_fire_46 (by decide) ?_
    refine lv_icmp_ge (tgt := 182) hx hb dX11_fire_48 (by decide) (fun hc => ?_) (fun hc => ?_)
    · replace h := pw_t hc h
      refine lv_iconst (v := 0) hx hb dX11_fire_182 (by decide) ?_
      refine lv_istore_n (lv' := [(2, .int 0), (0, .ref (ad 0)), (1, .int x1)]) hx hb dX11_fire_183 rfl hl (by decide) rfl (fun ls hl => ?_)
      exact wX11_fire_b184 C  _ _ _ _ _ _ _ hw (lv_sub hl [1, 2, 0] rfl) h
    · replace h := pw_f hc h
      refine lv_aload_n hx hb dX11_fire_51 rfl (lv_at hl 0 rfl) ?_
      refine r_get C hw qM_0 clsX11 14 rfl (by decide) fl_X11_52 dX11_fire_52 (v := .ref (ad 15)) rfl ?_
      refine lv_iload_n hx hb dX11_fire_55 rfl (lv_at hl 2 rfl) ?_
      refine r_iald C hw qM_15 dX11_fire_56 h (fun v7 h => ?_)
      refine lv_if_ge (tgt := 63) hx hb dX11_fire_57 (by decide) (fun hc => ?_) (fun hc => ?_)
      · replace h := pw_t hc h
        refine lv_aload_n hx hb dX11_fire_63 rfl (lv_at hl 0 rfl) ?_
        refine lv_iload_n hx hb dX11_fire_64 rfl (lv_at hl 2 rfl) ?_
        obtain ⟨v10, σ9, e8, h⟩ := cal_some h
        refine r_cVI C hw (As := [.int x2]) (rest := []) (kX11_takes l D cI cZ ad _ _ _ e8) YX11_takes ml_X11_197 qM_0 clsX11 (pw_rmOK (by omega) (by decide)) rfl hl.1 rfl (Nat.le_of_ble_eq_true rfl) dX11_fire_65 ⟨Nat.zero_le _, Nat.zero_le _⟩ (fun H locs hw => ?_)
        refine lv_istore_n (lv' := [(3, .int v10), (0, .ref (ad 0)), (1, .int x1), (2, .int x2)]) hx hb dX11_fire_68 rfl hl (by decide) rfl (fun ls hl => ?_)
        refine lv_aload_n hx hb dX11_fire_69 rfl (lv_at hl 1 rfl) ?_
        refine r_get C hw qM_0 clsX11 10 rfl (by decide) fl_X11_40 dX11_fire_70 (v := .ref (ad 11)) rfl ?_
        refine lv_iload_n hx hb dX11_fire_73 rfl (lv_at hl 0 rfl) ?_
        refine lv_aload_n hx hb dX11_fire_74 rfl (lv_at hl 1 rfl) ?_
        refine r_get C hw qM_0 clsX11 28 rfl (by decide) fl_X11_64 dX11_fire_75 (v := .ref (ad 19)) rfl ?_
        refine lv_iload_n hx hb dX11_fire_78 rfl (lv_at hl 3 rfl) ?_
        refine r_iald C hw qM_19 dX11_fire_79 h (fun v11 h => ?_)
        refine r_iast C hw qM_11 dX11_fire_80 h (fun σ12 H locs hw h => ?_)
        refine lv_aload_n hx hb dX11_fire_81 rfl (lv_at hl 1 rfl) ?_
        refine lv_iload_n hx hb dX11_fire_82 rfl (lv_at hl 0 rfl) ?_
        refine lv_iload_n hx hb dX11_fire_83 rfl (lv_at hl 3 rfl) ?_
        obtain ⟨v15, σ14, e13, h⟩ := cal_some h
        refine r_cVI C hw (As := [.int v10, .int x2]) (rest := []) (kX11_bears l D cI cZ ad _ _ _ _ e13) YX11_bears ml_X11_203 qM_0 clsX11 (pw_rmOK (by omega) (by decide)) rfl hl.1 rfl (Nat.le_of_ble_eq_true rfl) dX11_fire_84 ⟨Nat.zero_le _, Nat.zero_le _⟩ (fun H locs hw => ?_)
        refine lv_if_ne (tgt := 100) hx hb dX11_fire_87 (by decide) (fun hc => ?_) (fun hc => ?_)
        · replace h := pw_f hc h
          refine lv_aload_n hx hb dX11_fire_100 rfl (lv_at hl 1 rfl) ?_
          refine r_get C hw qM_0 clsX11 8 rfl (by decide) fl_X11_34 dX11_fire_101 (v := .ref (ad 9)) rfl ?_
          refine lv_iload_n hx hb dX11_fire_104 rfl (lv_at hl 0 rfl) ?_
          refine lv_iconst (v := 1) hx hb dX11_fire_105 (by decide) ?_
          refine r_iast C hw qM_9 dX11_fire_106 h (fun σ16 H locs hw h => ?_)
          refine lv_aload_n hx hb dX11_fire_107 rfl (lv_at hl 1 rfl) ?_
          refine r_get C hw qM_0 clsX11 7 rfl (by decide) fl_X11_31 dX11_fire_108 (v := .ref (ad 8)) rfl ?_
          refine lv_iload_n hx hb dX11_fire_111 rfl (lv_at hl 0 rfl) ?_
          refine lv_dup2_11 hx hb dX11_fire_112 rfl rfl ?_
          refine r_iald C hw qM_8 dX11_fire_113 h (fun v17 h => ?_)
          refine lv_aload_n hx hb dX11_fire_114 rfl (lv_at hl 1 rfl) ?_
          refine r_get C hw qM_0 clsX11 7 rfl (by decide) fl_X11_31 dX11_fire_115 (v := .ref (ad 8)) rfl ?_
          refine lv_iload_n hx hb dX11_fire_118 rfl (lv_at hl 0 rfl) ?_
          refine r_iald C hw qM_8 dX11_fire_119 h (fun v18 h => ?_)
          refine lv_aload_n hx hb dX11_fire_120 rfl (lv_at hl 1 rfl) ?_
          refine lv_iload_n hx hb dX11_fire_121 rfl (lv_at hl 0 rfl) ?_
          refine lv_iconst (v := 1) hx hb dX11_fire_122 (by decide) ?_
          obtain ⟨v21, σ20, e19, h⟩ := cal_some h
          refine r_cVI C hw (As := [.int v10, .int 1]) (rest := [.int v18, .int v17, .int v10, .ref (ad 8)]) (kX11_pasteOf l D cI cZ ad _ _ _ _ e19) YX11_pasteOf ml_X11_200 qM_0 clsX11 (pw_rmOK (by omega) (by decide)) rfl hl.1 rfl (Nat.le_of_ble_eq_true rfl) dX11_fire_123 ⟨Nat.zero_le _, Nat.zero_le _⟩ (fun H locs hw => ?_)
          refine lv_imul hx hb dX11_fire_126 ?_
          refine lv_sipush (v := 1000) hx hb dX11_fire_127 (by decide) ?_
          refine lv_idiv hx hb dX11_fire_130 (by decide) ?_
          refine lv_isub hx hb dX11_fire_131 ?_
          refine r_iast C hw qM_8 dX11_fire_132 h (fun σ22 H locs hw h => ?_)
          refine lv_aload_n hx hb dX11_fire_133 rfl (lv_at hl 1 rfl) ?_
          refine r_get C hw qM_0 clsX11 11 rfl (by decide) fl_X11_43 dX11_fire_134 (v := .ref (ad 12)) rfl ?_
          refine lv_iload_n hx hb dX11_fire_137 rfl (lv_at hl 0 rfl) ?_
          refine lv_iconst (v := 0) hx hb dX11_fire_138 (by decide) ?_
          refine lv_bipush (v := 100) hx hb dX11_fire_139 (by decide) ?_
          refine lv_aload_n hx hb dX11_fire_141 rfl (lv_at hl 1 rfl) ?_
          refine r_get C hw qM_0 clsX11 28 rfl (by decide) fl_X11_64 dX11_fire_142 (v := .ref (ad 19)) rfl ?_
          refine lv_iload_n hx hb dX11_fire_145 rfl (lv_at hl 3 rfl) ?_
          refine r_iald C hw qM_19 dX11_fire_146 h (fun v23 h => ?_)
          refine lv_aload_n hx hb dX11_fire_147 rfl (lv_at hl 1 rfl) ?_
          refine lv_iload_n hx hb dX11_fire_148 rfl (lv_at hl 0 rfl) ?_
          refine lv_iconst (v := 2) hx hb dX11_fire_149 (by decide) ?_
          obtain ⟨v26, σ25, e24, h⟩ := cal_some h
          refine r_cVI C hw (As := [.int v10, .int 2]) (rest := [.int v23, .int 100, .int 0, .int v10, .ref (ad 12)]) (kX11_pasteOf l D cI cZ ad _ _ _ _ e24) YX11_pasteOf ml_X11_200 qM_0 clsX11 (pw_rmOK (by omega) (by decide)) rfl hl.1 rfl (Nat.le_of_ble_eq_true rfl) dX11_fire_150 ⟨Nat.zero_le _, Nat.zero_le _⟩ (fun H locs hw => ?_)
          refine lv_aload_n hx hb dX11_fire_153 rfl (lv_at hl 1 rfl) ?_
          refine lv_iload_n hx hb dX11_fire_154 rfl (lv_at hl 0 rfl) ?_
          refine lv_iconst (v := 3) hx hb dX11_fire_155 (by decide) ?_
          obtain ⟨v29, σ28, e27, h⟩ := cal_some h
          refine r_cVI C hw (As := [.int v10, .int 3]) (rest := [.int v26, .int v23, .int 100, .int 0, .int v10, .ref (ad 12)]) (kX11_pasteOf l D cI cZ ad _ _ _ _ e27) YX11_pasteOf ml_X11_200 qM_0 clsX11 (pw_rmOK (by omega) (by decide)) rfl hl.1 rfl (Nat.le_of_ble_eq_true rfl) dX11_fire_156 ⟨Nat.zero_le _, Nat.zero_le _⟩ (fun H locs hw => ?_)
          refine lv_iadd hx hb dX11_fire_159 ?_
          refine lv_iconst (v := 2) hx hb dX11_fire_160 (by decide) ?_
          refine lv_idiv hx hb dX11_fire_161 (by decide) ?_
          refine lv_isub hx hb dX11_fire_162 ?_
          refine va_mabs hx hb (hml.trans hl.1.symm) hown (hts _ ml_X11_206) (hts _ ls_abs) (hts _ li_Math) (hts _ lc_abs) (pw_fr (by omega)) (pw_lo (Nat.le_of_ble_eq_true rfl) (by omega)) (Nat.zero_le _) (Nat.zero_le _) dX11_fire_163 ?_
          refine lv_iconst (v := 5) hx hb dX11_fire_166 (by decide) ?_
          refine lv_idiv hx hb dX11_fire_167 (by decide) ?_
          refine lv_isub hx hb dX11_fire_168 ?_
          refine va_mmax hx hb (hml.trans hl.1.symm) hown (hts _ ml_X11_182) (hts _ ls_max) (hts _ li_Math) (hts _ lc_max) (pw_fr (by omega)) (pw_lo (Nat.le_of_ble_eq_true rfl) (by omega)) (Nat.zero_le _) (Nat.zero_le _) dX11_fire_169 ?_
          refine r_iast C hw qM_12 dX11_fire_172 h (fun σ30 H locs hw h => ?_)
          refine lv_iinc (v := (x1 + 1)) (lv' := [(1, .int (x1 + 1)), (3, .int v10), (0, .ref (ad 0)), (2, .int x2)]) hx hb dX11_fire_173 hl (k := 2) rfl rfl (by decide) rfl (fun ls hl => ?_)
          refine lv_iinc (v := (x2 + 1)) (lv' := [(2, .int (x2 + 1)), (1, .int (x1 + 1)), (3, .int v10), (0, .ref (ad 0))]) hx hb dX11_fire_176 hl (k := 3) rfl rfl (by decide) rfl (fun ls hl => ?_)
          refine lv_goto (tgt := 45) hx hb dX11_fire_179 (by decide) ?_
          exact ih _ _ _ _ _ _ hw (lv_sub hl [3, 1, 0] rfl) h
        · replace h := pw_t hc h
          refine lv_aload_n hx hb dX11_fire_90 rfl (lv_at hl 1 rfl) ?_
          refine r_get C hw qM_0 clsX11 8 rfl (by decide) fl_X11_34 dX11_fire_91 (v := .ref (ad 9)) rfl ?_
          refine lv_iload_n hx hb dX11_fire_94 rfl (lv_at hl 0 rfl) ?_
          refine lv_iconst (v := 3) hx hb dX11_fire_95 (by decide) ?_
          refine r_iast C hw qM_9 dX11_fire_96 h (fun σ31 H locs hw h => ?_)
          refine lv_goto (tgt := 176) hx hb dX11_fire_97 (by decide) ?_
          refine lv_iinc (v := (x2 + 1)) (lv' := [(2, .int (x2 + 1)), (3, .int v10), (0, .ref (ad 0)), (1, .int x1)]) hx hb dX11_fire_176 hl (k := 3) rfl rfl (by decide) rfl (fun ls hl => ?_)
          refine lv_goto (tgt := 45) hx hb dX11_fire_179 (by decide) ?_
          exact ih _ _ _ _ _ _ hw (lv_sub hl [2, 3, 0] rfl) h
      · replace h := pw_f hc h
        refine lv_goto (tgt := 176) hx hb dX11_fire_60 (by decide) ?_
        refine lv_iinc (v := (x2 + 1)) (lv' := [(2, .int (x2 + 1)), (0, .ref (ad 0)), (1, .int x1)]) hx hb dX11_fire_176 hl (k := 2) rfl rfl (by decide) rfl (fun ls hl => ?_)
        refine lv_goto (tgt := 45) hx hb dX11_fire_179 (by decide) ?_
        exact ih _ _ _ _ _ _ hw (lv_sub hl [1, 2, 0] rfl) h
set_option maxRecDepth 100000 in
set_option maxHeartbeats 4000000 in
theorem kX11_fire (l : Launch) (D : va_G) (cI cZ : ClassId) (ad : Nat → Nat)  (σ : St) (z : Int32 × St) (h : fX11_fire  σ = some z) : pw_MI l D shM cI cZ ad yX11_fire cX11_fire 4 (some .int) (pw_rm 3) [.ref (ad 0)] σ z.1 z.2 := by
  refine pw_ofI (by decide) (Nat.le_of_ble_eq_true rfl) ?_
  intro p e s m args below meth c A C hw ls hl
  obtain ⟨hx, hb, hr, hts, hown, hlk, hml, hK, hN⟩ := id C
  have hl : lv_has ls 4 [(0, .ref (ad 0))] := hl
  unfold fX11_fire at h
  refine lv_aload_n hx hb dX11_fire_0 rfl (lv_at hl 0 rfl) ?_
  refine r_get C hw qM_0 clsX11 19 rfl (by decide) fl_X11_177 dX11_fire_1 (v := .int (σ 0 19)) rfl ?_
  refine lv_if_ne (tgt := 14) hx hb dX11_fire_4 (by decide) (fun hc => ?_) (fun hc => ?_)
  · replace h := pw_f hc h
    refine lv_aload_n hx hb dX11_fire_14 rfl (lv_at hl 0 rfl) ?_
    refine r_get C hw qM_0 clsX11 16 rfl (by decide) fl_X11_160 dX11_fire_15 (v := .int (σ 0 16)) rfl ?_
    refine lv_iconst (v := 2) hx hb dX11_fire_18 (by decide) ?_
    refine lv_iadd hx hb dX11_fire_19 ?_
    refine lv_sipush (v := 4000) hx hb dX11_fire_20 (by decide) ?_
    refine lv_icmp_le (tgt := 33) hx hb dX11_fire_23 (by decide) (fun hc => ?_) (fun hc => ?_)
    · replace h := pw_t hc h
      refine lv_aload_n hx hb dX11_fire_33 rfl (lv_at hl 0 rfl) ?_
      refine lv_aload_n hx hb dX11_fire_34 rfl (lv_at hl 0 rfl) ?_
      refine r_get C hw qM_0 clsX11 19 rfl (by decide) fl_X11_177 dX11_fire_35 (v := .int (σ 0 19)) rfl ?_
      obtain ⟨r34, σ33, e32, h⟩ := cal_some h
      refine r_cVV C hw (As := [.int (σ 0 19)]) (rest := []) (kX11_burns l D cI cZ ad _ _ _ e32) YX11_burns ml_X11_187 qM_0 clsX11 (pw_rmOK (by omega) (by decide)) rfl hl.1 rfl (Nat.le_of_ble_eq_true rfl) dX11_fire_38 ⟨Nat.zero_le _, Nat.zero_le _⟩ (fun H locs hw => ?_)
      refine lv_iconst (v := 0) hx hb dX11_fire_41 (by decide) ?_
      refine lv_istore_n (lv' := [(1, .int 0), (0, .ref (ad 0))]) hx hb dX11_fire_42 rfl hl (by decide) rfl (fun ls hl => ?_)
      refine lv_iconst (v := 0) hx hb dX11_fire_43 (by decide) ?_
      refine lv_istore_n (lv' := [(2, .int 0), (1, .int 0), (0, .ref (ad 0))]) hx hb dX11_fire_44 rfl hl (by decide) rfl (fun ls hl => ?_)
      exact wX11_fire_b45 C  _ _ _ _ _ _ _ hw (lv_sub hl [2, 1, 0] rfl) h
    · replace h := pw_f hc h
      refine lv_aload_n hx hb dX11_fire_26 rfl (lv_at hl 0 rfl) ?_
      refine lv_bipush (v := (-6)) hx hb dX11_fire_27 (by decide) ?_
      obtain ⟨v37, σ36, e35, h⟩ := cal_some h
      refine r_cVI C hw (As := [.int (-6)]) (rest := []) (kX11_refuse l D cI cZ ad _ _ _ e35) YX11_refuse ml_X11_152 qM_0 clsX11 (pw_rmOK (by omega) (by decide)) rfl hl.1 rfl (Nat.le_of_ble_eq_true rfl) dX11_fire_29 ⟨Nat.zero_le _, Nat.zero_le _⟩ (fun H locs hw => ?_)
      exact r_iret C hw dX11_fire_32 h
  · replace h := pw_t hc h
    refine lv_aload_n hx hb dX11_fire_7 rfl (lv_at hl 0 rfl) ?_
    refine lv_bipush (v := (-3)) hx hb dX11_fire_8 (by decide) ?_
    obtain ⟨v40, σ39, e38, h⟩ := cal_some h
    refine r_cVI C hw (As := [.int (-3)]) (rest := []) (kX11_refuse l D cI cZ ad _ _ _ e38) YX11_refuse ml_X11_152 qM_0 clsX11 (pw_rmOK (by omega) (by decide)) rfl hl.1 rfl (Nat.le_of_ble_eq_true rfl) dX11_fire_10 ⟨Nat.zero_le _, Nat.zero_le _⟩ (fun H locs hw => ?_)
    exact r_iret C hw dX11_fire_13 h
set_option maxRecDepth 100000 in
set_option maxHeartbeats 4000000 in
theorem wX11_want_b72 {p : Program} {l : Launch} {e : Env} {s : State} {m : MethodId} {args : Array Value} {below : List Frame} {meth : Method} {c : Code} {D : va_G} {cI cZ : ClassId} {ad : Nat → Nat} {A : Nat → Prop} {z : Int32 × St}  (C : pw_C p s m args meth c yX11_want.cls cX11_want 4 (some .int) D cI cZ) : ∀ (x1 : Int32) (x2 : Int32) (x3 : Int32) (σ : St) (H : Heap) (locs : List Loc) (ls : Array Slot), pw_H D (pw_w shM cI cZ ad σ) A s.heap H locs → lv_has ls 4 [(0, .ref (ad 0)), (1, .int x1), (2, .int x2), (3, .int x3)] → fX11_want_b72  x1 x2 x3 σ = some z → W p l e (pw_rm 2) s m args below meth c H locs 0 0 (pw_QI below args s D (pw_w shM cI cZ ad) A z) (F0 m 72 ls []) := by
  obtain ⟨hx, hb, hr, hts, hown, hlk, hml, hK, hN⟩ := id C
  intro x1 x2 x3 σ H locs ls hw hl h
  unfold fX11_want_b72 at h
  refine lv_iload_n hx hb dX11_want_72 rfl (lv_at hl 3 rfl) ?_
  refine lv_if_eq (tgt := 82) hx hb dX11_want_73 (by decide) (fun hc => ?_) (fun hc => ?_)
  · replace h := pw_t hc h
    refine lv_aload_n hx hb dX11_want_82 rfl (lv_at hl 0 rfl) ?_
    refine r_get C hw qM_0 clsX11 29 rfl (by decide) fl_X11_67 dX11_want_83 (v := .ref (ad 20)) rfl ?_
    refine lv_aload_n hx hb dX11_want_86 rfl (lv_at hl 0 rfl) ?_
    refine r_get C hw qM_0 clsX11 21 rfl (by decide) fl_X11_212 dX11_want_87 (v := .int (σ 0 21)) rfl ?_
    refine lv_iload_n hx hb dX11_want_90 rfl (lv_at hl 1 rfl) ?_
    refine r_iast C hw qM_20 dX11_want_91 h (fun σ1 H locs hw h => ?_)
    refine lv_aload_n hx hb dX11_want_92 rfl (lv_at hl 0 rfl) ?_
    refine r_get C hw qM_0 clsX11 30 rfl (by decide) fl_X11_70 dX11_want_93 (v := .ref (ad 21)) rfl ?_
    refine lv_aload_n hx hb dX11_want_96 rfl (lv_at hl 0 rfl) ?_
    refine r_get C hw qM_0 clsX11 21 rfl (by decide) fl_X11_212 dX11_want_97 (v := .int (σ1 0 21)) rfl ?_
    refine lv_iload_n hx hb dX11_want_100 rfl (lv_at hl 2 rfl) ?_
    refine r_iast C hw qM_21 dX11_want_101 h (fun σ2 H locs hw h => ?_)
    refine lv_aload_n hx hb dX11_want_102 rfl (lv_at hl 0 rfl) ?_
    refine lv_dup hx hb dX11_want_103 rfl ?_
    refine r_get C hw qM_0 clsX11 21 rfl (by decide) fl_X11_212 dX11_want_104 (v := .int (σ2 0 21)) rfl ?_
    refine lv_iconst (v := 1) hx hb dX11_want_107 (by decide) ?_
    refine lv_iadd hx hb dX11_want_108 ?_
    refine r_put C hw qM_0 clsX11 21 rfl (by decide) fl_X11_212 dX11_want_109 rfl rfl rfl h (fun σ3 H locs hw h => ?_)
    refine lv_aload_n hx hb dX11_want_112 rfl (lv_at hl 0 rfl) ?_
    refine r_get C hw qM_0 clsX11 21 rfl (by decide) fl_X11_212 dX11_want_113 (v := .int (σ3 0 21)) rfl ?_
    exact r_iret C hw dX11_want_116 h
  · replace h := pw_f hc h
    refine lv_aload_n hx hb dX11_want_76 rfl (lv_at hl 0 rfl) ?_
    refine lv_iload_n hx hb dX11_want_77 rfl (lv_at hl 3 rfl) ?_
    obtain ⟨v6, σ5, e4, h⟩ := cal_some h
    refine r_cVI C hw (As := [.int x3]) (rest := []) (kX11_refuse l D cI cZ ad _ _ _ e4) YX11_refuse ml_X11_152 qM_0 clsX11 (pw_rmOK (by omega) (by decide)) rfl hl.1 rfl (Nat.le_of_ble_eq_true rfl) dX11_want_78 ⟨Nat.zero_le _, Nat.zero_le _⟩ (fun H locs hw => ?_)
    exact r_iret C hw dX11_want_81 h
set_option maxRecDepth 100000 in
set_option maxHeartbeats 4000000 in
theorem wX11_want_b40 {p : Program} {l : Launch} {e : Env} {s : State} {m : MethodId} {args : Array Value} {below : List Frame} {meth : Method} {c : Code} {D : va_G} {cI cZ : ClassId} {ad : Nat → Nat} {A : Nat → Prop} {z : Int32 × St}  (C : pw_C p s m args meth c yX11_want.cls cX11_want 4 (some .int) D cI cZ) : ∀  (σ : St) (H : Heap) (locs : List Loc) (ls : Array Slot), pw_H D (pw_w shM cI cZ ad σ) A s.heap H locs → lv_has ls 4 [(0, .ref (ad 0))] → fX11_want_b40   σ = some z → W p l e (pw_rm 2) s m args below meth c H locs 0 0 (pw_QI below args s D (pw_w shM cI cZ ad) A z) (F0 m 40 ls []) := by
  obtain ⟨hx, hb, hr, hts, hown, hlk, hml, hK, hN⟩ := id C
  intro σ H locs ls hw hl h
  unfold fX11_want_b40 at h
  refine lv_aload_n hx hb dX11_want_40 rfl (lv_at hl 0 rfl) ?_
  refine lv_bipush (v := (-3)) hx hb dX11_want_41 (by decide) ?_
  obtain ⟨v9, σ8, e7, h⟩ := cal_some h
  refine r_cVI C hw (As := [.int (-3)]) (rest := []) (kX11_refuse l D cI cZ ad _ _ _ e7) YX11_refuse ml_X11_152 qM_0 clsX11 (pw_rmOK (by omega) (by decide)) rfl hl.1 rfl (Nat.le_of_ble_eq_true rfl) dX11_want_43 ⟨Nat.zero_le _, Nat.zero_le _⟩ (fun H locs hw => ?_)
  exact r_iret C hw dX11_want_46 h
set_option maxRecDepth 100000 in
set_option maxHeartbeats 4000000 in
theorem kX11_want (l : Launch) (D : va_G) (cI cZ : ClassId) (ad : Nat → Nat) (x1 : Int32) (x2 : Int32) (σ : St) (z : Int32 × St) (h : fX11_want x1 x2 σ = some z) : pw_MI l D shM cI cZ ad yX11_want cX11_want 4 (some .int) (pw_rm 2) [.ref (ad 0), .int x1, .int x2] σ z.1 z.2 := by
  refine pw_ofI (by decide) (Nat.le_of_ble_eq_true rfl) ?_
  intro p e s m args below meth c A C hw ls hl
  obtain ⟨hx, hb, hr, hts, hown, hlk, hml, hK, hN⟩ := id C
  have hl : lv_has ls 4 [(0, .ref (ad 0)), (1, .int x1), (2, .int x2)] := hl
  unfold fX11_want at h
  refine lv_aload_n hx hb dX11_want_0 rfl (lv_at hl 0 rfl) ?_
  refine lv_iload_n hx hb dX11_want_1 rfl (lv_at hl 1 rfl) ?_
  obtain ⟨v12, σ11, e10, h⟩ := cal_some h
  refine r_cVI C hw (As := [.int x1]) (rest := []) (kX11_isPiece l D cI cZ ad _ _ _ e10) YX11_isPiece ml_X11_190 qM_0 clsX11 (pw_rmOK (by omega) (by decide)) rfl hl.1 rfl (Nat.le_of_ble_eq_true rfl) dX11_want_2 ⟨Nat.zero_le _, Nat.zero_le _⟩ (fun H locs hw => ?_)
  refine lv_if_ne (tgt := 14) hx hb dX11_want_5 (by decide) (fun hc => ?_) (fun hc => ?_)
  · replace h := pw_f hc h
    refine lv_aload_n hx hb dX11_want_14 rfl (lv_at hl 0 rfl) ?_
    refine r_get C hw qM_0 clsX11 8 rfl (by decide) fl_X11_34 dX11_want_15 (v := .ref (ad 9)) rfl ?_
    refine lv_iload_n hx hb dX11_want_18 rfl (lv_at hl 1 rfl) ?_
    refine r_iald C hw qM_9 dX11_want_19 h (fun v13 h => ?_)
    refine lv_if_ne (tgt := 40) hx hb dX11_want_20 (by decide) (fun hc => ?_) (fun hc => ?_)
    · replace h := pw_f hc h
      exact wX11_want_b40 C  _ _ _ _ hw (lv_sub hl [0] rfl) h
    · replace h := pw_t hc h
      refine lv_aload_n hx hb dX11_want_23 rfl (lv_at hl 0 rfl) ?_
      refine r_get C hw qM_0 clsX11 9 rfl (by decide) fl_X11_37 dX11_want_24 (v := .ref (ad 10)) rfl ?_
      refine lv_iload_n hx hb dX11_want_27 rfl (lv_at hl 1 rfl) ?_
      refine r_iald C hw qM_10 dX11_want_28 h (fun v14 h => ?_)
      refine lv_if_ge (tgt := 40) hx hb dX11_want_29 (by decide) (fun hc => ?_) (fun hc => ?_)
      · replace h := pw_t hc h
        exact wX11_want_b40 C  _ _ _ _ hw (lv_sub hl [0] rfl) h
      · replace h := pw_f hc h
        refine lv_aload_n hx hb dX11_want_32 rfl (lv_at hl 0 rfl) ?_
        refine lv_iload_n hx hb dX11_want_33 rfl (lv_at hl 1 rfl) ?_
        obtain ⟨v17, σ16, e15, h⟩ := cal_some h
        refine r_cVI C hw (As := [.int x1]) (rest := []) (kX11_isWanted l D cI cZ ad _ _ _ e15) YX11_isWanted ml_X11_194 qM_0 clsX11 (pw_rmOK (by omega) (by decide)) rfl hl.1 rfl (Nat.le_of_ble_eq_true rfl) dX11_want_34 ⟨Nat.zero_le _, Nat.zero_le _⟩ (fun H locs hw => ?_)
        refine lv_if_eq (tgt := 47) hx hb dX11_want_37 (by decide) (fun hc => ?_) (fun hc => ?_)
        · replace h := pw_t hc h
          refine lv_iload_n hx hb dX11_want_47 rfl (lv_at hl 2 rfl) ?_
          refine lv_iconst (v := 1) hx hb dX11_want_48 (by decide) ?_
          refine lv_sipush (v := 999) hx hb dX11_want_49 (by decide) ?_
          obtain ⟨v20, σ19, e18, h⟩ := cal_some h
          refine r_cSI C hw (sh := shM) (ad := ad) (As := [.int x2, .int 1, .int 999]) (rest := []) (kX11_wrong l D cI cZ ad _ _ _ _ _ e18) YX11_wrong ml_X11_148 (pw_rmOK (by omega) (by decide)) rfl hl.1 rfl (Nat.le_of_ble_eq_true rfl) dX11_want_52 ⟨Nat.zero_le _, Nat.zero_le _⟩ (fun H locs hw => ?_)
          refine lv_istore_n (lv' := [(3, .int v20), (0, .ref (ad 0)), (1, .int x1), (2, .int x2)]) hx hb dX11_want_55 rfl hl (by decide) rfl (fun ls hl => ?_)
          refine lv_iload_n hx hb dX11_want_56 rfl (lv_at hl 0 rfl) ?_
          refine lv_if_ne (tgt := 72) hx hb dX11_want_57 (by decide) (fun hc => ?_) (fun hc => ?_)
          · replace h := pw_f hc h
            exact wX11_want_b72 C  _ _ _ _ _ _ _ hw (lv_sub hl [1, 2, 3, 0] rfl) h
          · replace h := pw_t hc h
            refine lv_aload_n hx hb dX11_want_60 rfl (lv_at hl 1 rfl) ?_
            refine r_get C hw qM_0 clsX11 21 rfl (by decide) fl_X11_212 dX11_want_61 (v := .int (σ19 0 21)) rfl ?_
            refine lv_bipush (v := 8) hx hb dX11_want_64 (by decide) ?_
            refine lv_icmp_ne (tgt := 72) hx hb dX11_want_66 (by decide) (fun hc => ?_) (fun hc => ?_)
            · replace h := pw_f hc h
              exact wX11_want_b72 C  _ _ _ _ _ _ _ hw (lv_sub hl [1, 2, 3, 0] rfl) h
            · replace h := pw_t hc h
              refine lv_bipush (v := (-6)) hx hb dX11_want_69 (by decide) ?_
              refine lv_istore_n (lv' := [(3, .int (-6)), (0, .ref (ad 0)), (1, .int x1), (2, .int x2)]) hx hb dX11_want_71 rfl hl (by decide) rfl (fun ls hl => ?_)
              exact wX11_want_b72 C  _ _ _ _ _ _ _ hw (lv_sub hl [1, 2, 3, 0] rfl) h
        · replace h := pw_f hc h
          exact wX11_want_b40 C  _ _ _ _ hw (lv_sub hl [0] rfl) h
  · replace h := pw_t hc h
    refine lv_aload_n hx hb dX11_want_8 rfl (lv_at hl 0 rfl) ?_
    refine lv_iconst (v := (-1)) hx hb dX11_want_9 (by decide) ?_
    obtain ⟨v23, σ22, e21, h⟩ := cal_some h
    refine r_cVI C hw (As := [.int (-1)]) (rest := []) (kX11_refuse l D cI cZ ad _ _ _ e21) YX11_refuse ml_X11_152 qM_0 clsX11 (pw_rmOK (by omega) (by decide)) rfl hl.1 rfl (Nat.le_of_ble_eq_true rfl) dX11_want_10 ⟨Nat.zero_le _, Nat.zero_le _⟩ (fun H locs hw => ?_)
    exact r_iret C hw dX11_want_13 h
set_option maxRecDepth 100000 in
set_option maxHeartbeats 4000000 in
theorem kX11_mayLie (l : Launch) (D : va_G) (cI cZ : ClassId) (ad : Nat → Nat) (x1 : Int32) (x2 : Int32) (x3 : Int32) (σ : St) (z : Int32 × St) (h : fX11_mayLie x1 x2 x3 σ = some z) : pw_MI l D shM cI cZ ad yX11_mayLie cX11_mayLie 4 (some .boolean) (pw_rm 2) [.ref (ad 0), .int x1, .int x2, .int x3] σ z.1 z.2 := by
  refine pw_ofI (by decide) (Nat.le_of_ble_eq_true rfl) ?_
  intro p e s m args below meth c A C hw ls hl
  obtain ⟨hx, hb, hr, hts, hown, hlk, hml, hK, hN⟩ := id C
  have hl : lv_has ls 4 [(0, .ref (ad 0)), (1, .int x1), (2, .int x2), (3, .int x3)] := hl
  unfold fX11_mayLie at h
  refine lv_iload_n hx hb dX11_mayLie_0 rfl (lv_at hl 3 rfl) ?_
  refine lv_iload_n hx hb dX11_mayLie_1 rfl (lv_at hl 2 rfl) ?_
  refine lv_ishr hx hb dX11_mayLie_2 ?_
  refine lv_iconst (v := 1) hx hb dX11_mayLie_3 (by decide) ?_
  refine lv_iand hx hb dX11_mayLie_4 ?_
  refine lv_if_ne (tgt := 35) hx hb dX11_mayLie_5 (by decide) (fun hc => ?_) (fun hc => ?_)
  · replace h := pw_f hc h
    refine lv_iconst (v := 0) hx hb dX11_mayLie_35 (by decide) ?_
    exact r_zret C hw dX11_mayLie_36 h
  · replace h := pw_t hc h
    refine lv_aload_n hx hb dX11_mayLie_8 rfl (lv_at hl 0 rfl) ?_
    refine r_get C hw qM_0 clsX11 14 rfl (by decide) fl_X11_52 dX11_mayLie_9 (v := .ref (ad 15)) rfl ?_
    refine lv_iload_n hx hb dX11_mayLie_12 rfl (lv_at hl 2 rfl) ?_
    refine r_iald C hw qM_15 dX11_mayLie_13 h (fun v1 h => ?_)
    refine lv_if_ge (tgt := 35) hx hb dX11_mayLie_14 (by decide) (fun hc => ?_) (fun hc => ?_)
    · replace h := pw_t hc h
      refine lv_iconst (v := 0) hx hb dX11_mayLie_35 (by decide) ?_
      exact r_zret C hw dX11_mayLie_36 h
    · replace h := pw_f hc h
      refine lv_aload_n hx hb dX11_mayLie_17 rfl (lv_at hl 0 rfl) ?_
      refine lv_aload_n hx hb dX11_mayLie_18 rfl (lv_at hl 0 rfl) ?_
      refine r_get C hw qM_0 clsX11 29 rfl (by decide) fl_X11_67 dX11_mayLie_19 (v := .ref (ad 20)) rfl ?_
      refine lv_iload_n hx hb dX11_mayLie_22 rfl (lv_at hl 1 rfl) ?_
      refine r_iald C hw qM_20 dX11_mayLie_23 h (fun v2 h => ?_)
      refine lv_iload_n hx hb dX11_mayLie_24 rfl (lv_at hl 2 rfl) ?_
      obtain ⟨v5, σ4, e3, h⟩ := cal_some h
      refine r_cVI C hw (As := [.int v2, .int x2]) (rest := []) (kX11_bears l D cI cZ ad _ _ _ _ e3) YX11_bears ml_X11_203 qM_0 clsX11 (pw_rmOK (by omega) (by decide)) rfl hl.1 rfl (Nat.le_of_ble_eq_true rfl) dX11_mayLie_25 ⟨Nat.zero_le _, Nat.zero_le _⟩ (fun H locs hw => ?_)
      refine lv_if_eq (tgt := 35) hx hb dX11_mayLie_28 (by decide) (fun hc => ?_) (fun hc => ?_)
      · replace h := pw_t hc h
        refine lv_iconst (v := 0) hx hb dX11_mayLie_35 (by decide) ?_
        exact r_zret C hw dX11_mayLie_36 h
      · replace h := pw_f hc h
        refine lv_iconst (v := 1) hx hb dX11_mayLie_31 (by decide) ?_
        refine lv_goto (tgt := 36) hx hb dX11_mayLie_32 (by decide) ?_
        exact r_zret C hw dX11_mayLie_36 h
set_option maxRecDepth 100000 in
set_option maxHeartbeats 4000000 in
theorem wX11_finds_b254 {p : Program} {l : Launch} {e : Env} {s : State} {m : MethodId} {args : Array Value} {below : List Frame} {meth : Method} {c : Code} {D : va_G} {cI cZ : ClassId} {ad : Nat → Nat} {A : Nat → Prop} {z : Int32 × St} {k157 : Int32 → Int32 → Int32 → St → Option (Int32 × St)} (C : pw_C p s m args meth c yX11_finds.cls cX11_finds 6 (some .int) D cI cZ) (hk157 : ∀ (x1 : Int32) (x2 : Int32) (x3 : Int32) (σ : St) (H : Heap) (locs : List Loc) (ls : Array Slot), pw_H D (pw_w shM cI cZ ad σ) A s.heap H locs → lv_has ls 6 [(0, .ref (ad 0)), (1, .int x1), (2, .int x2), (3, .int x3)] → k157 x1 x2 x3 σ = some z → W p l e (pw_rm 3) s m args below meth c H locs 0 0 (pw_QI below args s D (pw_w shM cI cZ ad) A z) (F0 m 157 ls [])) : ∀ (x1 : Int32) (x2 : Int32) (x3 : Int32) (σ : St) (H : Heap) (locs : List Loc) (ls : Array Slot), pw_H D (pw_w shM cI cZ ad σ) A s.heap H locs → lv_has ls 6 [(0, .ref (ad 0)), (1, .int x1), (2, .int x2), (3, .int x3)] → fX11_finds_b254 k157 x1 x2 x3 σ = some z → W p l e (pw_rm 3) s m args below meth c H locs 0 0 (pw_QI below args s D (pw_w shM cI cZ ad) A z) (F0 m 254 ls []) := by
  obtain ⟨hx, hb, hr, hts, hown, hlk, hml, hK, hN⟩ := id C
  intro x1 x2 x3 σ H locs ls hw hl h
  unfold fX11_finds_b254 at h
  refine lv_aload_n hx hb dX11_finds_254 rfl (lv_at hl 0 rfl) ?_
  refine r_get C hw qM_0 clsX11 32 rfl (by decide) fl_X11_77 dX11_finds_255 (v := .ref (ad 23)) rfl ?_
  refine lv_iload_n hx hb dX11_finds_258 rfl (lv_at hl 3 rfl) ?_
  refine r_iald C hw qM_23 dX11_finds_259 h (fun v1 h => ?_)
  refine lv_if_lt (tgt := 274) hx hb dX11_finds_260 (by decide) (fun hc => ?_) (fun hc => ?_)
  · replace h := pw_t hc h
    refine lv_iinc (v := (x3 + 1)) (lv' := [(3, .int (x3 + 1)), (0, .ref (ad 0)), (1, .int x1), (2, .int x2)]) hx hb dX11_finds_274 hl (k := 3) rfl rfl (by decide) rfl (fun ls hl => ?_)
    refine lv_goto (tgt := 157) hx hb dX11_finds_277 (by decide) ?_
    exact hk157 _ _ _ _ _ _ _ hw (lv_sub hl [1, 2, 3, 0] rfl) h
  · replace h := pw_f hc h
    refine lv_iload_n hx hb dX11_finds_263 rfl (lv_at hl 2 rfl) ?_
    refine lv_iconst (v := 1) hx hb dX11_finds_264 (by decide) ?_
    refine lv_aload_n hx hb dX11_finds_265 rfl (lv_at hl 0 rfl) ?_
    refine r_get C hw qM_0 clsX11 32 rfl (by decide) fl_X11_77 dX11_finds_266 (v := .ref (ad 23)) rfl ?_
    refine lv_iload_n hx hb dX11_finds_269 rfl (lv_at hl 3 rfl) ?_
    refine r_iald C hw qM_23 dX11_finds_270 h (fun v2 h => ?_)
    refine lv_ishl hx hb dX11_finds_271 ?_
    refine lv_ior hx hb dX11_finds_272 ?_
    refine r_leti h (fun v3 h => ?_)
    refine lv_istore_n (lv' := [(2, .int v3), (0, .ref (ad 0)), (1, .int x1), (3, .int x3)]) hx hb dX11_finds_273 rfl hl (by decide) rfl (fun ls hl => ?_)
    refine lv_iinc (v := (x3 + 1)) (lv' := [(3, .int (x3 + 1)), (2, .int v3), (0, .ref (ad 0)), (1, .int x1)]) hx hb dX11_finds_274 hl (k := 3) rfl rfl (by decide) rfl (fun ls hl => ?_)
    refine lv_goto (tgt := 157) hx hb dX11_finds_277 (by decide) ?_
    exact hk157 _ _ _ _ _ _ _ hw (lv_sub hl [2, 3, 1, 0] rfl) h
set_option maxRecDepth 100000 in
set_option maxHeartbeats 4000000 in
theorem wX11_finds_b176 {p : Program} {l : Launch} {e : Env} {s : State} {m : MethodId} {args : Array Value} {below : List Frame} {meth : Method} {c : Code} {D : va_G} {cI cZ : ClassId} {ad : Nat → Nat} {A : Nat → Prop} {z : Int32 × St} {k157 : Int32 → Int32 → Int32 → St → Option (Int32 × St)} (C : pw_C p s m args meth c yX11_finds.cls cX11_finds 6 (some .int) D cI cZ) (hk157 : ∀ (x1 : Int32) (x2 : Int32) (x3 : Int32) (σ : St) (H : Heap) (locs : List Loc) (ls : Array Slot), pw_H D (pw_w shM cI cZ ad σ) A s.heap H locs → lv_has ls 6 [(0, .ref (ad 0)), (1, .int x1), (2, .int x2), (3, .int x3)] → k157 x1 x2 x3 σ = some z → W p l e (pw_rm 3) s m args below meth c H locs 0 0 (pw_QI below args s D (pw_w shM cI cZ ad) A z) (F0 m 157 ls [])) : ∀ (n : Nat) (x1 : Int32) (x2 : Int32) (x3 : Int32) (x4 : Int32) (σ : St) (H : Heap) (locs : List Loc) (ls : Array Slot), pw_H D (pw_w shM cI cZ ad σ) A s.heap H locs → lv_has ls 6 [(0, .ref (ad 0)), (1, .int x1), (2, .int x2), (3, .int x3), (4, .int x4)] → fX11_finds_b176 k157 n x1 x2 x3 x4 σ = some z → W p l e (pw_rm 3) s m args below meth c H locs 0 0 (pw_QI below args s D (pw_w shM cI cZ ad) A z) (F0 m 176 ls []) := by
  obtain ⟨hx, hb, hr, hts, hown, hlk, hml, hK, hN⟩ := id C
  intro n
  induction n with
  | zero =>
    intro x1 x2 x3 x4 σ H locs ls hw hl h
    exact absurd h (by simp [fX11_finds_b176])
  | succ n ih =>
    intro x1 x2 x3 x4 σ H locs ls hw hl h
    rw [fX11_finds_b176] at h
    refine lv_iload hx hb dX11_finds_176 (lv_at hl 4 rfl) ?_
    refine lv_bipush (v := 12) hx hb dX11_finds_178 (by decide) ?_
    refine lv_icmp_ge (tgt := 254) hx hb dX11_finds_180 (by decide) (fun hc => ?_) (fun hc => ?_)
    · replace h := pw_t hc h
      exact wX11_finds_b254 C hk157 _ _ _ _ _ _ _ hw (lv_sub hl [0, 1, 2, 3] rfl) h
    · replace h := pw_f hc h
      refine lv_aload_n hx hb dX11_finds_183 rfl (lv_at hl 0 rfl) ?_
      refine r_get C hw qM_0 clsX11 32 rfl (by decide) fl_X11_77 dX11_finds_184 (v := .ref (ad 23)) rfl ?_
      refine lv_iload_n hx hb dX11_finds_187 rfl (lv_at hl 3 rfl) ?_
      refine r_iald C hw qM_23 dX11_finds_188 h (fun v4 h => ?_)
      refine lv_if_ge (tgt := 254) hx hb dX11_finds_189 (by decide) (fun hc => ?_) (fun hc => ?_)
      · replace h := pw_t hc h
        exact wX11_finds_b254 C hk157 _ _ _ _ _ _ _ hw (lv_sub hl [0, 1, 2, 3] rfl) h
      · replace h := pw_f hc h
        refine lv_aload_n hx hb dX11_finds_192 rfl (lv_at hl 0 rfl) ?_
        refine lv_iload_n hx hb dX11_finds_193 rfl (lv_at hl 3 rfl) ?_
        refine lv_iload hx hb dX11_finds_194 (lv_at hl 4 rfl) ?_
        refine lv_iload_n hx hb dX11_finds_196 rfl (lv_at hl 2 rfl) ?_
        obtain ⟨v7, σ6, e5, h⟩ := cal_some h
        refine r_cVI C hw (As := [.int x3, .int x4, .int x2]) (rest := []) (kX11_mayLie l D cI cZ ad _ _ _ _ _ e5) YX11_mayLie ml_X11_215 qM_0 clsX11 (pw_rmOK (by omega) (by decide)) rfl hl.1 rfl (Nat.le_of_ble_eq_true rfl) dX11_finds_197 ⟨Nat.zero_le _, Nat.zero_le _⟩ (fun H locs hw => ?_)
        refine lv_if_eq (tgt := 248) hx hb dX11_finds_200 (by decide) (fun hc => ?_) (fun hc => ?_)
        · replace h := pw_t hc h
          refine lv_iinc (v := (x4 + 1)) (lv' := [(4, .int (x4 + 1)), (0, .ref (ad 0)), (1, .int x1), (2, .int x2), (3, .int x3)]) hx hb dX11_finds_248 hl (k := 4) rfl rfl (by decide) rfl (fun ls hl => ?_)
          refine lv_goto (tgt := 176) hx hb dX11_finds_251 (by decide) ?_
          exact ih _ _ _ _ _ _ _ _ hw (lv_sub hl [1, 2, 3, 4, 0] rfl) h
        · replace h := pw_f hc h
          refine lv_aload_n hx hb dX11_finds_203 rfl (lv_at hl 0 rfl) ?_
          refine r_get C hw qM_0 clsX11 30 rfl (by decide) fl_X11_70 dX11_finds_204 (v := .ref (ad 21)) rfl ?_
          refine lv_iload_n hx hb dX11_finds_207 rfl (lv_at hl 3 rfl) ?_
          refine r_iald C hw qM_21 dX11_finds_208 h (fun v8 h => ?_)
          refine lv_aload_n hx hb dX11_finds_209 rfl (lv_at hl 0 rfl) ?_
          refine r_get C hw qM_0 clsX11 31 rfl (by decide) fl_X11_74 dX11_finds_210 (v := .ref (ad 22)) rfl ?_
          refine lv_iload_n hx hb dX11_finds_213 rfl (lv_at hl 1 rfl) ?_
          refine lv_iload_n hx hb dX11_finds_214 rfl (lv_at hl 3 rfl) ?_
          refine lv_iconst (v := 1) hx hb dX11_finds_215 (by decide) ?_
          refine lv_iadd hx hb dX11_finds_216 ?_
          refine lv_imul hx hb dX11_finds_217 ?_
          refine lv_iload_n hx hb dX11_finds_218 rfl (lv_at hl 2 rfl) ?_
          refine lv_iconst (v := 1) hx hb dX11_finds_219 (by decide) ?_
          refine lv_iload hx hb dX11_finds_220 (lv_at hl 4 rfl) ?_
          refine lv_ishl hx hb dX11_finds_222 ?_
          refine lv_ior hx hb dX11_finds_223 ?_
          refine lv_iadd hx hb dX11_finds_224 ?_
          refine r_iald C hw qM_22 dX11_finds_225 h (fun v9 h => ?_)
          refine lv_iadd hx hb dX11_finds_226 ?_
          refine lv_aload_n hx hb dX11_finds_227 rfl (lv_at hl 0 rfl) ?_
          refine r_get C hw qM_0 clsX11 31 rfl (by decide) fl_X11_74 dX11_finds_228 (v := .ref (ad 22)) rfl ?_
          refine lv_iload_n hx hb dX11_finds_231 rfl (lv_at hl 1 rfl) ?_
          refine lv_iload_n hx hb dX11_finds_232 rfl (lv_at hl 3 rfl) ?_
          refine lv_imul hx hb dX11_finds_233 ?_
          refine lv_iload_n hx hb dX11_finds_234 rfl (lv_at hl 2 rfl) ?_
          refine lv_iadd hx hb dX11_finds_235 ?_
          refine r_iald C hw qM_22 dX11_finds_236 h (fun v10 h => ?_)
          refine lv_icmp_ne (tgt := 248) hx hb dX11_finds_237 (by decide) (fun hc => ?_) (fun hc => ?_)
          · replace h := pw_f hc h
            refine lv_iinc (v := (x4 + 1)) (lv' := [(4, .int (x4 + 1)), (0, .ref (ad 0)), (1, .int x1), (2, .int x2), (3, .int x3)]) hx hb dX11_finds_248 hl (k := 4) rfl rfl (by decide) rfl (fun ls hl => ?_)
            refine lv_goto (tgt := 176) hx hb dX11_finds_251 (by decide) ?_
            exact ih _ _ _ _ _ _ _ _ hw (lv_sub hl [1, 2, 3, 4, 0] rfl) h
          · replace h := pw_t hc h
            refine lv_aload_n hx hb dX11_finds_240 rfl (lv_at hl 0 rfl) ?_
            refine r_get C hw qM_0 clsX11 32 rfl (by decide) fl_X11_77 dX11_finds_241 (v := .ref (ad 23)) rfl ?_
            refine lv_iload_n hx hb dX11_finds_244 rfl (lv_at hl 3 rfl) ?_
            refine lv_iload hx hb dX11_finds_245 (lv_at hl 4 rfl) ?_
            refine r_iast C hw qM_23 dX11_finds_247 h (fun σ11 H locs hw h => ?_)
            refine lv_iinc (v := (x4 + 1)) (lv' := [(4, .int (x4 + 1)), (0, .ref (ad 0)), (1, .int x1), (2, .int x2), (3, .int x3)]) hx hb dX11_finds_248 hl (k := 4) rfl rfl (by decide) rfl (fun ls hl => ?_)
            refine lv_goto (tgt := 176) hx hb dX11_finds_251 (by decide) ?_
            exact ih _ _ _ _ _ _ _ _ hw (lv_sub hl [1, 2, 3, 4, 0] rfl) h
set_option maxRecDepth 100000 in
set_option maxHeartbeats 4000000 in
theorem wX11_finds_b157 {p : Program} {l : Launch} {e : Env} {s : State} {m : MethodId} {args : Array Value} {below : List Frame} {meth : Method} {c : Code} {D : va_G} {cI cZ : ClassId} {ad : Nat → Nat} {A : Nat → Prop} {z : Int32 × St}  (C : pw_C p s m args meth c yX11_finds.cls cX11_finds 6 (some .int) D cI cZ) : ∀ (n : Nat) (x1 : Int32) (x2 : Int32) (x3 : Int32) (σ : St) (H : Heap) (locs : List Loc) (ls : Array Slot), pw_H D (pw_w shM cI cZ ad σ) A s.heap H locs → lv_has ls 6 [(0, .ref (ad 0)), (1, .int x1), (2, .int x2), (3, .int x3)] → fX11_finds_b157  n x1 x2 x3 σ = some z → W p l e (pw_rm 3) s m args below meth c H locs 0 0 (pw_QI below args s D (pw_w shM cI cZ ad) A z) (F0 m 157 ls []) := by
  obtain ⟨hx, hb, hr, hts, hown, hlk, hml, hK, hN⟩ := id C
  intro n
  induction n with
  | zero =>
    intro x1 x2 x3 σ H locs ls hw hl h
    exact absurd h (by simp [fX11_finds_b157])
  | succ n ih =>
    intro x1 x2 x3 σ H locs ls hw hl h
    rw [fX11_finds_b157] at h
    refine lv_iload_n hx hb dX11_finds_157 rfl (lv_at hl 3 rfl) ?_
    refine lv_aload_n hx hb dX11_finds_158 rfl (lv_at hl 0 rfl) ?_
    refine r_get C hw qM_0 clsX11 21 rfl (by decide) fl_X11_212 dX11_finds_159 (v := .int (σ 0 21)) rfl ?_
    refine lv_icmp_ge (tgt := 280) hx hb dX11_finds_162 (by decide) (fun hc => ?_) (fun hc => ?_)
    · replace h := pw_t hc h
      refine lv_aload_n hx hb dX11_finds_280 rfl (lv_at hl 0 rfl) ?_
      refine r_get C hw qM_0 clsX11 31 rfl (by decide) fl_X11_74 dX11_finds_281 (v := .ref (ad 22)) rfl ?_
      refine lv_iconst (v := 0) hx hb dX11_finds_284 (by decide) ?_
      refine r_iald C hw qM_22 dX11_finds_285 h (fun v12 h => ?_)
      exact r_iret C hw dX11_finds_286 h
    · replace h := pw_f hc h
      refine lv_aload_n hx hb dX11_finds_165 rfl (lv_at hl 0 rfl) ?_
      refine r_get C hw qM_0 clsX11 32 rfl (by decide) fl_X11_77 dX11_finds_166 (v := .ref (ad 23)) rfl ?_
      refine lv_iload_n hx hb dX11_finds_169 rfl (lv_at hl 3 rfl) ?_
      refine lv_bipush (v := (-9)) hx hb dX11_finds_170 (by decide) ?_
      refine r_iast C hw qM_23 dX11_finds_172 h (fun σ13 H locs hw h => ?_)
      refine lv_iconst (v := 0) hx hb dX11_finds_173 (by decide) ?_
      refine lv_istore (lv' := [(4, .int 0), (0, .ref (ad 0)), (1, .int x1), (2, .int x2), (3, .int x3)]) hx hb dX11_finds_174 hl (by decide) rfl (fun ls hl => ?_)
      exact wX11_finds_b176 C ih _ _ _ _ _ _ _ _ _ hw (lv_sub hl [1, 2, 3, 4, 0] rfl) h
set_option maxRecDepth 100000 in
set_option maxHeartbeats 4000000 in
theorem wX11_finds_b74 {p : Program} {l : Launch} {e : Env} {s : State} {m : MethodId} {args : Array Value} {below : List Frame} {meth : Method} {c : Code} {D : va_G} {cI cZ : ClassId} {ad : Nat → Nat} {A : Nat → Prop} {z : Int32 × St} {k46 : Int32 → Int32 → St → Option (Int32 × St)} {k52 : Int32 → Int32 → Int32 → St → Option (Int32 × St)} (C : pw_C p s m args meth c yX11_finds.cls cX11_finds 6 (some .int) D cI cZ) (hk46 : ∀ (x1 : Int32) (x2 : Int32) (σ : St) (H : Heap) (locs : List Loc) (ls : Array Slot), pw_H D (pw_w shM cI cZ ad σ) A s.heap H locs → lv_has ls 6 [(0, .ref (ad 0)), (1, .int x1), (2, .int x2)] → k46 x1 x2 σ = some z → W p l e (pw_rm 3) s m args below meth c H locs 0 0 (pw_QI below args s D (pw_w shM cI cZ ad) A z) (F0 m 46 ls [])) (hk52 : ∀ (x1 : Int32) (x2 : Int32) (x3 : Int32) (σ : St) (H : Heap) (locs : List Loc) (ls : Array Slot), pw_H D (pw_w shM cI cZ ad σ) A s.heap H locs → lv_has ls 6 [(0, .ref (ad 0)), (1, .int x1), (2, .int x2), (3, .int x3)] → k52 x1 x2 x3 σ = some z → W p l e (pw_rm 3) s m args below meth c H locs 0 0 (pw_QI below args s D (pw_w shM cI cZ ad) A z) (F0 m 52 ls [])) : ∀ (n : Nat) (x1 : Int32) (x2 : Int32) (x3 : Int32) (x4 : Int32) (x5 : Int32) (σ : St) (H : Heap) (locs : List Loc) (ls : Array Slot), pw_H D (pw_w shM cI cZ ad σ) A s.heap H locs → lv_has ls 6 [(0, .ref (ad 0)), (1, .int x1), (2, .int x2), (3, .int x3), (4, .int x4), (5, .int x5)] → fX11_finds_b74 k46 k52 n x1 x2 x3 x4 x5 σ = some z → W p l e (pw_rm 3) s m args below meth c H locs 0 0 (pw_QI below args s D (pw_w shM cI cZ ad) A z) (F0 m 74 ls []) := by
  obtain ⟨hx, hb, hr, hts, hown, hlk, hml, hK, hN⟩ := id C
  intro n
  induction n with
  | zero =>
    intro x1 x2 x3 x4 x5 σ H locs ls hw hl h
    exact absurd h (by simp [fX11_finds_b74])
  | succ n ih =>
    intro x1 x2 x3 x4 x5 σ H locs ls hw hl h
    rw [fX11_finds_b74] at h
    refine lv_iload hx hb dX11_finds_74 (lv_at hl 5 rfl) ?_
    refine lv_bipush (v := 12) hx hb dX11_finds_76 (by decide) ?_
    refine lv_icmp_ge (tgt := 129) hx hb dX11_finds_78 (by decide) (fun hc => ?_) (fun hc => ?_)
    · replace h := pw_t hc h
      refine lv_aload_n hx hb dX11_finds_129 rfl (lv_at hl 0 rfl) ?_
      refine r_get C hw qM_0 clsX11 31 rfl (by decide) fl_X11_74 dX11_finds_130 (v := .ref (ad 22)) rfl ?_
      refine lv_iload_n hx hb dX11_finds_133 rfl (lv_at hl 1 rfl) ?_
      refine lv_iload_n hx hb dX11_finds_134 rfl (lv_at hl 2 rfl) ?_
      refine lv_imul hx hb dX11_finds_135 ?_
      refine lv_iload_n hx hb dX11_finds_136 rfl (lv_at hl 3 rfl) ?_
      refine lv_iadd hx hb dX11_finds_137 ?_
      refine lv_iload hx hb dX11_finds_138 (lv_at hl 4 rfl) ?_
      refine r_iast C hw qM_22 dX11_finds_140 h (fun σ14 H locs hw h => ?_)
      refine lv_iinc (v := (x3 + 1)) (lv' := [(3, .int (x3 + 1)), (0, .ref (ad 0)), (1, .int x1), (2, .int x2), (4, .int x4), (5, .int x5)]) hx hb dX11_finds_141 hl (k := 3) rfl rfl (by decide) rfl (fun ls hl => ?_)
      refine lv_goto (tgt := 52) hx hb dX11_finds_144 (by decide) ?_
      exact hk52 _ _ _ _ _ _ _ hw (lv_sub hl [1, 2, 3, 0] rfl) h
    · replace h := pw_f hc h
      refine lv_aload_n hx hb dX11_finds_81 rfl (lv_at hl 0 rfl) ?_
      refine lv_iload_n hx hb dX11_finds_82 rfl (lv_at hl 2 rfl) ?_
      refine lv_iload hx hb dX11_finds_83 (lv_at hl 5 rfl) ?_
      refine lv_iload_n hx hb dX11_finds_85 rfl (lv_at hl 3 rfl) ?_
      obtain ⟨v17, σ16, e15, h⟩ := cal_some h
      refine r_cVI C hw (As := [.int x2, .int x5, .int x3]) (rest := []) (kX11_mayLie l D cI cZ ad _ _ _ _ _ e15) YX11_mayLie ml_X11_215 qM_0 clsX11 (pw_rmOK (by omega) (by decide)) rfl hl.1 rfl (Nat.le_of_ble_eq_true rfl) dX11_finds_86 ⟨Nat.zero_le _, Nat.zero_le _⟩ (fun H locs hw => ?_)
      refine lv_if_eq (tgt := 123) hx hb dX11_finds_89 (by decide) (fun hc => ?_) (fun hc => ?_)
      · replace h := pw_t hc h
        refine lv_iinc (v := (x5 + 1)) (lv' := [(5, .int (x5 + 1)), (0, .ref (ad 0)), (1, .int x1), (2, .int x2), (3, .int x3), (4, .int x4)]) hx hb dX11_finds_123 hl (k := 5) rfl rfl (by decide) rfl (fun ls hl => ?_)
        refine lv_goto (tgt := 74) hx hb dX11_finds_126 (by decide) ?_
        exact ih _ _ _ _ _ _ _ _ _ hw (lv_sub hl [1, 2, 3, 4, 5, 0] rfl) h
      · replace h := pw_f hc h
        refine lv_iload hx hb dX11_finds_92 (lv_at hl 4 rfl) ?_
        refine lv_aload_n hx hb dX11_finds_94 rfl (lv_at hl 0 rfl) ?_
        refine r_get C hw qM_0 clsX11 30 rfl (by decide) fl_X11_70 dX11_finds_95 (v := .ref (ad 21)) rfl ?_
        refine lv_iload_n hx hb dX11_finds_98 rfl (lv_at hl 2 rfl) ?_
        refine r_iald C hw qM_21 dX11_finds_99 h (fun v18 h => ?_)
        refine lv_aload_n hx hb dX11_finds_100 rfl (lv_at hl 0 rfl) ?_
        refine r_get C hw qM_0 clsX11 31 rfl (by decide) fl_X11_74 dX11_finds_101 (v := .ref (ad 22)) rfl ?_
        refine lv_iload_n hx hb dX11_finds_104 rfl (lv_at hl 1 rfl) ?_
        refine lv_iload_n hx hb dX11_finds_105 rfl (lv_at hl 2 rfl) ?_
        refine lv_iconst (v := 1) hx hb dX11_finds_106 (by decide) ?_
        refine lv_iadd hx hb dX11_finds_107 ?_
        refine lv_imul hx hb dX11_finds_108 ?_
        refine lv_iload_n hx hb dX11_finds_109 rfl (lv_at hl 3 rfl) ?_
        refine lv_iconst (v := 1) hx hb dX11_finds_110 (by decide) ?_
        refine lv_iload hx hb dX11_finds_111 (lv_at hl 5 rfl) ?_
        refine lv_ishl hx hb dX11_finds_113 ?_
        refine lv_ior hx hb dX11_finds_114 ?_
        refine lv_iadd hx hb dX11_finds_115 ?_
        refine r_iald C hw qM_22 dX11_finds_116 h (fun v19 h => ?_)
        refine lv_iadd hx hb dX11_finds_117 ?_
        refine va_mmax hx hb (hml.trans hl.1.symm) hown (hts _ ml_X11_182) (hts _ ls_max) (hts _ li_Math) (hts _ lc_max) (pw_fr (by omega)) (pw_lo (Nat.le_of_ble_eq_true rfl) (by omega)) (Nat.zero_le _) (Nat.zero_le _) dX11_finds_118 ?_
        refine r_leti h (fun v20 h => ?_)
        refine lv_istore (lv' := [(4, .int v20), (0, .ref (ad 0)), (1, .int x1), (2, .int x2), (3, .int x3), (5, .int x5)]) hx hb dX11_finds_121 hl (by decide) rfl (fun ls hl => ?_)
        refine lv_iinc (v := (x5 + 1)) (lv' := [(5, .int (x5 + 1)), (4, .int v20), (0, .ref (ad 0)), (1, .int x1), (2, .int x2), (3, .int x3)]) hx hb dX11_finds_123 hl (k := 5) rfl rfl (by decide) rfl (fun ls hl => ?_)
        refine lv_goto (tgt := 74) hx hb dX11_finds_126 (by decide) ?_
        exact ih _ _ _ _ _ _ _ _ _ hw (lv_sub hl [2, 3, 4, 5, 1, 0] rfl) h
set_option maxRecDepth 100000 in
set_option maxHeartbeats 4000000 in
theorem wX11_finds_b52 {p : Program} {l : Launch} {e : Env} {s : State} {m : MethodId} {args : Array Value} {below : List Frame} {meth : Method} {c : Code} {D : va_G} {cI cZ : ClassId} {ad : Nat → Nat} {A : Nat → Prop} {z : Int32 × St} {k46 : Int32 → Int32 → St → Option (Int32 × St)} (C : pw_C p s m args meth c yX11_finds.cls cX11_finds 6 (some .int) D cI cZ) (hk46 : ∀ (x1 : Int32) (x2 : Int32) (σ : St) (H : Heap) (locs : List Loc) (ls : Array Slot), pw_H D (pw_w shM cI cZ ad σ) A s.heap H locs → lv_has ls 6 [(0, .ref (ad 0)), (1, .int x1), (2, .int x2)] → k46 x1 x2 σ = some z → W p l e (pw_rm 3) s m args below meth c H locs 0 0 (pw_QI below args s D (pw_w shM cI cZ ad) A z) (F0 m 46 ls [])) : ∀ (n : Nat) (x1 : Int32) (x2 : Int32) (x3 : Int32) (σ : St) (H : Heap) (locs : List Loc) (ls : Array Slot), pw_H D (pw_w shM cI cZ ad σ) A s.heap H locs → lv_has ls 6 [(0, .ref (ad 0)), (1, .int x1), (2, .int x2), (3, .int x3)] → fX11_finds_b52 k46 n x1 x2 x3 σ = some z → W p l e (pw_rm 3) s m args below meth c H locs 0 0 (pw_QI below args s D (pw_w shM cI cZ ad) A z) (F0 m 52 ls []) := by
  obtain ⟨hx, hb, hr, hts, hown, hlk, hml, hK, hN⟩ := id C
  intro n
  induction n with
  | zero =>
    intro x1 x2 x3 σ H locs ls hw hl h
    exact absurd h (by simp [fX11_finds_b52])
  | succ n ih =>
    intro x1 x2 x3 σ H locs ls hw hl h
    rw [fX11_finds_b52] at h
    refine lv_iload_n hx hb dX11_finds_52 rfl (lv_at hl 3 rfl) ?_
    refine lv_iload_n hx hb dX11_finds_53 rfl (lv_at hl 1 rfl) ?_
    refine lv_icmp_ge (tgt := 147) hx hb dX11_finds_54 (by decide) (fun hc => ?_) (fun hc => ?_)
    · replace h := pw_t hc h
      refine lv_iinc (v := (x2 + (-1))) (lv' := [(2, .int (x2 + (-1))), (0, .ref (ad 0)), (1, .int x1), (3, .int x3)]) hx hb dX11_finds_147 hl (k := 2) rfl rfl (by decide) rfl (fun ls hl => ?_)
      refine lv_goto (tgt := 46) hx hb dX11_finds_150 (by decide) ?_
      exact hk46 _ _ _ _ _ _ hw (lv_sub hl [1, 2, 0] rfl) h
    · replace h := pw_f hc h
      refine lv_aload_n hx hb dX11_finds_57 rfl (lv_at hl 0 rfl) ?_
      refine r_get C hw qM_0 clsX11 31 rfl (by decide) fl_X11_74 dX11_finds_58 (v := .ref (ad 22)) rfl ?_
      refine lv_iload_n hx hb dX11_finds_61 rfl (lv_at hl 1 rfl) ?_
      refine lv_iload_n hx hb dX11_finds_62 rfl (lv_at hl 2 rfl) ?_
      refine lv_iconst (v := 1) hx hb dX11_finds_63 (by decide) ?_
      refine lv_iadd hx hb dX11_finds_64 ?_
      refine lv_imul hx hb dX11_finds_65 ?_
      refine lv_iload_n hx hb dX11_finds_66 rfl (lv_at hl 3 rfl) ?_
      refine lv_iadd hx hb dX11_finds_67 ?_
      refine r_iald C hw qM_22 dX11_finds_68 h (fun v21 h => ?_)
      refine lv_istore (lv' := [(4, .int v21), (0, .ref (ad 0)), (1, .int x1), (2, .int x2), (3, .int x3)]) hx hb dX11_finds_69 hl (by decide) rfl (fun ls hl => ?_)
      refine lv_iconst (v := 0) hx hb dX11_finds_71 (by decide) ?_
      refine lv_istore (lv' := [(5, .int 0), (4, .int v21), (0, .ref (ad 0)), (1, .int x1), (2, .int x2), (3, .int x3)]) hx hb dX11_finds_72 hl (by decide) rfl (fun ls hl => ?_)
      exact wX11_finds_b74 C hk46 ih _ _ _ _ _ _ _ _ _ _ hw (lv_sub hl [2, 3, 4, 5, 1, 0] rfl) h
set_option maxRecDepth 100000 in
set_option maxHeartbeats 4000000 in
theorem wX11_finds_b46 {p : Program} {l : Launch} {e : Env} {s : State} {m : MethodId} {args : Array Value} {below : List Frame} {meth : Method} {c : Code} {D : va_G} {cI cZ : ClassId} {ad : Nat → Nat} {A : Nat → Prop} {z : Int32 × St}  (C : pw_C p s m args meth c yX11_finds.cls cX11_finds 6 (some .int) D cI cZ) : ∀ (n : Nat) (x1 : Int32) (x2 : Int32) (σ : St) (H : Heap) (locs : List Loc) (ls : Array Slot), pw_H D (pw_w shM cI cZ ad σ) A s.heap H locs → lv_has ls 6 [(0, .ref (ad 0)), (1, .int x1), (2, .int x2)] → fX11_finds_b46  n x1 x2 σ = some z → W p l e (pw_rm 3) s m args below meth c H locs 0 0 (pw_QI below args s D (pw_w shM cI cZ ad) A z) (F0 m 46 ls []) := by
  obtain ⟨hx, hb, hr, hts, hown, hlk, hml, hK, hN⟩ := id C
  intro n
  induction n with
  | zero =>
    intro x1 x2 σ H locs ls hw hl h
    exact absurd h (by simp [fX11_finds_b46])
  | succ n ih =>
    intro x1 x2 σ H locs ls hw hl h
    rw [fX11_finds_b46] at h
    refine lv_iload_n hx hb dX11_finds_46 rfl (lv_at hl 2 rfl) ?_
    refine lv_if_lt (tgt := 153) hx hb dX11_finds_47 (by decide) (fun hc => ?_) (fun hc => ?_)
    · replace h := pw_t hc h
      refine lv_iconst (v := 0) hx hb dX11_finds_153 (by decide) ?_
      refine lv_istore_n (lv' := [(2, .int 0), (0, .ref (ad 0)), (1, .int x1)]) hx hb dX11_finds_154 rfl hl (by decide) rfl (fun ls hl => ?_)
      refine lv_iconst (v := 0) hx hb dX11_finds_155 (by decide) ?_
      refine lv_istore_n (lv' := [(3, .int 0), (2, .int 0), (0, .ref (ad 0)), (1, .int x1)]) hx hb dX11_finds_156 rfl hl (by decide) rfl (fun ls hl => ?_)
      exact wX11_finds_b157 C  _ _ _ _ _ _ _ _ hw (lv_sub hl [2, 3, 1, 0] rfl) h
    · replace h := pw_f hc h
      refine lv_iconst (v := 0) hx hb dX11_finds_50 (by decide) ?_
      refine lv_istore_n (lv' := [(3, .int 0), (0, .ref (ad 0)), (1, .int x1), (2, .int x2)]) hx hb dX11_finds_51 rfl hl (by decide) rfl (fun ls hl => ?_)
      exact wX11_finds_b52 C ih _ _ _ _ _ _ _ _ hw (lv_sub hl [1, 2, 3, 0] rfl) h
set_option maxRecDepth 100000 in
set_option maxHeartbeats 4000000 in
theorem wX11_finds_b14 {p : Program} {l : Launch} {e : Env} {s : State} {m : MethodId} {args : Array Value} {below : List Frame} {meth : Method} {c : Code} {D : va_G} {cI cZ : ClassId} {ad : Nat → Nat} {A : Nat → Prop} {z : Int32 × St}  (C : pw_C p s m args meth c yX11_finds.cls cX11_finds 6 (some .int) D cI cZ) : ∀ (n : Nat) (x1 : Int32) (x2 : Int32) (σ : St) (H : Heap) (locs : List Loc) (ls : Array Slot), pw_H D (pw_w shM cI cZ ad σ) A s.heap H locs → lv_has ls 6 [(0, .ref (ad 0)), (1, .int x1), (2, .int x2)] → fX11_finds_b14  n x1 x2 σ = some z → W p l e (pw_rm 3) s m args below meth c H locs 0 0 (pw_QI below args s D (pw_w shM cI cZ ad) A z) (F0 m 14 ls []) := by
  obtain ⟨hx, hb, hr, hts, hown, hlk, hml, hK, hN⟩ := id C
  intro n
  induction n with
  | zero =>
    intro x1 x2 σ H locs ls hw hl h
    exact absurd h (by simp [fX11_finds_b14])
  | succ n ih =>
    intro x1 x2 σ H locs ls hw hl h
    rw [fX11_finds_b14] at h
    refine lv_iload_n hx hb dX11_finds_14 rfl (lv_at hl 2 rfl) ?_
    refine lv_iload_n hx hb dX11_finds_15 rfl (lv_at hl 1 rfl) ?_
    refine lv_icmp_ge (tgt := 39) hx hb dX11_finds_16 (by decide) (fun hc => ?_) (fun hc => ?_)
    · replace h := pw_t hc h
      refine lv_aload_n hx hb dX11_finds_39 rfl (lv_at hl 0 rfl) ?_
      refine r_get C hw qM_0 clsX11 21 rfl (by decide) fl_X11_212 dX11_finds_40 (v := .int (σ 0 21)) rfl ?_
      refine lv_iconst (v := 1) hx hb dX11_finds_43 (by decide) ?_
      refine lv_isub hx hb dX11_finds_44 ?_
      refine lv_istore_n (lv' := [(2, .int ((σ 0 21) - 1)), (0, .ref (ad 0)), (1, .int x1)]) hx hb dX11_finds_45 rfl hl (by decide) rfl (fun ls hl => ?_)
      exact wX11_finds_b46 C  _ _ _ _ _ _ _ hw (lv_sub hl [1, 2, 0] rfl) h
    · replace h := pw_f hc h
      refine lv_aload_n hx hb dX11_finds_19 rfl (lv_at hl 0 rfl) ?_
      refine r_get C hw qM_0 clsX11 31 rfl (by decide) fl_X11_74 dX11_finds_20 (v := .ref (ad 22)) rfl ?_
      refine lv_iload_n hx hb dX11_finds_23 rfl (lv_at hl 1 rfl) ?_
      refine lv_aload_n hx hb dX11_finds_24 rfl (lv_at hl 0 rfl) ?_
      refine r_get C hw qM_0 clsX11 21 rfl (by decide) fl_X11_212 dX11_finds_25 (v := .int (σ 0 21)) rfl ?_
      refine lv_imul hx hb dX11_finds_28 ?_
      refine lv_iload_n hx hb dX11_finds_29 rfl (lv_at hl 2 rfl) ?_
      refine lv_iadd hx hb dX11_finds_30 ?_
      refine lv_iconst (v := 0) hx hb dX11_finds_31 (by decide) ?_
      refine r_iast C hw qM_22 dX11_finds_32 h (fun σ22 H locs hw h => ?_)
      refine lv_iinc (v := (x2 + 1)) (lv' := [(2, .int (x2 + 1)), (0, .ref (ad 0)), (1, .int x1)]) hx hb dX11_finds_33 hl (k := 2) rfl rfl (by decide) rfl (fun ls hl => ?_)
      refine lv_goto (tgt := 14) hx hb dX11_finds_36 (by decide) ?_
      exact ih _ _ _ _ _ _ hw (lv_sub hl [1, 2, 0] rfl) h
set_option maxRecDepth 100000 in
set_option maxHeartbeats 4000000 in
theorem kX11_finds (l : Launch) (D : va_G) (cI cZ : ClassId) (ad : Nat → Nat)  (σ : St) (z : Int32 × St) (h : fX11_finds  σ = some z) : pw_MI l D shM cI cZ ad yX11_finds cX11_finds 6 (some .int) (pw_rm 3) [.ref (ad 0)] σ z.1 z.2 := by
  refine pw_ofI (by decide) (Nat.le_of_ble_eq_true rfl) ?_
  intro p e s m args below meth c A C hw ls hl
  obtain ⟨hx, hb, hr, hts, hown, hlk, hml, hK, hN⟩ := id C
  have hl : lv_has ls 6 [(0, .ref (ad 0))] := hl
  unfold fX11_finds at h
  refine lv_aload_n hx hb dX11_finds_0 rfl (lv_at hl 0 rfl) ?_
  refine lv_aload_n hx hb dX11_finds_1 rfl (lv_at hl 0 rfl) ?_
  refine r_get C hw qM_0 clsX11 19 rfl (by decide) fl_X11_177 dX11_finds_2 (v := .int (σ 0 19)) rfl ?_
  obtain ⟨r25, σ24, e23, h⟩ := cal_some h
  refine r_cVV C hw (As := [.int (σ 0 19)]) (rest := []) (kX11_burns l D cI cZ ad _ _ _ e23) YX11_burns ml_X11_187 qM_0 clsX11 (pw_rmOK (by omega) (by decide)) rfl hl.1 rfl (Nat.le_of_ble_eq_true rfl) dX11_finds_5 ⟨Nat.zero_le _, Nat.zero_le _⟩ (fun H locs hw => ?_)
  refine lv_sipush (v := 4096) hx hb dX11_finds_8 (by decide) ?_
  refine lv_istore_n (lv' := [(1, .int 4096), (0, .ref (ad 0))]) hx hb dX11_finds_11 rfl hl (by decide) rfl (fun ls hl => ?_)
  refine lv_iconst (v := 0) hx hb dX11_finds_12 (by decide) ?_
  refine lv_istore_n (lv' := [(2, .int 0), (1, .int 4096), (0, .ref (ad 0))]) hx hb dX11_finds_13 rfl hl (by decide) rfl (fun ls hl => ?_)
  exact wX11_finds_b14 C  _ _ _ _ _ _ _ hw (lv_sub hl [2, 1, 0] rfl) h
set_option maxRecDepth 100000 in
set_option maxHeartbeats 4000000 in
theorem kX11_best (l : Launch) (D : va_G) (cI cZ : ClassId) (ad : Nat → Nat)  (σ : St) (z : Int32 × St) (h : fX11_best  σ = some z) : pw_MI l D shM cI cZ ad yX11_best cX11_best 1 (some .int) (pw_rm 4) [.ref (ad 0)] σ z.1 z.2 := by
  refine pw_ofI (by decide) (Nat.le_of_ble_eq_true rfl) ?_
  intro p e s m args below meth c A C hw ls hl
  obtain ⟨hx, hb, hr, hts, hown, hlk, hml, hK, hN⟩ := id C
  have hl : lv_has ls 1 [(0, .ref (ad 0))] := hl
  unfold fX11_best at h
  refine lv_aload_n hx hb dX11_best_0 rfl (lv_at hl 0 rfl) ?_
  obtain ⟨v3, σ2, e1, h⟩ := cal_some h
  refine r_cVI C hw (As := []) (rest := []) (kX11_finds l D cI cZ ad _ _ e1) YX11_finds ml_X11_219 qM_0 clsX11 (pw_rmOK (by omega) (by decide)) rfl hl.1 rfl (Nat.le_of_ble_eq_true rfl) dX11_best_1 ⟨Nat.zero_le _, Nat.zero_le _⟩ (fun H locs hw => ?_)
  exact r_iret C hw dX11_best_4 h
set_option maxRecDepth 100000 in
set_option maxHeartbeats 4000000 in
theorem kX11_bestPlace (l : Launch) (D : va_G) (cI cZ : ClassId) (ad : Nat → Nat) (x1 : Int32) (σ : St) (z : Int32 × St) (h : fX11_bestPlace x1 σ = some z) : pw_MI l D shM cI cZ ad yX11_bestPlace cX11_bestPlace 3 (some .int) (pw_rm 4) [.ref (ad 0), .int x1] σ z.1 z.2 := by
  refine pw_ofI (by decide) (Nat.le_of_ble_eq_true rfl) ?_
  intro p e s m args below meth c A C hw ls hl
  obtain ⟨hx, hb, hr, hts, hown, hlk, hml, hK, hN⟩ := id C
  have hl : lv_has ls 3 [(0, .ref (ad 0)), (1, .int x1)] := hl
  unfold fX11_bestPlace at h
  refine lv_iload_n hx hb dX11_bestPlace_0 rfl (lv_at hl 1 rfl) ?_
  refine lv_aload_n hx hb dX11_bestPlace_1 rfl (lv_at hl 0 rfl) ?_
  refine r_get C hw qM_0 clsX11 21 rfl (by decide) fl_X11_212 dX11_bestPlace_2 (v := .int (σ 0 21)) rfl ?_
  obtain ⟨v3, σ2, e1, h⟩ := cal_some h
  refine r_cSI C hw (sh := shM) (ad := ad) (As := [.int x1, .int (σ 0 21)]) (rest := []) (kX11_isIn l D cI cZ ad _ _ _ _ e1) YX11_isIn ml_X11_144 (pw_rmOK (by omega) (by decide)) rfl hl.1 rfl (Nat.le_of_ble_eq_true rfl) dX11_bestPlace_5 ⟨Nat.zero_le _, Nat.zero_le _⟩ (fun H locs hw => ?_)
  refine lv_if_ne (tgt := 17) hx hb dX11_bestPlace_8 (by decide) (fun hc => ?_) (fun hc => ?_)
  · replace h := pw_f hc h
    refine lv_aload_n hx hb dX11_bestPlace_17 rfl (lv_at hl 0 rfl) ?_
    obtain ⟨v6, σ5, e4, h⟩ := cal_some h
    refine r_cVI C hw (As := []) (rest := []) (kX11_finds l D cI cZ ad _ _ e4) YX11_finds ml_X11_219 qM_0 clsX11 (pw_rmOK (by omega) (by decide)) rfl hl.1 rfl (Nat.le_of_ble_eq_true rfl) dX11_bestPlace_18 ⟨Nat.zero_le _, Nat.zero_le _⟩ (fun H locs hw => ?_)
    refine lv_istore_n (lv' := [(2, .int v6), (0, .ref (ad 0)), (1, .int x1)]) hx hb dX11_bestPlace_21 rfl hl (by decide) rfl (fun ls hl => ?_)
    refine lv_aload_n hx hb dX11_bestPlace_22 rfl (lv_at hl 1 rfl) ?_
    refine r_get C hw qM_0 clsX11 32 rfl (by decide) fl_X11_77 dX11_bestPlace_23 (v := .ref (ad 23)) rfl ?_
    refine lv_iload_n hx hb dX11_bestPlace_26 rfl (lv_at hl 2 rfl) ?_
    refine r_iald C hw qM_23 dX11_bestPlace_27 h (fun v7 h => ?_)
    exact r_iret C hw dX11_bestPlace_28 h
  · replace h := pw_t hc h
    refine lv_aload_n hx hb dX11_bestPlace_11 rfl (lv_at hl 0 rfl) ?_
    refine lv_iconst (v := (-1)) hx hb dX11_bestPlace_12 (by decide) ?_
    obtain ⟨v10, σ9, e8, h⟩ := cal_some h
    refine r_cVI C hw (As := [.int (-1)]) (rest := []) (kX11_refuse l D cI cZ ad _ _ _ e8) YX11_refuse ml_X11_152 qM_0 clsX11 (pw_rmOK (by omega) (by decide)) rfl hl.1 rfl (Nat.le_of_ble_eq_true rfl) dX11_bestPlace_13 ⟨Nat.zero_le _, Nat.zero_le _⟩ (fun H locs hw => ?_)
    exact r_iret C hw dX11_bestPlace_16 h
set_option maxRecDepth 100000 in
set_option maxHeartbeats 4000000 in
theorem wX11_lay_b9 {p : Program} {l : Launch} {e : Env} {s : State} {m : MethodId} {args : Array Value} {below : List Frame} {meth : Method} {c : Code} {D : va_G} {cI cZ : ClassId} {ad : Nat → Nat} {A : Nat → Prop} {z : Int32 × St}  (C : pw_C p s m args meth c yX11_lay.cls cX11_lay 4 (some .int) D cI cZ) : ∀ (n : Nat) (x2 : Int32) (x3 : Int32) (σ : St) (H : Heap) (locs : List Loc) (ls : Array Slot), pw_H D (pw_w shM cI cZ ad σ) A s.heap H locs → lv_has ls 4 [(0, .ref (ad 0)), (2, .int x2), (3, .int x3)] → fX11_lay_b9  n x2 x3 σ = some z → W p l e (pw_rm 4) s m args below meth c H locs 0 0 (pw_QI below args s D (pw_w shM cI cZ ad) A z) (F0 m 9 ls []) := by
  obtain ⟨hx, hb, hr, hts, hown, hlk, hml, hK, hN⟩ := id C
  intro n
  induction n with
  | zero =>
    intro x2 x3 σ H locs ls hw hl h
    exact absurd h (by simp [fX11_lay_b9])
  | succ n ih =>
    intro x2 x3 σ H locs ls hw hl h
    rw [fX11_lay_b9] at h
    refine lv_iload_n hx hb dX11_lay_9 rfl (lv_at hl 2 rfl) ?_
    refine lv_aload_n hx hb dX11_lay_10 rfl (lv_at hl 0 rfl) ?_
    refine r_get C hw qM_0 clsX11 21 rfl (by decide) fl_X11_212 dX11_lay_11 (v := .int (σ 0 21)) rfl ?_
    refine lv_icmp_ge (tgt := 72) hx hb dX11_lay_14 (by decide) (fun hc => ?_) (fun hc => ?_)
    · replace h := pw_t hc h
      refine lv_aload_n hx hb dX11_lay_72 rfl (lv_at hl 0 rfl) ?_
      refine lv_iconst (v := 0) hx hb dX11_lay_73 (by decide) ?_
      refine r_put C hw qM_0 clsX11 21 rfl (by decide) fl_X11_212 dX11_lay_74 rfl rfl rfl h (fun σ1 H locs hw h => ?_)
      refine lv_iload_n hx hb dX11_lay_77 rfl (lv_at hl 1 rfl) ?_
      exact r_iret C hw dX11_lay_78 h
    · replace h := pw_f hc h
      refine lv_aload_n hx hb dX11_lay_17 rfl (lv_at hl 0 rfl) ?_
      refine r_get C hw qM_0 clsX11 32 rfl (by decide) fl_X11_77 dX11_lay_18 (v := .ref (ad 23)) rfl ?_
      refine lv_iload_n hx hb dX11_lay_21 rfl (lv_at hl 2 rfl) ?_
      refine r_iald C hw qM_23 dX11_lay_22 h (fun v2 h => ?_)
      refine lv_if_ge (tgt := 29) hx hb dX11_lay_23 (by decide) (fun hc => ?_) (fun hc => ?_)
      · replace h := pw_t hc h
        refine lv_aload_n hx hb dX11_lay_29 rfl (lv_at hl 0 rfl) ?_
        refine r_get C hw qM_0 clsX11 14 rfl (by decide) fl_X11_52 dX11_lay_30 (v := .ref (ad 15)) rfl ?_
        refine lv_aload_n hx hb dX11_lay_33 rfl (lv_at hl 0 rfl) ?_
        refine r_get C hw qM_0 clsX11 32 rfl (by decide) fl_X11_77 dX11_lay_34 (v := .ref (ad 23)) rfl ?_
        refine lv_iload_n hx hb dX11_lay_37 rfl (lv_at hl 2 rfl) ?_
        refine r_iald C hw qM_23 dX11_lay_38 h (fun v3 h => ?_)
        refine lv_aload_n hx hb dX11_lay_39 rfl (lv_at hl 0 rfl) ?_
        refine r_get C hw qM_0 clsX11 29 rfl (by decide) fl_X11_67 dX11_lay_40 (v := .ref (ad 20)) rfl ?_
        refine lv_iload_n hx hb dX11_lay_43 rfl (lv_at hl 2 rfl) ?_
        refine r_iald C hw qM_20 dX11_lay_44 h (fun v4 h => ?_)
        refine r_iast C hw qM_15 dX11_lay_45 h (fun σ5 H locs hw h => ?_)
        refine lv_aload_n hx hb dX11_lay_46 rfl (lv_at hl 0 rfl) ?_
        refine r_get C hw qM_0 clsX11 9 rfl (by decide) fl_X11_37 dX11_lay_47 (v := .ref (ad 10)) rfl ?_
        refine lv_aload_n hx hb dX11_lay_50 rfl (lv_at hl 0 rfl) ?_
        refine r_get C hw qM_0 clsX11 29 rfl (by decide) fl_X11_67 dX11_lay_51 (v := .ref (ad 20)) rfl ?_
        refine lv_iload_n hx hb dX11_lay_54 rfl (lv_at hl 2 rfl) ?_
        refine r_iald C hw qM_20 dX11_lay_55 h (fun v6 h => ?_)
        refine lv_aload_n hx hb dX11_lay_56 rfl (lv_at hl 0 rfl) ?_
        refine r_get C hw qM_0 clsX11 32 rfl (by decide) fl_X11_77 dX11_lay_57 (v := .ref (ad 23)) rfl ?_
        refine lv_iload_n hx hb dX11_lay_60 rfl (lv_at hl 2 rfl) ?_
        refine r_iald C hw qM_23 dX11_lay_61 h (fun v7 h => ?_)
        refine r_iast C hw qM_10 dX11_lay_62 h (fun σ8 H locs hw h => ?_)
        refine lv_iinc (v := (x2 + 1)) (lv' := [(2, .int (x2 + 1)), (0, .ref (ad 0)), (3, .int x3)]) hx hb dX11_lay_63 hl (k := 1) rfl rfl (by decide) rfl (fun ls hl => ?_)
        refine lv_iinc (v := (x3 + 1)) (lv' := [(3, .int (x3 + 1)), (2, .int (x2 + 1)), (0, .ref (ad 0))]) hx hb dX11_lay_66 hl (k := 2) rfl rfl (by decide) rfl (fun ls hl => ?_)
        refine lv_goto (tgt := 9) hx hb dX11_lay_69 (by decide) ?_
        exact ih _ _ _ _ _ _ hw (lv_sub hl [2, 1, 0] rfl) h
      · replace h := pw_f hc h
        refine lv_goto (tgt := 66) hx hb dX11_lay_26 (by decide) ?_
        refine lv_iinc (v := (x3 + 1)) (lv' := [(3, .int (x3 + 1)), (0, .ref (ad 0)), (2, .int x2)]) hx hb dX11_lay_66 hl (k := 2) rfl rfl (by decide) rfl (fun ls hl => ?_)
        refine lv_goto (tgt := 9) hx hb dX11_lay_69 (by decide) ?_
        exact ih _ _ _ _ _ _ hw (lv_sub hl [1, 2, 0] rfl) h
set_option maxRecDepth 100000 in
set_option maxHeartbeats 4000000 in
theorem kX11_lay (l : Launch) (D : va_G) (cI cZ : ClassId) (ad : Nat → Nat)  (σ : St) (z : Int32 × St) (h : fX11_lay  σ = some z) : pw_MI l D shM cI cZ ad yX11_lay cX11_lay 4 (some .int) (pw_rm 4) [.ref (ad 0)] σ z.1 z.2 := by
  refine pw_ofI (by decide) (Nat.le_of_ble_eq_true rfl) ?_
  intro p e s m args below meth c A C hw ls hl
  obtain ⟨hx, hb, hr, hts, hown, hlk, hml, hK, hN⟩ := id C
  have hl : lv_has ls 4 [(0, .ref (ad 0))] := hl
  unfold fX11_lay at h
  refine lv_aload_n hx hb dX11_lay_0 rfl (lv_at hl 0 rfl) ?_
  obtain ⟨v11, σ10, e9, h⟩ := cal_some h
  refine r_cVI C hw (As := []) (rest := []) (kX11_finds l D cI cZ ad _ _ e9) YX11_finds ml_X11_219 qM_0 clsX11 (pw_rmOK (by omega) (by decide)) rfl hl.1 rfl (Nat.le_of_ble_eq_true rfl) dX11_lay_1 ⟨Nat.zero_le _, Nat.zero_le _⟩ (fun H locs hw => ?_)
  refine lv_istore_n (lv' := [(1, .int v11), (0, .ref (ad 0))]) hx hb dX11_lay_4 rfl hl (by decide) rfl (fun ls hl => ?_)
  refine lv_iconst (v := 0) hx hb dX11_lay_5 (by decide) ?_
  refine lv_istore_n (lv' := [(2, .int 0), (1, .int v11), (0, .ref (ad 0))]) hx hb dX11_lay_6 rfl hl (by decide) rfl (fun ls hl => ?_)
  refine lv_iconst (v := 0) hx hb dX11_lay_7 (by decide) ?_
  refine lv_istore_n (lv' := [(3, .int 0), (2, .int 0), (1, .int v11), (0, .ref (ad 0))]) hx hb dX11_lay_8 rfl hl (by decide) rfl (fun ls hl => ?_)
  exact wX11_lay_b9 C  _ _ _ _ _ _ _ hw (lv_sub hl [3, 1, 0] rfl) h
set_option maxRecDepth 100000 in
set_option maxHeartbeats 4000000 in
theorem kX11_colour (l : Launch) (D : va_G) (cI cZ : ClassId) (ad : Nat → Nat) (x1 : Int32) (x2 : Int32) (x3 : Int32) (σ : St) (z : Int32 × St) (h : fX11_colour x1 x2 x3 σ = some z) : pw_MI l D shM cI cZ ad yX11_colour cX11_colour 4 (some .int) (pw_rm 1) [.ref (ad 0), .int x1, .int x2, .int x3] σ z.1 z.2 := by
  refine pw_ofI (by decide) (Nat.le_of_ble_eq_true rfl) ?_
  intro p e s m args below meth c A C hw ls hl
  obtain ⟨hx, hb, hr, hts, hown, hlk, hml, hK, hN⟩ := id C
  have hl : lv_has ls 4 [(0, .ref (ad 0)), (1, .int x1), (2, .int x2), (3, .int x3)] := hl
  unfold fX11_colour at h
  refine lv_iload_n hx hb dX11_colour_0 rfl (lv_at hl 1 rfl) ?_
  refine lv_bipush (v := 12) hx hb dX11_colour_1 (by decide) ?_
  obtain ⟨v3, σ2, e1, h⟩ := cal_some h
  refine r_cSI C hw (sh := shM) (ad := ad) (As := [.int x1, .int 12]) (rest := []) (kX11_isIn l D cI cZ ad _ _ _ _ e1) YX11_isIn ml_X11_144 (pw_rmOK (by omega) (by decide)) rfl hl.1 rfl (Nat.le_of_ble_eq_true rfl) dX11_colour_3 ⟨Nat.zero_le _, Nat.zero_le _⟩ (fun H locs hw => ?_)
  refine lv_if_ne (tgt := 15) hx hb dX11_colour_6 (by decide) (fun hc => ?_) (fun hc => ?_)
  · replace h := pw_f hc h
    refine lv_iload_n hx hb dX11_colour_15 rfl (lv_at hl 2 rfl) ?_
    refine lv_if_lt (tgt := 24) hx hb dX11_colour_16 (by decide) (fun hc => ?_) (fun hc => ?_)
    · replace h := pw_t hc h
      refine lv_aload_n hx hb dX11_colour_24 rfl (lv_at hl 0 rfl) ?_
      refine lv_bipush (v := (-4)) hx hb dX11_colour_25 (by decide) ?_
      obtain ⟨v6, σ5, e4, h⟩ := cal_some h
      refine r_cVI C hw (As := [.int (-4)]) (rest := []) (kX11_refuse l D cI cZ ad _ _ _ e4) YX11_refuse ml_X11_152 qM_0 clsX11 (pw_rmOK (by omega) (by decide)) rfl hl.1 rfl (Nat.le_of_ble_eq_true rfl) dX11_colour_27 ⟨Nat.zero_le _, Nat.zero_le _⟩ (fun H locs hw => ?_)
      exact r_iret C hw dX11_colour_30 h
    · replace h := pw_f hc h
      refine lv_iload_n hx hb dX11_colour_19 rfl (lv_at hl 3 rfl) ?_
      refine lv_iload_n hx hb dX11_colour_20 rfl (lv_at hl 2 rfl) ?_
      refine lv_icmp_ge (tgt := 31) hx hb dX11_colour_21 (by decide) (fun hc => ?_) (fun hc => ?_)
      · replace h := pw_t hc h
        refine lv_iload_n hx hb dX11_colour_31 rfl (lv_at hl 3 rfl) ?_
        refine lv_sipush (v := 1000) hx hb dX11_colour_32 (by decide) ?_
        refine lv_icmp_le (tgt := 45) hx hb dX11_colour_35 (by decide) (fun hc => ?_) (fun hc => ?_)
        · replace h := pw_t hc h
          refine lv_aload_n hx hb dX11_colour_45 rfl (lv_at hl 0 rfl) ?_
          refine r_get C hw qM_0 clsX11 33 rfl (by decide) fl_X11_80 dX11_colour_46 (v := .ref (ad 24)) rfl ?_
          refine lv_iload_n hx hb dX11_colour_49 rfl (lv_at hl 1 rfl) ?_
          refine lv_iload_n hx hb dX11_colour_50 rfl (lv_at hl 2 rfl) ?_
          refine r_iast C hw qM_24 dX11_colour_51 h (fun σ7 H locs hw h => ?_)
          refine lv_aload_n hx hb dX11_colour_52 rfl (lv_at hl 0 rfl) ?_
          refine r_get C hw qM_0 clsX11 34 rfl (by decide) fl_X11_83 dX11_colour_53 (v := .ref (ad 25)) rfl ?_
          refine lv_iload_n hx hb dX11_colour_56 rfl (lv_at hl 1 rfl) ?_
          refine lv_iload_n hx hb dX11_colour_57 rfl (lv_at hl 3 rfl) ?_
          refine r_iast C hw qM_25 dX11_colour_58 h (fun σ8 H locs hw h => ?_)
          refine lv_iconst (v := 1) hx hb dX11_colour_59 (by decide) ?_
          exact r_iret C hw dX11_colour_60 h
        · replace h := pw_f hc h
          refine lv_aload_n hx hb dX11_colour_38 rfl (lv_at hl 0 rfl) ?_
          refine lv_bipush (v := (-6)) hx hb dX11_colour_39 (by decide) ?_
          obtain ⟨v11, σ10, e9, h⟩ := cal_some h
          refine r_cVI C hw (As := [.int (-6)]) (rest := []) (kX11_refuse l D cI cZ ad _ _ _ e9) YX11_refuse ml_X11_152 qM_0 clsX11 (pw_rmOK (by omega) (by decide)) rfl hl.1 rfl (Nat.le_of_ble_eq_true rfl) dX11_colour_41 ⟨Nat.zero_le _, Nat.zero_le _⟩ (fun H locs hw => ?_)
          exact r_iret C hw dX11_colour_44 h
      · replace h := pw_f hc h
        refine lv_aload_n hx hb dX11_colour_24 rfl (lv_at hl 0 rfl) ?_
        refine lv_bipush (v := (-4)) hx hb dX11_colour_25 (by decide) ?_
        obtain ⟨v14, σ13, e12, h⟩ := cal_some h
        refine r_cVI C hw (As := [.int (-4)]) (rest := []) (kX11_refuse l D cI cZ ad _ _ _ e12) YX11_refuse ml_X11_152 qM_0 clsX11 (pw_rmOK (by omega) (by decide)) rfl hl.1 rfl (Nat.le_of_ble_eq_true rfl) dX11_colour_27 ⟨Nat.zero_le _, Nat.zero_le _⟩ (fun H locs hw => ?_)
        exact r_iret C hw dX11_colour_30 h
  · replace h := pw_t hc h
    refine lv_aload_n hx hb dX11_colour_9 rfl (lv_at hl 0 rfl) ?_
    refine lv_iconst (v := (-1)) hx hb dX11_colour_10 (by decide) ?_
    obtain ⟨v17, σ16, e15, h⟩ := cal_some h
    refine r_cVI C hw (As := [.int (-1)]) (rest := []) (kX11_refuse l D cI cZ ad _ _ _ e15) YX11_refuse ml_X11_152 qM_0 clsX11 (pw_rmOK (by omega) (by decide)) rfl hl.1 rfl (Nat.le_of_ble_eq_true rfl) dX11_colour_11 ⟨Nat.zero_le _, Nat.zero_le _⟩ (fun H locs hw => ?_)
    exact r_iret C hw dX11_colour_14 h
set_option maxRecDepth 100000 in
set_option maxHeartbeats 4000000 in
theorem wX11_firesOf_b54 {p : Program} {l : Launch} {e : Env} {s : State} {m : MethodId} {args : Array Value} {below : List Frame} {meth : Method} {c : Code} {D : va_G} {cI cZ : ClassId} {ad : Nat → Nat} {A : Nat → Prop} {z : Int32 × St} {k4 : Int32 → Int32 → St → Option (Int32 × St)} (C : pw_C p s m args meth c yX11_firesOf.cls cX11_firesOf 6 (some .int) D cI cZ) (hk4 : ∀ (x2 : Int32) (x3 : Int32) (σ : St) (H : Heap) (locs : List Loc) (ls : Array Slot), pw_H D (pw_w shM cI cZ ad σ) A s.heap H locs → lv_has ls 6 [(0, .ref (ad 0)), (2, .int x2), (3, .int x3)] → k4 x2 x3 σ = some z → W p l e (pw_rm 1) s m args below meth c H locs 0 0 (pw_QI below args s D (pw_w shM cI cZ ad) A z) (F0 m 4 ls [])) : ∀ (n : Nat) (x2 : Int32) (x3 : Int32) (x4 : Int32) (x5 : Int32) (σ : St) (H : Heap) (locs : List Loc) (ls : Array Slot), pw_H D (pw_w shM cI cZ ad σ) A s.heap H locs → lv_has ls 6 [(0, .ref (ad 0)), (2, .int x2), (3, .int x3), (4, .int x4), (5, .int x5)] → fX11_firesOf_b54 k4 n x2 x3 x4 x5 σ = some z → W p l e (pw_rm 1) s m args below meth c H locs 0 0 (pw_QI below args s D (pw_w shM cI cZ ad) A z) (F0 m 54 ls []) := by
  obtain ⟨hx, hb, hr, hts, hown, hlk, hml, hK, hN⟩ := id C
  intro n
  induction n with
  | zero =>
    intro x2 x3 x4 x5 σ H locs ls hw hl h
    exact absurd h (by simp [fX11_firesOf_b54])
  | succ n ih =>
    intro x2 x3 x4 x5 σ H locs ls hw hl h
    rw [fX11_firesOf_b54] at h
    refine lv_iload hx hb dX11_firesOf_54 (lv_at hl 4 rfl) ?_
    refine lv_bipush (v := 12) hx hb dX11_firesOf_56 (by decide) ?_
    refine lv_icmp_ge (tgt := 98) hx hb dX11_firesOf_58 (by decide) (fun hc => ?_) (fun hc => ?_)
    · replace h := pw_t hc h
      refine lv_aload_n hx hb dX11_firesOf_98 rfl (lv_at hl 0 rfl) ?_
      refine r_get C hw qM_0 clsX11 35 rfl (by decide) fl_X11_86 dX11_firesOf_99 (v := .ref (ad 26)) rfl ?_
      refine lv_iload_n hx hb dX11_firesOf_102 rfl (lv_at hl 2 rfl) ?_
      refine lv_iload hx hb dX11_firesOf_103 (lv_at hl 3 rfl) ?_
      refine r_iast C hw qM_26 dX11_firesOf_105 h (fun σ1 H locs hw h => ?_)
      refine lv_iinc (v := (x3 + 1)) (lv' := [(3, .int (x3 + 1)), (0, .ref (ad 0)), (2, .int x2), (4, .int x4), (5, .int x5)]) hx hb dX11_firesOf_106 hl (k := 2) rfl rfl (by decide) rfl (fun ls hl => ?_)
      refine lv_goto (tgt := 4) hx hb dX11_firesOf_109 (by decide) ?_
      exact hk4 _ _ _ _ _ _ hw (lv_sub hl [1, 2, 0] rfl) h
    · replace h := pw_f hc h
      refine lv_iload_n hx hb dX11_firesOf_61 rfl (lv_at hl 1 rfl) ?_
      refine lv_iload hx hb dX11_firesOf_62 (lv_at hl 4 rfl) ?_
      refine lv_ishr hx hb dX11_firesOf_64 ?_
      refine lv_iconst (v := 1) hx hb dX11_firesOf_65 (by decide) ?_
      refine lv_iand hx hb dX11_firesOf_66 ?_
      refine lv_iconst (v := 1) hx hb dX11_firesOf_67 (by decide) ?_
      refine lv_icmp_ne (tgt := 92) hx hb dX11_firesOf_68 (by decide) (fun hc => ?_) (fun hc => ?_)
      · replace h := pw_f hc h
        refine lv_iinc (v := (x5 + 1)) (lv' := [(5, .int (x5 + 1)), (0, .ref (ad 0)), (2, .int x2), (3, .int x3), (4, .int x4)]) hx hb dX11_firesOf_92 hl (k := 4) rfl rfl (by decide) rfl (fun ls hl => ?_)
        refine lv_goto (tgt := 54) hx hb dX11_firesOf_95 (by decide) ?_
        exact ih _ _ _ _ _ _ _ _ hw (lv_sub hl [1, 2, 3, 4, 0] rfl) h
      · replace h := pw_t hc h
        refine lv_aload_n hx hb dX11_firesOf_71 rfl (lv_at hl 0 rfl) ?_
        refine r_get C hw qM_0 clsX11 34 rfl (by decide) fl_X11_83 dX11_firesOf_72 (v := .ref (ad 25)) rfl ?_
        refine lv_iload hx hb dX11_firesOf_75 (lv_at hl 4 rfl) ?_
        refine r_iald C hw qM_25 dX11_firesOf_77 h (fun v2 h => ?_)
        refine lv_iload hx hb dX11_firesOf_78 (lv_at hl 3 rfl) ?_
        refine lv_icmp_lt (tgt := 92) hx hb dX11_firesOf_80 (by decide) (fun hc => ?_) (fun hc => ?_)
        · replace h := pw_t hc h
          refine lv_iinc (v := (x5 + 1)) (lv' := [(5, .int (x5 + 1)), (0, .ref (ad 0)), (2, .int x2), (3, .int x3), (4, .int x4)]) hx hb dX11_firesOf_92 hl (k := 4) rfl rfl (by decide) rfl (fun ls hl => ?_)
          refine lv_goto (tgt := 54) hx hb dX11_firesOf_95 (by decide) ?_
          exact ih _ _ _ _ _ _ _ _ hw (lv_sub hl [1, 2, 3, 4, 0] rfl) h
        · replace h := pw_f hc h
          refine lv_iload_n hx hb dX11_firesOf_83 rfl (lv_at hl 1 rfl) ?_
          refine lv_iconst (v := 1) hx hb dX11_firesOf_84 (by decide) ?_
          refine lv_iload hx hb dX11_firesOf_85 (lv_at hl 4 rfl) ?_
          refine lv_ishl hx hb dX11_firesOf_87 ?_
          refine lv_iconst (v := (-1)) hx hb dX11_firesOf_88 (by decide) ?_
          refine lv_ixor hx hb dX11_firesOf_89 ?_
          refine lv_iand hx hb dX11_firesOf_90 ?_
          refine r_leti h (fun v3 h => ?_)
          refine lv_istore_n (lv' := [(2, .int v3), (0, .ref (ad 0)), (3, .int x3), (4, .int x4), (5, .int x5)]) hx hb dX11_firesOf_91 rfl hl (by decide) rfl (fun ls hl => ?_)
          refine lv_iinc (v := (x5 + 1)) (lv' := [(5, .int (x5 + 1)), (2, .int v3), (0, .ref (ad 0)), (3, .int x3), (4, .int x4)]) hx hb dX11_firesOf_92 hl (k := 4) rfl rfl (by decide) rfl (fun ls hl => ?_)
          refine lv_goto (tgt := 54) hx hb dX11_firesOf_95 (by decide) ?_
          exact ih _ _ _ _ _ _ _ _ hw (lv_sub hl [2, 1, 3, 4, 0] rfl) h
set_option maxRecDepth 100000 in
set_option maxHeartbeats 4000000 in
theorem wX11_firesOf_b14 {p : Program} {l : Launch} {e : Env} {s : State} {m : MethodId} {args : Array Value} {below : List Frame} {meth : Method} {c : Code} {D : va_G} {cI cZ : ClassId} {ad : Nat → Nat} {A : Nat → Prop} {z : Int32 × St} {k4 : Int32 → Int32 → St → Option (Int32 × St)} (C : pw_C p s m args meth c yX11_firesOf.cls cX11_firesOf 6 (some .int) D cI cZ) (hk4 : ∀ (x2 : Int32) (x3 : Int32) (σ : St) (H : Heap) (locs : List Loc) (ls : Array Slot), pw_H D (pw_w shM cI cZ ad σ) A s.heap H locs → lv_has ls 6 [(0, .ref (ad 0)), (2, .int x2), (3, .int x3)] → k4 x2 x3 σ = some z → W p l e (pw_rm 1) s m args below meth c H locs 0 0 (pw_QI below args s D (pw_w shM cI cZ ad) A z) (F0 m 4 ls [])) : ∀ (n : Nat) (x2 : Int32) (x3 : Int32) (x4 : Int32) (x5 : Int32) (σ : St) (H : Heap) (locs : List Loc) (ls : Array Slot), pw_H D (pw_w shM cI cZ ad σ) A s.heap H locs → lv_has ls 6 [(0, .ref (ad 0)), (2, .int x2), (3, .int x3), (4, .int x4), (5, .int x5)] → fX11_firesOf_b14 k4 n x2 x3 x4 x5 σ = some z → W p l e (pw_rm 1) s m args below meth c H locs 0 0 (pw_QI below args s D (pw_w shM cI cZ ad) A z) (F0 m 14 ls []) := by
  obtain ⟨hx, hb, hr, hts, hown, hlk, hml, hK, hN⟩ := id C
  intro n
  induction n with
  | zero =>
    intro x2 x3 x4 x5 σ H locs ls hw hl h
    exact absurd h (by simp [fX11_firesOf_b14])
  | succ n ih =>
    intro x2 x3 x4 x5 σ H locs ls hw hl h
    rw [fX11_firesOf_b14] at h
    refine lv_iload hx hb dX11_firesOf_14 (lv_at hl 4 rfl) ?_
    refine lv_bipush (v := 12) hx hb dX11_firesOf_16 (by decide) ?_
    refine lv_icmp_ge (tgt := 51) hx hb dX11_firesOf_18 (by decide) (fun hc => ?_) (fun hc => ?_)
    · replace h := pw_t hc h
      refine lv_iconst (v := 0) hx hb dX11_firesOf_51 (by decide) ?_
      refine lv_istore (lv' := [(5, .int 0), (0, .ref (ad 0)), (2, .int x2), (3, .int x3), (4, .int x4)]) hx hb dX11_firesOf_52 hl (by decide) rfl (fun ls hl => ?_)
      exact wX11_firesOf_b54 C hk4 _ _ _ _ _ _ _ _ _ hw (lv_sub hl [1, 2, 3, 4, 0] rfl) h
    · replace h := pw_f hc h
      refine lv_iload_n hx hb dX11_firesOf_21 rfl (lv_at hl 1 rfl) ?_
      refine lv_iload hx hb dX11_firesOf_22 (lv_at hl 4 rfl) ?_
      refine lv_ishr hx hb dX11_firesOf_24 ?_
      refine lv_iconst (v := 1) hx hb dX11_firesOf_25 (by decide) ?_
      refine lv_iand hx hb dX11_firesOf_26 ?_
      refine lv_iconst (v := 1) hx hb dX11_firesOf_27 (by decide) ?_
      refine lv_icmp_ne (tgt := 45) hx hb dX11_firesOf_28 (by decide) (fun hc => ?_) (fun hc => ?_)
      · replace h := pw_f hc h
        refine lv_iinc (v := (x5 + 1)) (lv' := [(5, .int (x5 + 1)), (0, .ref (ad 0)), (2, .int x2), (3, .int x3), (4, .int x4)]) hx hb dX11_firesOf_45 hl (k := 4) rfl rfl (by decide) rfl (fun ls hl => ?_)
        refine lv_goto (tgt := 14) hx hb dX11_firesOf_48 (by decide) ?_
        exact ih _ _ _ _ _ _ _ _ hw (lv_sub hl [1, 2, 3, 4, 0] rfl) h
      · replace h := pw_t hc h
        refine lv_iload hx hb dX11_firesOf_31 (lv_at hl 3 rfl) ?_
        refine lv_aload_n hx hb dX11_firesOf_33 rfl (lv_at hl 0 rfl) ?_
        refine r_get C hw qM_0 clsX11 33 rfl (by decide) fl_X11_80 dX11_firesOf_34 (v := .ref (ad 24)) rfl ?_
        refine lv_iload hx hb dX11_firesOf_37 (lv_at hl 4 rfl) ?_
        refine r_iald C hw qM_24 dX11_firesOf_39 h (fun v4 h => ?_)
        refine va_mmax hx hb (hml.trans hl.1.symm) hown (hts _ ml_X11_182) (hts _ ls_max) (hts _ li_Math) (hts _ lc_max) (pw_fr (by omega)) (pw_lo (Nat.le_of_ble_eq_true rfl) (by omega)) (Nat.zero_le _) (Nat.zero_le _) dX11_firesOf_40 ?_
        refine r_leti h (fun v5 h => ?_)
        refine lv_istore (lv' := [(4, .int v5), (0, .ref (ad 0)), (2, .int x2), (3, .int x3), (5, .int x5)]) hx hb dX11_firesOf_43 hl (by decide) rfl (fun ls hl => ?_)
        refine lv_iinc (v := (x5 + 1)) (lv' := [(5, .int (x5 + 1)), (4, .int v5), (0, .ref (ad 0)), (2, .int x2), (3, .int x3)]) hx hb dX11_firesOf_45 hl (k := 4) rfl rfl (by decide) rfl (fun ls hl => ?_)
        refine lv_goto (tgt := 14) hx hb dX11_firesOf_48 (by decide) ?_
        exact ih _ _ _ _ _ _ _ _ hw (lv_sub hl [2, 3, 4, 1, 0] rfl) h
set_option maxRecDepth 100000 in
set_option maxHeartbeats 4000000 in
theorem wX11_firesOf_b4 {p : Program} {l : Launch} {e : Env} {s : State} {m : MethodId} {args : Array Value} {below : List Frame} {meth : Method} {c : Code} {D : va_G} {cI cZ : ClassId} {ad : Nat → Nat} {A : Nat → Prop} {z : Int32 × St}  (C : pw_C p s m args meth c yX11_firesOf.cls cX11_firesOf 6 (some .int) D cI cZ) : ∀ (n : Nat) (x2 : Int32) (x3 : Int32) (σ : St) (H : Heap) (locs : List Loc) (ls : Array Slot), pw_H D (pw_w shM cI cZ ad σ) A s.heap H locs → lv_has ls 6 [(0, .ref (ad 0)), (2, .int x2), (3, .int x3)] → fX11_firesOf_b4  n x2 x3 σ = some z → W p l e (pw_rm 1) s m args below meth c H locs 0 0 (pw_QI below args s D (pw_w shM cI cZ ad) A z) (F0 m 4 ls []) := by
  obtain ⟨hx, hb, hr, hts, hown, hlk, hml, hK, hN⟩ := id C
  intro n
  induction n with
  | zero =>
    intro x2 x3 σ H locs ls hw hl h
    exact absurd h (by simp [fX11_firesOf_b4])
  | succ n ih =>
    intro x2 x3 σ H locs ls hw hl h
    rw [fX11_firesOf_b4] at h
    refine lv_iload_n hx hb dX11_firesOf_4 rfl (lv_at hl 1 rfl) ?_
    refine lv_if_eq (tgt := 112) hx hb dX11_firesOf_5 (by decide) (fun hc => ?_) (fun hc => ?_)
    · replace h := pw_t hc h
      refine lv_iload_n hx hb dX11_firesOf_112 rfl (lv_at hl 2 rfl) ?_
      exact r_iret C hw dX11_firesOf_113 h
    · replace h := pw_f hc h
      refine lv_iconst (v := (-1)) hx hb dX11_firesOf_8 (by decide) ?_
      refine lv_istore (lv' := [(4, .int (-1)), (0, .ref (ad 0)), (2, .int x2), (3, .int x3)]) hx hb dX11_firesOf_9 hl (by decide) rfl (fun ls hl => ?_)
      refine lv_iconst (v := 0) hx hb dX11_firesOf_11 (by decide) ?_
      refine lv_istore (lv' := [(5, .int 0), (4, .int (-1)), (0, .ref (ad 0)), (2, .int x2), (3, .int x3)]) hx hb dX11_firesOf_12 hl (by decide) rfl (fun ls hl => ?_)
      exact wX11_firesOf_b14 C ih _ _ _ _ _ _ _ _ _ hw (lv_sub hl [2, 3, 4, 1, 0] rfl) h
set_option maxRecDepth 100000 in
set_option maxHeartbeats 4000000 in
theorem kX11_firesOf (l : Launch) (D : va_G) (cI cZ : ClassId) (ad : Nat → Nat) (x1 : Int32) (σ : St) (z : Int32 × St) (h : fX11_firesOf x1 σ = some z) : pw_MI l D shM cI cZ ad yX11_firesOf cX11_firesOf 6 (some .int) (pw_rm 1) [.ref (ad 0), .int x1] σ z.1 z.2 := by
  refine pw_ofI (by decide) (Nat.le_of_ble_eq_true rfl) ?_
  intro p e s m args below meth c A C hw ls hl
  obtain ⟨hx, hb, hr, hts, hown, hlk, hml, hK, hN⟩ := id C
  have hl : lv_has ls 6 [(0, .ref (ad 0)), (1, .int x1)] := hl
  unfold fX11_firesOf at h
  refine lv_iload_n hx hb dX11_firesOf_0 rfl (lv_at hl 1 rfl) ?_
  refine lv_istore_n (lv' := [(2, .int x1), (0, .ref (ad 0)), (1, .int x1)]) hx hb dX11_firesOf_1 rfl hl (by decide) rfl (fun ls hl => ?_)
  refine lv_iconst (v := 0) hx hb dX11_firesOf_2 (by decide) ?_
  refine lv_istore_n (lv' := [(3, .int 0), (2, .int x1), (0, .ref (ad 0)), (1, .int x1)]) hx hb dX11_firesOf_3 rfl hl (by decide) rfl (fun ls hl => ?_)
  exact wX11_firesOf_b4 C  _ _ _ _ _ _ _ hw (lv_sub hl [2, 1, 0] rfl) h
set_option maxRecDepth 100000 in
set_option maxHeartbeats 4000000 in
theorem kX11_fires (l : Launch) (D : va_G) (cI cZ : ClassId) (ad : Nat → Nat) (x1 : Int32) (σ : St) (z : Int32 × St) (h : fX11_fires x1 σ = some z) : pw_MI l D shM cI cZ ad yX11_fires cX11_fires 2 (some .int) (pw_rm 2) [.ref (ad 0), .int x1] σ z.1 z.2 := by
  refine pw_ofI (by decide) (Nat.le_of_ble_eq_true rfl) ?_
  intro p e s m args below meth c A C hw ls hl
  obtain ⟨hx, hb, hr, hts, hown, hlk, hml, hK, hN⟩ := id C
  have hl : lv_has ls 2 [(0, .ref (ad 0)), (1, .int x1)] := hl
  unfold fX11_fires at h
  refine lv_iload_n hx hb dX11_fires_0 rfl (lv_at hl 1 rfl) ?_
  refine lv_if_lt (tgt := 11) hx hb dX11_fires_1 (by decide) (fun hc => ?_) (fun hc => ?_)
  · replace h := pw_t hc h
    refine lv_aload_n hx hb dX11_fires_11 rfl (lv_at hl 0 rfl) ?_
    refine lv_iconst (v := (-1)) hx hb dX11_fires_12 (by decide) ?_
    obtain ⟨v3, σ2, e1, h⟩ := cal_some h
    refine r_cVI C hw (As := [.int (-1)]) (rest := []) (kX11_refuse l D cI cZ ad _ _ _ e1) YX11_refuse ml_X11_152 qM_0 clsX11 (pw_rmOK (by omega) (by decide)) rfl hl.1 rfl (Nat.le_of_ble_eq_true rfl) dX11_fires_13 ⟨Nat.zero_le _, Nat.zero_le _⟩ (fun H locs hw => ?_)
    refine lv_goto (tgt := 24) hx hb dX11_fires_16 (by decide) ?_
    exact r_iret C hw dX11_fires_24 h
  · replace h := pw_f hc h
    refine lv_iload_n hx hb dX11_fires_4 rfl (lv_at hl 1 rfl) ?_
    refine lv_sipush (v := 4096) hx hb dX11_fires_5 (by decide) ?_
    refine lv_icmp_lt (tgt := 19) hx hb dX11_fires_8 (by decide) (fun hc => ?_) (fun hc => ?_)
    · replace h := pw_t hc h
      refine lv_aload_n hx hb dX11_fires_19 rfl (lv_at hl 0 rfl) ?_
      refine lv_iload_n hx hb dX11_fires_20 rfl (lv_at hl 1 rfl) ?_
      obtain ⟨v6, σ5, e4, h⟩ := cal_some h
      refine r_cVI C hw (As := [.int x1]) (rest := []) (kX11_firesOf l D cI cZ ad _ _ _ e4) YX11_firesOf ml_X11_223 qM_0 clsX11 (pw_rmOK (by omega) (by decide)) rfl hl.1 rfl (Nat.le_of_ble_eq_true rfl) dX11_fires_21 ⟨Nat.zero_le _, Nat.zero_le _⟩ (fun H locs hw => ?_)
      exact r_iret C hw dX11_fires_24 h
    · replace h := pw_f hc h
      refine lv_aload_n hx hb dX11_fires_11 rfl (lv_at hl 0 rfl) ?_
      refine lv_iconst (v := (-1)) hx hb dX11_fires_12 (by decide) ?_
      obtain ⟨v9, σ8, e7, h⟩ := cal_some h
      refine r_cVI C hw (As := [.int (-1)]) (rest := []) (kX11_refuse l D cI cZ ad _ _ _ e7) YX11_refuse ml_X11_152 qM_0 clsX11 (pw_rmOK (by omega) (by decide)) rfl hl.1 rfl (Nat.le_of_ble_eq_true rfl) dX11_fires_13 ⟨Nat.zero_le _, Nat.zero_le _⟩ (fun H locs hw => ?_)
      refine lv_goto (tgt := 24) hx hb dX11_fires_16 (by decide) ?_
      exact r_iret C hw dX11_fires_24 h
set_option maxRecDepth 100000 in
set_option maxHeartbeats 4000000 in
theorem wX11_fireHeat_b23 {p : Program} {l : Launch} {e : Env} {s : State} {m : MethodId} {args : Array Value} {below : List Frame} {meth : Method} {c : Code} {D : va_G} {cI cZ : ClassId} {ad : Nat → Nat} {A : Nat → Prop} {z : Int32 × St}  (C : pw_C p s m args meth c yX11_fireHeat.cls cX11_fireHeat 3 (some .int) D cI cZ) : ∀  (σ : St) (H : Heap) (locs : List Loc) (ls : Array Slot), pw_H D (pw_w shM cI cZ ad σ) A s.heap H locs → lv_has ls 3 [(0, .ref (ad 0))] → fX11_fireHeat_b23   σ = some z → W p l e (pw_rm 2) s m args below meth c H locs 0 0 (pw_QI below args s D (pw_w shM cI cZ ad) A z) (F0 m 23 ls []) := by
  obtain ⟨hx, hb, hr, hts, hown, hlk, hml, hK, hN⟩ := id C
  intro σ H locs ls hw hl h
  unfold fX11_fireHeat_b23 at h
  refine lv_aload_n hx hb dX11_fireHeat_23 rfl (lv_at hl 0 rfl) ?_
  refine lv_iconst (v := (-1)) hx hb dX11_fireHeat_24 (by decide) ?_
  obtain ⟨v3, σ2, e1, h⟩ := cal_some h
  refine r_cVI C hw (As := [.int (-1)]) (rest := []) (kX11_refuse l D cI cZ ad _ _ _ e1) YX11_refuse ml_X11_152 qM_0 clsX11 (pw_rmOK (by omega) (by decide)) rfl hl.1 rfl (Nat.le_of_ble_eq_true rfl) dX11_fireHeat_25 ⟨Nat.zero_le _, Nat.zero_le _⟩ (fun H locs hw => ?_)
  exact r_iret C hw dX11_fireHeat_28 h
set_option maxRecDepth 100000 in
set_option maxHeartbeats 4000000 in
theorem kX11_fireHeat (l : Launch) (D : va_G) (cI cZ : ClassId) (ad : Nat → Nat) (x1 : Int32) (x2 : Int32) (σ : St) (z : Int32 × St) (h : fX11_fireHeat x1 x2 σ = some z) : pw_MI l D shM cI cZ ad yX11_fireHeat cX11_fireHeat 3 (some .int) (pw_rm 2) [.ref (ad 0), .int x1, .int x2] σ z.1 z.2 := by
  refine pw_ofI (by decide) (Nat.le_of_ble_eq_true rfl) ?_
  intro p e s m args below meth c A C hw ls hl
  obtain ⟨hx, hb, hr, hts, hown, hlk, hml, hK, hN⟩ := id C
  have hl : lv_has ls 3 [(0, .ref (ad 0)), (1, .int x1), (2, .int x2)] := hl
  unfold fX11_fireHeat at h
  refine lv_iload_n hx hb dX11_fireHeat_0 rfl (lv_at hl 1 rfl) ?_
  refine lv_if_lt (tgt := 23) hx hb dX11_fireHeat_1 (by decide) (fun hc => ?_) (fun hc => ?_)
  · replace h := pw_t hc h
    exact wX11_fireHeat_b23 C  _ _ _ _ hw (lv_sub hl [0] rfl) h
  · replace h := pw_f hc h
    refine lv_iload_n hx hb dX11_fireHeat_4 rfl (lv_at hl 1 rfl) ?_
    refine lv_sipush (v := 4096) hx hb dX11_fireHeat_5 (by decide) ?_
    refine lv_icmp_ge (tgt := 23) hx hb dX11_fireHeat_8 (by decide) (fun hc => ?_) (fun hc => ?_)
    · replace h := pw_t hc h
      exact wX11_fireHeat_b23 C  _ _ _ _ hw (lv_sub hl [0] rfl) h
    · replace h := pw_f hc h
      refine lv_iload_n hx hb dX11_fireHeat_11 rfl (lv_at hl 2 rfl) ?_
      refine lv_aload_n hx hb dX11_fireHeat_12 rfl (lv_at hl 0 rfl) ?_
      refine lv_iload_n hx hb dX11_fireHeat_13 rfl (lv_at hl 1 rfl) ?_
      obtain ⟨v6, σ5, e4, h⟩ := cal_some h
      refine r_cVI C hw (As := [.int x1]) (rest := [.int x2]) (kX11_firesOf l D cI cZ ad _ _ _ e4) YX11_firesOf ml_X11_223 qM_0 clsX11 (pw_rmOK (by omega) (by decide)) rfl hl.1 rfl (Nat.le_of_ble_eq_true rfl) dX11_fireHeat_14 ⟨Nat.zero_le _, Nat.zero_le _⟩ (fun H locs hw => ?_)
      obtain ⟨v9, σ8, e7, h⟩ := cal_some h
      refine r_cSI C hw (sh := shM) (ad := ad) (As := [.int x2, .int v6]) (rest := []) (kX11_isIn l D cI cZ ad _ _ _ _ e7) YX11_isIn ml_X11_144 (pw_rmOK (by omega) (by decide)) rfl hl.1 rfl (Nat.le_of_ble_eq_true rfl) dX11_fireHeat_17 ⟨Nat.zero_le _, Nat.zero_le _⟩ (fun H locs hw => ?_)
      refine lv_if_ne (tgt := 29) hx hb dX11_fireHeat_20 (by decide) (fun hc => ?_) (fun hc => ?_)
      · replace h := pw_f hc h
        refine lv_aload_n hx hb dX11_fireHeat_29 rfl (lv_at hl 0 rfl) ?_
        refine r_get C hw qM_0 clsX11 35 rfl (by decide) fl_X11_86 dX11_fireHeat_30 (v := .ref (ad 26)) rfl ?_
        refine lv_iload_n hx hb dX11_fireHeat_33 rfl (lv_at hl 2 rfl) ?_
        refine r_iald C hw qM_26 dX11_fireHeat_34 h (fun v10 h => ?_)
        exact r_iret C hw dX11_fireHeat_35 h
      · replace h := pw_t hc h
        exact wX11_fireHeat_b23 C  _ _ _ _ hw (lv_sub hl [0] rfl) h
set_option maxRecDepth 100000 in
set_option maxHeartbeats 4000000 in
theorem wX11_skill_b19 {p : Program} {l : Launch} {e : Env} {s : State} {m : MethodId} {args : Array Value} {below : List Frame} {meth : Method} {c : Code} {D : va_G} {cI cZ : ClassId} {ad : Nat → Nat} {A : Nat → Prop} {z : Int32 × St}  (C : pw_C p s m args meth c yX11_skill.cls cX11_skill 5 (some .int) D cI cZ) : ∀ (x1 : Int32) (x2 : Int32) (s0 : Int32) (σ : St) (H : Heap) (locs : List Loc) (ls : Array Slot), pw_H D (pw_w shM cI cZ ad σ) A s.heap H locs → lv_has ls 5 [(0, .ref (ad 0)), (1, .int x1), (2, .int x2)] → fX11_skill_b19  x1 x2 s0 σ = some z → W p l e (pw_rm 1) s m args below meth c H locs 0 0 (pw_QI below args s D (pw_w shM cI cZ ad) A z) (F0 m 19 ls [.int s0]) := by
  obtain ⟨hx, hb, hr, hts, hown, hlk, hml, hK, hN⟩ := id C
  intro x1 x2 s0 σ H locs ls hw hl h
  unfold fX11_skill_b19 at h
  refine lv_istore_n (lv' := [(3, .int s0), (0, .ref (ad 0)), (1, .int x1), (2, .int x2)]) hx hb dX11_skill_19 rfl hl (by decide) rfl (fun ls hl => ?_)
  refine lv_iload_n hx hb dX11_skill_20 rfl (lv_at hl 0 rfl) ?_
  refine lv_if_eq (tgt := 30) hx hb dX11_skill_21 (by decide) (fun hc => ?_) (fun hc => ?_)
  · replace h := pw_t hc h
    refine lv_aload_n hx hb dX11_skill_30 rfl (lv_at hl 1 rfl) ?_
    refine r_get C hw qM_0 clsX11 36 rfl (by decide) fl_X11_89 dX11_skill_31 (v := .ref (ad 27)) rfl ?_
    refine lv_iload_n hx hb dX11_skill_34 rfl (lv_at hl 2 rfl) ?_
    refine r_iald C hw qM_27 dX11_skill_35 h (fun v1 h => ?_)
    refine lv_istore (lv' := [(4, .int v1), (3, .int s0), (0, .ref (ad 0)), (1, .int x1), (2, .int x2)]) hx hb dX11_skill_36 hl (by decide) rfl (fun ls hl => ?_)
    refine lv_aload_n hx hb dX11_skill_38 rfl (lv_at hl 2 rfl) ?_
    refine r_get C hw qM_0 clsX11 36 rfl (by decide) fl_X11_89 dX11_skill_39 (v := .ref (ad 27)) rfl ?_
    refine lv_iload_n hx hb dX11_skill_42 rfl (lv_at hl 3 rfl) ?_
    refine lv_iload_n hx hb dX11_skill_43 rfl (lv_at hl 4 rfl) ?_
    refine r_iast C hw qM_27 dX11_skill_44 h (fun σ2 H locs hw h => ?_)
    refine lv_iload hx hb dX11_skill_45 (lv_at hl 0 rfl) ?_
    exact r_iret C hw dX11_skill_47 h
  · replace h := pw_f hc h
    refine lv_aload_n hx hb dX11_skill_24 rfl (lv_at hl 1 rfl) ?_
    refine lv_iload_n hx hb dX11_skill_25 rfl (lv_at hl 0 rfl) ?_
    obtain ⟨v5, σ4, e3, h⟩ := cal_some h
    refine r_cVI C hw (As := [.int s0]) (rest := []) (kX11_refuse l D cI cZ ad _ _ _ e3) YX11_refuse ml_X11_152 qM_0 clsX11 (pw_rmOK (by omega) (by decide)) rfl hl.1 rfl (Nat.le_of_ble_eq_true rfl) dX11_skill_26 ⟨Nat.zero_le _, Nat.zero_le _⟩ (fun H locs hw => ?_)
    exact r_iret C hw dX11_skill_29 h
set_option maxRecDepth 100000 in
set_option maxHeartbeats 4000000 in
theorem kX11_skill (l : Launch) (D : va_G) (cI cZ : ClassId) (ad : Nat → Nat) (x1 : Int32) (x2 : Int32) (σ : St) (z : Int32 × St) (h : fX11_skill x1 x2 σ = some z) : pw_MI l D shM cI cZ ad yX11_skill cX11_skill 5 (some .int) (pw_rm 1) [.ref (ad 0), .int x1, .int x2] σ z.1 z.2 := by
  refine pw_ofI (by decide) (Nat.le_of_ble_eq_true rfl) ?_
  intro p e s m args below meth c A C hw ls hl
  obtain ⟨hx, hb, hr, hts, hown, hlk, hml, hK, hN⟩ := id C
  have hl : lv_has ls 5 [(0, .ref (ad 0)), (1, .int x1), (2, .int x2)] := hl
  unfold fX11_skill at h
  refine lv_iload_n hx hb dX11_skill_0 rfl (lv_at hl 1 rfl) ?_
  refine lv_iconst (v := 3) hx hb dX11_skill_1 (by decide) ?_
  obtain ⟨v8, σ7, e6, h⟩ := cal_some h
  refine r_cSI C hw (sh := shM) (ad := ad) (As := [.int x1, .int 3]) (rest := []) (kX11_isIn l D cI cZ ad _ _ _ _ e6) YX11_isIn ml_X11_144 (pw_rmOK (by omega) (by decide)) rfl hl.1 rfl (Nat.le_of_ble_eq_true rfl) dX11_skill_2 ⟨Nat.zero_le _, Nat.zero_le _⟩ (fun H locs hw => ?_)
  refine lv_if_eq (tgt := 18) hx hb dX11_skill_5 (by decide) (fun hc => ?_) (fun hc => ?_)
  · replace h := pw_t hc h
    refine lv_iconst (v := (-1)) hx hb dX11_skill_18 (by decide) ?_
    exact wX11_skill_b19 C  _ _ _ _ _ _ _ hw (lv_sub hl [0, 1, 2] rfl) h
  · replace h := pw_f hc h
    refine lv_iload_n hx hb dX11_skill_8 rfl (lv_at hl 2 rfl) ?_
    refine lv_iconst (v := 1) hx hb dX11_skill_9 (by decide) ?_
    refine lv_bipush (v := 20) hx hb dX11_skill_10 (by decide) ?_
    obtain ⟨v11, σ10, e9, h⟩ := cal_some h
    refine r_cSI C hw (sh := shM) (ad := ad) (As := [.int x2, .int 1, .int 20]) (rest := []) (kX11_wrong l D cI cZ ad _ _ _ _ _ e9) YX11_wrong ml_X11_148 (pw_rmOK (by omega) (by decide)) rfl hl.1 rfl (Nat.le_of_ble_eq_true rfl) dX11_skill_12 ⟨Nat.zero_le _, Nat.zero_le _⟩ (fun H locs hw => ?_)
    refine lv_goto (tgt := 19) hx hb dX11_skill_15 (by decide) ?_
    exact wX11_skill_b19 C  _ _ _ _ _ _ _ hw (lv_sub hl [0, 1, 2] rfl) h
set_option maxRecDepth 100000 in
set_option maxHeartbeats 4000000 in
theorem wX11_job_b25 {p : Program} {l : Launch} {e : Env} {s : State} {m : MethodId} {args : Array Value} {below : List Frame} {meth : Method} {c : Code} {D : va_G} {cI cZ : ClassId} {ad : Nat → Nat} {A : Nat → Prop} {z : Int32 × St}  (C : pw_C p s m args meth c yX11_job.cls cX11_job 3 (some .int) D cI cZ) : ∀ (x1 : Int32) (x2 : Int32) (σ : St) (H : Heap) (locs : List Loc) (ls : Array Slot), pw_H D (pw_w shM cI cZ ad σ) A s.heap H locs → lv_has ls 3 [(0, .ref (ad 0)), (1, .int x1), (2, .int x2)] → fX11_job_b25  x1 x2 σ = some z → W p l e (pw_rm 1) s m args below meth c H locs 0 0 (pw_QI below args s D (pw_w shM cI cZ ad) A z) (F0 m 25 ls []) := by
  obtain ⟨hx, hb, hr, hts, hown, hlk, hml, hK, hN⟩ := id C
  intro x1 x2 σ H locs ls hw hl h
  unfold fX11_job_b25 at h
  refine lv_iload_n hx hb dX11_job_25 rfl (lv_at hl 2 rfl) ?_
  refine lv_if_eq (tgt := 35) hx hb dX11_job_26 (by decide) (fun hc => ?_) (fun hc => ?_)
  · replace h := pw_t hc h
    refine lv_aload_n hx hb dX11_job_35 rfl (lv_at hl 0 rfl) ?_
    refine r_get C hw qM_0 clsX11 37 rfl (by decide) fl_X11_92 dX11_job_36 (v := .ref (ad 28)) rfl ?_
    refine lv_aload_n hx hb dX11_job_39 rfl (lv_at hl 0 rfl) ?_
    refine r_get C hw qM_0 clsX11 22 rfl (by decide) fl_X11_226 dX11_job_40 (v := .int (σ 0 22)) rfl ?_
    refine lv_iload_n hx hb dX11_job_43 rfl (lv_at hl 1 rfl) ?_
    refine r_iast C hw qM_28 dX11_job_44 h (fun σ1 H locs hw h => ?_)
    refine lv_aload_n hx hb dX11_job_45 rfl (lv_at hl 0 rfl) ?_
    refine lv_dup hx hb dX11_job_46 rfl ?_
    refine r_get C hw qM_0 clsX11 22 rfl (by decide) fl_X11_226 dX11_job_47 (v := .int (σ1 0 22)) rfl ?_
    refine lv_iconst (v := 1) hx hb dX11_job_50 (by decide) ?_
    refine lv_iadd hx hb dX11_job_51 ?_
    refine r_put C hw qM_0 clsX11 22 rfl (by decide) fl_X11_226 dX11_job_52 rfl rfl rfl h (fun σ2 H locs hw h => ?_)
    refine lv_aload_n hx hb dX11_job_55 rfl (lv_at hl 0 rfl) ?_
    refine r_get C hw qM_0 clsX11 22 rfl (by decide) fl_X11_226 dX11_job_56 (v := .int (σ2 0 22)) rfl ?_
    refine lv_iconst (v := 1) hx hb dX11_job_59 (by decide) ?_
    refine lv_isub hx hb dX11_job_60 ?_
    exact r_iret C hw dX11_job_61 h
  · replace h := pw_f hc h
    refine lv_aload_n hx hb dX11_job_29 rfl (lv_at hl 0 rfl) ?_
    refine lv_iload_n hx hb dX11_job_30 rfl (lv_at hl 2 rfl) ?_
    obtain ⟨v5, σ4, e3, h⟩ := cal_some h
    refine r_cVI C hw (As := [.int x2]) (rest := []) (kX11_refuse l D cI cZ ad _ _ _ e3) YX11_refuse ml_X11_152 qM_0 clsX11 (pw_rmOK (by omega) (by decide)) rfl hl.1 rfl (Nat.le_of_ble_eq_true rfl) dX11_job_31 ⟨Nat.zero_le _, Nat.zero_le _⟩ (fun H locs hw => ?_)
    exact r_iret C hw dX11_job_34 h
set_option maxRecDepth 100000 in
set_option maxHeartbeats 4000000 in
theorem kX11_job (l : Launch) (D : va_G) (cI cZ : ClassId) (ad : Nat → Nat) (x1 : Int32) (σ : St) (z : Int32 × St) (h : fX11_job x1 σ = some z) : pw_MI l D shM cI cZ ad yX11_job cX11_job 3 (some .int) (pw_rm 1) [.ref (ad 0), .int x1] σ z.1 z.2 := by
  refine pw_ofI (by decide) (Nat.le_of_ble_eq_true rfl) ?_
  intro p e s m args below meth c A C hw ls hl
  obtain ⟨hx, hb, hr, hts, hown, hlk, hml, hK, hN⟩ := id C
  have hl : lv_has ls 3 [(0, .ref (ad 0)), (1, .int x1)] := hl
  unfold fX11_job at h
  refine lv_iload_n hx hb dX11_job_0 rfl (lv_at hl 1 rfl) ?_
  refine lv_iconst (v := 1) hx hb dX11_job_1 (by decide) ?_
  refine lv_sipush (v := 500) hx hb dX11_job_2 (by decide) ?_
  obtain ⟨v8, σ7, e6, h⟩ := cal_some h
  refine r_cSI C hw (sh := shM) (ad := ad) (As := [.int x1, .int 1, .int 500]) (rest := []) (kX11_wrong l D cI cZ ad _ _ _ _ _ e6) YX11_wrong ml_X11_148 (pw_rmOK (by omega) (by decide)) rfl hl.1 rfl (Nat.le_of_ble_eq_true rfl) dX11_job_5 ⟨Nat.zero_le _, Nat.zero_le _⟩ (fun H locs hw => ?_)
  refine lv_istore_n (lv' := [(2, .int v8), (0, .ref (ad 0)), (1, .int x1)]) hx hb dX11_job_8 rfl hl (by decide) rfl (fun ls hl => ?_)
  refine lv_iload_n hx hb dX11_job_9 rfl (lv_at hl 0 rfl) ?_
  refine lv_if_ne (tgt := 25) hx hb dX11_job_10 (by decide) (fun hc => ?_) (fun hc => ?_)
  · replace h := pw_f hc h
    exact wX11_job_b25 C  _ _ _ _ _ _ hw (lv_sub hl [1, 2, 0] rfl) h
  · replace h := pw_t hc h
    refine lv_aload_n hx hb dX11_job_13 rfl (lv_at hl 1 rfl) ?_
    refine r_get C hw qM_0 clsX11 22 rfl (by decide) fl_X11_226 dX11_job_14 (v := .int (σ7 0 22)) rfl ?_
    refine lv_bipush (v := 8) hx hb dX11_job_17 (by decide) ?_
    refine lv_icmp_ne (tgt := 25) hx hb dX11_job_19 (by decide) (fun hc => ?_) (fun hc => ?_)
    · replace h := pw_f hc h
      exact wX11_job_b25 C  _ _ _ _ _ _ hw (lv_sub hl [1, 2, 0] rfl) h
    · replace h := pw_t hc h
      refine lv_bipush (v := (-6)) hx hb dX11_job_22 (by decide) ?_
      refine lv_istore_n (lv' := [(2, .int (-6)), (0, .ref (ad 0)), (1, .int x1)]) hx hb dX11_job_24 rfl hl (by decide) rfl (fun ls hl => ?_)
      exact wX11_job_b25 C  _ _ _ _ _ _ hw (lv_sub hl [1, 2, 0] rfl) h
set_option maxRecDepth 100000 in
set_option maxHeartbeats 4000000 in
theorem wX11_leastOf_b172 {p : Program} {l : Launch} {e : Env} {s : State} {m : MethodId} {args : Array Value} {below : List Frame} {meth : Method} {c : Code} {D : va_G} {cI cZ : ClassId} {ad : Nat → Nat} {A : Nat → Prop} {z : Int32 × St} {k26 : Int32 → Int32 → Int32 → St → Option (Int32 × St)} (C : pw_C p s m args meth c yX11_leastOf.cls cX11_leastOf 7 (some .int) D cI cZ) (hk26 : ∀ (x1 : Int32) (x2 : Int32) (x3 : Int32) (σ : St) (H : Heap) (locs : List Loc) (ls : Array Slot), pw_H D (pw_w shM cI cZ ad σ) A s.heap H locs → lv_has ls 7 [(0, .ref (ad 0)), (1, .int x1), (2, .int x2), (3, .int x3)] → k26 x1 x2 x3 σ = some z → W p l e (pw_rm 1) s m args below meth c H locs 0 0 (pw_QI below args s D (pw_w shM cI cZ ad) A z) (F0 m 26 ls [])) : ∀ (n : Nat) (x1 : Int32) (x2 : Int32) (x3 : Int32) (x4 : Int32) (x6 : Int32) (σ : St) (H : Heap) (locs : List Loc) (ls : Array Slot), pw_H D (pw_w shM cI cZ ad σ) A s.heap H locs → lv_has ls 7 [(0, .ref (ad 0)), (1, .int x1), (2, .int x2), (3, .int x3), (4, .int x4), (6, .int x6)] → fX11_leastOf_b172 k26 n x1 x2 x3 x4 x6 σ = some z → W p l e (pw_rm 1) s m args below meth c H locs 0 0 (pw_QI below args s D (pw_w shM cI cZ ad) A z) (F0 m 172 ls []) := by
  obtain ⟨hx, hb, hr, hts, hown, hlk, hml, hK, hN⟩ := id C
  intro n
  induction n with
  | zero =>
    intro x1 x2 x3 x4 x6 σ H locs ls hw hl h
    exact absurd h (by simp [fX11_leastOf_b172])
  | succ n ih =>
    intro x1 x2 x3 x4 x6 σ H locs ls hw hl h
    rw [fX11_leastOf_b172] at h
    refine lv_iload hx hb dX11_leastOf_172 (lv_at hl 5 rfl) ?_
    refine lv_aload_n hx hb dX11_leastOf_174 rfl (lv_at hl 0 rfl) ?_
    refine r_get C hw qM_0 clsX11 22 rfl (by decide) fl_X11_226 dX11_leastOf_175 (v := .int (σ 0 22)) rfl ?_
    refine lv_icmp_ge (tgt := 206) hx hb dX11_leastOf_178 (by decide) (fun hc => ?_) (fun hc => ?_)
    · replace h := pw_t hc h
      refine lv_iinc (v := (x3 + 1)) (lv' := [(3, .int (x3 + 1)), (0, .ref (ad 0)), (1, .int x1), (2, .int x2), (4, .int x4), (6, .int x6)]) hx hb dX11_leastOf_206 hl (k := 3) rfl rfl (by decide) rfl (fun ls hl => ?_)
      refine lv_goto (tgt := 26) hx hb dX11_leastOf_209 (by decide) ?_
      exact hk26 _ _ _ _ _ _ _ hw (lv_sub hl [1, 2, 3, 0] rfl) h
    · replace h := pw_f hc h
      refine lv_iload hx hb dX11_leastOf_181 (lv_at hl 4 rfl) ?_
      refine lv_iconst (v := 3) hx hb dX11_leastOf_183 (by decide) ?_
      refine lv_idiv hx hb dX11_leastOf_184 (by decide) ?_
      refine lv_istore (lv' := [(4, .int (x4 / 3)), (0, .ref (ad 0)), (1, .int x1), (2, .int x2), (3, .int x3), (6, .int x6)]) hx hb dX11_leastOf_185 hl (by decide) rfl (fun ls hl => ?_)
      refine lv_aload_n hx hb dX11_leastOf_187 rfl (lv_at hl 1 rfl) ?_
      refine r_get C hw qM_0 clsX11 38 rfl (by decide) fl_X11_95 dX11_leastOf_188 (v := .ref (ad 29)) rfl ?_
      refine lv_iload hx hb dX11_leastOf_191 (lv_at hl 5 rfl) ?_
      refine lv_iload_n hx hb dX11_leastOf_193 rfl (lv_at hl 4 rfl) ?_
      refine lv_iload hx hb dX11_leastOf_194 (lv_at hl 0 rfl) ?_
      obtain ⟨hnz, h⟩ := nz_some h
      refine lv_idiv hx hb dX11_leastOf_196 hnz ?_
      refine lv_iconst (v := 3) hx hb dX11_leastOf_197 (by decide) ?_
      refine lv_irem hx hb dX11_leastOf_198 (by decide) ?_
      refine r_iast C hw qM_29 dX11_leastOf_199 h (fun σ1 H locs hw h => ?_)
      refine lv_iinc (v := (x6 + 1)) (lv' := [(6, .int (x6 + 1)), (4, .int (x4 / 3)), (0, .ref (ad 0)), (1, .int x1), (2, .int x2), (3, .int x3)]) hx hb dX11_leastOf_200 hl (k := 5) rfl rfl (by decide) rfl (fun ls hl => ?_)
      refine lv_goto (tgt := 172) hx hb dX11_leastOf_203 (by decide) ?_
      exact ih _ _ _ _ _ _ _ _ _ hw (lv_sub hl [2, 3, 4, 5, 1, 0] rfl) h
set_option maxRecDepth 100000 in
set_option maxHeartbeats 4000000 in
theorem wX11_leastOf_b60 {p : Program} {l : Launch} {e : Env} {s : State} {m : MethodId} {args : Array Value} {below : List Frame} {meth : Method} {c : Code} {D : va_G} {cI cZ : ClassId} {ad : Nat → Nat} {A : Nat → Prop} {z : Int32 × St} {k26 : Int32 → Int32 → Int32 → St → Option (Int32 × St)} (C : pw_C p s m args meth c yX11_leastOf.cls cX11_leastOf 7 (some .int) D cI cZ) (hk26 : ∀ (x1 : Int32) (x2 : Int32) (x3 : Int32) (σ : St) (H : Heap) (locs : List Loc) (ls : Array Slot), pw_H D (pw_w shM cI cZ ad σ) A s.heap H locs → lv_has ls 7 [(0, .ref (ad 0)), (1, .int x1), (2, .int x2), (3, .int x3)] → k26 x1 x2 x3 σ = some z → W p l e (pw_rm 1) s m args below meth c H locs 0 0 (pw_QI below args s D (pw_w shM cI cZ ad) A z) (F0 m 26 ls [])) : ∀ (n : Nat) (x1 : Int32) (x2 : Int32) (x3 : Int32) (x4 : Int32) (x5 : Int32) (σ : St) (H : Heap) (locs : List Loc) (ls : Array Slot), pw_H D (pw_w shM cI cZ ad σ) A s.heap H locs → lv_has ls 7 [(0, .ref (ad 0)), (1, .int x1), (2, .int x2), (3, .int x3), (4, .int x4), (5, .int x5)] → fX11_leastOf_b60 k26 n x1 x2 x3 x4 x5 σ = some z → W p l e (pw_rm 1) s m args below meth c H locs 0 0 (pw_QI below args s D (pw_w shM cI cZ ad) A z) (F0 m 60 ls []) := by
  obtain ⟨hx, hb, hr, hts, hown, hlk, hml, hK, hN⟩ := id C
  intro n
  induction n with
  | zero =>
    intro x1 x2 x3 x4 x5 σ H locs ls hw hl h
    exact absurd h (by simp [fX11_leastOf_b60])
  | succ n ih =>
    intro x1 x2 x3 x4 x5 σ H locs ls hw hl h
    rw [fX11_leastOf_b60] at h
    refine lv_iload hx hb dX11_leastOf_60 (lv_at hl 5 rfl) ?_
    refine lv_aload_n hx hb dX11_leastOf_62 rfl (lv_at hl 0 rfl) ?_
    refine r_get C hw qM_0 clsX11 22 rfl (by decide) fl_X11_226 dX11_leastOf_63 (v := .int (σ 0 22)) rfl ?_
    refine lv_icmp_ge (tgt := 124) hx hb dX11_leastOf_66 (by decide) (fun hc => ?_) (fun hc => ?_)
    · replace h := pw_t hc h
      refine lv_aload_n hx hb dX11_leastOf_124 rfl (lv_at hl 0 rfl) ?_
      refine r_get C hw qM_0 clsX11 39 rfl (by decide) fl_X11_98 dX11_leastOf_125 (v := .ref (ad 30)) rfl ?_
      refine lv_iconst (v := 0) hx hb dX11_leastOf_128 (by decide) ?_
      refine r_iald C hw qM_30 dX11_leastOf_129 h (fun v2 h => ?_)
      refine lv_aload_n hx hb dX11_leastOf_130 rfl (lv_at hl 0 rfl) ?_
      refine r_get C hw qM_0 clsX11 39 rfl (by decide) fl_X11_98 dX11_leastOf_131 (v := .ref (ad 30)) rfl ?_
      refine lv_iconst (v := 1) hx hb dX11_leastOf_134 (by decide) ?_
      refine r_iald C hw qM_30 dX11_leastOf_135 h (fun v3 h => ?_)
      refine lv_aload_n hx hb dX11_leastOf_136 rfl (lv_at hl 0 rfl) ?_
      refine r_get C hw qM_0 clsX11 39 rfl (by decide) fl_X11_98 dX11_leastOf_137 (v := .ref (ad 30)) rfl ?_
      refine lv_iconst (v := 2) hx hb dX11_leastOf_140 (by decide) ?_
      refine r_iald C hw qM_30 dX11_leastOf_141 h (fun v4 h => ?_)
      refine va_mmax hx hb (hml.trans hl.1.symm) hown (hts _ ml_X11_182) (hts _ ls_max) (hts _ li_Math) (hts _ lc_max) (pw_fr (by omega)) (pw_lo (Nat.le_of_ble_eq_true rfl) (by omega)) (Nat.zero_le _) (Nat.zero_le _) dX11_leastOf_142 ?_
      refine va_mmax hx hb (hml.trans hl.1.symm) hown (hts _ ml_X11_182) (hts _ ls_max) (hts _ li_Math) (hts _ lc_max) (pw_fr (by omega)) (pw_lo (Nat.le_of_ble_eq_true rfl) (by omega)) (Nat.zero_le _) (Nat.zero_le _) dX11_leastOf_145 ?_
      refine r_leti h (fun v5 h => ?_)
      refine lv_istore (lv' := [(5, .int v5), (0, .ref (ad 0)), (1, .int x1), (2, .int x2), (3, .int x3), (4, .int x4)]) hx hb dX11_leastOf_148 hl (by decide) rfl (fun ls hl => ?_)
      refine lv_iload_n hx hb dX11_leastOf_150 rfl (lv_at hl 3 rfl) ?_
      refine lv_if_lt (tgt := 163) hx hb dX11_leastOf_151 (by decide) (fun hc => ?_) (fun hc => ?_)
      · replace h := pw_t hc h
        refine lv_iload hx hb dX11_leastOf_163 (lv_at hl 0 rfl) ?_
        refine lv_istore_n (lv' := [(2, .int v5), (5, .int v5), (0, .ref (ad 0)), (1, .int x1), (3, .int x3), (4, .int x4)]) hx hb dX11_leastOf_165 rfl hl (by decide) rfl (fun ls hl => ?_)
        refine lv_iload_n hx hb dX11_leastOf_166 rfl (lv_at hl 3 rfl) ?_
        refine lv_istore (lv' := [(4, .int x1), (2, .int v5), (5, .int v5), (0, .ref (ad 0)), (1, .int x1), (3, .int x3)]) hx hb dX11_leastOf_167 hl (by decide) rfl (fun ls hl => ?_)
        refine lv_iconst (v := 0) hx hb dX11_leastOf_169 (by decide) ?_
        refine lv_istore (lv' := [(6, .int 0), (4, .int x1), (2, .int v5), (5, .int v5), (0, .ref (ad 0)), (1, .int x1), (3, .int x3)]) hx hb dX11_leastOf_170 hl (by decide) rfl (fun ls hl => ?_)
        exact wX11_leastOf_b172 C hk26 _ _ _ _ _ _ _ _ _ _ hw (lv_sub hl [4, 5, 2, 6, 1, 0] rfl) h
      · replace h := pw_f hc h
        refine lv_iload hx hb dX11_leastOf_154 (lv_at hl 0 rfl) ?_
        refine lv_iload_n hx hb dX11_leastOf_156 rfl (lv_at hl 3 rfl) ?_
        refine lv_icmp_lt (tgt := 163) hx hb dX11_leastOf_157 (by decide) (fun hc => ?_) (fun hc => ?_)
        · replace h := pw_t hc h
          refine lv_iload hx hb dX11_leastOf_163 (lv_at hl 0 rfl) ?_
          refine lv_istore_n (lv' := [(2, .int v5), (5, .int v5), (0, .ref (ad 0)), (1, .int x1), (3, .int x3), (4, .int x4)]) hx hb dX11_leastOf_165 rfl hl (by decide) rfl (fun ls hl => ?_)
          refine lv_iload_n hx hb dX11_leastOf_166 rfl (lv_at hl 3 rfl) ?_
          refine lv_istore (lv' := [(4, .int x1), (2, .int v5), (5, .int v5), (0, .ref (ad 0)), (1, .int x1), (3, .int x3)]) hx hb dX11_leastOf_167 hl (by decide) rfl (fun ls hl => ?_)
          refine lv_iconst (v := 0) hx hb dX11_leastOf_169 (by decide) ?_
          refine lv_istore (lv' := [(6, .int 0), (4, .int x1), (2, .int v5), (5, .int v5), (0, .ref (ad 0)), (1, .int x1), (3, .int x3)]) hx hb dX11_leastOf_170 hl (by decide) rfl (fun ls hl => ?_)
          exact wX11_leastOf_b172 C hk26 _ _ _ _ _ _ _ _ _ _ hw (lv_sub hl [4, 5, 2, 6, 1, 0] rfl) h
        · replace h := pw_f hc h
          refine lv_goto (tgt := 206) hx hb dX11_leastOf_160 (by decide) ?_
          refine lv_iinc (v := (x3 + 1)) (lv' := [(3, .int (x3 + 1)), (5, .int v5), (0, .ref (ad 0)), (1, .int x1), (2, .int x2), (4, .int x4)]) hx hb dX11_leastOf_206 hl (k := 4) rfl rfl (by decide) rfl (fun ls hl => ?_)
          refine lv_goto (tgt := 26) hx hb dX11_leastOf_209 (by decide) ?_
          exact hk26 _ _ _ _ _ _ _ hw (lv_sub hl [2, 3, 4, 0] rfl) h
    · replace h := pw_f hc h
      refine lv_iload hx hb dX11_leastOf_69 (lv_at hl 4 rfl) ?_
      refine lv_iconst (v := 3) hx hb dX11_leastOf_71 (by decide) ?_
      refine lv_idiv hx hb dX11_leastOf_72 (by decide) ?_
      refine lv_istore (lv' := [(4, .int (x4 / 3)), (0, .ref (ad 0)), (1, .int x1), (2, .int x2), (3, .int x3), (5, .int x5)]) hx hb dX11_leastOf_73 hl (by decide) rfl (fun ls hl => ?_)
      refine lv_iload_n hx hb dX11_leastOf_75 rfl (lv_at hl 4 rfl) ?_
      refine lv_iload hx hb dX11_leastOf_76 (lv_at hl 0 rfl) ?_
      obtain ⟨hnz, h⟩ := nz_some h
      refine lv_idiv hx hb dX11_leastOf_78 hnz ?_
      refine lv_iconst (v := 3) hx hb dX11_leastOf_79 (by decide) ?_
      refine lv_irem hx hb dX11_leastOf_80 (by decide) ?_
      refine r_leti h (fun v6 h => ?_)
      refine lv_istore (lv' := [(6, .int v6), (4, .int (x4 / 3)), (0, .ref (ad 0)), (1, .int x1), (2, .int x2), (3, .int x3), (5, .int x5)]) hx hb dX11_leastOf_81 hl (by decide) rfl (fun ls hl => ?_)
      refine lv_aload_n hx hb dX11_leastOf_83 rfl (lv_at hl 2 rfl) ?_
      refine r_get C hw qM_0 clsX11 39 rfl (by decide) fl_X11_98 dX11_leastOf_84 (v := .ref (ad 30)) rfl ?_
      refine lv_iload hx hb dX11_leastOf_87 (lv_at hl 0 rfl) ?_
      refine lv_dup2_11 hx hb dX11_leastOf_89 rfl rfl ?_
      refine r_iald C hw qM_30 dX11_leastOf_90 h (fun v7 h => ?_)
      refine lv_aload_n hx hb dX11_leastOf_91 rfl (lv_at hl 2 rfl) ?_
      refine r_get C hw qM_0 clsX11 37 rfl (by decide) fl_X11_92 dX11_leastOf_92 (v := .ref (ad 28)) rfl ?_
      refine lv_iload hx hb dX11_leastOf_95 (lv_at hl 6 rfl) ?_
      refine r_iald C hw qM_28 dX11_leastOf_97 h (fun v8 h => ?_)
      refine lv_aload_n hx hb dX11_leastOf_98 rfl (lv_at hl 2 rfl) ?_
      refine r_get C hw qM_0 clsX11 36 rfl (by decide) fl_X11_89 dX11_leastOf_99 (v := .ref (ad 27)) rfl ?_
      refine lv_iload hx hb dX11_leastOf_102 (lv_at hl 0 rfl) ?_
      refine r_iald C hw qM_27 dX11_leastOf_104 h (fun v9 h => ?_)
      refine lv_iadd hx hb dX11_leastOf_105 ?_
      refine lv_iconst (v := 1) hx hb dX11_leastOf_106 (by decide) ?_
      refine lv_isub hx hb dX11_leastOf_107 ?_
      refine lv_aload_n hx hb dX11_leastOf_108 rfl (lv_at hl 2 rfl) ?_
      refine r_get C hw qM_0 clsX11 36 rfl (by decide) fl_X11_89 dX11_leastOf_109 (v := .ref (ad 27)) rfl ?_
      refine lv_iload hx hb dX11_leastOf_112 (lv_at hl 0 rfl) ?_
      refine r_iald C hw qM_27 dX11_leastOf_114 h (fun v10 h => ?_)
      obtain ⟨hnz, h⟩ := nz_some h
      refine lv_idiv hx hb dX11_leastOf_115 hnz ?_
      refine lv_iadd hx hb dX11_leastOf_116 ?_
      refine r_iast C hw qM_30 dX11_leastOf_117 h (fun σ11 H locs hw h => ?_)
      refine lv_iinc (v := (x5 + 1)) (lv' := [(5, .int (x5 + 1)), (6, .int v6), (4, .int (x4 / 3)), (0, .ref (ad 0)), (1, .int x1), (2, .int x2), (3, .int x3)]) hx hb dX11_leastOf_118 hl (k := 6) rfl rfl (by decide) rfl (fun ls hl => ?_)
      refine lv_goto (tgt := 60) hx hb dX11_leastOf_121 (by decide) ?_
      exact ih _ _ _ _ _ _ _ _ _ hw (lv_sub hl [3, 4, 5, 6, 2, 0] rfl) h
set_option maxRecDepth 100000 in
set_option maxHeartbeats 4000000 in
theorem wX11_leastOf_b34 {p : Program} {l : Launch} {e : Env} {s : State} {m : MethodId} {args : Array Value} {below : List Frame} {meth : Method} {c : Code} {D : va_G} {cI cZ : ClassId} {ad : Nat → Nat} {A : Nat → Prop} {z : Int32 × St} {k26 : Int32 → Int32 → Int32 → St → Option (Int32 × St)} (C : pw_C p s m args meth c yX11_leastOf.cls cX11_leastOf 7 (some .int) D cI cZ) (hk26 : ∀ (x1 : Int32) (x2 : Int32) (x3 : Int32) (σ : St) (H : Heap) (locs : List Loc) (ls : Array Slot), pw_H D (pw_w shM cI cZ ad σ) A s.heap H locs → lv_has ls 7 [(0, .ref (ad 0)), (1, .int x1), (2, .int x2), (3, .int x3)] → k26 x1 x2 x3 σ = some z → W p l e (pw_rm 1) s m args below meth c H locs 0 0 (pw_QI below args s D (pw_w shM cI cZ ad) A z) (F0 m 26 ls [])) : ∀ (n : Nat) (x1 : Int32) (x2 : Int32) (x3 : Int32) (x4 : Int32) (σ : St) (H : Heap) (locs : List Loc) (ls : Array Slot), pw_H D (pw_w shM cI cZ ad σ) A s.heap H locs → lv_has ls 7 [(0, .ref (ad 0)), (1, .int x1), (2, .int x2), (3, .int x3), (4, .int x4)] → fX11_leastOf_b34 k26 n x1 x2 x3 x4 σ = some z → W p l e (pw_rm 1) s m args below meth c H locs 0 0 (pw_QI below args s D (pw_w shM cI cZ ad) A z) (F0 m 34 ls []) := by
  obtain ⟨hx, hb, hr, hts, hown, hlk, hml, hK, hN⟩ := id C
  intro n
  induction n with
  | zero =>
    intro x1 x2 x3 x4 σ H locs ls hw hl h
    exact absurd h (by simp [fX11_leastOf_b34])
  | succ n ih =>
    intro x1 x2 x3 x4 σ H locs ls hw hl h
    rw [fX11_leastOf_b34] at h
    refine lv_iload hx hb dX11_leastOf_34 (lv_at hl 4 rfl) ?_
    refine lv_iconst (v := 3) hx hb dX11_leastOf_36 (by decide) ?_
    refine lv_icmp_ge (tgt := 54) hx hb dX11_leastOf_37 (by decide) (fun hc => ?_) (fun hc => ?_)
    · replace h := pw_t hc h
      refine lv_iload_n hx hb dX11_leastOf_54 rfl (lv_at hl 1 rfl) ?_
      refine lv_istore (lv' := [(4, .int x1), (0, .ref (ad 0)), (1, .int x1), (2, .int x2), (3, .int x3)]) hx hb dX11_leastOf_55 hl (by decide) rfl (fun ls hl => ?_)
      refine lv_iconst (v := 0) hx hb dX11_leastOf_57 (by decide) ?_
      refine lv_istore (lv' := [(5, .int 0), (4, .int x1), (0, .ref (ad 0)), (1, .int x1), (2, .int x2), (3, .int x3)]) hx hb dX11_leastOf_58 hl (by decide) rfl (fun ls hl => ?_)
      exact wX11_leastOf_b60 C hk26 _ _ _ _ _ _ _ _ _ _ hw (lv_sub hl [2, 3, 4, 5, 1, 0] rfl) h
    · replace h := pw_f hc h
      refine lv_aload_n hx hb dX11_leastOf_40 rfl (lv_at hl 0 rfl) ?_
      refine r_get C hw qM_0 clsX11 39 rfl (by decide) fl_X11_98 dX11_leastOf_41 (v := .ref (ad 30)) rfl ?_
      refine lv_iload hx hb dX11_leastOf_44 (lv_at hl 4 rfl) ?_
      refine lv_iconst (v := 0) hx hb dX11_leastOf_46 (by decide) ?_
      refine r_iast C hw qM_30 dX11_leastOf_47 h (fun σ12 H locs hw h => ?_)
      refine lv_iinc (v := (x4 + 1)) (lv' := [(4, .int (x4 + 1)), (0, .ref (ad 0)), (1, .int x1), (2, .int x2), (3, .int x3)]) hx hb dX11_leastOf_48 hl (k := 4) rfl rfl (by decide) rfl (fun ls hl => ?_)
      refine lv_goto (tgt := 34) hx hb dX11_leastOf_51 (by decide) ?_
      exact ih _ _ _ _ _ _ _ _ hw (lv_sub hl [1, 2, 3, 4, 0] rfl) h
set_option maxRecDepth 100000 in
set_option maxHeartbeats 4000000 in
theorem wX11_leastOf_b26 {p : Program} {l : Launch} {e : Env} {s : State} {m : MethodId} {args : Array Value} {below : List Frame} {meth : Method} {c : Code} {D : va_G} {cI cZ : ClassId} {ad : Nat → Nat} {A : Nat → Prop} {z : Int32 × St}  (C : pw_C p s m args meth c yX11_leastOf.cls cX11_leastOf 7 (some .int) D cI cZ) : ∀ (n : Nat) (x1 : Int32) (x2 : Int32) (x3 : Int32) (σ : St) (H : Heap) (locs : List Loc) (ls : Array Slot), pw_H D (pw_w shM cI cZ ad σ) A s.heap H locs → lv_has ls 7 [(0, .ref (ad 0)), (1, .int x1), (2, .int x2), (3, .int x3)] → fX11_leastOf_b26  n x1 x2 x3 σ = some z → W p l e (pw_rm 1) s m args below meth c H locs 0 0 (pw_QI below args s D (pw_w shM cI cZ ad) A z) (F0 m 26 ls []) := by
  obtain ⟨hx, hb, hr, hts, hown, hlk, hml, hK, hN⟩ := id C
  intro n
  induction n with
  | zero =>
    intro x1 x2 x3 σ H locs ls hw hl h
    exact absurd h (by simp [fX11_leastOf_b26])
  | succ n ih =>
    intro x1 x2 x3 σ H locs ls hw hl h
    rw [fX11_leastOf_b26] at h
    refine lv_iload_n hx hb dX11_leastOf_26 rfl (lv_at hl 3 rfl) ?_
    refine lv_iload_n hx hb dX11_leastOf_27 rfl (lv_at hl 1 rfl) ?_
    refine lv_icmp_ge (tgt := 212) hx hb dX11_leastOf_28 (by decide) (fun hc => ?_) (fun hc => ?_)
    · replace h := pw_t hc h
      refine lv_iload_n hx hb dX11_leastOf_212 rfl (lv_at hl 2 rfl) ?_
      exact r_iret C hw dX11_leastOf_213 h
    · replace h := pw_f hc h
      refine lv_iconst (v := 0) hx hb dX11_leastOf_31 (by decide) ?_
      refine lv_istore (lv' := [(4, .int 0), (0, .ref (ad 0)), (1, .int x1), (2, .int x2), (3, .int x3)]) hx hb dX11_leastOf_32 hl (by decide) rfl (fun ls hl => ?_)
      exact wX11_leastOf_b34 C ih _ _ _ _ _ _ _ _ _ hw (lv_sub hl [1, 2, 3, 4, 0] rfl) h
set_option maxRecDepth 100000 in
set_option maxHeartbeats 4000000 in
theorem wX11_leastOf_b4 {p : Program} {l : Launch} {e : Env} {s : State} {m : MethodId} {args : Array Value} {below : List Frame} {meth : Method} {c : Code} {D : va_G} {cI cZ : ClassId} {ad : Nat → Nat} {A : Nat → Prop} {z : Int32 × St}  (C : pw_C p s m args meth c yX11_leastOf.cls cX11_leastOf 7 (some .int) D cI cZ) : ∀ (n : Nat) (x1 : Int32) (x2 : Int32) (σ : St) (H : Heap) (locs : List Loc) (ls : Array Slot), pw_H D (pw_w shM cI cZ ad σ) A s.heap H locs → lv_has ls 7 [(0, .ref (ad 0)), (1, .int x1), (2, .int x2)] → fX11_leastOf_b4  n x1 x2 σ = some z → W p l e (pw_rm 1) s m args below meth c H locs 0 0 (pw_QI below args s D (pw_w shM cI cZ ad) A z) (F0 m 4 ls []) := by
  obtain ⟨hx, hb, hr, hts, hown, hlk, hml, hK, hN⟩ := id C
  intro n
  induction n with
  | zero =>
    intro x1 x2 σ H locs ls hw hl h
    exact absurd h (by simp [fX11_leastOf_b4])
  | succ n ih =>
    intro x1 x2 σ H locs ls hw hl h
    rw [fX11_leastOf_b4] at h
    refine lv_iload_n hx hb dX11_leastOf_4 rfl (lv_at hl 2 rfl) ?_
    refine lv_aload_n hx hb dX11_leastOf_5 rfl (lv_at hl 0 rfl) ?_
    refine r_get C hw qM_0 clsX11 22 rfl (by decide) fl_X11_226 dX11_leastOf_6 (v := .int (σ 0 22)) rfl ?_
    refine lv_icmp_ge (tgt := 22) hx hb dX11_leastOf_9 (by decide) (fun hc => ?_) (fun hc => ?_)
    · replace h := pw_t hc h
      refine lv_iconst (v := (-1)) hx hb dX11_leastOf_22 (by decide) ?_
      refine lv_istore_n (lv' := [(2, .int (-1)), (0, .ref (ad 0)), (1, .int x1)]) hx hb dX11_leastOf_23 rfl hl (by decide) rfl (fun ls hl => ?_)
      refine lv_iconst (v := 0) hx hb dX11_leastOf_24 (by decide) ?_
      refine lv_istore_n (lv' := [(3, .int 0), (2, .int (-1)), (0, .ref (ad 0)), (1, .int x1)]) hx hb dX11_leastOf_25 rfl hl (by decide) rfl (fun ls hl => ?_)
      exact wX11_leastOf_b26 C  _ _ _ _ _ _ _ _ hw (lv_sub hl [2, 3, 1, 0] rfl) h
    · replace h := pw_f hc h
      refine lv_iload_n hx hb dX11_leastOf_12 rfl (lv_at hl 1 rfl) ?_
      refine lv_iconst (v := 3) hx hb dX11_leastOf_13 (by decide) ?_
      refine lv_imul hx hb dX11_leastOf_14 ?_
      refine lv_istore_n (lv' := [(1, .int (x1 * 3)), (0, .ref (ad 0)), (2, .int x2)]) hx hb dX11_leastOf_15 rfl hl (by decide) rfl (fun ls hl => ?_)
      refine lv_iinc (v := (x2 + 1)) (lv' := [(2, .int (x2 + 1)), (1, .int (x1 * 3)), (0, .ref (ad 0))]) hx hb dX11_leastOf_16 hl (k := 2) rfl rfl (by decide) rfl (fun ls hl => ?_)
      refine lv_goto (tgt := 4) hx hb dX11_leastOf_19 (by decide) ?_
      exact ih _ _ _ _ _ _ hw (lv_sub hl [2, 1, 0] rfl) h
set_option maxRecDepth 100000 in
set_option maxHeartbeats 4000000 in
theorem kX11_leastOf (l : Launch) (D : va_G) (cI cZ : ClassId) (ad : Nat → Nat)  (σ : St) (z : Int32 × St) (h : fX11_leastOf  σ = some z) : pw_MI l D shM cI cZ ad yX11_leastOf cX11_leastOf 7 (some .int) (pw_rm 1) [.ref (ad 0)] σ z.1 z.2 := by
  refine pw_ofI (by decide) (Nat.le_of_ble_eq_true rfl) ?_
  intro p e s m args below meth c A C hw ls hl
  obtain ⟨hx, hb, hr, hts, hown, hlk, hml, hK, hN⟩ := id C
  have hl : lv_has ls 7 [(0, .ref (ad 0))] := hl
  unfold fX11_leastOf at h
  refine lv_iconst (v := 1) hx hb dX11_leastOf_0 (by decide) ?_
  refine lv_istore_n (lv' := [(1, .int 1), (0, .ref (ad 0))]) hx hb dX11_leastOf_1 rfl hl (by decide) rfl (fun ls hl => ?_)
  refine lv_iconst (v := 0) hx hb dX11_leastOf_2 (by decide) ?_
  refine lv_istore_n (lv' := [(2, .int 0), (1, .int 1), (0, .ref (ad 0))]) hx hb dX11_leastOf_3 rfl hl (by decide) rfl (fun ls hl => ?_)
  exact wX11_leastOf_b4 C  _ _ _ _ _ _ _ hw (lv_sub hl [2, 1, 0] rfl) h
