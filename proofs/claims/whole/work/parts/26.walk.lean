set_option maxRecDepth 100000 in
set_option maxHeartbeats 4000000 in
theorem kX11_least (l : Launch) (D : va_G) (cI cZ : ClassId) (ad : Nat → Nat)  (σ : St) (z : Int32 × St) (h : fX11_least  σ = some z) : pw_MI l D shM cI cZ ad yX11_least cX11_least 1 (some .int) (pw_rm 2) [.ref (ad 0)] σ z.1 z.2 := by
  refine pw_ofI (by decide) (Nat.le_of_ble_eq_true rfl) ?_
  intro p e s m args below meth c A C hw ls hl
  obtain ⟨hx, hb, hr, hts, hown, hlk, hml, hK, hN⟩ := id C
  have hl : lv_has ls 1 [(0, .ref (ad 0))] := hl
  unfold fX11_least at h
  refine lv_aload_n hx hb dX11_least_0 rfl (lv_at hl 0 rfl) ?_
  obtain ⟨v3, σ2, e1, h⟩ := cal_some h
  refine r_cVI C hw (As := []) (rest := []) (kX11_leastOf l D cI cZ ad _ _ e1) YX11_leastOf ml_X11_229 qM_0 clsX11 (pw_rmOK (by omega) (by decide)) rfl hl.1 rfl (Nat.le_of_ble_eq_true rfl) dX11_least_1 ⟨Nat.zero_le _, Nat.zero_le _⟩ (fun H locs hw => ?_)
  exact r_iret C hw dX11_least_4 h
set_option maxRecDepth 100000 in
set_option maxHeartbeats 4000000 in
theorem kX11_painter (l : Launch) (D : va_G) (cI cZ : ClassId) (ad : Nat → Nat) (x1 : Int32) (σ : St) (z : Int32 × St) (h : fX11_painter x1 σ = some z) : pw_MI l D shM cI cZ ad yX11_painter cX11_painter 3 (some .int) (pw_rm 2) [.ref (ad 0), .int x1] σ z.1 z.2 := by
  refine pw_ofI (by decide) (Nat.le_of_ble_eq_true rfl) ?_
  intro p e s m args below meth c A C hw ls hl
  obtain ⟨hx, hb, hr, hts, hown, hlk, hml, hK, hN⟩ := id C
  have hl : lv_has ls 3 [(0, .ref (ad 0)), (1, .int x1)] := hl
  unfold fX11_painter at h
  refine lv_iload_n hx hb dX11_painter_0 rfl (lv_at hl 1 rfl) ?_
  refine lv_aload_n hx hb dX11_painter_1 rfl (lv_at hl 0 rfl) ?_
  refine r_get C hw qM_0 clsX11 22 rfl (by decide) fl_X11_226 dX11_painter_2 (v := .int (σ 0 22)) rfl ?_
  obtain ⟨v3, σ2, e1, h⟩ := cal_some h
  refine r_cSI C hw (sh := shM) (ad := ad) (As := [.int x1, .int (σ 0 22)]) (rest := []) (kX11_isIn l D cI cZ ad _ _ _ _ e1) YX11_isIn ml_X11_144 (pw_rmOK (by omega) (by decide)) rfl hl.1 rfl (Nat.le_of_ble_eq_true rfl) dX11_painter_5 ⟨Nat.zero_le _, Nat.zero_le _⟩ (fun H locs hw => ?_)
  refine lv_if_ne (tgt := 14) hx hb dX11_painter_8 (by decide) (fun hc => ?_) (fun hc => ?_)
  · replace h := pw_f hc h
    refine lv_aload_n hx hb dX11_painter_14 rfl (lv_at hl 0 rfl) ?_
    obtain ⟨v6, σ5, e4, h⟩ := cal_some h
    refine r_cVI C hw (As := []) (rest := []) (kX11_leastOf l D cI cZ ad _ _ e4) YX11_leastOf ml_X11_229 qM_0 clsX11 (pw_rmOK (by omega) (by decide)) rfl hl.1 rfl (Nat.le_of_ble_eq_true rfl) dX11_painter_15 ⟨Nat.zero_le _, Nat.zero_le _⟩ (fun H locs hw => ?_)
    refine lv_istore_n (lv' := [(2, .int v6), (0, .ref (ad 0)), (1, .int x1)]) hx hb dX11_painter_18 rfl hl (by decide) rfl (fun ls hl => ?_)
    refine lv_aload_n hx hb dX11_painter_19 rfl (lv_at hl 1 rfl) ?_
    refine r_get C hw qM_0 clsX11 38 rfl (by decide) fl_X11_95 dX11_painter_20 (v := .ref (ad 29)) rfl ?_
    refine lv_iload_n hx hb dX11_painter_23 rfl (lv_at hl 2 rfl) ?_
    refine r_iald C hw qM_29 dX11_painter_24 h (fun v7 h => ?_)
    exact r_iret C hw dX11_painter_25 h
  · replace h := pw_t hc h
    refine lv_bipush (v := (-9)) hx hb dX11_painter_11 (by decide) ?_
    exact r_iret C hw dX11_painter_13 h
set_option maxRecDepth 100000 in
set_option maxHeartbeats 4000000 in
theorem kX11_paint (l : Launch) (D : va_G) (cI cZ : ClassId) (ad : Nat → Nat) (x1 : Int32) (σ : St) (z : Int32 × St) (h : fX11_paint x1 σ = some z) : pw_MI l D shM cI cZ ad yX11_paint cX11_paint 2 (some .int) (pw_rm 2) [.ref (ad 0), .int x1] σ z.1 z.2 := by
  refine pw_ofI (by decide) (Nat.le_of_ble_eq_true rfl) ?_
  intro p e s m args below meth c A C hw ls hl
  obtain ⟨hx, hb, hr, hts, hown, hlk, hml, hK, hN⟩ := id C
  have hl : lv_has ls 2 [(0, .ref (ad 0)), (1, .int x1)] := hl
  unfold fX11_paint at h
  refine lv_aload_n hx hb dX11_paint_0 rfl (lv_at hl 0 rfl) ?_
  refine lv_iload_n hx hb dX11_paint_1 rfl (lv_at hl 1 rfl) ?_
  obtain ⟨v3, σ2, e1, h⟩ := cal_some h
  refine r_cVI C hw (As := [.int x1]) (rest := []) (kX11_isPiece l D cI cZ ad _ _ _ e1) YX11_isPiece ml_X11_190 qM_0 clsX11 (pw_rmOK (by omega) (by decide)) rfl hl.1 rfl (Nat.le_of_ble_eq_true rfl) dX11_paint_2 ⟨Nat.zero_le _, Nat.zero_le _⟩ (fun H locs hw => ?_)
  refine lv_if_ne (tgt := 14) hx hb dX11_paint_5 (by decide) (fun hc => ?_) (fun hc => ?_)
  · replace h := pw_f hc h
    refine lv_aload_n hx hb dX11_paint_14 rfl (lv_at hl 0 rfl) ?_
    refine r_get C hw qM_0 clsX11 8 rfl (by decide) fl_X11_34 dX11_paint_15 (v := .ref (ad 9)) rfl ?_
    refine lv_iload_n hx hb dX11_paint_18 rfl (lv_at hl 1 rfl) ?_
    refine r_iald C hw qM_9 dX11_paint_19 h (fun v4 h => ?_)
    refine lv_iconst (v := 1) hx hb dX11_paint_20 (by decide) ?_
    refine lv_icmp_eq (tgt := 31) hx hb dX11_paint_21 (by decide) (fun hc => ?_) (fun hc => ?_)
    · replace h := pw_t hc h
      refine lv_aload_n hx hb dX11_paint_31 rfl (lv_at hl 0 rfl) ?_
      refine r_get C hw qM_0 clsX11 8 rfl (by decide) fl_X11_34 dX11_paint_32 (v := .ref (ad 9)) rfl ?_
      refine lv_iload_n hx hb dX11_paint_35 rfl (lv_at hl 1 rfl) ?_
      refine lv_iconst (v := 2) hx hb dX11_paint_36 (by decide) ?_
      refine r_iast C hw qM_9 dX11_paint_37 h (fun σ5 H locs hw h => ?_)
      refine lv_iconst (v := 1) hx hb dX11_paint_38 (by decide) ?_
      exact r_iret C hw dX11_paint_39 h
    · replace h := pw_f hc h
      refine lv_aload_n hx hb dX11_paint_24 rfl (lv_at hl 0 rfl) ?_
      refine lv_bipush (v := (-3)) hx hb dX11_paint_25 (by decide) ?_
      obtain ⟨v8, σ7, e6, h⟩ := cal_some h
      refine r_cVI C hw (As := [.int (-3)]) (rest := []) (kX11_refuse l D cI cZ ad _ _ _ e6) YX11_refuse ml_X11_152 qM_0 clsX11 (pw_rmOK (by omega) (by decide)) rfl hl.1 rfl (Nat.le_of_ble_eq_true rfl) dX11_paint_27 ⟨Nat.zero_le _, Nat.zero_le _⟩ (fun H locs hw => ?_)
      exact r_iret C hw dX11_paint_30 h
  · replace h := pw_t hc h
    refine lv_aload_n hx hb dX11_paint_8 rfl (lv_at hl 0 rfl) ?_
    refine lv_iconst (v := (-1)) hx hb dX11_paint_9 (by decide) ?_
    obtain ⟨v11, σ10, e9, h⟩ := cal_some h
    refine r_cVI C hw (As := [.int (-1)]) (rest := []) (kX11_refuse l D cI cZ ad _ _ _ e9) YX11_refuse ml_X11_152 qM_0 clsX11 (pw_rmOK (by omega) (by decide)) rfl hl.1 rfl (Nat.le_of_ble_eq_true rfl) dX11_paint_10 ⟨Nat.zero_le _, Nat.zero_le _⟩ (fun H locs hw => ?_)
    exact r_iret C hw dX11_paint_13 h
set_option maxRecDepth 100000 in
set_option maxHeartbeats 4000000 in
theorem kX11_wrongService (l : Launch) (D : va_G) (cI cZ : ClassId) (ad : Nat → Nat) (x1 : Int32) (x2 : Int32) (x3 : Int32) (σ : St) (z : Int32 × St) (h : fX11_wrongService x1 x2 x3 σ = some z) : pw_MI l D shM cI cZ ad yX11_wrongService cX11_wrongService 4 (some .int) (pw_rm 1) [.ref (ad 0), .int x1, .int x2, .int x3] σ z.1 z.2 := by
  refine pw_ofI (by decide) (Nat.le_of_ble_eq_true rfl) ?_
  intro p e s m args below meth c A C hw ls hl
  obtain ⟨hx, hb, hr, hts, hown, hlk, hml, hK, hN⟩ := id C
  have hl : lv_has ls 4 [(0, .ref (ad 0)), (1, .int x1), (2, .int x2), (3, .int x3)] := hl
  unfold fX11_wrongService at h
  refine lv_iload_n hx hb dX11_wrongService_0 rfl (lv_at hl 1 rfl) ?_
  refine lv_bipush (v := 10) hx hb dX11_wrongService_1 (by decide) ?_
  obtain ⟨v3, σ2, e1, h⟩ := cal_some h
  refine r_cSI C hw (sh := shM) (ad := ad) (As := [.int x1, .int 10]) (rest := []) (kX11_isIn l D cI cZ ad _ _ _ _ e1) YX11_isIn ml_X11_144 (pw_rmOK (by omega) (by decide)) rfl hl.1 rfl (Nat.le_of_ble_eq_true rfl) dX11_wrongService_3 ⟨Nat.zero_le _, Nat.zero_le _⟩ (fun H locs hw => ?_)
  refine lv_if_ne (tgt := 11) hx hb dX11_wrongService_6 (by decide) (fun hc => ?_) (fun hc => ?_)
  · replace h := pw_f hc h
    refine lv_iload_n hx hb dX11_wrongService_11 rfl (lv_at hl 2 rfl) ?_
    refine lv_iconst (v := 1) hx hb dX11_wrongService_12 (by decide) ?_
    refine lv_icmp_lt (tgt := 20) hx hb dX11_wrongService_13 (by decide) (fun hc => ?_) (fun hc => ?_)
    · replace h := pw_t hc h
      refine lv_bipush (v := (-4)) hx hb dX11_wrongService_20 (by decide) ?_
      exact r_iret C hw dX11_wrongService_22 h
    · replace h := pw_f hc h
      refine lv_iload_n hx hb dX11_wrongService_16 rfl (lv_at hl 3 rfl) ?_
      refine lv_if_ge (tgt := 23) hx hb dX11_wrongService_17 (by decide) (fun hc => ?_) (fun hc => ?_)
      · replace h := pw_t hc h
        refine lv_iload_n hx hb dX11_wrongService_23 rfl (lv_at hl 2 rfl) ?_
        refine lv_bipush (v := 12) hx hb dX11_wrongService_24 (by decide) ?_
        refine lv_icmp_gt (tgt := 35) hx hb dX11_wrongService_26 (by decide) (fun hc => ?_) (fun hc => ?_)
        · replace h := pw_t hc h
          refine lv_bipush (v := (-6)) hx hb dX11_wrongService_35 (by decide) ?_
          refine lv_goto (tgt := 41) hx hb dX11_wrongService_37 (by decide) ?_
          exact r_iret C hw dX11_wrongService_41 h
        · replace h := pw_f hc h
          refine lv_iload_n hx hb dX11_wrongService_29 rfl (lv_at hl 3 rfl) ?_
          refine lv_bipush (v := 100) hx hb dX11_wrongService_30 (by decide) ?_
          refine lv_icmp_le (tgt := 40) hx hb dX11_wrongService_32 (by decide) (fun hc => ?_) (fun hc => ?_)
          · replace h := pw_t hc h
            refine lv_iconst (v := 0) hx hb dX11_wrongService_40 (by decide) ?_
            exact r_iret C hw dX11_wrongService_41 h
          · replace h := pw_f hc h
            refine lv_bipush (v := (-6)) hx hb dX11_wrongService_35 (by decide) ?_
            refine lv_goto (tgt := 41) hx hb dX11_wrongService_37 (by decide) ?_
            exact r_iret C hw dX11_wrongService_41 h
      · replace h := pw_f hc h
        refine lv_bipush (v := (-4)) hx hb dX11_wrongService_20 (by decide) ?_
        exact r_iret C hw dX11_wrongService_22 h
  · replace h := pw_t hc h
    refine lv_iconst (v := (-1)) hx hb dX11_wrongService_9 (by decide) ?_
    exact r_iret C hw dX11_wrongService_10 h
set_option maxRecDepth 100000 in
set_option maxHeartbeats 4000000 in
theorem kX11_isWhole (l : Launch) (D : va_G) (cI cZ : ClassId) (ad : Nat → Nat) (x1 : Int32) (x2 : Int32) (σ : St) (z : Int32 × St) (h : fX11_isWhole x1 x2 σ = some z) : pw_MI l D shM cI cZ ad yX11_isWhole cX11_isWhole 3 (some .boolean) (pw_rm 0) [.ref (ad 0), .int x1, .int x2] σ z.1 z.2 := by
  refine pw_ofI (by decide) (Nat.le_of_ble_eq_true rfl) ?_
  intro p e s m args below meth c A C hw ls hl
  obtain ⟨hx, hb, hr, hts, hown, hlk, hml, hK, hN⟩ := id C
  have hl : lv_has ls 3 [(0, .ref (ad 0)), (1, .int x1), (2, .int x2)] := hl
  unfold fX11_isWhole at h
  refine lv_aload_n hx hb dX11_isWhole_0 rfl (lv_at hl 0 rfl) ?_
  refine r_get C hw qM_0 clsX11 6 rfl (by decide) fl_X11_28 dX11_isWhole_1 (v := .ref (ad 7)) rfl ?_
  refine lv_iload_n hx hb dX11_isWhole_4 rfl (lv_at hl 1 rfl) ?_
  refine r_iald C hw qM_7 dX11_isWhole_5 h (fun v1 h => ?_)
  refine lv_iload_n hx hb dX11_isWhole_6 rfl (lv_at hl 2 rfl) ?_
  refine lv_icmp_ne (tgt := 34) hx hb dX11_isWhole_7 (by decide) (fun hc => ?_) (fun hc => ?_)
  · replace h := pw_f hc h
    refine lv_iconst (v := 0) hx hb dX11_isWhole_34 (by decide) ?_
    exact r_zret C hw dX11_isWhole_35 h
  · replace h := pw_t hc h
    refine lv_aload_n hx hb dX11_isWhole_10 rfl (lv_at hl 0 rfl) ?_
    refine r_get C hw qM_0 clsX11 8 rfl (by decide) fl_X11_34 dX11_isWhole_11 (v := .ref (ad 9)) rfl ?_
    refine lv_iload_n hx hb dX11_isWhole_14 rfl (lv_at hl 1 rfl) ?_
    refine r_iald C hw qM_9 dX11_isWhole_15 h (fun v2 h => ?_)
    refine lv_iconst (v := 1) hx hb dX11_isWhole_16 (by decide) ?_
    refine lv_icmp_eq (tgt := 30) hx hb dX11_isWhole_17 (by decide) (fun hc => ?_) (fun hc => ?_)
    · replace h := pw_t hc h
      refine lv_iconst (v := 1) hx hb dX11_isWhole_30 (by decide) ?_
      refine lv_goto (tgt := 35) hx hb dX11_isWhole_31 (by decide) ?_
      exact r_zret C hw dX11_isWhole_35 h
    · replace h := pw_f hc h
      refine lv_aload_n hx hb dX11_isWhole_20 rfl (lv_at hl 0 rfl) ?_
      refine r_get C hw qM_0 clsX11 8 rfl (by decide) fl_X11_34 dX11_isWhole_21 (v := .ref (ad 9)) rfl ?_
      refine lv_iload_n hx hb dX11_isWhole_24 rfl (lv_at hl 1 rfl) ?_
      refine r_iald C hw qM_9 dX11_isWhole_25 h (fun v3 h => ?_)
      refine lv_iconst (v := 2) hx hb dX11_isWhole_26 (by decide) ?_
      refine lv_icmp_ne (tgt := 34) hx hb dX11_isWhole_27 (by decide) (fun hc => ?_) (fun hc => ?_)
      · replace h := pw_f hc h
        refine lv_iconst (v := 0) hx hb dX11_isWhole_34 (by decide) ?_
        exact r_zret C hw dX11_isWhole_35 h
      · replace h := pw_t hc h
        refine lv_iconst (v := 1) hx hb dX11_isWhole_30 (by decide) ?_
        refine lv_goto (tgt := 35) hx hb dX11_isWhole_31 (by decide) ?_
        exact r_zret C hw dX11_isWhole_35 h
set_option maxRecDepth 100000 in
set_option maxHeartbeats 4000000 in
theorem wX11_matches_b196 {p : Program} {l : Launch} {e : Env} {s : State} {m : MethodId} {args : Array Value} {below : List Frame} {meth : Method} {c : Code} {D : va_G} {cI cZ : ClassId} {ad : Nat → Nat} {A : Nat → Prop} {z : Int32 × St} {k7 : Int32 → Int32 → Int32 → Int32 → Int32 → St → Option (Int32 × St)} (C : pw_C p s m args meth c yX11_matches.cls cX11_matches 11 (some .int) D cI cZ) (hk7 : ∀ (x1 : Int32) (x2 : Int32) (x3 : Int32) (x4 : Int32) (x5 : Int32) (σ : St) (H : Heap) (locs : List Loc) (ls : Array Slot), pw_H D (pw_w shM cI cZ ad σ) A s.heap H locs → lv_has ls 11 [(0, .ref (ad 0)), (1, .int x1), (2, .int x2), (3, .int x3), (4, .int x4), (5, .int x5)] → k7 x1 x2 x3 x4 x5 σ = some z → W p l e (pw_rm 1) s m args below meth c H locs 0 0 (pw_QI below args s D (pw_w shM cI cZ ad) A z) (F0 m 7 ls [])) : ∀ (n : Nat) (x1 : Int32) (x2 : Int32) (x3 : Int32) (x4 : Int32) (x5 : Int32) (x9 : Int32) (σ : St) (H : Heap) (locs : List Loc) (ls : Array Slot), pw_H D (pw_w shM cI cZ ad σ) A s.heap H locs → lv_has ls 11 [(0, .ref (ad 0)), (1, .int x1), (2, .int x2), (3, .int x3), (4, .int x4), (5, .int x5), (9, .int x9)] → fX11_matches_b196 k7 n x1 x2 x3 x4 x5 x9 σ = some z → W p l e (pw_rm 1) s m args below meth c H locs 0 0 (pw_QI below args s D (pw_w shM cI cZ ad) A z) (F0 m 196 ls []) := by
  obtain ⟨hx, hb, hr, hts, hown, hlk, hml, hK, hN⟩ := id C
  intro n
  induction n with
  | zero =>
    intro x1 x2 x3 x4 x5 x9 σ H locs ls hw hl h
    exact absurd h (by simp [fX11_matches_b196])
  | succ n ih =>
    intro x1 x2 x3 x4 x5 x9 σ H locs ls hw hl h
    rw [fX11_matches_b196] at h
    refine lv_iload hx hb dX11_matches_196 (lv_at hl 6 rfl) ?_
    refine lv_aload_n hx hb dX11_matches_198 rfl (lv_at hl 0 rfl) ?_
    refine r_get C hw qM_0 clsX11 18 rfl (by decide) fl_X11_174 dX11_matches_199 (v := .int (σ 0 18)) rfl ?_
    refine lv_icmp_ge (tgt := 225) hx hb dX11_matches_202 (by decide) (fun hc => ?_) (fun hc => ?_)
    · replace h := pw_t hc h
      refine lv_iinc (v := (x5 + 1)) (lv' := [(5, .int (x5 + 1)), (0, .ref (ad 0)), (1, .int x1), (2, .int x2), (3, .int x3), (4, .int x4), (9, .int x9)]) hx hb dX11_matches_225 hl (k := 5) rfl rfl (by decide) rfl (fun ls hl => ?_)
      refine lv_goto (tgt := 7) hx hb dX11_matches_228 (by decide) ?_
      exact hk7 _ _ _ _ _ _ _ _ _ hw (lv_sub hl [1, 2, 3, 4, 5, 0] rfl) h
    · replace h := pw_f hc h
      refine lv_aload_n hx hb dX11_matches_205 rfl (lv_at hl 0 rfl) ?_
      refine r_get C hw qM_0 clsX11 40 rfl (by decide) fl_X11_101 dX11_matches_206 (v := .ref (ad 31)) rfl ?_
      refine lv_iload hx hb dX11_matches_209 (lv_at hl 6 rfl) ?_
      refine lv_aload_n hx hb dX11_matches_211 rfl (lv_at hl 0 rfl) ?_
      refine r_get C hw qM_0 clsX11 41 rfl (by decide) fl_X11_105 dX11_matches_212 (v := .ref (ad 32)) rfl ?_
      refine lv_iload hx hb dX11_matches_215 (lv_at hl 6 rfl) ?_
      refine r_zald C hw qM_32 dX11_matches_217 h (fun v1 h => ?_)
      refine r_zast C hw qM_31 dX11_matches_218 h (fun σ2 H locs hw h => ?_)
      refine lv_iinc (v := (x9 + 1)) (lv' := [(9, .int (x9 + 1)), (0, .ref (ad 0)), (1, .int x1), (2, .int x2), (3, .int x3), (4, .int x4), (5, .int x5)]) hx hb dX11_matches_219 hl (k := 6) rfl rfl (by decide) rfl (fun ls hl => ?_)
      refine lv_goto (tgt := 196) hx hb dX11_matches_222 (by decide) ?_
      exact ih _ _ _ _ _ _ _ _ _ _ hw (lv_sub hl [1, 2, 3, 4, 5, 6, 0] rfl) h
set_option maxRecDepth 100000 in
set_option maxHeartbeats 4000000 in
theorem wX11_matches_b163 {p : Program} {l : Launch} {e : Env} {s : State} {m : MethodId} {args : Array Value} {below : List Frame} {meth : Method} {c : Code} {D : va_G} {cI cZ : ClassId} {ad : Nat → Nat} {A : Nat → Prop} {z : Int32 × St} {k7 : Int32 → Int32 → Int32 → Int32 → Int32 → St → Option (Int32 × St)} (C : pw_C p s m args meth c yX11_matches.cls cX11_matches 11 (some .int) D cI cZ) (hk7 : ∀ (x1 : Int32) (x2 : Int32) (x3 : Int32) (x4 : Int32) (x5 : Int32) (σ : St) (H : Heap) (locs : List Loc) (ls : Array Slot), pw_H D (pw_w shM cI cZ ad σ) A s.heap H locs → lv_has ls 11 [(0, .ref (ad 0)), (1, .int x1), (2, .int x2), (3, .int x3), (4, .int x4), (5, .int x5)] → k7 x1 x2 x3 x4 x5 σ = some z → W p l e (pw_rm 1) s m args below meth c H locs 0 0 (pw_QI below args s D (pw_w shM cI cZ ad) A z) (F0 m 7 ls [])) : ∀ (x1 : Int32) (x2 : Int32) (x3 : Int32) (x4 : Int32) (x5 : Int32) (x6 : Int32) (x7 : Int32) (x8 : Int32) (σ : St) (H : Heap) (locs : List Loc) (ls : Array Slot), pw_H D (pw_w shM cI cZ ad σ) A s.heap H locs → lv_has ls 11 [(0, .ref (ad 0)), (1, .int x1), (2, .int x2), (3, .int x3), (4, .int x4), (5, .int x5), (6, .int x6), (7, .int x7), (8, .int x8)] → fX11_matches_b163 k7 x1 x2 x3 x4 x5 x6 x7 x8 σ = some z → W p l e (pw_rm 1) s m args below meth c H locs 0 0 (pw_QI below args s D (pw_w shM cI cZ ad) A z) (F0 m 163 ls []) := by
  obtain ⟨hx, hb, hr, hts, hown, hlk, hml, hK, hN⟩ := id C
  intro x1 x2 x3 x4 x5 x6 x7 x8 σ H locs ls hw hl h
  unfold fX11_matches_b163 at h
  refine lv_iload hx hb dX11_matches_163 (lv_at hl 7 rfl) ?_
  refine lv_iload_n hx hb dX11_matches_165 rfl (lv_at hl 2 rfl) ?_
  refine lv_icmp_lt (tgt := 225) hx hb dX11_matches_166 (by decide) (fun hc => ?_) (fun hc => ?_)
  · replace h := pw_t hc h
    refine lv_iinc (v := (x5 + 1)) (lv' := [(5, .int (x5 + 1)), (0, .ref (ad 0)), (1, .int x1), (2, .int x2), (3, .int x3), (4, .int x4), (6, .int x6), (7, .int x7), (8, .int x8)]) hx hb dX11_matches_225 hl (k := 5) rfl rfl (by decide) rfl (fun ls hl => ?_)
    refine lv_goto (tgt := 7) hx hb dX11_matches_228 (by decide) ?_
    exact hk7 _ _ _ _ _ _ _ _ _ hw (lv_sub hl [1, 2, 3, 4, 5, 0] rfl) h
  · replace h := pw_f hc h
    refine lv_iload hx hb dX11_matches_169 (lv_at hl 8 rfl) ?_
    refine lv_if_eq (tgt := 225) hx hb dX11_matches_171 (by decide) (fun hc => ?_) (fun hc => ?_)
    · replace h := pw_t hc h
      refine lv_iinc (v := (x5 + 1)) (lv' := [(5, .int (x5 + 1)), (0, .ref (ad 0)), (1, .int x1), (2, .int x2), (3, .int x3), (4, .int x4), (6, .int x6), (7, .int x7), (8, .int x8)]) hx hb dX11_matches_225 hl (k := 5) rfl rfl (by decide) rfl (fun ls hl => ?_)
      refine lv_goto (tgt := 7) hx hb dX11_matches_228 (by decide) ?_
      exact hk7 _ _ _ _ _ _ _ _ _ hw (lv_sub hl [1, 2, 3, 4, 5, 0] rfl) h
    · replace h := pw_f hc h
      refine lv_iload hx hb dX11_matches_174 (lv_at hl 4 rfl) ?_
      refine lv_if_lt (tgt := 189) hx hb dX11_matches_176 (by decide) (fun hc => ?_) (fun hc => ?_)
      · replace h := pw_t hc h
        refine lv_iload hx hb dX11_matches_189 (lv_at hl 6 rfl) ?_
        refine lv_istore (lv' := [(4, .int x6), (0, .ref (ad 0)), (1, .int x1), (2, .int x2), (3, .int x3), (5, .int x5), (6, .int x6), (7, .int x7), (8, .int x8)]) hx hb dX11_matches_191 hl (by decide) rfl (fun ls hl => ?_)
        refine lv_iconst (v := 0) hx hb dX11_matches_193 (by decide) ?_
        refine lv_istore (lv' := [(9, .int 0), (4, .int x6), (0, .ref (ad 0)), (1, .int x1), (2, .int x2), (3, .int x3), (5, .int x5), (6, .int x6), (7, .int x7), (8, .int x8)]) hx hb dX11_matches_194 hl (by decide) rfl (fun ls hl => ?_)
        exact wX11_matches_b196 C hk7 _ _ _ _ _ _ _ _ _ _ _ hw (lv_sub hl [2, 3, 4, 5, 1, 6, 0] rfl) h
      · replace h := pw_f hc h
        refine lv_iload hx hb dX11_matches_179 (lv_at hl 6 rfl) ?_
        refine lv_iload hx hb dX11_matches_181 (lv_at hl 4 rfl) ?_
        refine lv_icmp_lt (tgt := 189) hx hb dX11_matches_183 (by decide) (fun hc => ?_) (fun hc => ?_)
        · replace h := pw_t hc h
          refine lv_iload hx hb dX11_matches_189 (lv_at hl 6 rfl) ?_
          refine lv_istore (lv' := [(4, .int x6), (0, .ref (ad 0)), (1, .int x1), (2, .int x2), (3, .int x3), (5, .int x5), (6, .int x6), (7, .int x7), (8, .int x8)]) hx hb dX11_matches_191 hl (by decide) rfl (fun ls hl => ?_)
          refine lv_iconst (v := 0) hx hb dX11_matches_193 (by decide) ?_
          refine lv_istore (lv' := [(9, .int 0), (4, .int x6), (0, .ref (ad 0)), (1, .int x1), (2, .int x2), (3, .int x3), (5, .int x5), (6, .int x6), (7, .int x7), (8, .int x8)]) hx hb dX11_matches_194 hl (by decide) rfl (fun ls hl => ?_)
          exact wX11_matches_b196 C hk7 _ _ _ _ _ _ _ _ _ _ _ hw (lv_sub hl [2, 3, 4, 5, 1, 6, 0] rfl) h
        · replace h := pw_f hc h
          refine lv_goto (tgt := 225) hx hb dX11_matches_186 (by decide) ?_
          refine lv_iinc (v := (x5 + 1)) (lv' := [(5, .int (x5 + 1)), (0, .ref (ad 0)), (1, .int x1), (2, .int x2), (3, .int x3), (4, .int x4), (6, .int x6), (7, .int x7), (8, .int x8)]) hx hb dX11_matches_225 hl (k := 5) rfl rfl (by decide) rfl (fun ls hl => ?_)
          refine lv_goto (tgt := 7) hx hb dX11_matches_228 (by decide) ?_
          exact hk7 _ _ _ _ _ _ _ _ _ hw (lv_sub hl [1, 2, 3, 4, 5, 0] rfl) h
set_option maxRecDepth 100000 in
set_option maxHeartbeats 4000000 in
theorem wX11_matches_b71 {p : Program} {l : Launch} {e : Env} {s : State} {m : MethodId} {args : Array Value} {below : List Frame} {meth : Method} {c : Code} {D : va_G} {cI cZ : ClassId} {ad : Nat → Nat} {A : Nat → Prop} {z : Int32 × St} {k7 : Int32 → Int32 → Int32 → Int32 → Int32 → St → Option (Int32 × St)} {k53 : Int32 → Int32 → Int32 → Int32 → Int32 → Int32 → Int32 → Int32 → Int32 → St → Option (Int32 × St)} (C : pw_C p s m args meth c yX11_matches.cls cX11_matches 11 (some .int) D cI cZ) (hk7 : ∀ (x1 : Int32) (x2 : Int32) (x3 : Int32) (x4 : Int32) (x5 : Int32) (σ : St) (H : Heap) (locs : List Loc) (ls : Array Slot), pw_H D (pw_w shM cI cZ ad σ) A s.heap H locs → lv_has ls 11 [(0, .ref (ad 0)), (1, .int x1), (2, .int x2), (3, .int x3), (4, .int x4), (5, .int x5)] → k7 x1 x2 x3 x4 x5 σ = some z → W p l e (pw_rm 1) s m args below meth c H locs 0 0 (pw_QI below args s D (pw_w shM cI cZ ad) A z) (F0 m 7 ls [])) (hk53 : ∀ (x1 : Int32) (x2 : Int32) (x3 : Int32) (x4 : Int32) (x5 : Int32) (x6 : Int32) (x7 : Int32) (x8 : Int32) (x9 : Int32) (σ : St) (H : Heap) (locs : List Loc) (ls : Array Slot), pw_H D (pw_w shM cI cZ ad σ) A s.heap H locs → lv_has ls 11 [(0, .ref (ad 0)), (1, .int x1), (2, .int x2), (3, .int x3), (4, .int x4), (5, .int x5), (6, .int x6), (7, .int x7), (8, .int x8), (9, .int x9)] → k53 x1 x2 x3 x4 x5 x6 x7 x8 x9 σ = some z → W p l e (pw_rm 1) s m args below meth c H locs 0 0 (pw_QI below args s D (pw_w shM cI cZ ad) A z) (F0 m 53 ls [])) : ∀ (n : Nat) (x1 : Int32) (x2 : Int32) (x3 : Int32) (x4 : Int32) (x5 : Int32) (x6 : Int32) (x7 : Int32) (x8 : Int32) (x9 : Int32) (x10 : Int32) (σ : St) (H : Heap) (locs : List Loc) (ls : Array Slot), pw_H D (pw_w shM cI cZ ad σ) A s.heap H locs → lv_has ls 11 [(0, .ref (ad 0)), (1, .int x1), (2, .int x2), (3, .int x3), (4, .int x4), (5, .int x5), (6, .int x6), (7, .int x7), (8, .int x8), (9, .int x9), (10, .int x10)] → fX11_matches_b71 k7 k53 n x1 x2 x3 x4 x5 x6 x7 x8 x9 x10 σ = some z → W p l e (pw_rm 1) s m args below meth c H locs 0 0 (pw_QI below args s D (pw_w shM cI cZ ad) A z) (F0 m 71 ls []) := by
  obtain ⟨hx, hb, hr, hts, hown, hlk, hml, hK, hN⟩ := id C
  intro n
  induction n with
  | zero =>
    intro x1 x2 x3 x4 x5 x6 x7 x8 x9 x10 σ H locs ls hw hl h
    exact absurd h (by simp [fX11_matches_b71])
  | succ n ih =>
    intro x1 x2 x3 x4 x5 x6 x7 x8 x9 x10 σ H locs ls hw hl h
    rw [fX11_matches_b71] at h
    refine lv_iload hx hb dX11_matches_71 (lv_at hl 10 rfl) ?_
    refine lv_aload_n hx hb dX11_matches_73 rfl (lv_at hl 0 rfl) ?_
    refine r_get C hw qM_0 clsX11 18 rfl (by decide) fl_X11_174 dX11_matches_74 (v := .int (σ 0 18)) rfl ?_
    refine lv_icmp_ge (tgt := 157) hx hb dX11_matches_77 (by decide) (fun hc => ?_) (fun hc => ?_)
    · replace h := pw_t hc h
      refine lv_iinc (v := (x9 + (-1))) (lv' := [(9, .int (x9 + (-1))), (0, .ref (ad 0)), (1, .int x1), (2, .int x2), (3, .int x3), (4, .int x4), (5, .int x5), (6, .int x6), (7, .int x7), (8, .int x8), (10, .int x10)]) hx hb dX11_matches_157 hl (k := 9) rfl rfl (by decide) rfl (fun ls hl => ?_)
      refine lv_goto (tgt := 53) hx hb dX11_matches_160 (by decide) ?_
      exact hk53 _ _ _ _ _ _ _ _ _ _ _ _ _ hw (lv_sub hl [1, 2, 3, 4, 5, 6, 7, 8, 9, 0] rfl) h
    · replace h := pw_f hc h
      refine lv_iload hx hb dX11_matches_80 (lv_at hl 7 rfl) ?_
      refine lv_iload_n hx hb dX11_matches_82 rfl (lv_at hl 2 rfl) ?_
      refine lv_icmp_ge (tgt := 157) hx hb dX11_matches_83 (by decide) (fun hc => ?_) (fun hc => ?_)
      · replace h := pw_t hc h
        refine lv_iinc (v := (x9 + (-1))) (lv' := [(9, .int (x9 + (-1))), (0, .ref (ad 0)), (1, .int x1), (2, .int x2), (3, .int x3), (4, .int x4), (5, .int x5), (6, .int x6), (7, .int x7), (8, .int x8), (10, .int x10)]) hx hb dX11_matches_157 hl (k := 9) rfl rfl (by decide) rfl (fun ls hl => ?_)
        refine lv_goto (tgt := 53) hx hb dX11_matches_160 (by decide) ?_
        exact hk53 _ _ _ _ _ _ _ _ _ _ _ _ _ hw (lv_sub hl [1, 2, 3, 4, 5, 6, 7, 8, 9, 0] rfl) h
      · replace h := pw_f hc h
        refine lv_aload_n hx hb dX11_matches_86 rfl (lv_at hl 0 rfl) ?_
        refine lv_iload hx hb dX11_matches_87 (lv_at hl 10 rfl) ?_
        refine lv_iload_n hx hb dX11_matches_89 rfl (lv_at hl 1 rfl) ?_
        obtain ⟨v5, σ4, e3, h⟩ := cal_some h
        refine r_cVI C hw (As := [.int x10, .int x1]) (rest := []) (kX11_isWhole l D cI cZ ad _ _ _ _ e3) YX11_isWhole ml_X11_232 qM_0 clsX11 (pw_rmOK (by omega) (by decide)) rfl hl.1 rfl (Nat.le_of_ble_eq_true rfl) dX11_matches_90 ⟨Nat.zero_le _, Nat.zero_le _⟩ (fun H locs hw => ?_)
        refine lv_if_eq (tgt := 151) hx hb dX11_matches_93 (by decide) (fun hc => ?_) (fun hc => ?_)
        · replace h := pw_t hc h
          refine lv_iinc (v := (x10 + 1)) (lv' := [(10, .int (x10 + 1)), (0, .ref (ad 0)), (1, .int x1), (2, .int x2), (3, .int x3), (4, .int x4), (5, .int x5), (6, .int x6), (7, .int x7), (8, .int x8), (9, .int x9)]) hx hb dX11_matches_151 hl (k := 10) rfl rfl (by decide) rfl (fun ls hl => ?_)
          refine lv_goto (tgt := 71) hx hb dX11_matches_154 (by decide) ?_
          exact ih _ _ _ _ _ _ _ _ _ _ _ _ _ _ hw (lv_sub hl [1, 2, 3, 4, 5, 6, 7, 8, 9, 10, 0] rfl) h
        · replace h := pw_f hc h
          refine lv_aload_n hx hb dX11_matches_96 rfl (lv_at hl 0 rfl) ?_
          refine r_get C hw qM_0 clsX11 11 rfl (by decide) fl_X11_43 dX11_matches_97 (v := .ref (ad 12)) rfl ?_
          refine lv_iload hx hb dX11_matches_100 (lv_at hl 10 rfl) ?_
          refine r_iald C hw qM_12 dX11_matches_102 h (fun v6 h => ?_)
          refine lv_iload hx hb dX11_matches_103 (lv_at hl 9 rfl) ?_
          refine lv_icmp_eq (tgt := 111) hx hb dX11_matches_105 (by decide) (fun hc => ?_) (fun hc => ?_)
          · replace h := pw_t hc h
            refine lv_aload_n hx hb dX11_matches_111 rfl (lv_at hl 0 rfl) ?_
            refine r_get C hw qM_0 clsX11 41 rfl (by decide) fl_X11_105 dX11_matches_112 (v := .ref (ad 32)) rfl ?_
            refine lv_iload hx hb dX11_matches_115 (lv_at hl 10 rfl) ?_
            refine lv_iconst (v := 1) hx hb dX11_matches_117 (by decide) ?_
            refine r_zast C hw qM_32 dX11_matches_118 h (fun σ7 H locs hw h => ?_)
            refine lv_iload hx hb dX11_matches_119 (lv_at hl 6 rfl) ?_
            refine lv_bipush (v := 100) hx hb dX11_matches_121 (by decide) ?_
            refine lv_iload hx hb dX11_matches_123 (lv_at hl 9 rfl) ?_
            refine lv_isub hx hb dX11_matches_125 ?_
            refine lv_iadd hx hb dX11_matches_126 ?_
            refine r_leti h (fun v8 h => ?_)
            refine lv_istore (lv' := [(6, .int v8), (0, .ref (ad 0)), (1, .int x1), (2, .int x2), (3, .int x3), (4, .int x4), (5, .int x5), (7, .int x7), (8, .int x8), (9, .int x9), (10, .int x10)]) hx hb dX11_matches_127 hl (by decide) rfl (fun ls hl => ?_)
            refine lv_iinc (v := (x7 + 1)) (lv' := [(7, .int (x7 + 1)), (6, .int v8), (0, .ref (ad 0)), (1, .int x1), (2, .int x2), (3, .int x3), (4, .int x4), (5, .int x5), (8, .int x8), (9, .int x9), (10, .int x10)]) hx hb dX11_matches_129 hl (k := 7) rfl rfl (by decide) rfl (fun ls hl => ?_)
            refine lv_iload hx hb dX11_matches_132 (lv_at hl 8 rfl) ?_
            refine lv_if_ne (tgt := 144) hx hb dX11_matches_134 (by decide) (fun hc => ?_) (fun hc => ?_)
            · replace h := pw_f hc h
              refine lv_iconst (v := 1) hx hb dX11_matches_144 (by decide) ?_
              refine lv_goto (tgt := 149) hx hb dX11_matches_145 (by decide) ?_
              refine lv_istore (lv' := [(8, .int 1), (7, .int (x7 + 1)), (6, .int v8), (0, .ref (ad 0)), (1, .int x1), (2, .int x2), (3, .int x3), (4, .int x4), (5, .int x5), (9, .int x9), (10, .int x10)]) hx hb dX11_matches_149 hl (by decide) rfl (fun ls hl => ?_)
              refine lv_iinc (v := (x10 + 1)) (lv' := [(10, .int (x10 + 1)), (8, .int 1), (7, .int (x7 + 1)), (6, .int v8), (0, .ref (ad 0)), (1, .int x1), (2, .int x2), (3, .int x3), (4, .int x4), (5, .int x5), (9, .int x9)]) hx hb dX11_matches_151 hl (k := 10) rfl rfl (by decide) rfl (fun ls hl => ?_)
              refine lv_goto (tgt := 71) hx hb dX11_matches_154 (by decide) ?_
              exact ih _ _ _ _ _ _ _ _ _ _ _ _ _ _ hw (lv_sub hl [4, 5, 6, 7, 8, 9, 3, 2, 1, 10, 0] rfl) h
            · replace h := pw_t hc h
              refine lv_iload hx hb dX11_matches_137 (lv_at hl 9 rfl) ?_
              refine lv_iload hx hb dX11_matches_139 (lv_at hl 7 rfl) ?_
              refine lv_icmp_ne (tgt := 148) hx hb dX11_matches_141 (by decide) (fun hc => ?_) (fun hc => ?_)
              · replace h := pw_f hc h
                refine lv_iconst (v := 0) hx hb dX11_matches_148 (by decide) ?_
                refine lv_istore (lv' := [(8, .int 0), (7, .int (x7 + 1)), (6, .int v8), (0, .ref (ad 0)), (1, .int x1), (2, .int x2), (3, .int x3), (4, .int x4), (5, .int x5), (9, .int x9), (10, .int x10)]) hx hb dX11_matches_149 hl (by decide) rfl (fun ls hl => ?_)
                refine lv_iinc (v := (x10 + 1)) (lv' := [(10, .int (x10 + 1)), (8, .int 0), (7, .int (x7 + 1)), (6, .int v8), (0, .ref (ad 0)), (1, .int x1), (2, .int x2), (3, .int x3), (4, .int x4), (5, .int x5), (9, .int x9)]) hx hb dX11_matches_151 hl (k := 10) rfl rfl (by decide) rfl (fun ls hl => ?_)
                refine lv_goto (tgt := 71) hx hb dX11_matches_154 (by decide) ?_
                exact ih _ _ _ _ _ _ _ _ _ _ _ _ _ _ hw (lv_sub hl [4, 5, 6, 7, 8, 9, 3, 2, 1, 10, 0] rfl) h
              · replace h := pw_t hc h
                refine lv_iconst (v := 1) hx hb dX11_matches_144 (by decide) ?_
                refine lv_goto (tgt := 149) hx hb dX11_matches_145 (by decide) ?_
                refine lv_istore (lv' := [(8, .int 1), (7, .int (x7 + 1)), (6, .int v8), (0, .ref (ad 0)), (1, .int x1), (2, .int x2), (3, .int x3), (4, .int x4), (5, .int x5), (9, .int x9), (10, .int x10)]) hx hb dX11_matches_149 hl (by decide) rfl (fun ls hl => ?_)
                refine lv_iinc (v := (x10 + 1)) (lv' := [(10, .int (x10 + 1)), (8, .int 1), (7, .int (x7 + 1)), (6, .int v8), (0, .ref (ad 0)), (1, .int x1), (2, .int x2), (3, .int x3), (4, .int x4), (5, .int x5), (9, .int x9)]) hx hb dX11_matches_151 hl (k := 10) rfl rfl (by decide) rfl (fun ls hl => ?_)
                refine lv_goto (tgt := 71) hx hb dX11_matches_154 (by decide) ?_
                exact ih _ _ _ _ _ _ _ _ _ _ _ _ _ _ hw (lv_sub hl [4, 5, 6, 7, 8, 9, 3, 2, 1, 10, 0] rfl) h
          · replace h := pw_f hc h
            refine lv_goto (tgt := 151) hx hb dX11_matches_108 (by decide) ?_
            refine lv_iinc (v := (x10 + 1)) (lv' := [(10, .int (x10 + 1)), (0, .ref (ad 0)), (1, .int x1), (2, .int x2), (3, .int x3), (4, .int x4), (5, .int x5), (6, .int x6), (7, .int x7), (8, .int x8), (9, .int x9)]) hx hb dX11_matches_151 hl (k := 10) rfl rfl (by decide) rfl (fun ls hl => ?_)
            refine lv_goto (tgt := 71) hx hb dX11_matches_154 (by decide) ?_
            exact ih _ _ _ _ _ _ _ _ _ _ _ _ _ _ hw (lv_sub hl [1, 2, 3, 4, 5, 6, 7, 8, 9, 10, 0] rfl) h
set_option maxRecDepth 100000 in
set_option maxHeartbeats 4000000 in
theorem wX11_matches_b53 {p : Program} {l : Launch} {e : Env} {s : State} {m : MethodId} {args : Array Value} {below : List Frame} {meth : Method} {c : Code} {D : va_G} {cI cZ : ClassId} {ad : Nat → Nat} {A : Nat → Prop} {z : Int32 × St} {k7 : Int32 → Int32 → Int32 → Int32 → Int32 → St → Option (Int32 × St)} (C : pw_C p s m args meth c yX11_matches.cls cX11_matches 11 (some .int) D cI cZ) (hk7 : ∀ (x1 : Int32) (x2 : Int32) (x3 : Int32) (x4 : Int32) (x5 : Int32) (σ : St) (H : Heap) (locs : List Loc) (ls : Array Slot), pw_H D (pw_w shM cI cZ ad σ) A s.heap H locs → lv_has ls 11 [(0, .ref (ad 0)), (1, .int x1), (2, .int x2), (3, .int x3), (4, .int x4), (5, .int x5)] → k7 x1 x2 x3 x4 x5 σ = some z → W p l e (pw_rm 1) s m args below meth c H locs 0 0 (pw_QI below args s D (pw_w shM cI cZ ad) A z) (F0 m 7 ls [])) : ∀ (n : Nat) (x1 : Int32) (x2 : Int32) (x3 : Int32) (x4 : Int32) (x5 : Int32) (x6 : Int32) (x7 : Int32) (x8 : Int32) (x9 : Int32) (σ : St) (H : Heap) (locs : List Loc) (ls : Array Slot), pw_H D (pw_w shM cI cZ ad σ) A s.heap H locs → lv_has ls 11 [(0, .ref (ad 0)), (1, .int x1), (2, .int x2), (3, .int x3), (4, .int x4), (5, .int x5), (6, .int x6), (7, .int x7), (8, .int x8), (9, .int x9)] → fX11_matches_b53 k7 n x1 x2 x3 x4 x5 x6 x7 x8 x9 σ = some z → W p l e (pw_rm 1) s m args below meth c H locs 0 0 (pw_QI below args s D (pw_w shM cI cZ ad) A z) (F0 m 53 ls []) := by
  obtain ⟨hx, hb, hr, hts, hown, hlk, hml, hK, hN⟩ := id C
  intro n
  induction n with
  | zero =>
    intro x1 x2 x3 x4 x5 x6 x7 x8 x9 σ H locs ls hw hl h
    exact absurd h (by simp [fX11_matches_b53])
  | succ n ih =>
    intro x1 x2 x3 x4 x5 x6 x7 x8 x9 σ H locs ls hw hl h
    rw [fX11_matches_b53] at h
    refine lv_iload hx hb dX11_matches_53 (lv_at hl 9 rfl) ?_
    refine lv_iload hx hb dX11_matches_55 (lv_at hl 5 rfl) ?_
    refine lv_iload_n hx hb dX11_matches_57 rfl (lv_at hl 3 rfl) ?_
    refine lv_isub hx hb dX11_matches_58 ?_
    refine lv_icmp_lt (tgt := 163) hx hb dX11_matches_59 (by decide) (fun hc => ?_) (fun hc => ?_)
    · replace h := pw_t hc h
      exact wX11_matches_b163 C hk7 _ _ _ _ _ _ _ _ _ _ _ _ hw (lv_sub hl [0, 1, 2, 3, 4, 5, 6, 7, 8] rfl) h
    · replace h := pw_f hc h
      refine lv_iload hx hb dX11_matches_62 (lv_at hl 7 rfl) ?_
      refine lv_iload_n hx hb dX11_matches_64 rfl (lv_at hl 2 rfl) ?_
      refine lv_icmp_ge (tgt := 163) hx hb dX11_matches_65 (by decide) (fun hc => ?_) (fun hc => ?_)
      · replace h := pw_t hc h
        exact wX11_matches_b163 C hk7 _ _ _ _ _ _ _ _ _ _ _ _ hw (lv_sub hl [0, 1, 2, 3, 4, 5, 6, 7, 8] rfl) h
      · replace h := pw_f hc h
        refine lv_iconst (v := 0) hx hb dX11_matches_68 (by decide) ?_
        refine lv_istore (lv' := [(10, .int 0), (0, .ref (ad 0)), (1, .int x1), (2, .int x2), (3, .int x3), (4, .int x4), (5, .int x5), (6, .int x6), (7, .int x7), (8, .int x8), (9, .int x9)]) hx hb dX11_matches_69 hl (by decide) rfl (fun ls hl => ?_)
        exact wX11_matches_b71 C hk7 ih _ _ _ _ _ _ _ _ _ _ _ _ _ _ _ hw (lv_sub hl [1, 2, 3, 4, 5, 6, 7, 8, 9, 10, 0] rfl) h
set_option maxRecDepth 100000 in
set_option maxHeartbeats 4000000 in
theorem wX11_matches_b26 {p : Program} {l : Launch} {e : Env} {s : State} {m : MethodId} {args : Array Value} {below : List Frame} {meth : Method} {c : Code} {D : va_G} {cI cZ : ClassId} {ad : Nat → Nat} {A : Nat → Prop} {z : Int32 × St} {k7 : Int32 → Int32 → Int32 → Int32 → Int32 → St → Option (Int32 × St)} (C : pw_C p s m args meth c yX11_matches.cls cX11_matches 11 (some .int) D cI cZ) (hk7 : ∀ (x1 : Int32) (x2 : Int32) (x3 : Int32) (x4 : Int32) (x5 : Int32) (σ : St) (H : Heap) (locs : List Loc) (ls : Array Slot), pw_H D (pw_w shM cI cZ ad σ) A s.heap H locs → lv_has ls 11 [(0, .ref (ad 0)), (1, .int x1), (2, .int x2), (3, .int x3), (4, .int x4), (5, .int x5)] → k7 x1 x2 x3 x4 x5 σ = some z → W p l e (pw_rm 1) s m args below meth c H locs 0 0 (pw_QI below args s D (pw_w shM cI cZ ad) A z) (F0 m 7 ls [])) : ∀ (n : Nat) (x1 : Int32) (x2 : Int32) (x3 : Int32) (x4 : Int32) (x5 : Int32) (x6 : Int32) (x7 : Int32) (x8 : Int32) (x9 : Int32) (σ : St) (H : Heap) (locs : List Loc) (ls : Array Slot), pw_H D (pw_w shM cI cZ ad σ) A s.heap H locs → lv_has ls 11 [(0, .ref (ad 0)), (1, .int x1), (2, .int x2), (3, .int x3), (4, .int x4), (5, .int x5), (6, .int x6), (7, .int x7), (8, .int x8), (9, .int x9)] → fX11_matches_b26 k7 n x1 x2 x3 x4 x5 x6 x7 x8 x9 σ = some z → W p l e (pw_rm 1) s m args below meth c H locs 0 0 (pw_QI below args s D (pw_w shM cI cZ ad) A z) (F0 m 26 ls []) := by
  obtain ⟨hx, hb, hr, hts, hown, hlk, hml, hK, hN⟩ := id C
  intro n
  induction n with
  | zero =>
    intro x1 x2 x3 x4 x5 x6 x7 x8 x9 σ H locs ls hw hl h
    exact absurd h (by simp [fX11_matches_b26])
  | succ n ih =>
    intro x1 x2 x3 x4 x5 x6 x7 x8 x9 σ H locs ls hw hl h
    rw [fX11_matches_b26] at h
    refine lv_iload hx hb dX11_matches_26 (lv_at hl 9 rfl) ?_
    refine lv_aload_n hx hb dX11_matches_28 rfl (lv_at hl 0 rfl) ?_
    refine r_get C hw qM_0 clsX11 18 rfl (by decide) fl_X11_174 dX11_matches_29 (v := .int (σ 0 18)) rfl ?_
    refine lv_icmp_ge (tgt := 49) hx hb dX11_matches_32 (by decide) (fun hc => ?_) (fun hc => ?_)
    · replace h := pw_t hc h
      refine lv_iload hx hb dX11_matches_49 (lv_at hl 5 rfl) ?_
      refine lv_istore (lv' := [(9, .int x5), (0, .ref (ad 0)), (1, .int x1), (2, .int x2), (3, .int x3), (4, .int x4), (5, .int x5), (6, .int x6), (7, .int x7), (8, .int x8)]) hx hb dX11_matches_51 hl (by decide) rfl (fun ls hl => ?_)
      exact wX11_matches_b53 C hk7 _ _ _ _ _ _ _ _ _ _ _ _ _ _ hw (lv_sub hl [1, 2, 3, 4, 5, 6, 7, 8, 9, 0] rfl) h
    · replace h := pw_f hc h
      refine lv_aload_n hx hb dX11_matches_35 rfl (lv_at hl 0 rfl) ?_
      refine r_get C hw qM_0 clsX11 41 rfl (by decide) fl_X11_105 dX11_matches_36 (v := .ref (ad 32)) rfl ?_
      refine lv_iload hx hb dX11_matches_39 (lv_at hl 9 rfl) ?_
      refine lv_iconst (v := 0) hx hb dX11_matches_41 (by decide) ?_
      refine r_zast C hw qM_32 dX11_matches_42 h (fun σ9 H locs hw h => ?_)
      refine lv_iinc (v := (x9 + 1)) (lv' := [(9, .int (x9 + 1)), (0, .ref (ad 0)), (1, .int x1), (2, .int x2), (3, .int x3), (4, .int x4), (5, .int x5), (6, .int x6), (7, .int x7), (8, .int x8)]) hx hb dX11_matches_43 hl (k := 9) rfl rfl (by decide) rfl (fun ls hl => ?_)
      refine lv_goto (tgt := 26) hx hb dX11_matches_46 (by decide) ?_
      exact ih _ _ _ _ _ _ _ _ _ _ _ _ _ hw (lv_sub hl [1, 2, 3, 4, 5, 6, 7, 8, 9, 0] rfl) h
set_option maxRecDepth 100000 in
set_option maxHeartbeats 4000000 in
theorem wX11_matches_b7 {p : Program} {l : Launch} {e : Env} {s : State} {m : MethodId} {args : Array Value} {below : List Frame} {meth : Method} {c : Code} {D : va_G} {cI cZ : ClassId} {ad : Nat → Nat} {A : Nat → Prop} {z : Int32 × St}  (C : pw_C p s m args meth c yX11_matches.cls cX11_matches 11 (some .int) D cI cZ) : ∀ (n : Nat) (x1 : Int32) (x2 : Int32) (x3 : Int32) (x4 : Int32) (x5 : Int32) (σ : St) (H : Heap) (locs : List Loc) (ls : Array Slot), pw_H D (pw_w shM cI cZ ad σ) A s.heap H locs → lv_has ls 11 [(0, .ref (ad 0)), (1, .int x1), (2, .int x2), (3, .int x3), (4, .int x4), (5, .int x5)] → fX11_matches_b7  n x1 x2 x3 x4 x5 σ = some z → W p l e (pw_rm 1) s m args below meth c H locs 0 0 (pw_QI below args s D (pw_w shM cI cZ ad) A z) (F0 m 7 ls []) := by
  obtain ⟨hx, hb, hr, hts, hown, hlk, hml, hK, hN⟩ := id C
  intro n
  induction n with
  | zero =>
    intro x1 x2 x3 x4 x5 σ H locs ls hw hl h
    exact absurd h (by simp [fX11_matches_b7])
  | succ n ih =>
    intro x1 x2 x3 x4 x5 σ H locs ls hw hl h
    rw [fX11_matches_b7] at h
    refine lv_iload hx hb dX11_matches_7 (lv_at hl 5 rfl) ?_
    refine lv_bipush (v := 100) hx hb dX11_matches_9 (by decide) ?_
    refine lv_icmp_gt (tgt := 231) hx hb dX11_matches_11 (by decide) (fun hc => ?_) (fun hc => ?_)
    · replace h := pw_t hc h
      refine lv_iload hx hb dX11_matches_231 (lv_at hl 4 rfl) ?_
      exact r_iret C hw dX11_matches_233 h
    · replace h := pw_f hc h
      refine lv_iconst (v := 0) hx hb dX11_matches_14 (by decide) ?_
      refine lv_istore (lv' := [(6, .int 0), (0, .ref (ad 0)), (1, .int x1), (2, .int x2), (3, .int x3), (4, .int x4), (5, .int x5)]) hx hb dX11_matches_15 hl (by decide) rfl (fun ls hl => ?_)
      refine lv_iconst (v := 0) hx hb dX11_matches_17 (by decide) ?_
      refine lv_istore (lv' := [(7, .int 0), (6, .int 0), (0, .ref (ad 0)), (1, .int x1), (2, .int x2), (3, .int x3), (4, .int x4), (5, .int x5)]) hx hb dX11_matches_18 hl (by decide) rfl (fun ls hl => ?_)
      refine lv_iconst (v := 0) hx hb dX11_matches_20 (by decide) ?_
      refine lv_istore (lv' := [(8, .int 0), (7, .int 0), (6, .int 0), (0, .ref (ad 0)), (1, .int x1), (2, .int x2), (3, .int x3), (4, .int x4), (5, .int x5)]) hx hb dX11_matches_21 hl (by decide) rfl (fun ls hl => ?_)
      refine lv_iconst (v := 0) hx hb dX11_matches_23 (by decide) ?_
      refine lv_istore (lv' := [(9, .int 0), (8, .int 0), (7, .int 0), (6, .int 0), (0, .ref (ad 0)), (1, .int x1), (2, .int x2), (3, .int x3), (4, .int x4), (5, .int x5)]) hx hb dX11_matches_24 hl (by decide) rfl (fun ls hl => ?_)
      exact wX11_matches_b26 C ih _ _ _ _ _ _ _ _ _ _ _ _ _ _ hw (lv_sub hl [4, 5, 6, 7, 8, 9, 3, 2, 1, 0] rfl) h
set_option maxRecDepth 100000 in
set_option maxHeartbeats 4000000 in
theorem kX11_matches (l : Launch) (D : va_G) (cI cZ : ClassId) (ad : Nat → Nat) (x1 : Int32) (x2 : Int32) (x3 : Int32) (σ : St) (z : Int32 × St) (h : fX11_matches x1 x2 x3 σ = some z) : pw_MI l D shM cI cZ ad yX11_matches cX11_matches 11 (some .int) (pw_rm 1) [.ref (ad 0), .int x1, .int x2, .int x3] σ z.1 z.2 := by
  refine pw_ofI (by decide) (Nat.le_of_ble_eq_true rfl) ?_
  intro p e s m args below meth c A C hw ls hl
  obtain ⟨hx, hb, hr, hts, hown, hlk, hml, hK, hN⟩ := id C
  have hl : lv_has ls 11 [(0, .ref (ad 0)), (1, .int x1), (2, .int x2), (3, .int x3)] := hl
  unfold fX11_matches at h
  refine lv_bipush (v := (-9)) hx hb dX11_matches_0 (by decide) ?_
  refine lv_istore (lv' := [(4, .int (-9)), (0, .ref (ad 0)), (1, .int x1), (2, .int x2), (3, .int x3)]) hx hb dX11_matches_2 hl (by decide) rfl (fun ls hl => ?_)
  refine lv_iconst (v := 0) hx hb dX11_matches_4 (by decide) ?_
  refine lv_istore (lv' := [(5, .int 0), (4, .int (-9)), (0, .ref (ad 0)), (1, .int x1), (2, .int x2), (3, .int x3)]) hx hb dX11_matches_5 hl (by decide) rfl (fun ls hl => ?_)
  exact wX11_matches_b7 C  _ _ _ _ _ _ _ _ _ _ hw (lv_sub hl [2, 3, 4, 5, 1, 0] rfl) h
set_option maxRecDepth 100000 in
set_option maxHeartbeats 4000000 in
theorem kX11_service (l : Launch) (D : va_G) (cI cZ : ClassId) (ad : Nat → Nat) (x1 : Int32) (x2 : Int32) (x3 : Int32) (σ : St) (z : Int32 × St) (h : fX11_service x1 x2 x3 σ = some z) : pw_MI l D shM cI cZ ad yX11_service cX11_service 5 (some .int) (pw_rm 2) [.ref (ad 0), .int x1, .int x2, .int x3] σ z.1 z.2 := by
  refine pw_ofI (by decide) (Nat.le_of_ble_eq_true rfl) ?_
  intro p e s m args below meth c A C hw ls hl
  obtain ⟨hx, hb, hr, hts, hown, hlk, hml, hK, hN⟩ := id C
  have hl : lv_has ls 5 [(0, .ref (ad 0)), (1, .int x1), (2, .int x2), (3, .int x3)] := hl
  unfold fX11_service at h
  refine lv_aload_n hx hb dX11_service_0 rfl (lv_at hl 0 rfl) ?_
  refine lv_iload_n hx hb dX11_service_1 rfl (lv_at hl 1 rfl) ?_
  refine lv_iload_n hx hb dX11_service_2 rfl (lv_at hl 2 rfl) ?_
  refine lv_iload_n hx hb dX11_service_3 rfl (lv_at hl 3 rfl) ?_
  obtain ⟨v3, σ2, e1, h⟩ := cal_some h
  refine r_cVI C hw (As := [.int x1, .int x2, .int x3]) (rest := []) (kX11_wrongService l D cI cZ ad _ _ _ _ _ e1) YX11_wrongService ml_X11_235 qM_0 clsX11 (pw_rmOK (by omega) (by decide)) rfl hl.1 rfl (Nat.le_of_ble_eq_true rfl) dX11_service_4 ⟨Nat.zero_le _, Nat.zero_le _⟩ (fun H locs hw => ?_)
  refine lv_istore (lv' := [(4, .int v3), (0, .ref (ad 0)), (1, .int x1), (2, .int x2), (3, .int x3)]) hx hb dX11_service_7 hl (by decide) rfl (fun ls hl => ?_)
  refine lv_iload hx hb dX11_service_9 (lv_at hl 0 rfl) ?_
  refine lv_if_eq (tgt := 23) hx hb dX11_service_11 (by decide) (fun hc => ?_) (fun hc => ?_)
  · replace h := pw_t hc h
    refine lv_aload_n hx hb dX11_service_23 rfl (lv_at hl 1 rfl) ?_
    refine lv_iload_n hx hb dX11_service_24 rfl (lv_at hl 2 rfl) ?_
    refine lv_iload_n hx hb dX11_service_25 rfl (lv_at hl 3 rfl) ?_
    refine lv_iload_n hx hb dX11_service_26 rfl (lv_at hl 4 rfl) ?_
    obtain ⟨v6, σ5, e4, h⟩ := cal_some h
    refine r_cVI C hw (As := [.int x1, .int x2, .int x3]) (rest := []) (kX11_matches l D cI cZ ad _ _ _ _ _ e4) YX11_matches ml_X11_238 qM_0 clsX11 (pw_rmOK (by omega) (by decide)) rfl hl.1 rfl (Nat.le_of_ble_eq_true rfl) dX11_service_27 ⟨Nat.zero_le _, Nat.zero_le _⟩ (fun H locs hw => ?_)
    exact r_iret C hw dX11_service_30 h
  · replace h := pw_f hc h
    refine lv_aload_n hx hb dX11_service_14 rfl (lv_at hl 1 rfl) ?_
    refine lv_iload hx hb dX11_service_15 (lv_at hl 0 rfl) ?_
    obtain ⟨v9, σ8, e7, h⟩ := cal_some h
    refine r_cVI C hw (As := [.int v3]) (rest := []) (kX11_refuse l D cI cZ ad _ _ _ e7) YX11_refuse ml_X11_152 qM_0 clsX11 (pw_rmOK (by omega) (by decide)) rfl hl.1 rfl (Nat.le_of_ble_eq_true rfl) dX11_service_17 ⟨Nat.zero_le _, Nat.zero_le _⟩ (fun H locs hw => ?_)
    refine lv_goto (tgt := 30) hx hb dX11_service_20 (by decide) ?_
    exact r_iret C hw dX11_service_30 h
set_option maxRecDepth 100000 in
set_option maxHeartbeats 4000000 in
theorem wX11_matched_b45 {p : Program} {l : Launch} {e : Env} {s : State} {m : MethodId} {args : Array Value} {below : List Frame} {meth : Method} {c : Code} {D : va_G} {cI cZ : ClassId} {ad : Nat → Nat} {A : Nat → Prop} {z : Int32 × St}  (C : pw_C p s m args meth c yX11_matched.cls cX11_matched 8 (some .int) D cI cZ) : ∀ (n : Nat) (x4 : Int32) (x6 : Int32) (x7 : Int32) (σ : St) (H : Heap) (locs : List Loc) (ls : Array Slot), pw_H D (pw_w shM cI cZ ad σ) A s.heap H locs → lv_has ls 8 [(0, .ref (ad 0)), (4, .int x4), (6, .int x6), (7, .int x7)] → fX11_matched_b45  n x4 x6 x7 σ = some z → W p l e (pw_rm 2) s m args below meth c H locs 0 0 (pw_QI below args s D (pw_w shM cI cZ ad) A z) (F0 m 45 ls []) := by
  obtain ⟨hx, hb, hr, hts, hown, hlk, hml, hK, hN⟩ := id C
  intro n
  induction n with
  | zero =>
    intro x4 x6 x7 σ H locs ls hw hl h
    exact absurd h (by simp [fX11_matched_b45])
  | succ n ih =>
    intro x4 x6 x7 σ H locs ls hw hl h
    rw [fX11_matched_b45] at h
    refine lv_iload hx hb dX11_matched_45 (lv_at hl 3 rfl) ?_
    refine lv_aload_n hx hb dX11_matched_47 rfl (lv_at hl 0 rfl) ?_
    refine r_get C hw qM_0 clsX11 18 rfl (by decide) fl_X11_174 dX11_matched_48 (v := .int (σ 0 18)) rfl ?_
    refine lv_icmp_ge (tgt := 86) hx hb dX11_matched_51 (by decide) (fun hc => ?_) (fun hc => ?_)
    · replace h := pw_t hc h
      refine lv_bipush (v := (-9)) hx hb dX11_matched_86 (by decide) ?_
      exact r_iret C hw dX11_matched_88 h
    · replace h := pw_f hc h
      refine lv_aload_n hx hb dX11_matched_54 rfl (lv_at hl 0 rfl) ?_
      refine r_get C hw qM_0 clsX11 40 rfl (by decide) fl_X11_101 dX11_matched_55 (v := .ref (ad 31)) rfl ?_
      refine lv_iload hx hb dX11_matched_58 (lv_at hl 3 rfl) ?_
      refine r_zald C hw qM_31 dX11_matched_60 h (fun v1 h => ?_)
      refine lv_if_ne (tgt := 67) hx hb dX11_matched_61 (by decide) (fun hc => ?_) (fun hc => ?_)
      · replace h := pw_f hc h
        refine lv_iload hx hb dX11_matched_67 (lv_at hl 2 rfl) ?_
        refine lv_iload hx hb dX11_matched_69 (lv_at hl 1 rfl) ?_
        refine lv_icmp_ne (tgt := 77) hx hb dX11_matched_71 (by decide) (fun hc => ?_) (fun hc => ?_)
        · replace h := pw_f hc h
          refine lv_iinc (v := (x6 + 1)) (lv' := [(6, .int (x6 + 1)), (0, .ref (ad 0)), (4, .int x4), (7, .int x7)]) hx hb dX11_matched_77 hl (k := 2) rfl rfl (by decide) rfl (fun ls hl => ?_)
          refine lv_iinc (v := (x7 + 1)) (lv' := [(7, .int (x7 + 1)), (6, .int (x6 + 1)), (0, .ref (ad 0)), (4, .int x4)]) hx hb dX11_matched_80 hl (k := 3) rfl rfl (by decide) rfl (fun ls hl => ?_)
          refine lv_goto (tgt := 45) hx hb dX11_matched_83 (by decide) ?_
          exact ih _ _ _ _ _ _ _ hw (lv_sub hl [2, 3, 1, 0] rfl) h
        · replace h := pw_t hc h
          refine lv_iload hx hb dX11_matched_74 (lv_at hl 3 rfl) ?_
          exact r_iret C hw dX11_matched_76 h
      · replace h := pw_t hc h
        refine lv_goto (tgt := 80) hx hb dX11_matched_64 (by decide) ?_
        refine lv_iinc (v := (x7 + 1)) (lv' := [(7, .int (x7 + 1)), (0, .ref (ad 0)), (4, .int x4), (6, .int x6)]) hx hb dX11_matched_80 hl (k := 3) rfl rfl (by decide) rfl (fun ls hl => ?_)
        refine lv_goto (tgt := 45) hx hb dX11_matched_83 (by decide) ?_
        exact ih _ _ _ _ _ _ _ hw (lv_sub hl [1, 2, 3, 0] rfl) h
set_option maxRecDepth 100000 in
set_option maxHeartbeats 4000000 in
theorem kX11_matched (l : Launch) (D : va_G) (cI cZ : ClassId) (ad : Nat → Nat) (x1 : Int32) (x2 : Int32) (x3 : Int32) (x4 : Int32) (σ : St) (z : Int32 × St) (h : fX11_matched x1 x2 x3 x4 σ = some z) : pw_MI l D shM cI cZ ad yX11_matched cX11_matched 8 (some .int) (pw_rm 2) [.ref (ad 0), .int x1, .int x2, .int x3, .int x4] σ z.1 z.2 := by
  refine pw_ofI (by decide) (Nat.le_of_ble_eq_true rfl) ?_
  intro p e s m args below meth c A C hw ls hl
  obtain ⟨hx, hb, hr, hts, hown, hlk, hml, hK, hN⟩ := id C
  have hl : lv_has ls 8 [(0, .ref (ad 0)), (1, .int x1), (2, .int x2), (3, .int x3), (4, .int x4)] := hl
  unfold fX11_matched at h
  refine lv_aload_n hx hb dX11_matched_0 rfl (lv_at hl 0 rfl) ?_
  refine lv_iload_n hx hb dX11_matched_1 rfl (lv_at hl 1 rfl) ?_
  refine lv_iload_n hx hb dX11_matched_2 rfl (lv_at hl 2 rfl) ?_
  refine lv_iload_n hx hb dX11_matched_3 rfl (lv_at hl 3 rfl) ?_
  obtain ⟨v4, σ3, e2, h⟩ := cal_some h
  refine r_cVI C hw (As := [.int x1, .int x2, .int x3]) (rest := []) (kX11_wrongService l D cI cZ ad _ _ _ _ _ e2) YX11_wrongService ml_X11_235 qM_0 clsX11 (pw_rmOK (by omega) (by decide)) rfl hl.1 rfl (Nat.le_of_ble_eq_true rfl) dX11_matched_4 ⟨Nat.zero_le _, Nat.zero_le _⟩ (fun H locs hw => ?_)
  refine lv_istore (lv' := [(5, .int v4), (0, .ref (ad 0)), (1, .int x1), (2, .int x2), (3, .int x3), (4, .int x4)]) hx hb dX11_matched_7 hl (by decide) rfl (fun ls hl => ?_)
  refine lv_iload hx hb dX11_matched_9 (lv_at hl 0 rfl) ?_
  refine lv_if_eq (tgt := 21) hx hb dX11_matched_11 (by decide) (fun hc => ?_) (fun hc => ?_)
  · replace h := pw_t hc h
    refine lv_aload_n hx hb dX11_matched_21 rfl (lv_at hl 1 rfl) ?_
    refine lv_iload_n hx hb dX11_matched_22 rfl (lv_at hl 2 rfl) ?_
    refine lv_iload_n hx hb dX11_matched_23 rfl (lv_at hl 3 rfl) ?_
    refine lv_iload_n hx hb dX11_matched_24 rfl (lv_at hl 4 rfl) ?_
    obtain ⟨v7, σ6, e5, h⟩ := cal_some h
    refine r_cVI C hw (As := [.int x1, .int x2, .int x3]) (rest := []) (kX11_matches l D cI cZ ad _ _ _ _ _ e5) YX11_matches ml_X11_238 qM_0 clsX11 (pw_rmOK (by omega) (by decide)) rfl hl.1 rfl (Nat.le_of_ble_eq_true rfl) dX11_matched_25 ⟨Nat.zero_le _, Nat.zero_le _⟩ (fun H locs hw => ?_)
    refine lv_if_lt (tgt := 36) hx hb dX11_matched_28 (by decide) (fun hc => ?_) (fun hc => ?_)
    · replace h := pw_t hc h
      refine lv_bipush (v := (-9)) hx hb dX11_matched_36 (by decide) ?_
      exact r_iret C hw dX11_matched_38 h
    · replace h := pw_f hc h
      refine lv_iload hx hb dX11_matched_31 (lv_at hl 5 rfl) ?_
      refine lv_if_ge (tgt := 39) hx hb dX11_matched_33 (by decide) (fun hc => ?_) (fun hc => ?_)
      · replace h := pw_t hc h
        refine lv_iconst (v := 0) hx hb dX11_matched_39 (by decide) ?_
        refine lv_istore (lv' := [(6, .int 0), (5, .int v4), (0, .ref (ad 0)), (1, .int x1), (2, .int x2), (3, .int x3), (4, .int x4)]) hx hb dX11_matched_40 hl (by decide) rfl (fun ls hl => ?_)
        refine lv_iconst (v := 0) hx hb dX11_matched_42 (by decide) ?_
        refine lv_istore (lv' := [(7, .int 0), (6, .int 0), (5, .int v4), (0, .ref (ad 0)), (1, .int x1), (2, .int x2), (3, .int x3), (4, .int x4)]) hx hb dX11_matched_43 hl (by decide) rfl (fun ls hl => ?_)
        exact wX11_matched_b45 C  _ _ _ _ _ _ _ _ hw (lv_sub hl [3, 7, 1, 0] rfl) h
      · replace h := pw_f hc h
        refine lv_bipush (v := (-9)) hx hb dX11_matched_36 (by decide) ?_
        exact r_iret C hw dX11_matched_38 h
  · replace h := pw_f hc h
    refine lv_aload_n hx hb dX11_matched_14 rfl (lv_at hl 1 rfl) ?_
    refine lv_iload hx hb dX11_matched_15 (lv_at hl 0 rfl) ?_
    obtain ⟨v10, σ9, e8, h⟩ := cal_some h
    refine r_cVI C hw (As := [.int v4]) (rest := []) (kX11_refuse l D cI cZ ad _ _ _ e8) YX11_refuse ml_X11_152 qM_0 clsX11 (pw_rmOK (by omega) (by decide)) rfl hl.1 rfl (Nat.le_of_ble_eq_true rfl) dX11_matched_17 ⟨Nat.zero_le _, Nat.zero_le _⟩ (fun H locs hw => ?_)
    exact r_iret C hw dX11_matched_20 h
set_option maxRecDepth 100000 in
set_option maxHeartbeats 4000000 in
theorem wX11_sell_b43 {p : Program} {l : Launch} {e : Env} {s : State} {m : MethodId} {args : Array Value} {below : List Frame} {meth : Method} {c : Code} {D : va_G} {cI cZ : ClassId} {ad : Nat → Nat} {A : Nat → Prop} {z : Int32 × St}  (C : pw_C p s m args meth c yX11_sell.cls cX11_sell 6 (some .int) D cI cZ) : ∀ (n : Nat) (x2 : Int32) (x5 : Int32) (σ : St) (H : Heap) (locs : List Loc) (ls : Array Slot), pw_H D (pw_w shM cI cZ ad σ) A s.heap H locs → lv_has ls 6 [(0, .ref (ad 0)), (2, .int x2), (5, .int x5)] → fX11_sell_b43  n x2 x5 σ = some z → W p l e (pw_rm 2) s m args below meth c H locs 0 0 (pw_QI below args s D (pw_w shM cI cZ ad) A z) (F0 m 43 ls []) := by
  obtain ⟨hx, hb, hr, hts, hown, hlk, hml, hK, hN⟩ := id C
  intro n
  induction n with
  | zero =>
    intro x2 x5 σ H locs ls hw hl h
    exact absurd h (by simp [fX11_sell_b43])
  | succ n ih =>
    intro x2 x5 σ H locs ls hw hl h
    rw [fX11_sell_b43] at h
    refine lv_iload hx hb dX11_sell_43 (lv_at hl 2 rfl) ?_
    refine lv_aload_n hx hb dX11_sell_45 rfl (lv_at hl 0 rfl) ?_
    refine r_get C hw qM_0 clsX11 18 rfl (by decide) fl_X11_174 dX11_sell_46 (v := .int (σ 0 18)) rfl ?_
    refine lv_icmp_ge (tgt := 76) hx hb dX11_sell_49 (by decide) (fun hc => ?_) (fun hc => ?_)
    · replace h := pw_t hc h
      refine lv_iload_n hx hb dX11_sell_76 rfl (lv_at hl 1 rfl) ?_
      exact r_iret C hw dX11_sell_77 h
    · replace h := pw_f hc h
      refine lv_aload_n hx hb dX11_sell_52 rfl (lv_at hl 0 rfl) ?_
      refine r_get C hw qM_0 clsX11 40 rfl (by decide) fl_X11_101 dX11_sell_53 (v := .ref (ad 31)) rfl ?_
      refine lv_iload hx hb dX11_sell_56 (lv_at hl 2 rfl) ?_
      refine r_zald C hw qM_31 dX11_sell_58 h (fun v1 h => ?_)
      refine lv_if_eq (tgt := 70) hx hb dX11_sell_59 (by decide) (fun hc => ?_) (fun hc => ?_)
      · replace h := pw_t hc h
        refine lv_iinc (v := (x5 + 1)) (lv' := [(5, .int (x5 + 1)), (0, .ref (ad 0)), (2, .int x2)]) hx hb dX11_sell_70 hl (k := 2) rfl rfl (by decide) rfl (fun ls hl => ?_)
        refine lv_goto (tgt := 43) hx hb dX11_sell_73 (by decide) ?_
        exact ih _ _ _ _ _ _ hw (lv_sub hl [1, 2, 0] rfl) h
      · replace h := pw_f hc h
        refine lv_aload_n hx hb dX11_sell_62 rfl (lv_at hl 0 rfl) ?_
        refine r_get C hw qM_0 clsX11 8 rfl (by decide) fl_X11_34 dX11_sell_63 (v := .ref (ad 9)) rfl ?_
        refine lv_iload hx hb dX11_sell_66 (lv_at hl 2 rfl) ?_
        refine lv_iconst (v := 4) hx hb dX11_sell_68 (by decide) ?_
        refine r_iast C hw qM_9 dX11_sell_69 h (fun σ2 H locs hw h => ?_)
        refine lv_iinc (v := (x5 + 1)) (lv' := [(5, .int (x5 + 1)), (0, .ref (ad 0)), (2, .int x2)]) hx hb dX11_sell_70 hl (k := 2) rfl rfl (by decide) rfl (fun ls hl => ?_)
        refine lv_goto (tgt := 43) hx hb dX11_sell_73 (by decide) ?_
        exact ih _ _ _ _ _ _ hw (lv_sub hl [1, 2, 0] rfl) h
set_option maxRecDepth 100000 in
set_option maxHeartbeats 4000000 in
theorem wX11_sell_b28 {p : Program} {l : Launch} {e : Env} {s : State} {m : MethodId} {args : Array Value} {below : List Frame} {meth : Method} {c : Code} {D : va_G} {cI cZ : ClassId} {ad : Nat → Nat} {A : Nat → Prop} {z : Int32 × St}  (C : pw_C p s m args meth c yX11_sell.cls cX11_sell 6 (some .int) D cI cZ) : ∀ (x2 : Int32) (x4 : Int32) (σ : St) (H : Heap) (locs : List Loc) (ls : Array Slot), pw_H D (pw_w shM cI cZ ad σ) A s.heap H locs → lv_has ls 6 [(0, .ref (ad 0)), (2, .int x2), (4, .int x4)] → fX11_sell_b28  x2 x4 σ = some z → W p l e (pw_rm 2) s m args below meth c H locs 0 0 (pw_QI below args s D (pw_w shM cI cZ ad) A z) (F0 m 28 ls []) := by
  obtain ⟨hx, hb, hr, hts, hown, hlk, hml, hK, hN⟩ := id C
  intro x2 x4 σ H locs ls hw hl h
  unfold fX11_sell_b28 at h
  refine lv_iload hx hb dX11_sell_28 (lv_at hl 2 rfl) ?_
  refine lv_if_eq (tgt := 40) hx hb dX11_sell_30 (by decide) (fun hc => ?_) (fun hc => ?_)
  · replace h := pw_t hc h
    refine lv_iconst (v := 0) hx hb dX11_sell_40 (by decide) ?_
    refine lv_istore (lv' := [(5, .int 0), (0, .ref (ad 0)), (2, .int x2), (4, .int x4)]) hx hb dX11_sell_41 hl (by decide) rfl (fun ls hl => ?_)
    exact wX11_sell_b43 C  _ _ _ _ _ _ _ hw (lv_sub hl [1, 2, 0] rfl) h
  · replace h := pw_f hc h
    refine lv_aload_n hx hb dX11_sell_33 rfl (lv_at hl 0 rfl) ?_
    refine lv_iload hx hb dX11_sell_34 (lv_at hl 2 rfl) ?_
    obtain ⟨v5, σ4, e3, h⟩ := cal_some h
    refine r_cVI C hw (As := [.int x4]) (rest := []) (kX11_refuse l D cI cZ ad _ _ _ e3) YX11_refuse ml_X11_152 qM_0 clsX11 (pw_rmOK (by omega) (by decide)) rfl hl.1 rfl (Nat.le_of_ble_eq_true rfl) dX11_sell_36 ⟨Nat.zero_le _, Nat.zero_le _⟩ (fun H locs hw => ?_)
    exact r_iret C hw dX11_sell_39 h
set_option maxRecDepth 100000 in
set_option maxHeartbeats 4000000 in
theorem kX11_sell (l : Launch) (D : va_G) (cI cZ : ClassId) (ad : Nat → Nat) (x1 : Int32) (x2 : Int32) (x3 : Int32) (σ : St) (z : Int32 × St) (h : fX11_sell x1 x2 x3 σ = some z) : pw_MI l D shM cI cZ ad yX11_sell cX11_sell 6 (some .int) (pw_rm 2) [.ref (ad 0), .int x1, .int x2, .int x3] σ z.1 z.2 := by
  refine pw_ofI (by decide) (Nat.le_of_ble_eq_true rfl) ?_
  intro p e s m args below meth c A C hw ls hl
  obtain ⟨hx, hb, hr, hts, hown, hlk, hml, hK, hN⟩ := id C
  have hl : lv_has ls 6 [(0, .ref (ad 0)), (1, .int x1), (2, .int x2), (3, .int x3)] := hl
  unfold fX11_sell at h
  refine lv_aload_n hx hb dX11_sell_0 rfl (lv_at hl 0 rfl) ?_
  refine lv_iload_n hx hb dX11_sell_1 rfl (lv_at hl 1 rfl) ?_
  refine lv_iload_n hx hb dX11_sell_2 rfl (lv_at hl 2 rfl) ?_
  refine lv_iload_n hx hb dX11_sell_3 rfl (lv_at hl 3 rfl) ?_
  obtain ⟨v8, σ7, e6, h⟩ := cal_some h
  refine r_cVI C hw (As := [.int x1, .int x2, .int x3]) (rest := []) (kX11_wrongService l D cI cZ ad _ _ _ _ _ e6) YX11_wrongService ml_X11_235 qM_0 clsX11 (pw_rmOK (by omega) (by decide)) rfl hl.1 rfl (Nat.le_of_ble_eq_true rfl) dX11_sell_4 ⟨Nat.zero_le _, Nat.zero_le _⟩ (fun H locs hw => ?_)
  refine lv_istore (lv' := [(4, .int v8), (0, .ref (ad 0)), (1, .int x1), (2, .int x2), (3, .int x3)]) hx hb dX11_sell_7 hl (by decide) rfl (fun ls hl => ?_)
  refine lv_iload hx hb dX11_sell_9 (lv_at hl 0 rfl) ?_
  refine lv_if_ne (tgt := 28) hx hb dX11_sell_11 (by decide) (fun hc => ?_) (fun hc => ?_)
  · replace h := pw_f hc h
    exact wX11_sell_b28 C  _ _ _ _ _ _ hw (lv_sub hl [1, 3, 0] rfl) h
  · replace h := pw_t hc h
    refine lv_aload_n hx hb dX11_sell_14 rfl (lv_at hl 1 rfl) ?_
    refine lv_iload_n hx hb dX11_sell_15 rfl (lv_at hl 2 rfl) ?_
    refine lv_iload_n hx hb dX11_sell_16 rfl (lv_at hl 3 rfl) ?_
    refine lv_iload_n hx hb dX11_sell_17 rfl (lv_at hl 4 rfl) ?_
    obtain ⟨v11, σ10, e9, h⟩ := cal_some h
    refine r_cVI C hw (As := [.int x1, .int x2, .int x3]) (rest := []) (kX11_matches l D cI cZ ad _ _ _ _ _ e9) YX11_matches ml_X11_238 qM_0 clsX11 (pw_rmOK (by omega) (by decide)) rfl hl.1 rfl (Nat.le_of_ble_eq_true rfl) dX11_sell_18 ⟨Nat.zero_le _, Nat.zero_le _⟩ (fun H locs hw => ?_)
    refine lv_if_ge (tgt := 28) hx hb dX11_sell_21 (by decide) (fun hc => ?_) (fun hc => ?_)
    · replace h := pw_t hc h
      exact wX11_sell_b28 C  _ _ _ _ _ _ hw (lv_sub hl [1, 3, 0] rfl) h
    · replace h := pw_f hc h
      refine lv_bipush (v := (-3)) hx hb dX11_sell_24 (by decide) ?_
      refine lv_istore (lv' := [(4, .int (-3)), (0, .ref (ad 0)), (1, .int x1), (2, .int x2), (3, .int x3)]) hx hb dX11_sell_26 hl (by decide) rfl (fun ls hl => ?_)
      exact wX11_sell_b28 C  _ _ _ _ _ _ hw (lv_sub hl [1, 3, 0] rfl) h
set_option maxRecDepth 100000 in
set_option maxHeartbeats 4000000 in
theorem wX11_begins_b2 {p : Program} {l : Launch} {e : Env} {s : State} {m : MethodId} {args : Array Value} {below : List Frame} {meth : Method} {c : Code} {D : va_G} {cI cZ : ClassId} {ad : Nat → Nat} {A : Nat → Prop} {z : Int32 × St}  (C : pw_C p s m args meth c yX11_begins.cls cX11_begins 2 none D cI cZ) : ∀ (n : Nat) (x1 : Int32) (σ : St) (H : Heap) (locs : List Loc) (ls : Array Slot), pw_H D (pw_w shM cI cZ ad σ) A s.heap H locs → lv_has ls 2 [(0, .ref (ad 0)), (1, .int x1)] → fX11_begins_b2  n x1 σ = some z → W p l e (pw_rm 0) s m args below meth c H locs 0 0 (pw_QV below args s D (pw_w shM cI cZ ad) A z) (F0 m 2 ls []) := by
  obtain ⟨hx, hb, hr, hts, hown, hlk, hml, hK, hN⟩ := id C
  intro n
  induction n with
  | zero =>
    intro x1 σ H locs ls hw hl h
    exact absurd h (by simp [fX11_begins_b2])
  | succ n ih =>
    intro x1 σ H locs ls hw hl h
    rw [fX11_begins_b2] at h
    refine lv_iload_n hx hb dX11_begins_2 rfl (lv_at hl 1 rfl) ?_
    refine lv_sipush (v := 202) hx hb dX11_begins_3 (by decide) ?_
    refine lv_icmp_ge (tgt := 22) hx hb dX11_begins_6 (by decide) (fun hc => ?_) (fun hc => ?_)
    · replace h := pw_t hc h
      refine lv_aload_n hx hb dX11_begins_22 rfl (lv_at hl 0 rfl) ?_
      refine r_get C hw qM_0 clsX11 42 rfl (by decide) fl_X11_108 dX11_begins_23 (v := .ref (ad 33)) rfl ?_
      refine lv_iconst (v := 0) hx hb dX11_begins_26 (by decide) ?_
      refine lv_ldc (v := 1048576) hx hb hown (hts _ ct_X11_241) dX11_begins_27 ?_
      refine r_iast C hw qM_33 dX11_begins_29 h (fun σ1 H locs hw h => ?_)
      exact r_vret C hw dX11_begins_30 h
    · replace h := pw_f hc h
      refine lv_aload_n hx hb dX11_begins_9 rfl (lv_at hl 0 rfl) ?_
      refine r_get C hw qM_0 clsX11 42 rfl (by decide) fl_X11_108 dX11_begins_10 (v := .ref (ad 33)) rfl ?_
      refine lv_iload_n hx hb dX11_begins_13 rfl (lv_at hl 1 rfl) ?_
      refine lv_iconst (v := 0) hx hb dX11_begins_14 (by decide) ?_
      refine r_iast C hw qM_33 dX11_begins_15 h (fun σ2 H locs hw h => ?_)
      refine lv_iinc (v := (x1 + 1)) (lv' := [(1, .int (x1 + 1)), (0, .ref (ad 0))]) hx hb dX11_begins_16 hl (k := 1) rfl rfl (by decide) rfl (fun ls hl => ?_)
      refine lv_goto (tgt := 2) hx hb dX11_begins_19 (by decide) ?_
      exact ih _ _ _ _ _ hw (lv_sub hl [1, 0] rfl) h
set_option maxRecDepth 100000 in
set_option maxHeartbeats 4000000 in
theorem kX11_begins (l : Launch) (D : va_G) (cI cZ : ClassId) (ad : Nat → Nat)  (σ : St) (z : Int32 × St) (h : fX11_begins  σ = some z) : pw_MV l D shM cI cZ ad yX11_begins cX11_begins 2 none (pw_rm 0) [.ref (ad 0)] σ z.2 := by
  refine pw_ofV (by decide) (Nat.le_of_ble_eq_true rfl) ?_
  intro p e s m args below meth c A C hw ls hl
  obtain ⟨hx, hb, hr, hts, hown, hlk, hml, hK, hN⟩ := id C
  have hl : lv_has ls 2 [(0, .ref (ad 0))] := hl
  unfold fX11_begins at h
  refine lv_iconst (v := 0) hx hb dX11_begins_0 (by decide) ?_
  refine lv_istore_n (lv' := [(1, .int 0), (0, .ref (ad 0))]) hx hb dX11_begins_1 rfl hl (by decide) rfl (fun ls hl => ?_)
  exact wX11_begins_b2 C  _ _ _ _ _ _ hw (lv_sub hl [1, 0] rfl) h
set_option maxRecDepth 100000 in
set_option maxHeartbeats 4000000 in
theorem wX11_oneMore_b42 {p : Program} {l : Launch} {e : Env} {s : State} {m : MethodId} {args : Array Value} {below : List Frame} {meth : Method} {c : Code} {D : va_G} {cI cZ : ClassId} {ad : Nat → Nat} {A : Nat → Prop} {z : Int32 × St} {k4 : Int32 → Int32 → St → Option (Int32 × St)} (C : pw_C p s m args meth c yX11_oneMore.cls cX11_oneMore 5 none D cI cZ) (hk4 : ∀ (x1 : Int32) (x2 : Int32) (σ : St) (H : Heap) (locs : List Loc) (ls : Array Slot), pw_H D (pw_w shM cI cZ ad σ) A s.heap H locs → lv_has ls 5 [(0, .ref (ad 0)), (1, .int x1), (2, .int x2)] → k4 x1 x2 σ = some z → W p l e (pw_rm 0) s m args below meth c H locs 0 0 (pw_QV below args s D (pw_w shM cI cZ ad) A z) (F0 m 4 ls [])) : ∀ (x1 : Int32) (x2 : Int32) (s0 : Int64) (s1 : Int64) (σ : St) (H : Heap) (locs : List Loc) (ls : Array Slot), pw_H D (pw_w shM cI cZ ad σ) A s.heap H locs → lv_has ls 5 [(0, .ref (ad 0)), (1, .int x1), (2, .int x2)] → fX11_oneMore_b42 k4 x1 x2 s0 s1 σ = some z → W p l e (pw_rm 0) s m args below meth c H locs 0 0 (pw_QV below args s D (pw_w shM cI cZ ad) A z) (F0 m 42 ls [.long s1, .long s0]) := by
  obtain ⟨hx, hb, hr, hts, hown, hlk, hml, hK, hN⟩ := id C
  intro x1 x2 s0 s1 σ H locs ls hw hl h
  unfold fX11_oneMore_b42 at h
  refine lv_ladd hx hb dX11_oneMore_42 ?_
  refine lv_lstore_n (lv' := [(3, .long (s0 + s1)), (0, .ref (ad 0)), (1, .int x1), (2, .int x2)]) hx hb dX11_oneMore_43 rfl hl (by decide) rfl (fun ls hl => ?_)
  refine lv_aload_n hx hb dX11_oneMore_44 rfl (lv_at hl 1 rfl) ?_
  refine r_get C hw qM_0 clsX11 42 rfl (by decide) fl_X11_108 dX11_oneMore_45 (v := .ref (ad 33)) rfl ?_
  refine lv_iload_n hx hb dX11_oneMore_48 rfl (lv_at hl 3 rfl) ?_
  refine lv_lload_n hx hb dX11_oneMore_49 rfl (lv_at hl 0 rfl) ?_
  refine lv_ldc2 (v := 1024) hx hb hown (hts _ ct_X11_242) dX11_oneMore_50 ?_
  refine lv_ldiv hx hb dX11_oneMore_53 (by decide) ?_
  refine lv_l2i (v := ((s0 + s1) / 1024).toInt32) hx hb dX11_oneMore_54 rfl ?_
  refine r_iast C hw qM_33 dX11_oneMore_55 h (fun σ1 H locs hw h => ?_)
  refine lv_iinc (v := (x2 + (-1))) (lv' := [(2, .int (x2 + (-1))), (3, .long (s0 + s1)), (0, .ref (ad 0)), (1, .int x1)]) hx hb dX11_oneMore_56 hl (k := 3) rfl rfl (by decide) rfl (fun ls hl => ?_)
  refine lv_goto (tgt := 4) hx hb dX11_oneMore_59 (by decide) ?_
  exact hk4 _ _ _ _ _ _ hw (lv_sub hl [2, 3, 0] rfl) h
set_option maxRecDepth 100000 in
set_option maxHeartbeats 4000000 in
theorem wX11_oneMore_b4 {p : Program} {l : Launch} {e : Env} {s : State} {m : MethodId} {args : Array Value} {below : List Frame} {meth : Method} {c : Code} {D : va_G} {cI cZ : ClassId} {ad : Nat → Nat} {A : Nat → Prop} {z : Int32 × St}  (C : pw_C p s m args meth c yX11_oneMore.cls cX11_oneMore 5 none D cI cZ) : ∀ (n : Nat) (x1 : Int32) (x2 : Int32) (σ : St) (H : Heap) (locs : List Loc) (ls : Array Slot), pw_H D (pw_w shM cI cZ ad σ) A s.heap H locs → lv_has ls 5 [(0, .ref (ad 0)), (1, .int x1), (2, .int x2)] → fX11_oneMore_b4  n x1 x2 σ = some z → W p l e (pw_rm 0) s m args below meth c H locs 0 0 (pw_QV below args s D (pw_w shM cI cZ ad) A z) (F0 m 4 ls []) := by
  obtain ⟨hx, hb, hr, hts, hown, hlk, hml, hK, hN⟩ := id C
  intro n
  induction n with
  | zero =>
    intro x1 x2 σ H locs ls hw hl h
    exact absurd h (by simp [fX11_oneMore_b4])
  | succ n ih =>
    intro x1 x2 σ H locs ls hw hl h
    rw [fX11_oneMore_b4] at h
    refine lv_iload_n hx hb dX11_oneMore_4 rfl (lv_at hl 2 rfl) ?_
    refine lv_if_lt (tgt := 62) hx hb dX11_oneMore_5 (by decide) (fun hc => ?_) (fun hc => ?_)
    · replace h := pw_t hc h
      exact r_vret C hw dX11_oneMore_62 h
    · replace h := pw_f hc h
      refine lv_aload_n hx hb dX11_oneMore_8 rfl (lv_at hl 0 rfl) ?_
      refine r_get C hw qM_0 clsX11 42 rfl (by decide) fl_X11_108 dX11_oneMore_9 (v := .ref (ad 33)) rfl ?_
      refine lv_iload_n hx hb dX11_oneMore_12 rfl (lv_at hl 2 rfl) ?_
      refine r_iald C hw qM_33 dX11_oneMore_13 h (fun v2 h => ?_)
      refine lv_i2l (v := (v2).toInt64) hx hb dX11_oneMore_14 rfl ?_
      refine lv_sipush (v := 1024) hx hb dX11_oneMore_15 (by decide) ?_
      refine lv_iload_n hx hb dX11_oneMore_18 rfl (lv_at hl 1 rfl) ?_
      refine lv_isub hx hb dX11_oneMore_19 ?_
      refine lv_i2l (v := (1024 - x1).toInt64) hx hb dX11_oneMore_20 rfl ?_
      refine lv_lmul hx hb dX11_oneMore_21 ?_
      refine lv_iload_n hx hb dX11_oneMore_22 rfl (lv_at hl 2 rfl) ?_
      refine lv_if_le (tgt := 41) hx hb dX11_oneMore_23 (by decide) (fun hc => ?_) (fun hc => ?_)
      · replace h := pw_t hc h
        refine lv_lconst (v := 0) hx hb dX11_oneMore_41 (by decide) ?_
        exact wX11_oneMore_b42 C ih _ _ _ _ _ _ _ _ hw (lv_sub hl [0, 1, 2] rfl) h
      · replace h := pw_f hc h
        refine lv_aload_n hx hb dX11_oneMore_26 rfl (lv_at hl 0 rfl) ?_
        refine r_get C hw qM_0 clsX11 42 rfl (by decide) fl_X11_108 dX11_oneMore_27 (v := .ref (ad 33)) rfl ?_
        refine lv_iload_n hx hb dX11_oneMore_30 rfl (lv_at hl 2 rfl) ?_
        refine lv_iconst (v := 1) hx hb dX11_oneMore_31 (by decide) ?_
        refine lv_isub hx hb dX11_oneMore_32 ?_
        refine r_iald C hw qM_33 dX11_oneMore_33 h (fun v3 h => ?_)
        refine lv_i2l (v := (v3).toInt64) hx hb dX11_oneMore_34 rfl ?_
        refine lv_iload_n hx hb dX11_oneMore_35 rfl (lv_at hl 1 rfl) ?_
        refine lv_i2l (v := (x1).toInt64) hx hb dX11_oneMore_36 rfl ?_
        refine lv_lmul hx hb dX11_oneMore_37 ?_
        refine lv_goto (tgt := 42) hx hb dX11_oneMore_38 (by decide) ?_
        exact wX11_oneMore_b42 C ih _ _ _ _ _ _ _ _ hw (lv_sub hl [0, 1, 2] rfl) h
set_option maxRecDepth 100000 in
set_option maxHeartbeats 4000000 in
theorem kX11_oneMore (l : Launch) (D : va_G) (cI cZ : ClassId) (ad : Nat → Nat) (x1 : Int32) (σ : St) (z : Int32 × St) (h : fX11_oneMore x1 σ = some z) : pw_MV l D shM cI cZ ad yX11_oneMore cX11_oneMore 5 none (pw_rm 0) [.ref (ad 0), .int x1] σ z.2 := by
  refine pw_ofV (by decide) (Nat.le_of_ble_eq_true rfl) ?_
  intro p e s m args below meth c A C hw ls hl
  obtain ⟨hx, hb, hr, hts, hown, hlk, hml, hK, hN⟩ := id C
  have hl : lv_has ls 5 [(0, .ref (ad 0)), (1, .int x1)] := hl
  unfold fX11_oneMore at h
  refine lv_sipush (v := 201) hx hb dX11_oneMore_0 (by decide) ?_
  refine lv_istore_n (lv' := [(2, .int 201), (0, .ref (ad 0)), (1, .int x1)]) hx hb dX11_oneMore_3 rfl hl (by decide) rfl (fun ls hl => ?_)
  exact wX11_oneMore_b4 C  _ _ _ _ _ _ _ hw (lv_sub hl [1, 2, 0] rfl) h
set_option maxRecDepth 100000 in
set_option maxHeartbeats 4000000 in
theorem wX11_orMore_b4 {p : Program} {l : Launch} {e : Env} {s : State} {m : MethodId} {args : Array Value} {below : List Frame} {meth : Method} {c : Code} {D : va_G} {cI cZ : ClassId} {ad : Nat → Nat} {A : Nat → Prop} {z : Int32 × St}  (C : pw_C p s m args meth c yX11_orMore.cls cX11_orMore 4 (some .int) D cI cZ) : ∀ (n : Nat) (x2 : Int32) (x3 : Int32) (σ : St) (H : Heap) (locs : List Loc) (ls : Array Slot), pw_H D (pw_w shM cI cZ ad σ) A s.heap H locs → lv_has ls 4 [(0, .ref (ad 0)), (2, .int x2), (3, .int x3)] → fX11_orMore_b4  n x2 x3 σ = some z → W p l e (pw_rm 0) s m args below meth c H locs 0 0 (pw_QI below args s D (pw_w shM cI cZ ad) A z) (F0 m 4 ls []) := by
  obtain ⟨hx, hb, hr, hts, hown, hlk, hml, hK, hN⟩ := id C
  intro n
  induction n with
  | zero =>
    intro x2 x3 σ H locs ls hw hl h
    exact absurd h (by simp [fX11_orMore_b4])
  | succ n ih =>
    intro x2 x3 σ H locs ls hw hl h
    rw [fX11_orMore_b4] at h
    refine lv_iload_n hx hb dX11_orMore_4 rfl (lv_at hl 2 rfl) ?_
    refine lv_sipush (v := 202) hx hb dX11_orMore_5 (by decide) ?_
    refine lv_icmp_ge (tgt := 26) hx hb dX11_orMore_8 (by decide) (fun hc => ?_) (fun hc => ?_)
    · replace h := pw_t hc h
      refine lv_iload_n hx hb dX11_orMore_26 rfl (lv_at hl 1 rfl) ?_
      exact r_iret C hw dX11_orMore_27 h
    · replace h := pw_f hc h
      refine lv_iload_n hx hb dX11_orMore_11 rfl (lv_at hl 1 rfl) ?_
      refine lv_aload_n hx hb dX11_orMore_12 rfl (lv_at hl 0 rfl) ?_
      refine r_get C hw qM_0 clsX11 42 rfl (by decide) fl_X11_108 dX11_orMore_13 (v := .ref (ad 33)) rfl ?_
      refine lv_iload_n hx hb dX11_orMore_16 rfl (lv_at hl 2 rfl) ?_
      refine r_iald C hw qM_33 dX11_orMore_17 h (fun v1 h => ?_)
      refine lv_iadd hx hb dX11_orMore_18 ?_
      refine lv_istore_n (lv' := [(2, .int (x2 + v1)), (0, .ref (ad 0)), (3, .int x3)]) hx hb dX11_orMore_19 rfl hl (by decide) rfl (fun ls hl => ?_)
      refine lv_iinc (v := (x3 + 1)) (lv' := [(3, .int (x3 + 1)), (2, .int (x2 + v1)), (0, .ref (ad 0))]) hx hb dX11_orMore_20 hl (k := 2) rfl rfl (by decide) rfl (fun ls hl => ?_)
      refine lv_goto (tgt := 4) hx hb dX11_orMore_23 (by decide) ?_
      exact ih _ _ _ _ _ _ hw (lv_sub hl [2, 1, 0] rfl) h
set_option maxRecDepth 100000 in
set_option maxHeartbeats 4000000 in
theorem kX11_orMore (l : Launch) (D : va_G) (cI cZ : ClassId) (ad : Nat → Nat) (x1 : Int32) (σ : St) (z : Int32 × St) (h : fX11_orMore x1 σ = some z) : pw_MI l D shM cI cZ ad yX11_orMore cX11_orMore 4 (some .int) (pw_rm 0) [.ref (ad 0), .int x1] σ z.1 z.2 := by
  refine pw_ofI (by decide) (Nat.le_of_ble_eq_true rfl) ?_
  intro p e s m args below meth c A C hw ls hl
  obtain ⟨hx, hb, hr, hts, hown, hlk, hml, hK, hN⟩ := id C
  have hl : lv_has ls 4 [(0, .ref (ad 0)), (1, .int x1)] := hl
  unfold fX11_orMore at h
  refine lv_iconst (v := 0) hx hb dX11_orMore_0 (by decide) ?_
  refine lv_istore_n (lv' := [(2, .int 0), (0, .ref (ad 0)), (1, .int x1)]) hx hb dX11_orMore_1 rfl hl (by decide) rfl (fun ls hl => ?_)
  refine lv_iload_n hx hb dX11_orMore_2 rfl (lv_at hl 2 rfl) ?_
  refine lv_istore_n (lv' := [(3, .int x1), (2, .int 0), (0, .ref (ad 0)), (1, .int x1)]) hx hb dX11_orMore_3 rfl hl (by decide) rfl (fun ls hl => ?_)
  exact wX11_orMore_b4 C  _ _ _ _ _ _ _ hw (lv_sub hl [2, 1, 0] rfl) h
set_option maxRecDepth 100000 in
set_option maxHeartbeats 4000000 in
theorem wX11_chance_b54 {p : Program} {l : Launch} {e : Env} {s : State} {m : MethodId} {args : Array Value} {below : List Frame} {meth : Method} {c : Code} {D : va_G} {cI cZ : ClassId} {ad : Nat → Nat} {A : Nat → Prop} {z : Int32 × St}  (C : pw_C p s m args meth c yX11_chance.cls cX11_chance 5 (some .int) D cI cZ) : ∀ (n : Nat) (x1 : Int32) (x2 : Int32) (x3 : Int32) (x4 : Int32) (σ : St) (H : Heap) (locs : List Loc) (ls : Array Slot), pw_H D (pw_w shM cI cZ ad σ) A s.heap H locs → lv_has ls 5 [(0, .ref (ad 0)), (1, .int x1), (2, .int x2), (3, .int x3), (4, .int x4)] → fX11_chance_b54  n x1 x2 x3 x4 σ = some z → W p l e (pw_rm 1) s m args below meth c H locs 0 0 (pw_QI below args s D (pw_w shM cI cZ ad) A z) (F0 m 54 ls []) := by
  obtain ⟨hx, hb, hr, hts, hown, hlk, hml, hK, hN⟩ := id C
  intro n
  induction n with
  | zero =>
    intro x1 x2 x3 x4 σ H locs ls hw hl h
    exact absurd h (by simp [fX11_chance_b54])
  | succ n ih =>
    intro x1 x2 x3 x4 σ H locs ls hw hl h
    rw [fX11_chance_b54] at h
    refine lv_iload hx hb dX11_chance_54 (lv_at hl 4 rfl) ?_
    refine lv_iload_n hx hb dX11_chance_56 rfl (lv_at hl 1 rfl) ?_
    refine lv_icmp_ge (tgt := 71) hx hb dX11_chance_57 (by decide) (fun hc => ?_) (fun hc => ?_)
    · replace h := pw_t hc h
      refine lv_aload_n hx hb dX11_chance_71 rfl (lv_at hl 0 rfl) ?_
      refine lv_iload_n hx hb dX11_chance_72 rfl (lv_at hl 2 rfl) ?_
      obtain ⟨v3, σ2, e1, h⟩ := cal_some h
      refine r_cVI C hw (As := [.int x2]) (rest := []) (kX11_orMore l D cI cZ ad _ _ _ e1) YX11_orMore ml_X11_250 qM_0 clsX11 (pw_rmOK (by omega) (by decide)) rfl hl.1 rfl (Nat.le_of_ble_eq_true rfl) dX11_chance_73 ⟨Nat.zero_le _, Nat.zero_le _⟩ (fun H locs hw => ?_)
      exact r_iret C hw dX11_chance_76 h
    · replace h := pw_f hc h
      refine lv_aload_n hx hb dX11_chance_60 rfl (lv_at hl 0 rfl) ?_
      refine lv_iload_n hx hb dX11_chance_61 rfl (lv_at hl 3 rfl) ?_
      obtain ⟨r6, σ5, e4, h⟩ := cal_some h
      refine r_cVV C hw (As := [.int x3]) (rest := []) (kX11_oneMore l D cI cZ ad _ _ _ e4) YX11_oneMore ml_X11_247 qM_0 clsX11 (pw_rmOK (by omega) (by decide)) rfl hl.1 rfl (Nat.le_of_ble_eq_true rfl) dX11_chance_62 ⟨Nat.zero_le _, Nat.zero_le _⟩ (fun H locs hw => ?_)
      refine lv_iinc (v := (x4 + 1)) (lv' := [(4, .int (x4 + 1)), (0, .ref (ad 0)), (1, .int x1), (2, .int x2), (3, .int x3)]) hx hb dX11_chance_65 hl (k := 4) rfl rfl (by decide) rfl (fun ls hl => ?_)
      refine lv_goto (tgt := 54) hx hb dX11_chance_68 (by decide) ?_
      exact ih _ _ _ _ _ _ _ _ hw (lv_sub hl [1, 2, 3, 4, 0] rfl) h
set_option maxRecDepth 100000 in
set_option maxHeartbeats 4000000 in
theorem wX11_chance_b40 {p : Program} {l : Launch} {e : Env} {s : State} {m : MethodId} {args : Array Value} {below : List Frame} {meth : Method} {c : Code} {D : va_G} {cI cZ : ClassId} {ad : Nat → Nat} {A : Nat → Prop} {z : Int32 × St}  (C : pw_C p s m args meth c yX11_chance.cls cX11_chance 5 (some .int) D cI cZ) : ∀  (σ : St) (H : Heap) (locs : List Loc) (ls : Array Slot), pw_H D (pw_w shM cI cZ ad σ) A s.heap H locs → lv_has ls 5 [(0, .ref (ad 0))] → fX11_chance_b40   σ = some z → W p l e (pw_rm 1) s m args below meth c H locs 0 0 (pw_QI below args s D (pw_w shM cI cZ ad) A z) (F0 m 40 ls []) := by
  obtain ⟨hx, hb, hr, hts, hown, hlk, hml, hK, hN⟩ := id C
  intro σ H locs ls hw hl h
  unfold fX11_chance_b40 at h
  refine lv_aload_n hx hb dX11_chance_40 rfl (lv_at hl 0 rfl) ?_
  refine lv_bipush (v := (-6)) hx hb dX11_chance_41 (by decide) ?_
  obtain ⟨v9, σ8, e7, h⟩ := cal_some h
  refine r_cVI C hw (As := [.int (-6)]) (rest := []) (kX11_refuse l D cI cZ ad _ _ _ e7) YX11_refuse ml_X11_152 qM_0 clsX11 (pw_rmOK (by omega) (by decide)) rfl hl.1 rfl (Nat.le_of_ble_eq_true rfl) dX11_chance_43 ⟨Nat.zero_le _, Nat.zero_le _⟩ (fun H locs hw => ?_)
  exact r_iret C hw dX11_chance_46 h
set_option maxRecDepth 100000 in
set_option maxHeartbeats 4000000 in
theorem wX11_chance_b12 {p : Program} {l : Launch} {e : Env} {s : State} {m : MethodId} {args : Array Value} {below : List Frame} {meth : Method} {c : Code} {D : va_G} {cI cZ : ClassId} {ad : Nat → Nat} {A : Nat → Prop} {z : Int32 × St}  (C : pw_C p s m args meth c yX11_chance.cls cX11_chance 5 (some .int) D cI cZ) : ∀  (σ : St) (H : Heap) (locs : List Loc) (ls : Array Slot), pw_H D (pw_w shM cI cZ ad σ) A s.heap H locs → lv_has ls 5 [(0, .ref (ad 0))] → fX11_chance_b12   σ = some z → W p l e (pw_rm 1) s m args below meth c H locs 0 0 (pw_QI below args s D (pw_w shM cI cZ ad) A z) (F0 m 12 ls []) := by
  obtain ⟨hx, hb, hr, hts, hown, hlk, hml, hK, hN⟩ := id C
  intro σ H locs ls hw hl h
  unfold fX11_chance_b12 at h
  refine lv_aload_n hx hb dX11_chance_12 rfl (lv_at hl 0 rfl) ?_
  refine lv_bipush (v := (-4)) hx hb dX11_chance_13 (by decide) ?_
  obtain ⟨v12, σ11, e10, h⟩ := cal_some h
  refine r_cVI C hw (As := [.int (-4)]) (rest := []) (kX11_refuse l D cI cZ ad _ _ _ e10) YX11_refuse ml_X11_152 qM_0 clsX11 (pw_rmOK (by omega) (by decide)) rfl hl.1 rfl (Nat.le_of_ble_eq_true rfl) dX11_chance_15 ⟨Nat.zero_le _, Nat.zero_le _⟩ (fun H locs hw => ?_)
  exact r_iret C hw dX11_chance_18 h
set_option maxRecDepth 100000 in
set_option maxHeartbeats 4000000 in
theorem kX11_chance (l : Launch) (D : va_G) (cI cZ : ClassId) (ad : Nat → Nat) (x1 : Int32) (x2 : Int32) (x3 : Int32) (σ : St) (z : Int32 × St) (h : fX11_chance x1 x2 x3 σ = some z) : pw_MI l D shM cI cZ ad yX11_chance cX11_chance 5 (some .int) (pw_rm 1) [.ref (ad 0), .int x1, .int x2, .int x3] σ z.1 z.2 := by
  refine pw_ofI (by decide) (Nat.le_of_ble_eq_true rfl) ?_
  intro p e s m args below meth c A C hw ls hl
  obtain ⟨hx, hb, hr, hts, hown, hlk, hml, hK, hN⟩ := id C
  have hl : lv_has ls 5 [(0, .ref (ad 0)), (1, .int x1), (2, .int x2), (3, .int x3)] := hl
  unfold fX11_chance at h
  refine lv_iload_n hx hb dX11_chance_0 rfl (lv_at hl 1 rfl) ?_
  refine lv_if_lt (tgt := 12) hx hb dX11_chance_1 (by decide) (fun hc => ?_) (fun hc => ?_)
  · replace h := pw_t hc h
    exact wX11_chance_b12 C  _ _ _ _ hw (lv_sub hl [0] rfl) h
  · replace h := pw_f hc h
    refine lv_iload_n hx hb dX11_chance_4 rfl (lv_at hl 2 rfl) ?_
    refine lv_if_lt (tgt := 12) hx hb dX11_chance_5 (by decide) (fun hc => ?_) (fun hc => ?_)
    · replace h := pw_t hc h
      exact wX11_chance_b12 C  _ _ _ _ hw (lv_sub hl [0] rfl) h
    · replace h := pw_f hc h
      refine lv_iload_n hx hb dX11_chance_8 rfl (lv_at hl 3 rfl) ?_
      refine lv_if_ge (tgt := 19) hx hb dX11_chance_9 (by decide) (fun hc => ?_) (fun hc => ?_)
      · replace h := pw_t hc h
        refine lv_iload_n hx hb dX11_chance_19 rfl (lv_at hl 1 rfl) ?_
        refine lv_sipush (v := 200) hx hb dX11_chance_20 (by decide) ?_
        refine lv_icmp_gt (tgt := 40) hx hb dX11_chance_23 (by decide) (fun hc => ?_) (fun hc => ?_)
        · replace h := pw_t hc h
          exact wX11_chance_b40 C  _ _ _ _ hw (lv_sub hl [0] rfl) h
        · replace h := pw_f hc h
          refine lv_iload_n hx hb dX11_chance_26 rfl (lv_at hl 2 rfl) ?_
          refine lv_sipush (v := 200) hx hb dX11_chance_27 (by decide) ?_
          refine lv_icmp_gt (tgt := 40) hx hb dX11_chance_30 (by decide) (fun hc => ?_) (fun hc => ?_)
          · replace h := pw_t hc h
            exact wX11_chance_b40 C  _ _ _ _ hw (lv_sub hl [0] rfl) h
          · replace h := pw_f hc h
            refine lv_iload_n hx hb dX11_chance_33 rfl (lv_at hl 3 rfl) ?_
            refine lv_sipush (v := 1024) hx hb dX11_chance_34 (by decide) ?_
            refine lv_icmp_le (tgt := 47) hx hb dX11_chance_37 (by decide) (fun hc => ?_) (fun hc => ?_)
            · replace h := pw_t hc h
              refine lv_aload_n hx hb dX11_chance_47 rfl (lv_at hl 0 rfl) ?_
              obtain ⟨r15, σ14, e13, h⟩ := cal_some h
              refine r_cVV C hw (As := []) (rest := []) (kX11_begins l D cI cZ ad _ _ e13) YX11_begins ml_X11_244 qM_0 clsX11 (pw_rmOK (by omega) (by decide)) rfl hl.1 rfl (Nat.le_of_ble_eq_true rfl) dX11_chance_48 ⟨Nat.zero_le _, Nat.zero_le _⟩ (fun H locs hw => ?_)
              refine lv_iconst (v := 0) hx hb dX11_chance_51 (by decide) ?_
              refine lv_istore (lv' := [(4, .int 0), (0, .ref (ad 0)), (1, .int x1), (2, .int x2), (3, .int x3)]) hx hb dX11_chance_52 hl (by decide) rfl (fun ls hl => ?_)
              exact wX11_chance_b54 C  _ _ _ _ _ _ _ _ _ hw (lv_sub hl [1, 2, 3, 4, 0] rfl) h
            · replace h := pw_f hc h
              exact wX11_chance_b40 C  _ _ _ _ hw (lv_sub hl [0] rfl) h
      · replace h := pw_f hc h
        exact wX11_chance_b12 C  _ _ _ _ hw (lv_sub hl [0] rfl) h
set_option maxRecDepth 100000 in
set_option maxHeartbeats 4000000 in
theorem wX11_make_b53 {p : Program} {l : Launch} {e : Env} {s : State} {m : MethodId} {args : Array Value} {below : List Frame} {meth : Method} {c : Code} {D : va_G} {cI cZ : ClassId} {ad : Nat → Nat} {A : Nat → Prop} {z : Int32 × St}  (C : pw_C p s m args meth c yX11_make.cls cX11_make 5 (some .int) D cI cZ) : ∀ (n : Nat) (x1 : Int32) (x2 : Int32) (x3 : Int32) (x4 : Int32) (σ : St) (H : Heap) (locs : List Loc) (ls : Array Slot), pw_H D (pw_w shM cI cZ ad σ) A s.heap H locs → lv_has ls 5 [(0, .ref (ad 0)), (1, .int x1), (2, .int x2), (3, .int x3), (4, .int x4)] → fX11_make_b53  n x1 x2 x3 x4 σ = some z → W p l e (pw_rm 1) s m args below meth c H locs 0 0 (pw_QI below args s D (pw_w shM cI cZ ad) A z) (F0 m 53 ls []) := by
  obtain ⟨hx, hb, hr, hts, hown, hlk, hml, hK, hN⟩ := id C
  intro n
  induction n with
  | zero =>
    intro x1 x2 x3 x4 σ H locs ls hw hl h
    exact absurd h (by simp [fX11_make_b53])
  | succ n ih =>
    intro x1 x2 x3 x4 σ H locs ls hw hl h
    rw [fX11_make_b53] at h
    refine lv_iload hx hb dX11_make_53 (lv_at hl 4 rfl) ?_
    refine lv_sipush (v := 200) hx hb dX11_make_55 (by decide) ?_
    refine lv_icmp_gt (tgt := 84) hx hb dX11_make_58 (by decide) (fun hc => ?_) (fun hc => ?_)
    · replace h := pw_t hc h
      refine lv_bipush (v := (-9)) hx hb dX11_make_84 (by decide) ?_
      exact r_iret C hw dX11_make_86 h
    · replace h := pw_f hc h
      refine lv_aload_n hx hb dX11_make_61 rfl (lv_at hl 0 rfl) ?_
      refine lv_iload_n hx hb dX11_make_62 rfl (lv_at hl 1 rfl) ?_
      obtain ⟨v3, σ2, e1, h⟩ := cal_some h
      refine r_cVI C hw (As := [.int x1]) (rest := []) (kX11_orMore l D cI cZ ad _ _ _ e1) YX11_orMore ml_X11_250 qM_0 clsX11 (pw_rmOK (by omega) (by decide)) rfl hl.1 rfl (Nat.le_of_ble_eq_true rfl) dX11_make_63 ⟨Nat.zero_le _, Nat.zero_le _⟩ (fun H locs hw => ?_)
      refine lv_iload_n hx hb dX11_make_66 rfl (lv_at hl 3 rfl) ?_
      refine lv_icmp_lt (tgt := 73) hx hb dX11_make_67 (by decide) (fun hc => ?_) (fun hc => ?_)
      · replace h := pw_t hc h
        refine lv_aload_n hx hb dX11_make_73 rfl (lv_at hl 0 rfl) ?_
        refine lv_iload_n hx hb dX11_make_74 rfl (lv_at hl 2 rfl) ?_
        obtain ⟨r6, σ5, e4, h⟩ := cal_some h
        refine r_cVV C hw (As := [.int x2]) (rest := []) (kX11_oneMore l D cI cZ ad _ _ _ e4) YX11_oneMore ml_X11_247 qM_0 clsX11 (pw_rmOK (by omega) (by decide)) rfl hl.1 rfl (Nat.le_of_ble_eq_true rfl) dX11_make_75 ⟨Nat.zero_le _, Nat.zero_le _⟩ (fun H locs hw => ?_)
        refine lv_iinc (v := (x4 + 1)) (lv' := [(4, .int (x4 + 1)), (0, .ref (ad 0)), (1, .int x1), (2, .int x2), (3, .int x3)]) hx hb dX11_make_78 hl (k := 4) rfl rfl (by decide) rfl (fun ls hl => ?_)
        refine lv_goto (tgt := 53) hx hb dX11_make_81 (by decide) ?_
        exact ih _ _ _ _ _ _ _ _ hw (lv_sub hl [1, 2, 3, 4, 0] rfl) h
      · replace h := pw_f hc h
        refine lv_iload hx hb dX11_make_70 (lv_at hl 4 rfl) ?_
        exact r_iret C hw dX11_make_72 h
set_option maxRecDepth 100000 in
set_option maxHeartbeats 4000000 in
theorem wX11_make_b39 {p : Program} {l : Launch} {e : Env} {s : State} {m : MethodId} {args : Array Value} {below : List Frame} {meth : Method} {c : Code} {D : va_G} {cI cZ : ClassId} {ad : Nat → Nat} {A : Nat → Prop} {z : Int32 × St}  (C : pw_C p s m args meth c yX11_make.cls cX11_make 5 (some .int) D cI cZ) : ∀  (σ : St) (H : Heap) (locs : List Loc) (ls : Array Slot), pw_H D (pw_w shM cI cZ ad σ) A s.heap H locs → lv_has ls 5 [(0, .ref (ad 0))] → fX11_make_b39   σ = some z → W p l e (pw_rm 1) s m args below meth c H locs 0 0 (pw_QI below args s D (pw_w shM cI cZ ad) A z) (F0 m 39 ls []) := by
  obtain ⟨hx, hb, hr, hts, hown, hlk, hml, hK, hN⟩ := id C
  intro σ H locs ls hw hl h
  unfold fX11_make_b39 at h
  refine lv_aload_n hx hb dX11_make_39 rfl (lv_at hl 0 rfl) ?_
  refine lv_bipush (v := (-6)) hx hb dX11_make_40 (by decide) ?_
  obtain ⟨v9, σ8, e7, h⟩ := cal_some h
  refine r_cVI C hw (As := [.int (-6)]) (rest := []) (kX11_refuse l D cI cZ ad _ _ _ e7) YX11_refuse ml_X11_152 qM_0 clsX11 (pw_rmOK (by omega) (by decide)) rfl hl.1 rfl (Nat.le_of_ble_eq_true rfl) dX11_make_42 ⟨Nat.zero_le _, Nat.zero_le _⟩ (fun H locs hw => ?_)
  exact r_iret C hw dX11_make_45 h
set_option maxRecDepth 100000 in
set_option maxHeartbeats 4000000 in
theorem wX11_make_b12 {p : Program} {l : Launch} {e : Env} {s : State} {m : MethodId} {args : Array Value} {below : List Frame} {meth : Method} {c : Code} {D : va_G} {cI cZ : ClassId} {ad : Nat → Nat} {A : Nat → Prop} {z : Int32 × St}  (C : pw_C p s m args meth c yX11_make.cls cX11_make 5 (some .int) D cI cZ) : ∀  (σ : St) (H : Heap) (locs : List Loc) (ls : Array Slot), pw_H D (pw_w shM cI cZ ad σ) A s.heap H locs → lv_has ls 5 [(0, .ref (ad 0))] → fX11_make_b12   σ = some z → W p l e (pw_rm 1) s m args below meth c H locs 0 0 (pw_QI below args s D (pw_w shM cI cZ ad) A z) (F0 m 12 ls []) := by
  obtain ⟨hx, hb, hr, hts, hown, hlk, hml, hK, hN⟩ := id C
  intro σ H locs ls hw hl h
  unfold fX11_make_b12 at h
  refine lv_aload_n hx hb dX11_make_12 rfl (lv_at hl 0 rfl) ?_
  refine lv_bipush (v := (-4)) hx hb dX11_make_13 (by decide) ?_
  obtain ⟨v12, σ11, e10, h⟩ := cal_some h
  refine r_cVI C hw (As := [.int (-4)]) (rest := []) (kX11_refuse l D cI cZ ad _ _ _ e10) YX11_refuse ml_X11_152 qM_0 clsX11 (pw_rmOK (by omega) (by decide)) rfl hl.1 rfl (Nat.le_of_ble_eq_true rfl) dX11_make_15 ⟨Nat.zero_le _, Nat.zero_le _⟩ (fun H locs hw => ?_)
  exact r_iret C hw dX11_make_18 h
set_option maxRecDepth 100000 in
set_option maxHeartbeats 4000000 in
theorem kX11_make (l : Launch) (D : va_G) (cI cZ : ClassId) (ad : Nat → Nat) (x1 : Int32) (x2 : Int32) (x3 : Int32) (σ : St) (z : Int32 × St) (h : fX11_make x1 x2 x3 σ = some z) : pw_MI l D shM cI cZ ad yX11_make cX11_make 5 (some .int) (pw_rm 1) [.ref (ad 0), .int x1, .int x2, .int x3] σ z.1 z.2 := by
  refine pw_ofI (by decide) (Nat.le_of_ble_eq_true rfl) ?_
  intro p e s m args below meth c A C hw ls hl
  obtain ⟨hx, hb, hr, hts, hown, hlk, hml, hK, hN⟩ := id C
  have hl : lv_has ls 5 [(0, .ref (ad 0)), (1, .int x1), (2, .int x2), (3, .int x3)] := hl
  unfold fX11_make at h
  refine lv_iload_n hx hb dX11_make_0 rfl (lv_at hl 1 rfl) ?_
  refine lv_if_lt (tgt := 12) hx hb dX11_make_1 (by decide) (fun hc => ?_) (fun hc => ?_)
  · replace h := pw_t hc h
    exact wX11_make_b12 C  _ _ _ _ hw (lv_sub hl [0] rfl) h
  · replace h := pw_f hc h
    refine lv_iload_n hx hb dX11_make_4 rfl (lv_at hl 2 rfl) ?_
    refine lv_if_lt (tgt := 12) hx hb dX11_make_5 (by decide) (fun hc => ?_) (fun hc => ?_)
    · replace h := pw_t hc h
      exact wX11_make_b12 C  _ _ _ _ hw (lv_sub hl [0] rfl) h
    · replace h := pw_f hc h
      refine lv_iload_n hx hb dX11_make_8 rfl (lv_at hl 3 rfl) ?_
      refine lv_if_ge (tgt := 19) hx hb dX11_make_9 (by decide) (fun hc => ?_) (fun hc => ?_)
      · replace h := pw_t hc h
        refine lv_iload_n hx hb dX11_make_19 rfl (lv_at hl 1 rfl) ?_
        refine lv_sipush (v := 200) hx hb dX11_make_20 (by decide) ?_
        refine lv_icmp_gt (tgt := 39) hx hb dX11_make_23 (by decide) (fun hc => ?_) (fun hc => ?_)
        · replace h := pw_t hc h
          exact wX11_make_b39 C  _ _ _ _ hw (lv_sub hl [0] rfl) h
        · replace h := pw_f hc h
          refine lv_iload_n hx hb dX11_make_26 rfl (lv_at hl 2 rfl) ?_
          refine lv_sipush (v := 1024) hx hb dX11_make_27 (by decide) ?_
          refine lv_icmp_gt (tgt := 39) hx hb dX11_make_30 (by decide) (fun hc => ?_) (fun hc => ?_)
          · replace h := pw_t hc h
            exact wX11_make_b39 C  _ _ _ _ hw (lv_sub hl [0] rfl) h
          · replace h := pw_f hc h
            refine lv_iload_n hx hb dX11_make_33 rfl (lv_at hl 3 rfl) ?_
            refine lv_ldc (v := 1048576) hx hb hown (hts _ ct_X11_241) dX11_make_34 ?_
            refine lv_icmp_le (tgt := 46) hx hb dX11_make_36 (by decide) (fun hc => ?_) (fun hc => ?_)
            · replace h := pw_t hc h
              refine lv_aload_n hx hb dX11_make_46 rfl (lv_at hl 0 rfl) ?_
              obtain ⟨r15, σ14, e13, h⟩ := cal_some h
              refine r_cVV C hw (As := []) (rest := []) (kX11_begins l D cI cZ ad _ _ e13) YX11_begins ml_X11_244 qM_0 clsX11 (pw_rmOK (by omega) (by decide)) rfl hl.1 rfl (Nat.le_of_ble_eq_true rfl) dX11_make_47 ⟨Nat.zero_le _, Nat.zero_le _⟩ (fun H locs hw => ?_)
              refine lv_iconst (v := 0) hx hb dX11_make_50 (by decide) ?_
              refine lv_istore (lv' := [(4, .int 0), (0, .ref (ad 0)), (1, .int x1), (2, .int x2), (3, .int x3)]) hx hb dX11_make_51 hl (by decide) rfl (fun ls hl => ?_)
              exact wX11_make_b53 C  _ _ _ _ _ _ _ _ _ hw (lv_sub hl [1, 2, 3, 4, 0] rfl) h
            · replace h := pw_f hc h
              exact wX11_make_b39 C  _ _ _ _ hw (lv_sub hl [0] rfl) h
      · replace h := pw_f hc h
        exact wX11_make_b12 C  _ _ _ _ hw (lv_sub hl [0] rfl) h
set_option maxRecDepth 100000 in
set_option maxHeartbeats 4000000 in
theorem wX11_see_b25 {p : Program} {l : Launch} {e : Env} {s : State} {m : MethodId} {args : Array Value} {below : List Frame} {meth : Method} {c : Code} {D : va_G} {cI cZ : ClassId} {ad : Nat → Nat} {A : Nat → Prop} {z : Int32 × St}  (C : pw_C p s m args meth c yX11_see.cls cX11_see 4 (some .int) D cI cZ) : ∀ (n : Nat) (x1 : Int32) (x2 : Int32) (x3 : Int32) (σ : St) (H : Heap) (locs : List Loc) (ls : Array Slot), pw_H D (pw_w shM cI cZ ad σ) A s.heap H locs → lv_has ls 4 [(0, .ref (ad 0)), (1, .int x1), (2, .int x2), (3, .int x3)] → fX11_see_b25  n x1 x2 x3 σ = some z → W p l e (pw_rm 1) s m args below meth c H locs 0 0 (pw_QI below args s D (pw_w shM cI cZ ad) A z) (F0 m 25 ls []) := by
  obtain ⟨hx, hb, hr, hts, hown, hlk, hml, hK, hN⟩ := id C
  intro n
  induction n with
  | zero =>
    intro x1 x2 x3 σ H locs ls hw hl h
    exact absurd h (by simp [fX11_see_b25])
  | succ n ih =>
    intro x1 x2 x3 σ H locs ls hw hl h
    rw [fX11_see_b25] at h
    refine lv_iload_n hx hb dX11_see_25 rfl (lv_at hl 3 rfl) ?_
    refine lv_aload_n hx hb dX11_see_26 rfl (lv_at hl 0 rfl) ?_
    refine r_get C hw qM_0 clsX11 24 rfl (by decide) fl_X11_253 dX11_see_27 (v := .int (σ 0 24)) rfl ?_
    refine lv_icmp_ge (tgt := 61) hx hb dX11_see_30 (by decide) (fun hc => ?_) (fun hc => ?_)
    · replace h := pw_t hc h
      refine lv_aload_n hx hb dX11_see_61 rfl (lv_at hl 0 rfl) ?_
      refine r_get C hw qM_0 clsX11 43 rfl (by decide) fl_X11_111 dX11_see_62 (v := .ref (ad 34)) rfl ?_
      refine lv_aload_n hx hb dX11_see_65 rfl (lv_at hl 0 rfl) ?_
      refine r_get C hw qM_0 clsX11 24 rfl (by decide) fl_X11_253 dX11_see_66 (v := .int (σ 0 24)) rfl ?_
      refine lv_iload_n hx hb dX11_see_69 rfl (lv_at hl 1 rfl) ?_
      refine r_iast C hw qM_34 dX11_see_70 h (fun σ1 H locs hw h => ?_)
      refine lv_aload_n hx hb dX11_see_71 rfl (lv_at hl 0 rfl) ?_
      refine r_get C hw qM_0 clsX11 44 rfl (by decide) fl_X11_114 dX11_see_72 (v := .ref (ad 35)) rfl ?_
      refine lv_aload_n hx hb dX11_see_75 rfl (lv_at hl 0 rfl) ?_
      refine r_get C hw qM_0 clsX11 24 rfl (by decide) fl_X11_253 dX11_see_76 (v := .int (σ1 0 24)) rfl ?_
      refine lv_iload_n hx hb dX11_see_79 rfl (lv_at hl 2 rfl) ?_
      refine r_iast C hw qM_35 dX11_see_80 h (fun σ2 H locs hw h => ?_)
      refine lv_aload_n hx hb dX11_see_81 rfl (lv_at hl 0 rfl) ?_
      refine r_get C hw qM_0 clsX11 45 rfl (by decide) fl_X11_117 dX11_see_82 (v := .ref (ad 36)) rfl ?_
      refine lv_aload_n hx hb dX11_see_85 rfl (lv_at hl 0 rfl) ?_
      refine r_get C hw qM_0 clsX11 24 rfl (by decide) fl_X11_253 dX11_see_86 (v := .int (σ2 0 24)) rfl ?_
      refine lv_aload_n hx hb dX11_see_89 rfl (lv_at hl 0 rfl) ?_
      refine r_get C hw qM_0 clsX11 16 rfl (by decide) fl_X11_160 dX11_see_90 (v := .int (σ2 0 16)) rfl ?_
      refine r_iast C hw qM_36 dX11_see_93 h (fun σ3 H locs hw h => ?_)
      refine lv_aload_n hx hb dX11_see_94 rfl (lv_at hl 0 rfl) ?_
      refine lv_dup hx hb dX11_see_95 rfl ?_
      refine r_get C hw qM_0 clsX11 24 rfl (by decide) fl_X11_253 dX11_see_96 (v := .int (σ3 0 24)) rfl ?_
      refine lv_iconst (v := 1) hx hb dX11_see_99 (by decide) ?_
      refine lv_iadd hx hb dX11_see_100 ?_
      refine r_put C hw qM_0 clsX11 24 rfl (by decide) fl_X11_253 dX11_see_101 rfl rfl rfl h (fun σ4 H locs hw h => ?_)
      refine lv_iconst (v := 1) hx hb dX11_see_104 (by decide) ?_
      exact r_iret C hw dX11_see_105 h
    · replace h := pw_f hc h
      refine lv_aload_n hx hb dX11_see_33 rfl (lv_at hl 0 rfl) ?_
      refine r_get C hw qM_0 clsX11 43 rfl (by decide) fl_X11_111 dX11_see_34 (v := .ref (ad 34)) rfl ?_
      refine lv_iload_n hx hb dX11_see_37 rfl (lv_at hl 3 rfl) ?_
      refine r_iald C hw qM_34 dX11_see_38 h (fun v5 h => ?_)
      refine lv_iload_n hx hb dX11_see_39 rfl (lv_at hl 1 rfl) ?_
      refine lv_icmp_ne (tgt := 55) hx hb dX11_see_40 (by decide) (fun hc => ?_) (fun hc => ?_)
      · replace h := pw_f hc h
        refine lv_iinc (v := (x3 + 1)) (lv' := [(3, .int (x3 + 1)), (0, .ref (ad 0)), (1, .int x1), (2, .int x2)]) hx hb dX11_see_55 hl (k := 3) rfl rfl (by decide) rfl (fun ls hl => ?_)
        refine lv_goto (tgt := 25) hx hb dX11_see_58 (by decide) ?_
        exact ih _ _ _ _ _ _ _ hw (lv_sub hl [1, 2, 3, 0] rfl) h
      · replace h := pw_t hc h
        refine lv_aload_n hx hb dX11_see_43 rfl (lv_at hl 0 rfl) ?_
        refine r_get C hw qM_0 clsX11 44 rfl (by decide) fl_X11_114 dX11_see_44 (v := .ref (ad 35)) rfl ?_
        refine lv_iload_n hx hb dX11_see_47 rfl (lv_at hl 3 rfl) ?_
        refine r_iald C hw qM_35 dX11_see_48 h (fun v6 h => ?_)
        refine lv_iload_n hx hb dX11_see_49 rfl (lv_at hl 2 rfl) ?_
        refine lv_icmp_ne (tgt := 55) hx hb dX11_see_50 (by decide) (fun hc => ?_) (fun hc => ?_)
        · replace h := pw_f hc h
          refine lv_iinc (v := (x3 + 1)) (lv' := [(3, .int (x3 + 1)), (0, .ref (ad 0)), (1, .int x1), (2, .int x2)]) hx hb dX11_see_55 hl (k := 3) rfl rfl (by decide) rfl (fun ls hl => ?_)
          refine lv_goto (tgt := 25) hx hb dX11_see_58 (by decide) ?_
          exact ih _ _ _ _ _ _ _ hw (lv_sub hl [1, 2, 3, 0] rfl) h
        · replace h := pw_t hc h
          refine lv_iconst (v := 0) hx hb dX11_see_53 (by decide) ?_
          exact r_iret C hw dX11_see_54 h
set_option maxRecDepth 100000 in
set_option maxHeartbeats 4000000 in
theorem kX11_see (l : Launch) (D : va_G) (cI cZ : ClassId) (ad : Nat → Nat) (x1 : Int32) (x2 : Int32) (σ : St) (z : Int32 × St) (h : fX11_see x1 x2 σ = some z) : pw_MI l D shM cI cZ ad yX11_see cX11_see 4 (some .int) (pw_rm 1) [.ref (ad 0), .int x1, .int x2] σ z.1 z.2 := by
  refine pw_ofI (by decide) (Nat.le_of_ble_eq_true rfl) ?_
  intro p e s m args below meth c A C hw ls hl
  obtain ⟨hx, hb, hr, hts, hown, hlk, hml, hK, hN⟩ := id C
  have hl : lv_has ls 4 [(0, .ref (ad 0)), (1, .int x1), (2, .int x2)] := hl
  unfold fX11_see at h
  refine lv_iload_n hx hb dX11_see_0 rfl (lv_at hl 1 rfl) ?_
  refine lv_bipush (v := 16) hx hb dX11_see_1 (by decide) ?_
  obtain ⟨v9, σ8, e7, h⟩ := cal_some h
  refine r_cSI C hw (sh := shM) (ad := ad) (As := [.int x1, .int 16]) (rest := []) (kX11_isIn l D cI cZ ad _ _ _ _ e7) YX11_isIn ml_X11_144 (pw_rmOK (by omega) (by decide)) rfl hl.1 rfl (Nat.le_of_ble_eq_true rfl) dX11_see_3 ⟨Nat.zero_le _, Nat.zero_le _⟩ (fun H locs hw => ?_)
  refine lv_if_eq (tgt := 17) hx hb dX11_see_6 (by decide) (fun hc => ?_) (fun hc => ?_)
  · replace h := pw_t hc h
    refine lv_aload_n hx hb dX11_see_17 rfl (lv_at hl 0 rfl) ?_
    refine lv_iconst (v := (-1)) hx hb dX11_see_18 (by decide) ?_
    obtain ⟨v12, σ11, e10, h⟩ := cal_some h
    refine r_cVI C hw (As := [.int (-1)]) (rest := []) (kX11_refuse l D cI cZ ad _ _ _ e10) YX11_refuse ml_X11_152 qM_0 clsX11 (pw_rmOK (by omega) (by decide)) rfl hl.1 rfl (Nat.le_of_ble_eq_true rfl) dX11_see_19 ⟨Nat.zero_le _, Nat.zero_le _⟩ (fun H locs hw => ?_)
    exact r_iret C hw dX11_see_22 h
  · replace h := pw_f hc h
    refine lv_iload_n hx hb dX11_see_9 rfl (lv_at hl 2 rfl) ?_
    refine lv_iconst (v := 2) hx hb dX11_see_10 (by decide) ?_
    obtain ⟨v15, σ14, e13, h⟩ := cal_some h
    refine r_cSI C hw (sh := shM) (ad := ad) (As := [.int x2, .int 2]) (rest := []) (kX11_isIn l D cI cZ ad _ _ _ _ e13) YX11_isIn ml_X11_144 (pw_rmOK (by omega) (by decide)) rfl hl.1 rfl (Nat.le_of_ble_eq_true rfl) dX11_see_11 ⟨Nat.zero_le _, Nat.zero_le _⟩ (fun H locs hw => ?_)
    refine lv_if_ne (tgt := 23) hx hb dX11_see_14 (by decide) (fun hc => ?_) (fun hc => ?_)
    · replace h := pw_f hc h
      refine lv_iconst (v := 0) hx hb dX11_see_23 (by decide) ?_
      refine lv_istore_n (lv' := [(3, .int 0), (0, .ref (ad 0)), (1, .int x1), (2, .int x2)]) hx hb dX11_see_24 rfl hl (by decide) rfl (fun ls hl => ?_)
      exact wX11_see_b25 C  _ _ _ _ _ _ _ _ hw (lv_sub hl [1, 2, 3, 0] rfl) h
    · replace h := pw_t hc h
      refine lv_aload_n hx hb dX11_see_17 rfl (lv_at hl 0 rfl) ?_
      refine lv_iconst (v := (-1)) hx hb dX11_see_18 (by decide) ?_
      obtain ⟨v18, σ17, e16, h⟩ := cal_some h
      refine r_cVI C hw (As := [.int (-1)]) (rest := []) (kX11_refuse l D cI cZ ad _ _ _ e16) YX11_refuse ml_X11_152 qM_0 clsX11 (pw_rmOK (by omega) (by decide)) rfl hl.1 rfl (Nat.le_of_ble_eq_true rfl) dX11_see_19 ⟨Nat.zero_le _, Nat.zero_le _⟩ (fun H locs hw => ?_)
      exact r_iret C hw dX11_see_22 h
set_option maxRecDepth 100000 in
set_option maxHeartbeats 4000000 in
theorem wX11_talk_b72 {p : Program} {l : Launch} {e : Env} {s : State} {m : MethodId} {args : Array Value} {below : List Frame} {meth : Method} {c : Code} {D : va_G} {cI cZ : ClassId} {ad : Nat → Nat} {A : Nat → Prop} {z : Int32 × St} {k31 : Int32 → Int32 → Int32 → St → Option (Int32 × St)} (C : pw_C p s m args meth c yX11_talk.cls cX11_talk 4 (some .int) D cI cZ) (hk31 : ∀ (x1 : Int32) (x2 : Int32) (x3 : Int32) (σ : St) (H : Heap) (locs : List Loc) (ls : Array Slot), pw_H D (pw_w shM cI cZ ad σ) A s.heap H locs → lv_has ls 4 [(0, .ref (ad 0)), (1, .int x1), (2, .int x2), (3, .int x3)] → k31 x1 x2 x3 σ = some z → W p l e (pw_rm 1) s m args below meth c H locs 0 0 (pw_QI below args s D (pw_w shM cI cZ ad) A z) (F0 m 31 ls [])) : ∀ (x1 : Int32) (x2 : Int32) (x3 : Int32) (σ : St) (H : Heap) (locs : List Loc) (ls : Array Slot), pw_H D (pw_w shM cI cZ ad σ) A s.heap H locs → lv_has ls 4 [(0, .ref (ad 0)), (1, .int x1), (2, .int x2), (3, .int x3)] → fX11_talk_b72 k31 x1 x2 x3 σ = some z → W p l e (pw_rm 1) s m args below meth c H locs 0 0 (pw_QI below args s D (pw_w shM cI cZ ad) A z) (F0 m 72 ls []) := by
  obtain ⟨hx, hb, hr, hts, hown, hlk, hml, hK, hN⟩ := id C
  intro x1 x2 x3 σ H locs ls hw hl h
  unfold fX11_talk_b72 at h
  refine lv_aload_n hx hb dX11_talk_72 rfl (lv_at hl 0 rfl) ?_
  refine r_get C hw qM_0 clsX11 46 rfl (by decide) fl_X11_120 dX11_talk_73 (v := .ref (ad 37)) rfl ?_
  refine lv_iload_n hx hb dX11_talk_76 rfl (lv_at hl 3 rfl) ?_
  refine r_iald C hw qM_37 dX11_talk_77 h (fun v1 h => ?_)
  refine lv_iload_n hx hb dX11_talk_78 rfl (lv_at hl 2 rfl) ?_
  refine lv_icmp_ne (tgt := 94) hx hb dX11_talk_79 (by decide) (fun hc => ?_) (fun hc => ?_)
  · replace h := pw_f hc h
    refine lv_iinc (v := (x3 + 1)) (lv' := [(3, .int (x3 + 1)), (0, .ref (ad 0)), (1, .int x1), (2, .int x2)]) hx hb dX11_talk_94 hl (k := 3) rfl rfl (by decide) rfl (fun ls hl => ?_)
    refine lv_goto (tgt := 31) hx hb dX11_talk_97 (by decide) ?_
    exact hk31 _ _ _ _ _ _ _ hw (lv_sub hl [1, 2, 3, 0] rfl) h
  · replace h := pw_t hc h
    refine lv_aload_n hx hb dX11_talk_82 rfl (lv_at hl 0 rfl) ?_
    refine r_get C hw qM_0 clsX11 47 rfl (by decide) fl_X11_123 dX11_talk_83 (v := .ref (ad 38)) rfl ?_
    refine lv_iload_n hx hb dX11_talk_86 rfl (lv_at hl 3 rfl) ?_
    refine r_iald C hw qM_38 dX11_talk_87 h (fun v2 h => ?_)
    refine lv_iload_n hx hb dX11_talk_88 rfl (lv_at hl 1 rfl) ?_
    refine lv_icmp_ne (tgt := 94) hx hb dX11_talk_89 (by decide) (fun hc => ?_) (fun hc => ?_)
    · replace h := pw_f hc h
      refine lv_iinc (v := (x3 + 1)) (lv' := [(3, .int (x3 + 1)), (0, .ref (ad 0)), (1, .int x1), (2, .int x2)]) hx hb dX11_talk_94 hl (k := 3) rfl rfl (by decide) rfl (fun ls hl => ?_)
      refine lv_goto (tgt := 31) hx hb dX11_talk_97 (by decide) ?_
      exact hk31 _ _ _ _ _ _ _ hw (lv_sub hl [1, 2, 3, 0] rfl) h
    · replace h := pw_t hc h
      refine lv_iconst (v := 0) hx hb dX11_talk_92 (by decide) ?_
      exact r_iret C hw dX11_talk_93 h
set_option maxRecDepth 100000 in
set_option maxHeartbeats 4000000 in
theorem wX11_talk_b31 {p : Program} {l : Launch} {e : Env} {s : State} {m : MethodId} {args : Array Value} {below : List Frame} {meth : Method} {c : Code} {D : va_G} {cI cZ : ClassId} {ad : Nat → Nat} {A : Nat → Prop} {z : Int32 × St}  (C : pw_C p s m args meth c yX11_talk.cls cX11_talk 4 (some .int) D cI cZ) : ∀ (n : Nat) (x1 : Int32) (x2 : Int32) (x3 : Int32) (σ : St) (H : Heap) (locs : List Loc) (ls : Array Slot), pw_H D (pw_w shM cI cZ ad σ) A s.heap H locs → lv_has ls 4 [(0, .ref (ad 0)), (1, .int x1), (2, .int x2), (3, .int x3)] → fX11_talk_b31  n x1 x2 x3 σ = some z → W p l e (pw_rm 1) s m args below meth c H locs 0 0 (pw_QI below args s D (pw_w shM cI cZ ad) A z) (F0 m 31 ls []) := by
  obtain ⟨hx, hb, hr, hts, hown, hlk, hml, hK, hN⟩ := id C
  intro n
  induction n with
  | zero =>
    intro x1 x2 x3 σ H locs ls hw hl h
    exact absurd h (by simp [fX11_talk_b31])
  | succ n ih =>
    intro x1 x2 x3 σ H locs ls hw hl h
    rw [fX11_talk_b31] at h
    refine lv_iload_n hx hb dX11_talk_31 rfl (lv_at hl 3 rfl) ?_
    refine lv_aload_n hx hb dX11_talk_32 rfl (lv_at hl 0 rfl) ?_
    refine r_get C hw qM_0 clsX11 23 rfl (by decide) fl_X11_256 dX11_talk_33 (v := .int (σ 0 23)) rfl ?_
    refine lv_icmp_ge (tgt := 100) hx hb dX11_talk_36 (by decide) (fun hc => ?_) (fun hc => ?_)
    · replace h := pw_t hc h
      refine lv_aload_n hx hb dX11_talk_100 rfl (lv_at hl 0 rfl) ?_
      refine r_get C hw qM_0 clsX11 23 rfl (by decide) fl_X11_256 dX11_talk_101 (v := .int (σ 0 23)) rfl ?_
      refine lv_bipush (v := 60) hx hb dX11_talk_104 (by decide) ?_
      refine lv_icmp_ne (tgt := 116) hx hb dX11_talk_106 (by decide) (fun hc => ?_) (fun hc => ?_)
      · replace h := pw_f hc h
        refine lv_aload_n hx hb dX11_talk_116 rfl (lv_at hl 0 rfl) ?_
        refine r_get C hw qM_0 clsX11 46 rfl (by decide) fl_X11_120 dX11_talk_117 (v := .ref (ad 37)) rfl ?_
        refine lv_aload_n hx hb dX11_talk_120 rfl (lv_at hl 0 rfl) ?_
        refine r_get C hw qM_0 clsX11 23 rfl (by decide) fl_X11_256 dX11_talk_121 (v := .int (σ 0 23)) rfl ?_
        refine lv_iload_n hx hb dX11_talk_124 rfl (lv_at hl 1 rfl) ?_
        refine r_iast C hw qM_37 dX11_talk_125 h (fun σ3 H locs hw h => ?_)
        refine lv_aload_n hx hb dX11_talk_126 rfl (lv_at hl 0 rfl) ?_
        refine r_get C hw qM_0 clsX11 47 rfl (by decide) fl_X11_123 dX11_talk_127 (v := .ref (ad 38)) rfl ?_
        refine lv_aload_n hx hb dX11_talk_130 rfl (lv_at hl 0 rfl) ?_
        refine r_get C hw qM_0 clsX11 23 rfl (by decide) fl_X11_256 dX11_talk_131 (v := .int (σ3 0 23)) rfl ?_
        refine lv_iload_n hx hb dX11_talk_134 rfl (lv_at hl 2 rfl) ?_
        refine r_iast C hw qM_38 dX11_talk_135 h (fun σ4 H locs hw h => ?_)
        refine lv_aload_n hx hb dX11_talk_136 rfl (lv_at hl 0 rfl) ?_
        refine r_get C hw qM_0 clsX11 48 rfl (by decide) fl_X11_126 dX11_talk_137 (v := .ref (ad 39)) rfl ?_
        refine lv_aload_n hx hb dX11_talk_140 rfl (lv_at hl 0 rfl) ?_
        refine r_get C hw qM_0 clsX11 23 rfl (by decide) fl_X11_256 dX11_talk_141 (v := .int (σ4 0 23)) rfl ?_
        refine lv_aload_n hx hb dX11_talk_144 rfl (lv_at hl 0 rfl) ?_
        refine r_get C hw qM_0 clsX11 16 rfl (by decide) fl_X11_160 dX11_talk_145 (v := .int (σ4 0 16)) rfl ?_
        refine r_iast C hw qM_39 dX11_talk_148 h (fun σ5 H locs hw h => ?_)
        refine lv_aload_n hx hb dX11_talk_149 rfl (lv_at hl 0 rfl) ?_
        refine lv_dup hx hb dX11_talk_150 rfl ?_
        refine r_get C hw qM_0 clsX11 23 rfl (by decide) fl_X11_256 dX11_talk_151 (v := .int (σ5 0 23)) rfl ?_
        refine lv_iconst (v := 1) hx hb dX11_talk_154 (by decide) ?_
        refine lv_iadd hx hb dX11_talk_155 ?_
        refine r_put C hw qM_0 clsX11 23 rfl (by decide) fl_X11_256 dX11_talk_156 rfl rfl rfl h (fun σ6 H locs hw h => ?_)
        refine lv_iconst (v := 1) hx hb dX11_talk_159 (by decide) ?_
        exact r_iret C hw dX11_talk_160 h
      · replace h := pw_t hc h
        refine lv_aload_n hx hb dX11_talk_109 rfl (lv_at hl 0 rfl) ?_
        refine lv_bipush (v := (-6)) hx hb dX11_talk_110 (by decide) ?_
        obtain ⟨v9, σ8, e7, h⟩ := cal_some h
        refine r_cVI C hw (As := [.int (-6)]) (rest := []) (kX11_refuse l D cI cZ ad _ _ _ e7) YX11_refuse ml_X11_152 qM_0 clsX11 (pw_rmOK (by omega) (by decide)) rfl hl.1 rfl (Nat.le_of_ble_eq_true rfl) dX11_talk_112 ⟨Nat.zero_le _, Nat.zero_le _⟩ (fun H locs hw => ?_)
        exact r_iret C hw dX11_talk_115 h
    · replace h := pw_f hc h
      refine lv_aload_n hx hb dX11_talk_39 rfl (lv_at hl 0 rfl) ?_
      refine r_get C hw qM_0 clsX11 48 rfl (by decide) fl_X11_126 dX11_talk_40 (v := .ref (ad 39)) rfl ?_
      refine lv_iload_n hx hb dX11_talk_43 rfl (lv_at hl 3 rfl) ?_
      refine r_iald C hw qM_39 dX11_talk_44 h (fun v10 h => ?_)
      refine lv_aload_n hx hb dX11_talk_45 rfl (lv_at hl 0 rfl) ?_
      refine r_get C hw qM_0 clsX11 16 rfl (by decide) fl_X11_160 dX11_talk_46 (v := .int (σ 0 16)) rfl ?_
      refine lv_icmp_ne (tgt := 94) hx hb dX11_talk_49 (by decide) (fun hc => ?_) (fun hc => ?_)
      · replace h := pw_f hc h
        refine lv_iinc (v := (x3 + 1)) (lv' := [(3, .int (x3 + 1)), (0, .ref (ad 0)), (1, .int x1), (2, .int x2)]) hx hb dX11_talk_94 hl (k := 3) rfl rfl (by decide) rfl (fun ls hl => ?_)
        refine lv_goto (tgt := 31) hx hb dX11_talk_97 (by decide) ?_
        exact ih _ _ _ _ _ _ _ hw (lv_sub hl [1, 2, 3, 0] rfl) h
      · replace h := pw_t hc h
        refine lv_aload_n hx hb dX11_talk_52 rfl (lv_at hl 0 rfl) ?_
        refine r_get C hw qM_0 clsX11 46 rfl (by decide) fl_X11_120 dX11_talk_53 (v := .ref (ad 37)) rfl ?_
        refine lv_iload_n hx hb dX11_talk_56 rfl (lv_at hl 3 rfl) ?_
        refine r_iald C hw qM_37 dX11_talk_57 h (fun v11 h => ?_)
        refine lv_iload_n hx hb dX11_talk_58 rfl (lv_at hl 1 rfl) ?_
        refine lv_icmp_ne (tgt := 72) hx hb dX11_talk_59 (by decide) (fun hc => ?_) (fun hc => ?_)
        · replace h := pw_f hc h
          exact wX11_talk_b72 C ih _ _ _ _ _ _ _ hw (lv_sub hl [0, 1, 2, 3] rfl) h
        · replace h := pw_t hc h
          refine lv_aload_n hx hb dX11_talk_62 rfl (lv_at hl 0 rfl) ?_
          refine r_get C hw qM_0 clsX11 47 rfl (by decide) fl_X11_123 dX11_talk_63 (v := .ref (ad 38)) rfl ?_
          refine lv_iload_n hx hb dX11_talk_66 rfl (lv_at hl 3 rfl) ?_
          refine r_iald C hw qM_38 dX11_talk_67 h (fun v12 h => ?_)
          refine lv_iload_n hx hb dX11_talk_68 rfl (lv_at hl 2 rfl) ?_
          refine lv_icmp_eq (tgt := 92) hx hb dX11_talk_69 (by decide) (fun hc => ?_) (fun hc => ?_)
          · replace h := pw_t hc h
            refine lv_iconst (v := 0) hx hb dX11_talk_92 (by decide) ?_
            exact r_iret C hw dX11_talk_93 h
          · replace h := pw_f hc h
            exact wX11_talk_b72 C ih _ _ _ _ _ _ _ hw (lv_sub hl [0, 1, 2, 3] rfl) h
set_option maxRecDepth 100000 in
set_option maxHeartbeats 4000000 in
theorem wX11_talk_b23 {p : Program} {l : Launch} {e : Env} {s : State} {m : MethodId} {args : Array Value} {below : List Frame} {meth : Method} {c : Code} {D : va_G} {cI cZ : ClassId} {ad : Nat → Nat} {A : Nat → Prop} {z : Int32 × St}  (C : pw_C p s m args meth c yX11_talk.cls cX11_talk 4 (some .int) D cI cZ) : ∀  (σ : St) (H : Heap) (locs : List Loc) (ls : Array Slot), pw_H D (pw_w shM cI cZ ad σ) A s.heap H locs → lv_has ls 4 [(0, .ref (ad 0))] → fX11_talk_b23   σ = some z → W p l e (pw_rm 1) s m args below meth c H locs 0 0 (pw_QI below args s D (pw_w shM cI cZ ad) A z) (F0 m 23 ls []) := by
  obtain ⟨hx, hb, hr, hts, hown, hlk, hml, hK, hN⟩ := id C
  intro σ H locs ls hw hl h
  unfold fX11_talk_b23 at h
  refine lv_aload_n hx hb dX11_talk_23 rfl (lv_at hl 0 rfl) ?_
  refine lv_iconst (v := (-1)) hx hb dX11_talk_24 (by decide) ?_
  obtain ⟨v15, σ14, e13, h⟩ := cal_some h
  refine r_cVI C hw (As := [.int (-1)]) (rest := []) (kX11_refuse l D cI cZ ad _ _ _ e13) YX11_refuse ml_X11_152 qM_0 clsX11 (pw_rmOK (by omega) (by decide)) rfl hl.1 rfl (Nat.le_of_ble_eq_true rfl) dX11_talk_25 ⟨Nat.zero_le _, Nat.zero_le _⟩ (fun H locs hw => ?_)
  exact r_iret C hw dX11_talk_28 h
set_option maxRecDepth 100000 in
set_option maxHeartbeats 4000000 in
theorem kX11_talk (l : Launch) (D : va_G) (cI cZ : ClassId) (ad : Nat → Nat) (x1 : Int32) (x2 : Int32) (σ : St) (z : Int32 × St) (h : fX11_talk x1 x2 σ = some z) : pw_MI l D shM cI cZ ad yX11_talk cX11_talk 4 (some .int) (pw_rm 1) [.ref (ad 0), .int x1, .int x2] σ z.1 z.2 := by
  refine pw_ofI (by decide) (Nat.le_of_ble_eq_true rfl) ?_
  intro p e s m args below meth c A C hw ls hl
  obtain ⟨hx, hb, hr, hts, hown, hlk, hml, hK, hN⟩ := id C
  have hl : lv_has ls 4 [(0, .ref (ad 0)), (1, .int x1), (2, .int x2)] := hl
  unfold fX11_talk at h
  refine lv_iload_n hx hb dX11_talk_0 rfl (lv_at hl 1 rfl) ?_
  refine lv_bipush (v := 16) hx hb dX11_talk_1 (by decide) ?_
  obtain ⟨v18, σ17, e16, h⟩ := cal_some h
  refine r_cSI C hw (sh := shM) (ad := ad) (As := [.int x1, .int 16]) (rest := []) (kX11_isIn l D cI cZ ad _ _ _ _ e16) YX11_isIn ml_X11_144 (pw_rmOK (by omega) (by decide)) rfl hl.1 rfl (Nat.le_of_ble_eq_true rfl) dX11_talk_3 ⟨Nat.zero_le _, Nat.zero_le _⟩ (fun H locs hw => ?_)
  refine lv_if_eq (tgt := 23) hx hb dX11_talk_6 (by decide) (fun hc => ?_) (fun hc => ?_)
  · replace h := pw_t hc h
    exact wX11_talk_b23 C  _ _ _ _ hw (lv_sub hl [0] rfl) h
  · replace h := pw_f hc h
    refine lv_iload_n hx hb dX11_talk_9 rfl (lv_at hl 2 rfl) ?_
    refine lv_bipush (v := 16) hx hb dX11_talk_10 (by decide) ?_
    obtain ⟨v21, σ20, e19, h⟩ := cal_some h
    refine r_cSI C hw (sh := shM) (ad := ad) (As := [.int x2, .int 16]) (rest := []) (kX11_isIn l D cI cZ ad _ _ _ _ e19) YX11_isIn ml_X11_144 (pw_rmOK (by omega) (by decide)) rfl hl.1 rfl (Nat.le_of_ble_eq_true rfl) dX11_talk_12 ⟨Nat.zero_le _, Nat.zero_le _⟩ (fun H locs hw => ?_)
    refine lv_if_eq (tgt := 23) hx hb dX11_talk_15 (by decide) (fun hc => ?_) (fun hc => ?_)
    · replace h := pw_t hc h
      exact wX11_talk_b23 C  _ _ _ _ hw (lv_sub hl [0] rfl) h
    · replace h := pw_f hc h
      refine lv_iload_n hx hb dX11_talk_18 rfl (lv_at hl 1 rfl) ?_
      refine lv_iload_n hx hb dX11_talk_19 rfl (lv_at hl 2 rfl) ?_
      refine lv_icmp_ne (tgt := 29) hx hb dX11_talk_20 (by decide) (fun hc => ?_) (fun hc => ?_)
      · replace h := pw_f hc h
        refine lv_iconst (v := 0) hx hb dX11_talk_29 (by decide) ?_
        refine lv_istore_n (lv' := [(3, .int 0), (0, .ref (ad 0)), (1, .int x1), (2, .int x2)]) hx hb dX11_talk_30 rfl hl (by decide) rfl (fun ls hl => ?_)
        exact wX11_talk_b31 C  _ _ _ _ _ _ _ _ hw (lv_sub hl [1, 2, 3, 0] rfl) h
      · replace h := pw_t hc h
        exact wX11_talk_b23 C  _ _ _ _ hw (lv_sub hl [0] rfl) h
set_option maxRecDepth 100000 in
set_option maxHeartbeats 4000000 in
theorem wX11_nextDay_b51 {p : Program} {l : Launch} {e : Env} {s : State} {m : MethodId} {args : Array Value} {below : List Frame} {meth : Method} {c : Code} {D : va_G} {cI cZ : ClassId} {ad : Nat → Nat} {A : Nat → Prop} {z : Int32 × St}  (C : pw_C p s m args meth c yX11_nextDay.cls cX11_nextDay 4 (some .int) D cI cZ) : ∀ (n : Nat) (x1 : Int32) (x2 : Int32) (x3 : Int32) (σ : St) (H : Heap) (locs : List Loc) (ls : Array Slot), pw_H D (pw_w shM cI cZ ad σ) A s.heap H locs → lv_has ls 4 [(0, .ref (ad 0)), (1, .int x1), (2, .int x2), (3, .int x3)] → fX11_nextDay_b51  n x1 x2 x3 σ = some z → W p l e (pw_rm 0) s m args below meth c H locs 0 0 (pw_QI below args s D (pw_w shM cI cZ ad) A z) (F0 m 51 ls []) := by
  obtain ⟨hx, hb, hr, hts, hown, hlk, hml, hK, hN⟩ := id C
  intro n
  induction n with
  | zero =>
    intro x1 x2 x3 σ H locs ls hw hl h
    exact absurd h (by simp [fX11_nextDay_b51])
  | succ n ih =>
    intro x1 x2 x3 σ H locs ls hw hl h
    rw [fX11_nextDay_b51] at h
    refine lv_iload_n hx hb dX11_nextDay_51 rfl (lv_at hl 3 rfl) ?_
    refine lv_aload_n hx hb dX11_nextDay_52 rfl (lv_at hl 0 rfl) ?_
    refine r_get C hw qM_0 clsX11 23 rfl (by decide) fl_X11_256 dX11_nextDay_53 (v := .int (σ 0 23)) rfl ?_
    refine lv_icmp_ge (tgt := 96) hx hb dX11_nextDay_56 (by decide) (fun hc => ?_) (fun hc => ?_)
    · replace h := pw_t hc h
      refine lv_iload_n hx hb dX11_nextDay_96 rfl (lv_at hl 2 rfl) ?_
      exact r_iret C hw dX11_nextDay_97 h
    · replace h := pw_f hc h
      refine lv_aload_n hx hb dX11_nextDay_59 rfl (lv_at hl 0 rfl) ?_
      refine r_get C hw qM_0 clsX11 48 rfl (by decide) fl_X11_126 dX11_nextDay_60 (v := .ref (ad 39)) rfl ?_
      refine lv_iload_n hx hb dX11_nextDay_63 rfl (lv_at hl 3 rfl) ?_
      refine r_iald C hw qM_39 dX11_nextDay_64 h (fun v1 h => ?_)
      refine lv_iload_n hx hb dX11_nextDay_65 rfl (lv_at hl 1 rfl) ?_
      refine lv_icmp_le (tgt := 90) hx hb dX11_nextDay_66 (by decide) (fun hc => ?_) (fun hc => ?_)
      · replace h := pw_t hc h
        refine lv_iinc (v := (x3 + 1)) (lv' := [(3, .int (x3 + 1)), (0, .ref (ad 0)), (1, .int x1), (2, .int x2)]) hx hb dX11_nextDay_90 hl (k := 3) rfl rfl (by decide) rfl (fun ls hl => ?_)
        refine lv_goto (tgt := 51) hx hb dX11_nextDay_93 (by decide) ?_
        exact ih _ _ _ _ _ _ _ hw (lv_sub hl [1, 2, 3, 0] rfl) h
      · replace h := pw_f hc h
        refine lv_iload_n hx hb dX11_nextDay_69 rfl (lv_at hl 2 rfl) ?_
        refine lv_if_lt (tgt := 83) hx hb dX11_nextDay_70 (by decide) (fun hc => ?_) (fun hc => ?_)
        · replace h := pw_t hc h
          refine lv_aload_n hx hb dX11_nextDay_83 rfl (lv_at hl 0 rfl) ?_
          refine r_get C hw qM_0 clsX11 48 rfl (by decide) fl_X11_126 dX11_nextDay_84 (v := .ref (ad 39)) rfl ?_
          refine lv_iload_n hx hb dX11_nextDay_87 rfl (lv_at hl 3 rfl) ?_
          refine r_iald C hw qM_39 dX11_nextDay_88 h (fun v2 h => ?_)
          refine lv_istore_n (lv' := [(2, .int v2), (0, .ref (ad 0)), (1, .int x1), (3, .int x3)]) hx hb dX11_nextDay_89 rfl hl (by decide) rfl (fun ls hl => ?_)
          refine lv_iinc (v := (x3 + 1)) (lv' := [(3, .int (x3 + 1)), (2, .int v2), (0, .ref (ad 0)), (1, .int x1)]) hx hb dX11_nextDay_90 hl (k := 3) rfl rfl (by decide) rfl (fun ls hl => ?_)
          refine lv_goto (tgt := 51) hx hb dX11_nextDay_93 (by decide) ?_
          exact ih _ _ _ _ _ _ _ hw (lv_sub hl [2, 3, 1, 0] rfl) h
        · replace h := pw_f hc h
          refine lv_aload_n hx hb dX11_nextDay_73 rfl (lv_at hl 0 rfl) ?_
          refine r_get C hw qM_0 clsX11 48 rfl (by decide) fl_X11_126 dX11_nextDay_74 (v := .ref (ad 39)) rfl ?_
          refine lv_iload_n hx hb dX11_nextDay_77 rfl (lv_at hl 3 rfl) ?_
          refine r_iald C hw qM_39 dX11_nextDay_78 h (fun v3 h => ?_)
          refine lv_iload_n hx hb dX11_nextDay_79 rfl (lv_at hl 2 rfl) ?_
          refine lv_icmp_ge (tgt := 90) hx hb dX11_nextDay_80 (by decide) (fun hc => ?_) (fun hc => ?_)
          · replace h := pw_t hc h
            refine lv_iinc (v := (x3 + 1)) (lv' := [(3, .int (x3 + 1)), (0, .ref (ad 0)), (1, .int x1), (2, .int x2)]) hx hb dX11_nextDay_90 hl (k := 3) rfl rfl (by decide) rfl (fun ls hl => ?_)
            refine lv_goto (tgt := 51) hx hb dX11_nextDay_93 (by decide) ?_
            exact ih _ _ _ _ _ _ _ hw (lv_sub hl [1, 2, 3, 0] rfl) h
          · replace h := pw_f hc h
            refine lv_aload_n hx hb dX11_nextDay_83 rfl (lv_at hl 0 rfl) ?_
            refine r_get C hw qM_0 clsX11 48 rfl (by decide) fl_X11_126 dX11_nextDay_84 (v := .ref (ad 39)) rfl ?_
            refine lv_iload_n hx hb dX11_nextDay_87 rfl (lv_at hl 3 rfl) ?_
            refine r_iald C hw qM_39 dX11_nextDay_88 h (fun v4 h => ?_)
            refine lv_istore_n (lv' := [(2, .int v4), (0, .ref (ad 0)), (1, .int x1), (3, .int x3)]) hx hb dX11_nextDay_89 rfl hl (by decide) rfl (fun ls hl => ?_)
            refine lv_iinc (v := (x3 + 1)) (lv' := [(3, .int (x3 + 1)), (2, .int v4), (0, .ref (ad 0)), (1, .int x1)]) hx hb dX11_nextDay_90 hl (k := 3) rfl rfl (by decide) rfl (fun ls hl => ?_)
            refine lv_goto (tgt := 51) hx hb dX11_nextDay_93 (by decide) ?_
            exact ih _ _ _ _ _ _ _ hw (lv_sub hl [2, 3, 1, 0] rfl) h
set_option maxRecDepth 100000 in
set_option maxHeartbeats 4000000 in
theorem wX11_nextDay_b4 {p : Program} {l : Launch} {e : Env} {s : State} {m : MethodId} {args : Array Value} {below : List Frame} {meth : Method} {c : Code} {D : va_G} {cI cZ : ClassId} {ad : Nat → Nat} {A : Nat → Prop} {z : Int32 × St}  (C : pw_C p s m args meth c yX11_nextDay.cls cX11_nextDay 4 (some .int) D cI cZ) : ∀ (n : Nat) (x1 : Int32) (x2 : Int32) (x3 : Int32) (σ : St) (H : Heap) (locs : List Loc) (ls : Array Slot), pw_H D (pw_w shM cI cZ ad σ) A s.heap H locs → lv_has ls 4 [(0, .ref (ad 0)), (1, .int x1), (2, .int x2), (3, .int x3)] → fX11_nextDay_b4  n x1 x2 x3 σ = some z → W p l e (pw_rm 0) s m args below meth c H locs 0 0 (pw_QI below args s D (pw_w shM cI cZ ad) A z) (F0 m 4 ls []) := by
  obtain ⟨hx, hb, hr, hts, hown, hlk, hml, hK, hN⟩ := id C
  intro n
  induction n with
  | zero =>
    intro x1 x2 x3 σ H locs ls hw hl h
    exact absurd h (by simp [fX11_nextDay_b4])
  | succ n ih =>
    intro x1 x2 x3 σ H locs ls hw hl h
    rw [fX11_nextDay_b4] at h
    refine lv_iload_n hx hb dX11_nextDay_4 rfl (lv_at hl 3 rfl) ?_
    refine lv_aload_n hx hb dX11_nextDay_5 rfl (lv_at hl 0 rfl) ?_
    refine r_get C hw qM_0 clsX11 24 rfl (by decide) fl_X11_253 dX11_nextDay_6 (v := .int (σ 0 24)) rfl ?_
    refine lv_icmp_ge (tgt := 49) hx hb dX11_nextDay_9 (by decide) (fun hc => ?_) (fun hc => ?_)
    · replace h := pw_t hc h
      refine lv_iconst (v := 0) hx hb dX11_nextDay_49 (by decide) ?_
      refine lv_istore_n (lv' := [(3, .int 0), (0, .ref (ad 0)), (1, .int x1), (2, .int x2)]) hx hb dX11_nextDay_50 rfl hl (by decide) rfl (fun ls hl => ?_)
      exact wX11_nextDay_b51 C  _ _ _ _ _ _ _ _ hw (lv_sub hl [1, 2, 3, 0] rfl) h
    · replace h := pw_f hc h
      refine lv_aload_n hx hb dX11_nextDay_12 rfl (lv_at hl 0 rfl) ?_
      refine r_get C hw qM_0 clsX11 45 rfl (by decide) fl_X11_117 dX11_nextDay_13 (v := .ref (ad 36)) rfl ?_
      refine lv_iload_n hx hb dX11_nextDay_16 rfl (lv_at hl 3 rfl) ?_
      refine r_iald C hw qM_36 dX11_nextDay_17 h (fun v5 h => ?_)
      refine lv_iload_n hx hb dX11_nextDay_18 rfl (lv_at hl 1 rfl) ?_
      refine lv_icmp_le (tgt := 43) hx hb dX11_nextDay_19 (by decide) (fun hc => ?_) (fun hc => ?_)
      · replace h := pw_t hc h
        refine lv_iinc (v := (x3 + 1)) (lv' := [(3, .int (x3 + 1)), (0, .ref (ad 0)), (1, .int x1), (2, .int x2)]) hx hb dX11_nextDay_43 hl (k := 3) rfl rfl (by decide) rfl (fun ls hl => ?_)
        refine lv_goto (tgt := 4) hx hb dX11_nextDay_46 (by decide) ?_
        exact ih _ _ _ _ _ _ _ hw (lv_sub hl [1, 2, 3, 0] rfl) h
      · replace h := pw_f hc h
        refine lv_iload_n hx hb dX11_nextDay_22 rfl (lv_at hl 2 rfl) ?_
        refine lv_if_lt (tgt := 36) hx hb dX11_nextDay_23 (by decide) (fun hc => ?_) (fun hc => ?_)
        · replace h := pw_t hc h
          refine lv_aload_n hx hb dX11_nextDay_36 rfl (lv_at hl 0 rfl) ?_
          refine r_get C hw qM_0 clsX11 45 rfl (by decide) fl_X11_117 dX11_nextDay_37 (v := .ref (ad 36)) rfl ?_
          refine lv_iload_n hx hb dX11_nextDay_40 rfl (lv_at hl 3 rfl) ?_
          refine r_iald C hw qM_36 dX11_nextDay_41 h (fun v6 h => ?_)
          refine lv_istore_n (lv' := [(2, .int v6), (0, .ref (ad 0)), (1, .int x1), (3, .int x3)]) hx hb dX11_nextDay_42 rfl hl (by decide) rfl (fun ls hl => ?_)
          refine lv_iinc (v := (x3 + 1)) (lv' := [(3, .int (x3 + 1)), (2, .int v6), (0, .ref (ad 0)), (1, .int x1)]) hx hb dX11_nextDay_43 hl (k := 3) rfl rfl (by decide) rfl (fun ls hl => ?_)
          refine lv_goto (tgt := 4) hx hb dX11_nextDay_46 (by decide) ?_
          exact ih _ _ _ _ _ _ _ hw (lv_sub hl [2, 3, 1, 0] rfl) h
        · replace h := pw_f hc h
          refine lv_aload_n hx hb dX11_nextDay_26 rfl (lv_at hl 0 rfl) ?_
          refine r_get C hw qM_0 clsX11 45 rfl (by decide) fl_X11_117 dX11_nextDay_27 (v := .ref (ad 36)) rfl ?_
          refine lv_iload_n hx hb dX11_nextDay_30 rfl (lv_at hl 3 rfl) ?_
          refine r_iald C hw qM_36 dX11_nextDay_31 h (fun v7 h => ?_)
          refine lv_iload_n hx hb dX11_nextDay_32 rfl (lv_at hl 2 rfl) ?_
          refine lv_icmp_ge (tgt := 43) hx hb dX11_nextDay_33 (by decide) (fun hc => ?_) (fun hc => ?_)
          · replace h := pw_t hc h
            refine lv_iinc (v := (x3 + 1)) (lv' := [(3, .int (x3 + 1)), (0, .ref (ad 0)), (1, .int x1), (2, .int x2)]) hx hb dX11_nextDay_43 hl (k := 3) rfl rfl (by decide) rfl (fun ls hl => ?_)
            refine lv_goto (tgt := 4) hx hb dX11_nextDay_46 (by decide) ?_
            exact ih _ _ _ _ _ _ _ hw (lv_sub hl [1, 2, 3, 0] rfl) h
          · replace h := pw_f hc h
            refine lv_aload_n hx hb dX11_nextDay_36 rfl (lv_at hl 0 rfl) ?_
            refine r_get C hw qM_0 clsX11 45 rfl (by decide) fl_X11_117 dX11_nextDay_37 (v := .ref (ad 36)) rfl ?_
            refine lv_iload_n hx hb dX11_nextDay_40 rfl (lv_at hl 3 rfl) ?_
            refine r_iald C hw qM_36 dX11_nextDay_41 h (fun v8 h => ?_)
            refine lv_istore_n (lv' := [(2, .int v8), (0, .ref (ad 0)), (1, .int x1), (3, .int x3)]) hx hb dX11_nextDay_42 rfl hl (by decide) rfl (fun ls hl => ?_)
            refine lv_iinc (v := (x3 + 1)) (lv' := [(3, .int (x3 + 1)), (2, .int v8), (0, .ref (ad 0)), (1, .int x1)]) hx hb dX11_nextDay_43 hl (k := 3) rfl rfl (by decide) rfl (fun ls hl => ?_)
            refine lv_goto (tgt := 4) hx hb dX11_nextDay_46 (by decide) ?_
            exact ih _ _ _ _ _ _ _ hw (lv_sub hl [2, 3, 1, 0] rfl) h
set_option maxRecDepth 100000 in
set_option maxHeartbeats 4000000 in
theorem kX11_nextDay (l : Launch) (D : va_G) (cI cZ : ClassId) (ad : Nat → Nat) (x1 : Int32) (σ : St) (z : Int32 × St) (h : fX11_nextDay x1 σ = some z) : pw_MI l D shM cI cZ ad yX11_nextDay cX11_nextDay 4 (some .int) (pw_rm 0) [.ref (ad 0), .int x1] σ z.1 z.2 := by
  refine pw_ofI (by decide) (Nat.le_of_ble_eq_true rfl) ?_
  intro p e s m args below meth c A C hw ls hl
  obtain ⟨hx, hb, hr, hts, hown, hlk, hml, hK, hN⟩ := id C
  have hl : lv_has ls 4 [(0, .ref (ad 0)), (1, .int x1)] := hl
  unfold fX11_nextDay at h
  refine lv_iconst (v := (-1)) hx hb dX11_nextDay_0 (by decide) ?_
  refine lv_istore_n (lv' := [(2, .int (-1)), (0, .ref (ad 0)), (1, .int x1)]) hx hb dX11_nextDay_1 rfl hl (by decide) rfl (fun ls hl => ?_)
  refine lv_iconst (v := 0) hx hb dX11_nextDay_2 (by decide) ?_
  refine lv_istore_n (lv' := [(3, .int 0), (2, .int (-1)), (0, .ref (ad 0)), (1, .int x1)]) hx hb dX11_nextDay_3 rfl hl (by decide) rfl (fun ls hl => ?_)
  exact wX11_nextDay_b4 C  _ _ _ _ _ _ _ _ hw (lv_sub hl [2, 3, 1, 0] rfl) h
