set_option maxRecDepth 100000 in
set_option maxHeartbeats 4000000 in
theorem wX4_ofWhole_b7 {p : Program} {l : Launch} {e : Env} {s : State} {m : MethodId} {args : Array Value} {below : List Frame} {meth : Method} {c : Code} {D : va_G} {cI cZ : ClassId} {ad : Nat → Nat} {A : Nat → Prop} {z : Int32 × St}  (C : pw_C p s m args meth c yX4_ofWhole.cls cX4_ofWhole 5 (some .int) D cI cZ) : ∀ (n : Nat) (x1 : Int32) (x2 : Int32) (x3 : Int32) (x4 : Int32) (σ : St) (H : Heap) (locs : List Loc) (ls : Array Slot), pw_H D (pw_w shC cI cZ ad σ) A s.heap H locs → lv_has ls 5 [(0, .ref (ad 45)), (1, .int x1), (2, .int x2), (3, .int x3), (4, .int x4)] → fX4_ofWhole_b7  n x1 x2 x3 x4 σ = some z → W p l e (pw_rm 1) s m args below meth c H locs 0 0 (pw_QI below args s D (pw_w shC cI cZ ad) A z) (F0 m 7 ls []) := by
  obtain ⟨hx, hb, hr, hts, hown, hlk, hml, hK, hN⟩ := id C
  intro n
  induction n with
  | zero =>
    intro x1 x2 x3 x4 σ H locs ls hw hl h
    exact absurd h (by simp [fX4_ofWhole_b7])
  | succ n ih =>
    intro x1 x2 x3 x4 σ H locs ls hw hl h
    rw [fX4_ofWhole_b7] at h
    refine lv_iload hx hb dX4_ofWhole_7 (lv_at hl 4 rfl) ?_
    refine lv_iload_n hx hb dX4_ofWhole_9 rfl (lv_at hl 1 rfl) ?_
    refine lv_icmp_gt (tgt := 26) hx hb dX4_ofWhole_10 (by decide) (fun hc => ?_) (fun hc => ?_)
    · replace h := pw_t hc h
      refine lv_aload_n hx hb dX4_ofWhole_26 rfl (lv_at hl 0 rfl) ?_
      refine lv_iload_n hx hb dX4_ofWhole_27 rfl (lv_at hl 2 rfl) ?_
      refine lv_iload_n hx hb dX4_ofWhole_28 rfl (lv_at hl 1 rfl) ?_
      obtain ⟨v3, σ2, e1, h⟩ := cal_some h
      refine r_cVI C hw (As := [.int x2, .int x1]) (rest := []) (kX4_orMore l D cI cZ ad _ _ _ _ e1) YX4_orMore ml_X4_22 qC_45 clsX4 (pw_rmOK (by omega) (by decide)) rfl hl.1 rfl (Nat.le_of_ble_eq_true rfl) dX4_ofWhole_29 ⟨Nat.zero_le _, Nat.zero_le _⟩ (fun H locs hw => ?_)
      exact r_iret C hw dX4_ofWhole_32 h
    · replace h := pw_f hc h
      refine lv_aload_n hx hb dX4_ofWhole_13 rfl (lv_at hl 0 rfl) ?_
      refine lv_iload hx hb dX4_ofWhole_14 (lv_at hl 4 rfl) ?_
      refine lv_iload_n hx hb dX4_ofWhole_16 rfl (lv_at hl 3 rfl) ?_
      obtain ⟨r6, σ5, e4, h⟩ := cal_some h
      refine r_cVV C hw (As := [.int x4, .int x3]) (rest := []) (kX4_makeOneMore l D cI cZ ad _ _ _ _ e4) YX4_makeOneMore ml_X4_18 qC_45 clsX4 (pw_rmOK (by omega) (by decide)) rfl hl.1 rfl (Nat.le_of_ble_eq_true rfl) dX4_ofWhole_17 ⟨Nat.zero_le _, Nat.zero_le _⟩ (fun H locs hw => ?_)
      refine lv_iinc (v := (x4 + 1)) (lv' := [(4, .int (x4 + 1)), (0, .ref (ad 45)), (1, .int x1), (2, .int x2), (3, .int x3)]) hx hb dX4_ofWhole_20 hl (k := 4) rfl rfl (by decide) rfl (fun ls hl => ?_)
      refine lv_goto (tgt := 7) hx hb dX4_ofWhole_23 (by decide) ?_
      exact ih _ _ _ _ _ _ _ _ hw (lv_sub hl [1, 2, 3, 4, 0] rfl) h
set_option maxRecDepth 100000 in
set_option maxHeartbeats 4000000 in
theorem kX4_ofWhole (l : Launch) (D : va_G) (cI cZ : ClassId) (ad : Nat → Nat) (x1 : Int32) (x2 : Int32) (x3 : Int32) (σ : St) (z : Int32 × St) (h : fX4_ofWhole x1 x2 x3 σ = some z) : pw_MI l D shC cI cZ ad yX4_ofWhole cX4_ofWhole 5 (some .int) (pw_rm 1) [.ref (ad 45), .int x1, .int x2, .int x3] σ z.1 z.2 := by
  refine pw_ofI (by decide) (Nat.le_of_ble_eq_true rfl) ?_
  intro p e s m args below meth c A C hw ls hl
  obtain ⟨hx, hb, hr, hts, hown, hlk, hml, hK, hN⟩ := id C
  have hl : lv_has ls 5 [(0, .ref (ad 45)), (1, .int x1), (2, .int x2), (3, .int x3)] := hl
  unfold fX4_ofWhole at h
  refine lv_aload_n hx hb dX4_ofWhole_0 rfl (lv_at hl 0 rfl) ?_
  obtain ⟨r9, σ8, e7, h⟩ := cal_some h
  refine r_cVV C hw (As := []) (rest := []) (kX4_begin l D cI cZ ad _ _ e7) YX4_begin ml_X4_15 qC_45 clsX4 (pw_rmOK (by omega) (by decide)) rfl hl.1 rfl (Nat.le_of_ble_eq_true rfl) dX4_ofWhole_1 ⟨Nat.zero_le _, Nat.zero_le _⟩ (fun H locs hw => ?_)
  refine lv_iconst (v := 1) hx hb dX4_ofWhole_4 (by decide) ?_
  refine lv_istore (lv' := [(4, .int 1), (0, .ref (ad 45)), (1, .int x1), (2, .int x2), (3, .int x3)]) hx hb dX4_ofWhole_5 hl (by decide) rfl (fun ls hl => ?_)
  exact wX4_ofWhole_b7 C  _ _ _ _ _ _ _ _ _ hw (lv_sub hl [1, 2, 3, 4, 0] rfl) h
set_option maxRecDepth 100000 in
set_option maxHeartbeats 4000000 in
theorem wX10_chance_b40 {p : Program} {l : Launch} {e : Env} {s : State} {m : MethodId} {args : Array Value} {below : List Frame} {meth : Method} {c : Code} {D : va_G} {cI cZ : ClassId} {ad : Nat → Nat} {A : Nat → Prop} {z : Int32 × St}  (C : pw_C p s m args meth c yX10_chance.cls cX10_chance 4 (some .int) D cI cZ) : ∀  (σ : St) (H : Heap) (locs : List Loc) (ls : Array Slot), pw_H D (pw_w shC cI cZ ad σ) A s.heap H locs → lv_has ls 4 [(0, .ref (ad 0))] → fX10_chance_b40   σ = some z → W p l e (pw_rm 2) s m args below meth c H locs 0 0 (pw_QI below args s D (pw_w shC cI cZ ad) A z) (F0 m 40 ls []) := by
  obtain ⟨hx, hb, hr, hts, hown, hlk, hml, hK, hN⟩ := id C
  intro σ H locs ls hw hl h
  unfold fX10_chance_b40 at h
  refine lv_aload_n hx hb dX10_chance_40 rfl (lv_at hl 0 rfl) ?_
  refine lv_bipush (v := (-6)) hx hb dX10_chance_41 (by decide) ?_
  obtain ⟨v3, σ2, e1, h⟩ := cal_some h
  refine r_cVI C hw (As := [.int (-6)]) (rest := []) (kX10_refuse l D cI cZ ad _ _ _ e1) YX10_refuse ml_X10_91 qC_0 clsX10 (pw_rmOK (by omega) (by decide)) rfl hl.1 rfl (Nat.le_of_ble_eq_true rfl) dX10_chance_43 ⟨Nat.zero_le _, Nat.zero_le _⟩ (fun H locs hw => ?_)
  exact r_iret C hw dX10_chance_46 h
set_option maxRecDepth 100000 in
set_option maxHeartbeats 4000000 in
theorem wX10_chance_b12 {p : Program} {l : Launch} {e : Env} {s : State} {m : MethodId} {args : Array Value} {below : List Frame} {meth : Method} {c : Code} {D : va_G} {cI cZ : ClassId} {ad : Nat → Nat} {A : Nat → Prop} {z : Int32 × St}  (C : pw_C p s m args meth c yX10_chance.cls cX10_chance 4 (some .int) D cI cZ) : ∀  (σ : St) (H : Heap) (locs : List Loc) (ls : Array Slot), pw_H D (pw_w shC cI cZ ad σ) A s.heap H locs → lv_has ls 4 [(0, .ref (ad 0))] → fX10_chance_b12   σ = some z → W p l e (pw_rm 2) s m args below meth c H locs 0 0 (pw_QI below args s D (pw_w shC cI cZ ad) A z) (F0 m 12 ls []) := by
  obtain ⟨hx, hb, hr, hts, hown, hlk, hml, hK, hN⟩ := id C
  intro σ H locs ls hw hl h
  unfold fX10_chance_b12 at h
  refine lv_aload_n hx hb dX10_chance_12 rfl (lv_at hl 0 rfl) ?_
  refine lv_bipush (v := (-4)) hx hb dX10_chance_13 (by decide) ?_
  obtain ⟨v6, σ5, e4, h⟩ := cal_some h
  refine r_cVI C hw (As := [.int (-4)]) (rest := []) (kX10_refuse l D cI cZ ad _ _ _ e4) YX10_refuse ml_X10_91 qC_0 clsX10 (pw_rmOK (by omega) (by decide)) rfl hl.1 rfl (Nat.le_of_ble_eq_true rfl) dX10_chance_15 ⟨Nat.zero_le _, Nat.zero_le _⟩ (fun H locs hw => ?_)
  exact r_iret C hw dX10_chance_18 h
set_option maxRecDepth 100000 in
set_option maxHeartbeats 4000000 in
theorem kX10_chance (l : Launch) (D : va_G) (cI cZ : ClassId) (ad : Nat → Nat) (x1 : Int32) (x2 : Int32) (x3 : Int32) (σ : St) (z : Int32 × St) (h : fX10_chance x1 x2 x3 σ = some z) : pw_MI l D shC cI cZ ad yX10_chance cX10_chance 4 (some .int) (pw_rm 2) [.ref (ad 0), .int x1, .int x2, .int x3] σ z.1 z.2 := by
  refine pw_ofI (by decide) (Nat.le_of_ble_eq_true rfl) ?_
  intro p e s m args below meth c A C hw ls hl
  obtain ⟨hx, hb, hr, hts, hown, hlk, hml, hK, hN⟩ := id C
  have hl : lv_has ls 4 [(0, .ref (ad 0)), (1, .int x1), (2, .int x2), (3, .int x3)] := hl
  unfold fX10_chance at h
  refine lv_iload_n hx hb dX10_chance_0 rfl (lv_at hl 1 rfl) ?_
  refine lv_if_lt (tgt := 12) hx hb dX10_chance_1 (by decide) (fun hc => ?_) (fun hc => ?_)
  · replace h := pw_t hc h
    exact wX10_chance_b12 C  _ _ _ _ hw (lv_sub hl [0] rfl) h
  · replace h := pw_f hc h
    refine lv_iload_n hx hb dX10_chance_4 rfl (lv_at hl 2 rfl) ?_
    refine lv_if_lt (tgt := 12) hx hb dX10_chance_5 (by decide) (fun hc => ?_) (fun hc => ?_)
    · replace h := pw_t hc h
      exact wX10_chance_b12 C  _ _ _ _ hw (lv_sub hl [0] rfl) h
    · replace h := pw_f hc h
      refine lv_iload_n hx hb dX10_chance_8 rfl (lv_at hl 3 rfl) ?_
      refine lv_if_ge (tgt := 19) hx hb dX10_chance_9 (by decide) (fun hc => ?_) (fun hc => ?_)
      · replace h := pw_t hc h
        refine lv_iload_n hx hb dX10_chance_19 rfl (lv_at hl 1 rfl) ?_
        refine lv_sipush (v := 200) hx hb dX10_chance_20 (by decide) ?_
        refine lv_icmp_gt (tgt := 40) hx hb dX10_chance_23 (by decide) (fun hc => ?_) (fun hc => ?_)
        · replace h := pw_t hc h
          exact wX10_chance_b40 C  _ _ _ _ hw (lv_sub hl [0] rfl) h
        · replace h := pw_f hc h
          refine lv_iload_n hx hb dX10_chance_26 rfl (lv_at hl 2 rfl) ?_
          refine lv_sipush (v := 200) hx hb dX10_chance_27 (by decide) ?_
          refine lv_icmp_gt (tgt := 40) hx hb dX10_chance_30 (by decide) (fun hc => ?_) (fun hc => ?_)
          · replace h := pw_t hc h
            exact wX10_chance_b40 C  _ _ _ _ hw (lv_sub hl [0] rfl) h
          · replace h := pw_f hc h
            refine lv_iload_n hx hb dX10_chance_33 rfl (lv_at hl 3 rfl) ?_
            refine lv_sipush (v := 1024) hx hb dX10_chance_34 (by decide) ?_
            refine lv_icmp_le (tgt := 47) hx hb dX10_chance_37 (by decide) (fun hc => ?_) (fun hc => ?_)
            · replace h := pw_t hc h
              refine lv_aload_n hx hb dX10_chance_47 rfl (lv_at hl 0 rfl) ?_
              refine r_get C hw qC_0 clsX10 8 rfl (by decide) fl_X10_65 dX10_chance_48 (v := .ref (ad 45)) rfl ?_
              refine lv_iload_n hx hb dX10_chance_51 rfl (lv_at hl 1 rfl) ?_
              refine lv_iload_n hx hb dX10_chance_52 rfl (lv_at hl 2 rfl) ?_
              refine lv_iload_n hx hb dX10_chance_53 rfl (lv_at hl 3 rfl) ?_
              obtain ⟨v9, σ8, e7, h⟩ := cal_some h
              refine r_cNI C hw (As := [.int x1, .int x2, .int x3]) (rest := []) (kX4_ofWhole l D cI cZ ad _ _ _ _ _ e7) YX4_ofWhole mn_X10_254 qC_45 clsX4 (pw_rmOK (by omega) (by decide)) rfl hl.1 rfl (Nat.le_of_ble_eq_true rfl) dX10_chance_54 ⟨Nat.zero_le _, Nat.zero_le _⟩ (fun H locs hw => ?_)
              exact r_iret C hw dX10_chance_57 h
            · replace h := pw_f hc h
              exact wX10_chance_b40 C  _ _ _ _ hw (lv_sub hl [0] rfl) h
      · replace h := pw_f hc h
        exact wX10_chance_b12 C  _ _ _ _ hw (lv_sub hl [0] rfl) h
set_option maxRecDepth 100000 in
set_option maxHeartbeats 4000000 in
theorem wX4_fewestFor_b19 {p : Program} {l : Launch} {e : Env} {s : State} {m : MethodId} {args : Array Value} {below : List Frame} {meth : Method} {c : Code} {D : va_G} {cI cZ : ClassId} {ad : Nat → Nat} {A : Nat → Prop} {z : Int32 × St}  (C : pw_C p s m args meth c yX4_fewestFor.cls cX4_fewestFor 5 (some .int) D cI cZ) : ∀ (n : Nat) (x1 : Int32) (x2 : Int32) (x3 : Int32) (x4 : Int32) (σ : St) (H : Heap) (locs : List Loc) (ls : Array Slot), pw_H D (pw_w shC cI cZ ad σ) A s.heap H locs → lv_has ls 5 [(0, .ref (ad 45)), (1, .int x1), (2, .int x2), (3, .int x3), (4, .int x4)] → fX4_fewestFor_b19  n x1 x2 x3 x4 σ = some z → W p l e (pw_rm 1) s m args below meth c H locs 0 0 (pw_QI below args s D (pw_w shC cI cZ ad) A z) (F0 m 19 ls []) := by
  obtain ⟨hx, hb, hr, hts, hown, hlk, hml, hK, hN⟩ := id C
  intro n
  induction n with
  | zero =>
    intro x1 x2 x3 x4 σ H locs ls hw hl h
    exact absurd h (by simp [fX4_fewestFor_b19])
  | succ n ih =>
    intro x1 x2 x3 x4 σ H locs ls hw hl h
    rw [fX4_fewestFor_b19] at h
    refine lv_iload hx hb dX4_fewestFor_19 (lv_at hl 4 rfl) ?_
    refine lv_sipush (v := 200) hx hb dX4_fewestFor_21 (by decide) ?_
    refine lv_icmp_gt (tgt := 54) hx hb dX4_fewestFor_24 (by decide) (fun hc => ?_) (fun hc => ?_)
    · replace h := pw_t hc h
      refine lv_bipush (v := (-9)) hx hb dX4_fewestFor_54 (by decide) ?_
      exact r_iret C hw dX4_fewestFor_56 h
    · replace h := pw_f hc h
      refine lv_aload_n hx hb dX4_fewestFor_27 rfl (lv_at hl 0 rfl) ?_
      refine lv_iload hx hb dX4_fewestFor_28 (lv_at hl 4 rfl) ?_
      refine lv_iload_n hx hb dX4_fewestFor_30 rfl (lv_at hl 2 rfl) ?_
      obtain ⟨r3, σ2, e1, h⟩ := cal_some h
      refine r_cVV C hw (As := [.int x4, .int x2]) (rest := []) (kX4_makeOneMore l D cI cZ ad _ _ _ _ e1) YX4_makeOneMore ml_X4_18 qC_45 clsX4 (pw_rmOK (by omega) (by decide)) rfl hl.1 rfl (Nat.le_of_ble_eq_true rfl) dX4_fewestFor_31 ⟨Nat.zero_le _, Nat.zero_le _⟩ (fun H locs hw => ?_)
      refine lv_aload_n hx hb dX4_fewestFor_34 rfl (lv_at hl 0 rfl) ?_
      refine lv_iload_n hx hb dX4_fewestFor_35 rfl (lv_at hl 1 rfl) ?_
      refine lv_iload hx hb dX4_fewestFor_36 (lv_at hl 4 rfl) ?_
      obtain ⟨v6, σ5, e4, h⟩ := cal_some h
      refine r_cVI C hw (As := [.int x1, .int x4]) (rest := []) (kX4_orMore l D cI cZ ad _ _ _ _ e4) YX4_orMore ml_X4_22 qC_45 clsX4 (pw_rmOK (by omega) (by decide)) rfl hl.1 rfl (Nat.le_of_ble_eq_true rfl) dX4_fewestFor_38 ⟨Nat.zero_le _, Nat.zero_le _⟩ (fun H locs hw => ?_)
      refine lv_iload_n hx hb dX4_fewestFor_41 rfl (lv_at hl 3 rfl) ?_
      refine lv_icmp_lt (tgt := 48) hx hb dX4_fewestFor_42 (by decide) (fun hc => ?_) (fun hc => ?_)
      · replace h := pw_t hc h
        refine lv_iinc (v := (x4 + 1)) (lv' := [(4, .int (x4 + 1)), (0, .ref (ad 45)), (1, .int x1), (2, .int x2), (3, .int x3)]) hx hb dX4_fewestFor_48 hl (k := 4) rfl rfl (by decide) rfl (fun ls hl => ?_)
        refine lv_goto (tgt := 19) hx hb dX4_fewestFor_51 (by decide) ?_
        exact ih _ _ _ _ _ _ _ _ hw (lv_sub hl [1, 2, 3, 4, 0] rfl) h
      · replace h := pw_f hc h
        refine lv_iload hx hb dX4_fewestFor_45 (lv_at hl 4 rfl) ?_
        exact r_iret C hw dX4_fewestFor_47 h
set_option maxRecDepth 100000 in
set_option maxHeartbeats 4000000 in
theorem kX4_fewestFor (l : Launch) (D : va_G) (cI cZ : ClassId) (ad : Nat → Nat) (x1 : Int32) (x2 : Int32) (x3 : Int32) (σ : St) (z : Int32 × St) (h : fX4_fewestFor x1 x2 x3 σ = some z) : pw_MI l D shC cI cZ ad yX4_fewestFor cX4_fewestFor 5 (some .int) (pw_rm 1) [.ref (ad 45), .int x1, .int x2, .int x3] σ z.1 z.2 := by
  refine pw_ofI (by decide) (Nat.le_of_ble_eq_true rfl) ?_
  intro p e s m args below meth c A C hw ls hl
  obtain ⟨hx, hb, hr, hts, hown, hlk, hml, hK, hN⟩ := id C
  have hl : lv_has ls 5 [(0, .ref (ad 45)), (1, .int x1), (2, .int x2), (3, .int x3)] := hl
  unfold fX4_fewestFor at h
  refine lv_aload_n hx hb dX4_fewestFor_0 rfl (lv_at hl 0 rfl) ?_
  obtain ⟨r9, σ8, e7, h⟩ := cal_some h
  refine r_cVV C hw (As := []) (rest := []) (kX4_begin l D cI cZ ad _ _ e7) YX4_begin ml_X4_15 qC_45 clsX4 (pw_rmOK (by omega) (by decide)) rfl hl.1 rfl (Nat.le_of_ble_eq_true rfl) dX4_fewestFor_1 ⟨Nat.zero_le _, Nat.zero_le _⟩ (fun H locs hw => ?_)
  refine lv_aload_n hx hb dX4_fewestFor_4 rfl (lv_at hl 0 rfl) ?_
  refine lv_iload_n hx hb dX4_fewestFor_5 rfl (lv_at hl 1 rfl) ?_
  refine lv_iconst (v := 0) hx hb dX4_fewestFor_6 (by decide) ?_
  obtain ⟨v12, σ11, e10, h⟩ := cal_some h
  refine r_cVI C hw (As := [.int x1, .int 0]) (rest := []) (kX4_orMore l D cI cZ ad _ _ _ _ e10) YX4_orMore ml_X4_22 qC_45 clsX4 (pw_rmOK (by omega) (by decide)) rfl hl.1 rfl (Nat.le_of_ble_eq_true rfl) dX4_fewestFor_7 ⟨Nat.zero_le _, Nat.zero_le _⟩ (fun H locs hw => ?_)
  refine lv_iload_n hx hb dX4_fewestFor_10 rfl (lv_at hl 3 rfl) ?_
  refine lv_icmp_lt (tgt := 16) hx hb dX4_fewestFor_11 (by decide) (fun hc => ?_) (fun hc => ?_)
  · replace h := pw_t hc h
    refine lv_iconst (v := 1) hx hb dX4_fewestFor_16 (by decide) ?_
    refine lv_istore (lv' := [(4, .int 1), (0, .ref (ad 45)), (1, .int x1), (2, .int x2), (3, .int x3)]) hx hb dX4_fewestFor_17 hl (by decide) rfl (fun ls hl => ?_)
    exact wX4_fewestFor_b19 C  _ _ _ _ _ _ _ _ _ hw (lv_sub hl [1, 2, 3, 4, 0] rfl) h
  · replace h := pw_f hc h
    refine lv_iconst (v := 0) hx hb dX4_fewestFor_14 (by decide) ?_
    exact r_iret C hw dX4_fewestFor_15 h
set_option maxRecDepth 100000 in
set_option maxHeartbeats 4000000 in
theorem wX10_make_b40 {p : Program} {l : Launch} {e : Env} {s : State} {m : MethodId} {args : Array Value} {below : List Frame} {meth : Method} {c : Code} {D : va_G} {cI cZ : ClassId} {ad : Nat → Nat} {A : Nat → Prop} {z : Int32 × St}  (C : pw_C p s m args meth c yX10_make.cls cX10_make 4 (some .int) D cI cZ) : ∀  (σ : St) (H : Heap) (locs : List Loc) (ls : Array Slot), pw_H D (pw_w shC cI cZ ad σ) A s.heap H locs → lv_has ls 4 [(0, .ref (ad 0))] → fX10_make_b40   σ = some z → W p l e (pw_rm 2) s m args below meth c H locs 0 0 (pw_QI below args s D (pw_w shC cI cZ ad) A z) (F0 m 40 ls []) := by
  obtain ⟨hx, hb, hr, hts, hown, hlk, hml, hK, hN⟩ := id C
  intro σ H locs ls hw hl h
  unfold fX10_make_b40 at h
  refine lv_aload_n hx hb dX10_make_40 rfl (lv_at hl 0 rfl) ?_
  refine lv_bipush (v := (-6)) hx hb dX10_make_41 (by decide) ?_
  obtain ⟨v3, σ2, e1, h⟩ := cal_some h
  refine r_cVI C hw (As := [.int (-6)]) (rest := []) (kX10_refuse l D cI cZ ad _ _ _ e1) YX10_refuse ml_X10_91 qC_0 clsX10 (pw_rmOK (by omega) (by decide)) rfl hl.1 rfl (Nat.le_of_ble_eq_true rfl) dX10_make_43 ⟨Nat.zero_le _, Nat.zero_le _⟩ (fun H locs hw => ?_)
  exact r_iret C hw dX10_make_46 h
set_option maxRecDepth 100000 in
set_option maxHeartbeats 4000000 in
theorem wX10_make_b12 {p : Program} {l : Launch} {e : Env} {s : State} {m : MethodId} {args : Array Value} {below : List Frame} {meth : Method} {c : Code} {D : va_G} {cI cZ : ClassId} {ad : Nat → Nat} {A : Nat → Prop} {z : Int32 × St}  (C : pw_C p s m args meth c yX10_make.cls cX10_make 4 (some .int) D cI cZ) : ∀  (σ : St) (H : Heap) (locs : List Loc) (ls : Array Slot), pw_H D (pw_w shC cI cZ ad σ) A s.heap H locs → lv_has ls 4 [(0, .ref (ad 0))] → fX10_make_b12   σ = some z → W p l e (pw_rm 2) s m args below meth c H locs 0 0 (pw_QI below args s D (pw_w shC cI cZ ad) A z) (F0 m 12 ls []) := by
  obtain ⟨hx, hb, hr, hts, hown, hlk, hml, hK, hN⟩ := id C
  intro σ H locs ls hw hl h
  unfold fX10_make_b12 at h
  refine lv_aload_n hx hb dX10_make_12 rfl (lv_at hl 0 rfl) ?_
  refine lv_bipush (v := (-4)) hx hb dX10_make_13 (by decide) ?_
  obtain ⟨v6, σ5, e4, h⟩ := cal_some h
  refine r_cVI C hw (As := [.int (-4)]) (rest := []) (kX10_refuse l D cI cZ ad _ _ _ e4) YX10_refuse ml_X10_91 qC_0 clsX10 (pw_rmOK (by omega) (by decide)) rfl hl.1 rfl (Nat.le_of_ble_eq_true rfl) dX10_make_15 ⟨Nat.zero_le _, Nat.zero_le _⟩ (fun H locs hw => ?_)
  exact r_iret C hw dX10_make_18 h
set_option maxRecDepth 100000 in
set_option maxHeartbeats 4000000 in
theorem kX10_make (l : Launch) (D : va_G) (cI cZ : ClassId) (ad : Nat → Nat) (x1 : Int32) (x2 : Int32) (x3 : Int32) (σ : St) (z : Int32 × St) (h : fX10_make x1 x2 x3 σ = some z) : pw_MI l D shC cI cZ ad yX10_make cX10_make 4 (some .int) (pw_rm 2) [.ref (ad 0), .int x1, .int x2, .int x3] σ z.1 z.2 := by
  refine pw_ofI (by decide) (Nat.le_of_ble_eq_true rfl) ?_
  intro p e s m args below meth c A C hw ls hl
  obtain ⟨hx, hb, hr, hts, hown, hlk, hml, hK, hN⟩ := id C
  have hl : lv_has ls 4 [(0, .ref (ad 0)), (1, .int x1), (2, .int x2), (3, .int x3)] := hl
  unfold fX10_make at h
  refine lv_iload_n hx hb dX10_make_0 rfl (lv_at hl 1 rfl) ?_
  refine lv_if_lt (tgt := 12) hx hb dX10_make_1 (by decide) (fun hc => ?_) (fun hc => ?_)
  · replace h := pw_t hc h
    exact wX10_make_b12 C  _ _ _ _ hw (lv_sub hl [0] rfl) h
  · replace h := pw_f hc h
    refine lv_iload_n hx hb dX10_make_4 rfl (lv_at hl 2 rfl) ?_
    refine lv_if_lt (tgt := 12) hx hb dX10_make_5 (by decide) (fun hc => ?_) (fun hc => ?_)
    · replace h := pw_t hc h
      exact wX10_make_b12 C  _ _ _ _ hw (lv_sub hl [0] rfl) h
    · replace h := pw_f hc h
      refine lv_iload_n hx hb dX10_make_8 rfl (lv_at hl 3 rfl) ?_
      refine lv_if_ge (tgt := 19) hx hb dX10_make_9 (by decide) (fun hc => ?_) (fun hc => ?_)
      · replace h := pw_t hc h
        refine lv_iload_n hx hb dX10_make_19 rfl (lv_at hl 1 rfl) ?_
        refine lv_sipush (v := 200) hx hb dX10_make_20 (by decide) ?_
        refine lv_icmp_gt (tgt := 40) hx hb dX10_make_23 (by decide) (fun hc => ?_) (fun hc => ?_)
        · replace h := pw_t hc h
          exact wX10_make_b40 C  _ _ _ _ hw (lv_sub hl [0] rfl) h
        · replace h := pw_f hc h
          refine lv_iload_n hx hb dX10_make_26 rfl (lv_at hl 2 rfl) ?_
          refine lv_sipush (v := 1024) hx hb dX10_make_27 (by decide) ?_
          refine lv_icmp_gt (tgt := 40) hx hb dX10_make_30 (by decide) (fun hc => ?_) (fun hc => ?_)
          · replace h := pw_t hc h
            exact wX10_make_b40 C  _ _ _ _ hw (lv_sub hl [0] rfl) h
          · replace h := pw_f hc h
            refine lv_iload_n hx hb dX10_make_33 rfl (lv_at hl 3 rfl) ?_
            refine lv_ldcw (v := 1048576) hx hb hown (hts _ ct_X10_257) dX10_make_34 ?_
            refine lv_icmp_le (tgt := 47) hx hb dX10_make_37 (by decide) (fun hc => ?_) (fun hc => ?_)
            · replace h := pw_t hc h
              refine lv_aload_n hx hb dX10_make_47 rfl (lv_at hl 0 rfl) ?_
              refine r_get C hw qC_0 clsX10 8 rfl (by decide) fl_X10_65 dX10_make_48 (v := .ref (ad 45)) rfl ?_
              refine lv_iload_n hx hb dX10_make_51 rfl (lv_at hl 1 rfl) ?_
              refine lv_iload_n hx hb dX10_make_52 rfl (lv_at hl 2 rfl) ?_
              refine lv_iload_n hx hb dX10_make_53 rfl (lv_at hl 3 rfl) ?_
              obtain ⟨v9, σ8, e7, h⟩ := cal_some h
              refine r_cNI C hw (As := [.int x1, .int x2, .int x3]) (rest := []) (kX4_fewestFor l D cI cZ ad _ _ _ _ _ e7) YX4_fewestFor mn_X10_258 qC_45 clsX4 (pw_rmOK (by omega) (by decide)) rfl hl.1 rfl (Nat.le_of_ble_eq_true rfl) dX10_make_54 ⟨Nat.zero_le _, Nat.zero_le _⟩ (fun H locs hw => ?_)
              exact r_iret C hw dX10_make_57 h
            · replace h := pw_f hc h
              exact wX10_make_b40 C  _ _ _ _ hw (lv_sub hl [0] rfl) h
      · replace h := pw_f hc h
        exact wX10_make_b12 C  _ _ _ _ hw (lv_sub hl [0] rfl) h
set_option maxRecDepth 100000 in
set_option maxHeartbeats 4000000 in
theorem wX7_tellSight_b3 {p : Program} {l : Launch} {e : Env} {s : State} {m : MethodId} {args : Array Value} {below : List Frame} {meth : Method} {c : Code} {D : va_G} {cI cZ : ClassId} {ad : Nat → Nat} {A : Nat → Prop} {z : Int32 × St}  (C : pw_C p s m args meth c yX7_tellSight.cls cX7_tellSight 5 (some .boolean) D cI cZ) : ∀ (n : Nat) (x1 : Int32) (x2 : Int32) (x3 : Int32) (x4 : Int32) (σ : St) (H : Heap) (locs : List Loc) (ls : Array Slot), pw_H D (pw_w shC cI cZ ad σ) A s.heap H locs → lv_has ls 5 [(0, .ref (ad 47)), (1, .int x1), (2, .int x2), (3, .int x3), (4, .int x4)] → fX7_tellSight_b3  n x1 x2 x3 x4 σ = some z → W p l e (pw_rm 0) s m args below meth c H locs 0 0 (pw_QI below args s D (pw_w shC cI cZ ad) A z) (F0 m 3 ls []) := by
  obtain ⟨hx, hb, hr, hts, hown, hlk, hml, hK, hN⟩ := id C
  intro n
  induction n with
  | zero =>
    intro x1 x2 x3 x4 σ H locs ls hw hl h
    exact absurd h (by simp [fX7_tellSight_b3])
  | succ n ih =>
    intro x1 x2 x3 x4 σ H locs ls hw hl h
    rw [fX7_tellSight_b3] at h
    refine lv_iload hx hb dX7_tellSight_3 (lv_at hl 4 rfl) ?_
    refine lv_aload_n hx hb dX7_tellSight_5 rfl (lv_at hl 0 rfl) ?_
    refine r_get C hw qC_47 clsX7 8 rfl (by decide) fl_X7_36 dX7_tellSight_6 (v := .int (σ 47 8)) rfl ?_
    refine lv_icmp_ge (tgt := 42) hx hb dX7_tellSight_9 (by decide) (fun hc => ?_) (fun hc => ?_)
    · replace h := pw_t hc h
      refine lv_aload_n hx hb dX7_tellSight_42 rfl (lv_at hl 0 rfl) ?_
      refine r_get C hw qC_47 clsX7 8 rfl (by decide) fl_X7_36 dX7_tellSight_43 (v := .int (σ 47 8)) rfl ?_
      refine lv_bipush (v := 32) hx hb dX7_tellSight_46 (by decide) ?_
      refine lv_icmp_lt (tgt := 53) hx hb dX7_tellSight_48 (by decide) (fun hc => ?_) (fun hc => ?_)
      · replace h := pw_t hc h
        refine lv_aload_n hx hb dX7_tellSight_53 rfl (lv_at hl 0 rfl) ?_
        refine r_get C hw qC_47 clsX7 0 rfl (by decide) fl_X7_9 dX7_tellSight_54 (v := .ref (ad 48)) rfl ?_
        refine lv_aload_n hx hb dX7_tellSight_57 rfl (lv_at hl 0 rfl) ?_
        refine r_get C hw qC_47 clsX7 8 rfl (by decide) fl_X7_36 dX7_tellSight_58 (v := .int (σ 47 8)) rfl ?_
        refine lv_iload_n hx hb dX7_tellSight_61 rfl (lv_at hl 1 rfl) ?_
        refine r_iast C hw qC_48 dX7_tellSight_62 h (fun σ1 H locs hw h => ?_)
        refine lv_aload_n hx hb dX7_tellSight_63 rfl (lv_at hl 0 rfl) ?_
        refine r_get C hw qC_47 clsX7 1 rfl (by decide) fl_X7_15 dX7_tellSight_64 (v := .ref (ad 49)) rfl ?_
        refine lv_aload_n hx hb dX7_tellSight_67 rfl (lv_at hl 0 rfl) ?_
        refine r_get C hw qC_47 clsX7 8 rfl (by decide) fl_X7_36 dX7_tellSight_68 (v := .int (σ1 47 8)) rfl ?_
        refine lv_iload_n hx hb dX7_tellSight_71 rfl (lv_at hl 2 rfl) ?_
        refine r_iast C hw qC_49 dX7_tellSight_72 h (fun σ2 H locs hw h => ?_)
        refine lv_aload_n hx hb dX7_tellSight_73 rfl (lv_at hl 0 rfl) ?_
        refine r_get C hw qC_47 clsX7 2 rfl (by decide) fl_X7_18 dX7_tellSight_74 (v := .ref (ad 50)) rfl ?_
        refine lv_aload_n hx hb dX7_tellSight_77 rfl (lv_at hl 0 rfl) ?_
        refine r_get C hw qC_47 clsX7 8 rfl (by decide) fl_X7_36 dX7_tellSight_78 (v := .int (σ2 47 8)) rfl ?_
        refine lv_iload_n hx hb dX7_tellSight_81 rfl (lv_at hl 3 rfl) ?_
        refine r_iast C hw qC_50 dX7_tellSight_82 h (fun σ3 H locs hw h => ?_)
        refine lv_aload_n hx hb dX7_tellSight_83 rfl (lv_at hl 0 rfl) ?_
        refine lv_dup hx hb dX7_tellSight_84 rfl ?_
        refine r_get C hw qC_47 clsX7 8 rfl (by decide) fl_X7_36 dX7_tellSight_85 (v := .int (σ3 47 8)) rfl ?_
        refine lv_iconst (v := 1) hx hb dX7_tellSight_88 (by decide) ?_
        refine lv_iadd hx hb dX7_tellSight_89 ?_
        refine r_put C hw qC_47 clsX7 8 rfl (by decide) fl_X7_36 dX7_tellSight_90 rfl rfl rfl h (fun σ4 H locs hw h => ?_)
        refine lv_iconst (v := 1) hx hb dX7_tellSight_93 (by decide) ?_
        exact r_zret C hw dX7_tellSight_94 h
      · replace h := pw_f hc h
        refine lv_iconst (v := 0) hx hb dX7_tellSight_51 (by decide) ?_
        exact r_zret C hw dX7_tellSight_52 h
    · replace h := pw_f hc h
      refine lv_aload_n hx hb dX7_tellSight_12 rfl (lv_at hl 0 rfl) ?_
      refine r_get C hw qC_47 clsX7 0 rfl (by decide) fl_X7_9 dX7_tellSight_13 (v := .ref (ad 48)) rfl ?_
      refine lv_iload hx hb dX7_tellSight_16 (lv_at hl 4 rfl) ?_
      refine r_iald C hw qC_48 dX7_tellSight_18 h (fun v5 h => ?_)
      refine lv_iload_n hx hb dX7_tellSight_19 rfl (lv_at hl 1 rfl) ?_
      refine lv_icmp_ne (tgt := 36) hx hb dX7_tellSight_20 (by decide) (fun hc => ?_) (fun hc => ?_)
      · replace h := pw_f hc h
        refine lv_iinc (v := (x4 + 1)) (lv' := [(4, .int (x4 + 1)), (0, .ref (ad 47)), (1, .int x1), (2, .int x2), (3, .int x3)]) hx hb dX7_tellSight_36 hl (k := 4) rfl rfl (by decide) rfl (fun ls hl => ?_)
        refine lv_goto (tgt := 3) hx hb dX7_tellSight_39 (by decide) ?_
        exact ih _ _ _ _ _ _ _ _ hw (lv_sub hl [1, 2, 3, 4, 0] rfl) h
      · replace h := pw_t hc h
        refine lv_aload_n hx hb dX7_tellSight_23 rfl (lv_at hl 0 rfl) ?_
        refine r_get C hw qC_47 clsX7 1 rfl (by decide) fl_X7_15 dX7_tellSight_24 (v := .ref (ad 49)) rfl ?_
        refine lv_iload hx hb dX7_tellSight_27 (lv_at hl 4 rfl) ?_
        refine r_iald C hw qC_49 dX7_tellSight_29 h (fun v6 h => ?_)
        refine lv_iload_n hx hb dX7_tellSight_30 rfl (lv_at hl 2 rfl) ?_
        refine lv_icmp_ne (tgt := 36) hx hb dX7_tellSight_31 (by decide) (fun hc => ?_) (fun hc => ?_)
        · replace h := pw_f hc h
          refine lv_iinc (v := (x4 + 1)) (lv' := [(4, .int (x4 + 1)), (0, .ref (ad 47)), (1, .int x1), (2, .int x2), (3, .int x3)]) hx hb dX7_tellSight_36 hl (k := 4) rfl rfl (by decide) rfl (fun ls hl => ?_)
          refine lv_goto (tgt := 3) hx hb dX7_tellSight_39 (by decide) ?_
          exact ih _ _ _ _ _ _ _ _ hw (lv_sub hl [1, 2, 3, 4, 0] rfl) h
        · replace h := pw_t hc h
          refine lv_iconst (v := 0) hx hb dX7_tellSight_34 (by decide) ?_
          exact r_zret C hw dX7_tellSight_35 h
set_option maxRecDepth 100000 in
set_option maxHeartbeats 4000000 in
theorem kX7_tellSight (l : Launch) (D : va_G) (cI cZ : ClassId) (ad : Nat → Nat) (x1 : Int32) (x2 : Int32) (x3 : Int32) (σ : St) (z : Int32 × St) (h : fX7_tellSight x1 x2 x3 σ = some z) : pw_MI l D shC cI cZ ad yX7_tellSight cX7_tellSight 5 (some .boolean) (pw_rm 0) [.ref (ad 47), .int x1, .int x2, .int x3] σ z.1 z.2 := by
  refine pw_ofI (by decide) (Nat.le_of_ble_eq_true rfl) ?_
  intro p e s m args below meth c A C hw ls hl
  obtain ⟨hx, hb, hr, hts, hown, hlk, hml, hK, hN⟩ := id C
  have hl : lv_has ls 5 [(0, .ref (ad 47)), (1, .int x1), (2, .int x2), (3, .int x3)] := hl
  unfold fX7_tellSight at h
  refine lv_iconst (v := 0) hx hb dX7_tellSight_0 (by decide) ?_
  refine lv_istore (lv' := [(4, .int 0), (0, .ref (ad 47)), (1, .int x1), (2, .int x2), (3, .int x3)]) hx hb dX7_tellSight_1 hl (by decide) rfl (fun ls hl => ?_)
  exact wX7_tellSight_b3 C  _ _ _ _ _ _ _ _ _ hw (lv_sub hl [1, 2, 3, 4, 0] rfl) h
set_option maxRecDepth 100000 in
set_option maxHeartbeats 4000000 in
theorem kX10_see (l : Launch) (D : va_G) (cI cZ : ClassId) (ad : Nat → Nat) (x1 : Int32) (x2 : Int32) (σ : St) (z : Int32 × St) (h : fX10_see x1 x2 σ = some z) : pw_MI l D shC cI cZ ad yX10_see cX10_see 3 (some .int) (pw_rm 2) [.ref (ad 0), .int x1, .int x2] σ z.1 z.2 := by
  refine pw_ofI (by decide) (Nat.le_of_ble_eq_true rfl) ?_
  intro p e s m args below meth c A C hw ls hl
  obtain ⟨hx, hb, hr, hts, hown, hlk, hml, hK, hN⟩ := id C
  have hl : lv_has ls 3 [(0, .ref (ad 0)), (1, .int x1), (2, .int x2)] := hl
  unfold fX10_see at h
  refine lv_iload_n hx hb dX10_see_0 rfl (lv_at hl 1 rfl) ?_
  refine lv_bipush (v := 16) hx hb dX10_see_1 (by decide) ?_
  obtain ⟨v3, σ2, e1, h⟩ := cal_some h
  refine r_cSI C hw (sh := shC) (ad := ad) (As := [.int x1, .int 16]) (rest := []) (kX10_within l D cI cZ ad _ _ _ _ e1) YX10_within ml_X10_87 (pw_rmOK (by omega) (by decide)) rfl hl.1 rfl (Nat.le_of_ble_eq_true rfl) dX10_see_3 ⟨Nat.zero_le _, Nat.zero_le _⟩ (fun H locs hw => ?_)
  refine lv_if_eq (tgt := 17) hx hb dX10_see_6 (by decide) (fun hc => ?_) (fun hc => ?_)
  · replace h := pw_t hc h
    refine lv_aload_n hx hb dX10_see_17 rfl (lv_at hl 0 rfl) ?_
    refine lv_iconst (v := (-1)) hx hb dX10_see_18 (by decide) ?_
    obtain ⟨v6, σ5, e4, h⟩ := cal_some h
    refine r_cVI C hw (As := [.int (-1)]) (rest := []) (kX10_refuse l D cI cZ ad _ _ _ e4) YX10_refuse ml_X10_91 qC_0 clsX10 (pw_rmOK (by omega) (by decide)) rfl hl.1 rfl (Nat.le_of_ble_eq_true rfl) dX10_see_19 ⟨Nat.zero_le _, Nat.zero_le _⟩ (fun H locs hw => ?_)
    exact r_iret C hw dX10_see_22 h
  · replace h := pw_f hc h
    refine lv_iload_n hx hb dX10_see_9 rfl (lv_at hl 2 rfl) ?_
    refine lv_iconst (v := 2) hx hb dX10_see_10 (by decide) ?_
    obtain ⟨v9, σ8, e7, h⟩ := cal_some h
    refine r_cSI C hw (sh := shC) (ad := ad) (As := [.int x2, .int 2]) (rest := []) (kX10_within l D cI cZ ad _ _ _ _ e7) YX10_within ml_X10_87 (pw_rmOK (by omega) (by decide)) rfl hl.1 rfl (Nat.le_of_ble_eq_true rfl) dX10_see_11 ⟨Nat.zero_le _, Nat.zero_le _⟩ (fun H locs hw => ?_)
    refine lv_if_ne (tgt := 23) hx hb dX10_see_14 (by decide) (fun hc => ?_) (fun hc => ?_)
    · replace h := pw_f hc h
      refine lv_aload_n hx hb dX10_see_23 rfl (lv_at hl 0 rfl) ?_
      refine r_get C hw qC_0 clsX10 9 rfl (by decide) fl_X10_72 dX10_see_24 (v := .ref (ad 47)) rfl ?_
      refine lv_iload_n hx hb dX10_see_27 rfl (lv_at hl 1 rfl) ?_
      refine lv_iload_n hx hb dX10_see_28 rfl (lv_at hl 2 rfl) ?_
      refine lv_aload_n hx hb dX10_see_29 rfl (lv_at hl 0 rfl) ?_
      refine r_get C hw qC_0 clsX10 11 rfl (by decide) fl_X10_83 dX10_see_30 (v := .int (σ8 0 11)) rfl ?_
      obtain ⟨v12, σ11, e10, h⟩ := cal_some h
      refine r_cNI C hw (As := [.int x1, .int x2, .int (σ8 0 11)]) (rest := []) (kX7_tellSight l D cI cZ ad _ _ _ _ _ e10) YX7_tellSight mn_X10_261 qC_47 clsX7 (pw_rmOK (by omega) (by decide)) rfl hl.1 rfl (Nat.le_of_ble_eq_true rfl) dX10_see_33 ⟨Nat.zero_le _, Nat.zero_le _⟩ (fun H locs hw => ?_)
      refine lv_if_eq (tgt := 43) hx hb dX10_see_36 (by decide) (fun hc => ?_) (fun hc => ?_)
      · replace h := pw_t hc h
        refine lv_iconst (v := 0) hx hb dX10_see_43 (by decide) ?_
        exact r_iret C hw dX10_see_44 h
      · replace h := pw_f hc h
        refine lv_iconst (v := 1) hx hb dX10_see_39 (by decide) ?_
        refine lv_goto (tgt := 44) hx hb dX10_see_40 (by decide) ?_
        exact r_iret C hw dX10_see_44 h
    · replace h := pw_t hc h
      refine lv_aload_n hx hb dX10_see_17 rfl (lv_at hl 0 rfl) ?_
      refine lv_iconst (v := (-1)) hx hb dX10_see_18 (by decide) ?_
      obtain ⟨v15, σ14, e13, h⟩ := cal_some h
      refine r_cVI C hw (As := [.int (-1)]) (rest := []) (kX10_refuse l D cI cZ ad _ _ _ e13) YX10_refuse ml_X10_91 qC_0 clsX10 (pw_rmOK (by omega) (by decide)) rfl hl.1 rfl (Nat.le_of_ble_eq_true rfl) dX10_see_19 ⟨Nat.zero_le _, Nat.zero_le _⟩ (fun H locs hw => ?_)
      exact r_iret C hw dX10_see_22 h
set_option maxRecDepth 100000 in
set_option maxHeartbeats 4000000 in
theorem wX7_talkedOn_b68 {p : Program} {l : Launch} {e : Env} {s : State} {m : MethodId} {args : Array Value} {below : List Frame} {meth : Method} {c : Code} {D : va_G} {cI cZ : ClassId} {ad : Nat → Nat} {A : Nat → Prop} {z : Int32 × St} {k3 : Int32 → Int32 → Int32 → Int32 → St → Option (Int32 × St)} (C : pw_C p s m args meth c yX7_talkedOn.cls cX7_talkedOn 7 (some .boolean) D cI cZ) (hk3 : ∀ (x1 : Int32) (x2 : Int32) (x3 : Int32) (x4 : Int32) (σ : St) (H : Heap) (locs : List Loc) (ls : Array Slot), pw_H D (pw_w shC cI cZ ad σ) A s.heap H locs → lv_has ls 7 [(0, .ref (ad 47)), (1, .int x1), (2, .int x2), (3, .int x3), (4, .int x4)] → k3 x1 x2 x3 x4 σ = some z → W p l e (pw_rm 0) s m args below meth c H locs 0 0 (pw_QI below args s D (pw_w shC cI cZ ad) A z) (F0 m 3 ls [])) : ∀ (x1 : Int32) (x2 : Int32) (x3 : Int32) (x4 : Int32) (x5 : Int32) (s0 : Int32) (σ : St) (H : Heap) (locs : List Loc) (ls : Array Slot), pw_H D (pw_w shC cI cZ ad σ) A s.heap H locs → lv_has ls 7 [(0, .ref (ad 47)), (1, .int x1), (2, .int x2), (3, .int x3), (4, .int x4), (5, .int x5)] → fX7_talkedOn_b68 k3 x1 x2 x3 x4 x5 s0 σ = some z → W p l e (pw_rm 0) s m args below meth c H locs 0 0 (pw_QI below args s D (pw_w shC cI cZ ad) A z) (F0 m 68 ls [.int s0]) := by
  obtain ⟨hx, hb, hr, hts, hown, hlk, hml, hK, hN⟩ := id C
  intro x1 x2 x3 x4 x5 s0 σ H locs ls hw hl h
  unfold fX7_talkedOn_b68 at h
  refine lv_istore (lv' := [(6, .int s0), (0, .ref (ad 47)), (1, .int x1), (2, .int x2), (3, .int x3), (4, .int x4), (5, .int x5)]) hx hb dX7_talkedOn_68 hl (by decide) rfl (fun ls hl => ?_)
  refine lv_aload_n hx hb dX7_talkedOn_70 rfl (lv_at hl 1 rfl) ?_
  refine r_get C hw qC_47 clsX7 5 rfl (by decide) fl_X7_27 dX7_talkedOn_71 (v := .ref (ad 53)) rfl ?_
  refine lv_iload hx hb dX7_talkedOn_74 (lv_at hl 5 rfl) ?_
  refine r_iald C hw qC_53 dX7_talkedOn_76 h (fun v1 h => ?_)
  refine lv_iload_n hx hb dX7_talkedOn_77 rfl (lv_at hl 4 rfl) ?_
  refine lv_icmp_ne (tgt := 93) hx hb dX7_talkedOn_78 (by decide) (fun hc => ?_) (fun hc => ?_)
  · replace h := pw_f hc h
    refine lv_iinc (v := (x4 + 1)) (lv' := [(4, .int (x4 + 1)), (6, .int s0), (0, .ref (ad 47)), (1, .int x1), (2, .int x2), (3, .int x3), (5, .int x5)]) hx hb dX7_talkedOn_93 hl (k := 5) rfl rfl (by decide) rfl (fun ls hl => ?_)
    refine lv_goto (tgt := 3) hx hb dX7_talkedOn_96 (by decide) ?_
    exact hk3 _ _ _ _ _ _ _ _ hw (lv_sub hl [2, 3, 4, 5, 0] rfl) h
  · replace h := pw_t hc h
    refine lv_iload hx hb dX7_talkedOn_81 (lv_at hl 6 rfl) ?_
    refine lv_if_ne (tgt := 91) hx hb dX7_talkedOn_83 (by decide) (fun hc => ?_) (fun hc => ?_)
    · replace h := pw_f hc h
      refine lv_iconst (v := 1) hx hb dX7_talkedOn_91 (by decide) ?_
      exact r_zret C hw dX7_talkedOn_92 h
    · replace h := pw_t hc h
      refine lv_iload hx hb dX7_talkedOn_86 (lv_at hl 0 rfl) ?_
      refine lv_if_eq (tgt := 93) hx hb dX7_talkedOn_88 (by decide) (fun hc => ?_) (fun hc => ?_)
      · replace h := pw_t hc h
        refine lv_iinc (v := (x4 + 1)) (lv' := [(4, .int (x4 + 1)), (6, .int s0), (0, .ref (ad 47)), (1, .int x1), (2, .int x2), (3, .int x3), (5, .int x5)]) hx hb dX7_talkedOn_93 hl (k := 5) rfl rfl (by decide) rfl (fun ls hl => ?_)
        refine lv_goto (tgt := 3) hx hb dX7_talkedOn_96 (by decide) ?_
        exact hk3 _ _ _ _ _ _ _ _ hw (lv_sub hl [2, 3, 4, 5, 0] rfl) h
      · replace h := pw_f hc h
        refine lv_iconst (v := 1) hx hb dX7_talkedOn_91 (by decide) ?_
        exact r_zret C hw dX7_talkedOn_92 h
set_option maxRecDepth 100000 in
set_option maxHeartbeats 4000000 in
theorem wX7_talkedOn_b39 {p : Program} {l : Launch} {e : Env} {s : State} {m : MethodId} {args : Array Value} {below : List Frame} {meth : Method} {c : Code} {D : va_G} {cI cZ : ClassId} {ad : Nat → Nat} {A : Nat → Prop} {z : Int32 × St} {k3 : Int32 → Int32 → Int32 → Int32 → St → Option (Int32 × St)} (C : pw_C p s m args meth c yX7_talkedOn.cls cX7_talkedOn 7 (some .boolean) D cI cZ) (hk3 : ∀ (x1 : Int32) (x2 : Int32) (x3 : Int32) (x4 : Int32) (σ : St) (H : Heap) (locs : List Loc) (ls : Array Slot), pw_H D (pw_w shC cI cZ ad σ) A s.heap H locs → lv_has ls 7 [(0, .ref (ad 47)), (1, .int x1), (2, .int x2), (3, .int x3), (4, .int x4)] → k3 x1 x2 x3 x4 σ = some z → W p l e (pw_rm 0) s m args below meth c H locs 0 0 (pw_QI below args s D (pw_w shC cI cZ ad) A z) (F0 m 3 ls [])) : ∀ (x1 : Int32) (x2 : Int32) (x3 : Int32) (x4 : Int32) (s0 : Int32) (σ : St) (H : Heap) (locs : List Loc) (ls : Array Slot), pw_H D (pw_w shC cI cZ ad σ) A s.heap H locs → lv_has ls 7 [(0, .ref (ad 47)), (1, .int x1), (2, .int x2), (3, .int x3), (4, .int x4)] → fX7_talkedOn_b39 k3 x1 x2 x3 x4 s0 σ = some z → W p l e (pw_rm 0) s m args below meth c H locs 0 0 (pw_QI below args s D (pw_w shC cI cZ ad) A z) (F0 m 39 ls [.int s0]) := by
  obtain ⟨hx, hb, hr, hts, hown, hlk, hml, hK, hN⟩ := id C
  intro x1 x2 x3 x4 s0 σ H locs ls hw hl h
  unfold fX7_talkedOn_b39 at h
  refine lv_istore (lv' := [(5, .int s0), (0, .ref (ad 47)), (1, .int x1), (2, .int x2), (3, .int x3), (4, .int x4)]) hx hb dX7_talkedOn_39 hl (by decide) rfl (fun ls hl => ?_)
  refine lv_aload_n hx hb dX7_talkedOn_41 rfl (lv_at hl 1 rfl) ?_
  refine r_get C hw qC_47 clsX7 3 rfl (by decide) fl_X7_21 dX7_talkedOn_42 (v := .ref (ad 51)) rfl ?_
  refine lv_iload hx hb dX7_talkedOn_45 (lv_at hl 5 rfl) ?_
  refine r_iald C hw qC_51 dX7_talkedOn_47 h (fun v2 h => ?_)
  refine lv_iload_n hx hb dX7_talkedOn_48 rfl (lv_at hl 3 rfl) ?_
  refine lv_icmp_ne (tgt := 67) hx hb dX7_talkedOn_49 (by decide) (fun hc => ?_) (fun hc => ?_)
  · replace h := pw_f hc h
    refine lv_iconst (v := 0) hx hb dX7_talkedOn_67 (by decide) ?_
    exact wX7_talkedOn_b68 C hk3 _ _ _ _ _ _ _ _ _ _ hw (lv_sub hl [1, 2, 3, 4, 5, 0] rfl) h
  · replace h := pw_t hc h
    refine lv_aload_n hx hb dX7_talkedOn_52 rfl (lv_at hl 1 rfl) ?_
    refine r_get C hw qC_47 clsX7 4 rfl (by decide) fl_X7_24 dX7_talkedOn_53 (v := .ref (ad 52)) rfl ?_
    refine lv_iload hx hb dX7_talkedOn_56 (lv_at hl 5 rfl) ?_
    refine r_iald C hw qC_52 dX7_talkedOn_58 h (fun v3 h => ?_)
    refine lv_iload_n hx hb dX7_talkedOn_59 rfl (lv_at hl 2 rfl) ?_
    refine lv_icmp_ne (tgt := 67) hx hb dX7_talkedOn_60 (by decide) (fun hc => ?_) (fun hc => ?_)
    · replace h := pw_f hc h
      refine lv_iconst (v := 0) hx hb dX7_talkedOn_67 (by decide) ?_
      exact wX7_talkedOn_b68 C hk3 _ _ _ _ _ _ _ _ _ _ hw (lv_sub hl [1, 2, 3, 4, 5, 0] rfl) h
    · replace h := pw_t hc h
      refine lv_iconst (v := 1) hx hb dX7_talkedOn_63 (by decide) ?_
      refine lv_goto (tgt := 68) hx hb dX7_talkedOn_64 (by decide) ?_
      exact wX7_talkedOn_b68 C hk3 _ _ _ _ _ _ _ _ _ _ hw (lv_sub hl [1, 2, 3, 4, 5, 0] rfl) h
set_option maxRecDepth 100000 in
set_option maxHeartbeats 4000000 in
theorem wX7_talkedOn_b3 {p : Program} {l : Launch} {e : Env} {s : State} {m : MethodId} {args : Array Value} {below : List Frame} {meth : Method} {c : Code} {D : va_G} {cI cZ : ClassId} {ad : Nat → Nat} {A : Nat → Prop} {z : Int32 × St}  (C : pw_C p s m args meth c yX7_talkedOn.cls cX7_talkedOn 7 (some .boolean) D cI cZ) : ∀ (n : Nat) (x1 : Int32) (x2 : Int32) (x3 : Int32) (x4 : Int32) (σ : St) (H : Heap) (locs : List Loc) (ls : Array Slot), pw_H D (pw_w shC cI cZ ad σ) A s.heap H locs → lv_has ls 7 [(0, .ref (ad 47)), (1, .int x1), (2, .int x2), (3, .int x3), (4, .int x4)] → fX7_talkedOn_b3  n x1 x2 x3 x4 σ = some z → W p l e (pw_rm 0) s m args below meth c H locs 0 0 (pw_QI below args s D (pw_w shC cI cZ ad) A z) (F0 m 3 ls []) := by
  obtain ⟨hx, hb, hr, hts, hown, hlk, hml, hK, hN⟩ := id C
  intro n
  induction n with
  | zero =>
    intro x1 x2 x3 x4 σ H locs ls hw hl h
    exact absurd h (by simp [fX7_talkedOn_b3])
  | succ n ih =>
    intro x1 x2 x3 x4 σ H locs ls hw hl h
    rw [fX7_talkedOn_b3] at h
    refine lv_iload hx hb dX7_talkedOn_3 (lv_at hl 4 rfl) ?_
    refine lv_aload_n hx hb dX7_talkedOn_5 rfl (lv_at hl 0 rfl) ?_
    refine r_get C hw qC_47 clsX7 9 rfl (by decide) fl_X7_40 dX7_talkedOn_6 (v := .int (σ 47 9)) rfl ?_
    refine lv_icmp_ge (tgt := 99) hx hb dX7_talkedOn_9 (by decide) (fun hc => ?_) (fun hc => ?_)
    · replace h := pw_t hc h
      refine lv_iconst (v := 0) hx hb dX7_talkedOn_99 (by decide) ?_
      exact r_zret C hw dX7_talkedOn_100 h
    · replace h := pw_f hc h
      refine lv_aload_n hx hb dX7_talkedOn_12 rfl (lv_at hl 0 rfl) ?_
      refine r_get C hw qC_47 clsX7 3 rfl (by decide) fl_X7_21 dX7_talkedOn_13 (v := .ref (ad 51)) rfl ?_
      refine lv_iload hx hb dX7_talkedOn_16 (lv_at hl 4 rfl) ?_
      refine r_iald C hw qC_51 dX7_talkedOn_18 h (fun v4 h => ?_)
      refine lv_iload_n hx hb dX7_talkedOn_19 rfl (lv_at hl 1 rfl) ?_
      refine lv_icmp_ne (tgt := 38) hx hb dX7_talkedOn_20 (by decide) (fun hc => ?_) (fun hc => ?_)
      · replace h := pw_f hc h
        refine lv_iconst (v := 0) hx hb dX7_talkedOn_38 (by decide) ?_
        exact wX7_talkedOn_b39 C ih _ _ _ _ _ _ _ _ _ hw (lv_sub hl [0, 1, 2, 3, 4] rfl) h
      · replace h := pw_t hc h
        refine lv_aload_n hx hb dX7_talkedOn_23 rfl (lv_at hl 0 rfl) ?_
        refine r_get C hw qC_47 clsX7 4 rfl (by decide) fl_X7_24 dX7_talkedOn_24 (v := .ref (ad 52)) rfl ?_
        refine lv_iload hx hb dX7_talkedOn_27 (lv_at hl 4 rfl) ?_
        refine r_iald C hw qC_52 dX7_talkedOn_29 h (fun v5 h => ?_)
        refine lv_iload_n hx hb dX7_talkedOn_30 rfl (lv_at hl 2 rfl) ?_
        refine lv_icmp_ne (tgt := 38) hx hb dX7_talkedOn_31 (by decide) (fun hc => ?_) (fun hc => ?_)
        · replace h := pw_f hc h
          refine lv_iconst (v := 0) hx hb dX7_talkedOn_38 (by decide) ?_
          exact wX7_talkedOn_b39 C ih _ _ _ _ _ _ _ _ _ hw (lv_sub hl [0, 1, 2, 3, 4] rfl) h
        · replace h := pw_t hc h
          refine lv_iconst (v := 1) hx hb dX7_talkedOn_34 (by decide) ?_
          refine lv_goto (tgt := 39) hx hb dX7_talkedOn_35 (by decide) ?_
          exact wX7_talkedOn_b39 C ih _ _ _ _ _ _ _ _ _ hw (lv_sub hl [0, 1, 2, 3, 4] rfl) h
set_option maxRecDepth 100000 in
set_option maxHeartbeats 4000000 in
theorem kX7_talkedOn (l : Launch) (D : va_G) (cI cZ : ClassId) (ad : Nat → Nat) (x1 : Int32) (x2 : Int32) (x3 : Int32) (σ : St) (z : Int32 × St) (h : fX7_talkedOn x1 x2 x3 σ = some z) : pw_MI l D shC cI cZ ad yX7_talkedOn cX7_talkedOn 7 (some .boolean) (pw_rm 0) [.ref (ad 47), .int x1, .int x2, .int x3] σ z.1 z.2 := by
  refine pw_ofI (by decide) (Nat.le_of_ble_eq_true rfl) ?_
  intro p e s m args below meth c A C hw ls hl
  obtain ⟨hx, hb, hr, hts, hown, hlk, hml, hK, hN⟩ := id C
  have hl : lv_has ls 7 [(0, .ref (ad 47)), (1, .int x1), (2, .int x2), (3, .int x3)] := hl
  unfold fX7_talkedOn at h
  refine lv_iconst (v := 0) hx hb dX7_talkedOn_0 (by decide) ?_
  refine lv_istore (lv' := [(4, .int 0), (0, .ref (ad 47)), (1, .int x1), (2, .int x2), (3, .int x3)]) hx hb dX7_talkedOn_1 hl (by decide) rfl (fun ls hl => ?_)
  exact wX7_talkedOn_b3 C  _ _ _ _ _ _ _ _ _ hw (lv_sub hl [1, 2, 3, 4, 0] rfl) h
set_option maxRecDepth 100000 in
set_option maxHeartbeats 4000000 in
theorem kX7_tellTalk (l : Launch) (D : va_G) (cI cZ : ClassId) (ad : Nat → Nat) (x1 : Int32) (x2 : Int32) (x3 : Int32) (σ : St) (z : Int32 × St) (h : fX7_tellTalk x1 x2 x3 σ = some z) : pw_MV l D shC cI cZ ad yX7_tellTalk cX7_tellTalk 4 none (pw_rm 0) [.ref (ad 47), .int x1, .int x2, .int x3] σ z.2 := by
  refine pw_ofV (by decide) (Nat.le_of_ble_eq_true rfl) ?_
  intro p e s m args below meth c A C hw ls hl
  obtain ⟨hx, hb, hr, hts, hown, hlk, hml, hK, hN⟩ := id C
  have hl : lv_has ls 4 [(0, .ref (ad 47)), (1, .int x1), (2, .int x2), (3, .int x3)] := hl
  unfold fX7_tellTalk at h
  refine lv_aload_n hx hb dX7_tellTalk_0 rfl (lv_at hl 0 rfl) ?_
  refine r_get C hw qC_47 clsX7 3 rfl (by decide) fl_X7_21 dX7_tellTalk_1 (v := .ref (ad 51)) rfl ?_
  refine lv_aload_n hx hb dX7_tellTalk_4 rfl (lv_at hl 0 rfl) ?_
  refine r_get C hw qC_47 clsX7 9 rfl (by decide) fl_X7_40 dX7_tellTalk_5 (v := .int (σ 47 9)) rfl ?_
  refine lv_iload_n hx hb dX7_tellTalk_8 rfl (lv_at hl 1 rfl) ?_
  refine r_iast C hw qC_51 dX7_tellTalk_9 h (fun σ1 H locs hw h => ?_)
  refine lv_aload_n hx hb dX7_tellTalk_10 rfl (lv_at hl 0 rfl) ?_
  refine r_get C hw qC_47 clsX7 4 rfl (by decide) fl_X7_24 dX7_tellTalk_11 (v := .ref (ad 52)) rfl ?_
  refine lv_aload_n hx hb dX7_tellTalk_14 rfl (lv_at hl 0 rfl) ?_
  refine r_get C hw qC_47 clsX7 9 rfl (by decide) fl_X7_40 dX7_tellTalk_15 (v := .int (σ1 47 9)) rfl ?_
  refine lv_iload_n hx hb dX7_tellTalk_18 rfl (lv_at hl 2 rfl) ?_
  refine r_iast C hw qC_52 dX7_tellTalk_19 h (fun σ2 H locs hw h => ?_)
  refine lv_aload_n hx hb dX7_tellTalk_20 rfl (lv_at hl 0 rfl) ?_
  refine r_get C hw qC_47 clsX7 5 rfl (by decide) fl_X7_27 dX7_tellTalk_21 (v := .ref (ad 53)) rfl ?_
  refine lv_aload_n hx hb dX7_tellTalk_24 rfl (lv_at hl 0 rfl) ?_
  refine r_get C hw qC_47 clsX7 9 rfl (by decide) fl_X7_40 dX7_tellTalk_25 (v := .int (σ2 47 9)) rfl ?_
  refine lv_iload_n hx hb dX7_tellTalk_28 rfl (lv_at hl 3 rfl) ?_
  refine r_iast C hw qC_53 dX7_tellTalk_29 h (fun σ3 H locs hw h => ?_)
  refine lv_aload_n hx hb dX7_tellTalk_30 rfl (lv_at hl 0 rfl) ?_
  refine lv_dup hx hb dX7_tellTalk_31 rfl ?_
  refine r_get C hw qC_47 clsX7 9 rfl (by decide) fl_X7_40 dX7_tellTalk_32 (v := .int (σ3 47 9)) rfl ?_
  refine lv_iconst (v := 1) hx hb dX7_tellTalk_35 (by decide) ?_
  refine lv_iadd hx hb dX7_tellTalk_36 ?_
  refine r_put C hw qC_47 clsX7 9 rfl (by decide) fl_X7_40 dX7_tellTalk_37 rfl rfl rfl h (fun σ4 H locs hw h => ?_)
  exact r_vret C hw dX7_tellTalk_40 h
set_option maxRecDepth 100000 in
set_option maxHeartbeats 4000000 in
theorem wX10_talk_b23 {p : Program} {l : Launch} {e : Env} {s : State} {m : MethodId} {args : Array Value} {below : List Frame} {meth : Method} {c : Code} {D : va_G} {cI cZ : ClassId} {ad : Nat → Nat} {A : Nat → Prop} {z : Int32 × St}  (C : pw_C p s m args meth c yX10_talk.cls cX10_talk 3 (some .int) D cI cZ) : ∀  (σ : St) (H : Heap) (locs : List Loc) (ls : Array Slot), pw_H D (pw_w shC cI cZ ad σ) A s.heap H locs → lv_has ls 3 [(0, .ref (ad 0))] → fX10_talk_b23   σ = some z → W p l e (pw_rm 2) s m args below meth c H locs 0 0 (pw_QI below args s D (pw_w shC cI cZ ad) A z) (F0 m 23 ls []) := by
  obtain ⟨hx, hb, hr, hts, hown, hlk, hml, hK, hN⟩ := id C
  intro σ H locs ls hw hl h
  unfold fX10_talk_b23 at h
  refine lv_aload_n hx hb dX10_talk_23 rfl (lv_at hl 0 rfl) ?_
  refine lv_iconst (v := (-1)) hx hb dX10_talk_24 (by decide) ?_
  obtain ⟨v3, σ2, e1, h⟩ := cal_some h
  refine r_cVI C hw (As := [.int (-1)]) (rest := []) (kX10_refuse l D cI cZ ad _ _ _ e1) YX10_refuse ml_X10_91 qC_0 clsX10 (pw_rmOK (by omega) (by decide)) rfl hl.1 rfl (Nat.le_of_ble_eq_true rfl) dX10_talk_25 ⟨Nat.zero_le _, Nat.zero_le _⟩ (fun H locs hw => ?_)
  exact r_iret C hw dX10_talk_28 h
set_option maxRecDepth 100000 in
set_option maxHeartbeats 4000000 in
theorem kX10_talk (l : Launch) (D : va_G) (cI cZ : ClassId) (ad : Nat → Nat) (x1 : Int32) (x2 : Int32) (σ : St) (z : Int32 × St) (h : fX10_talk x1 x2 σ = some z) : pw_MI l D shC cI cZ ad yX10_talk cX10_talk 3 (some .int) (pw_rm 2) [.ref (ad 0), .int x1, .int x2] σ z.1 z.2 := by
  refine pw_ofI (by decide) (Nat.le_of_ble_eq_true rfl) ?_
  intro p e s m args below meth c A C hw ls hl
  obtain ⟨hx, hb, hr, hts, hown, hlk, hml, hK, hN⟩ := id C
  have hl : lv_has ls 3 [(0, .ref (ad 0)), (1, .int x1), (2, .int x2)] := hl
  unfold fX10_talk at h
  refine lv_iload_n hx hb dX10_talk_0 rfl (lv_at hl 1 rfl) ?_
  refine lv_bipush (v := 16) hx hb dX10_talk_1 (by decide) ?_
  obtain ⟨v6, σ5, e4, h⟩ := cal_some h
  refine r_cSI C hw (sh := shC) (ad := ad) (As := [.int x1, .int 16]) (rest := []) (kX10_within l D cI cZ ad _ _ _ _ e4) YX10_within ml_X10_87 (pw_rmOK (by omega) (by decide)) rfl hl.1 rfl (Nat.le_of_ble_eq_true rfl) dX10_talk_3 ⟨Nat.zero_le _, Nat.zero_le _⟩ (fun H locs hw => ?_)
  refine lv_if_eq (tgt := 23) hx hb dX10_talk_6 (by decide) (fun hc => ?_) (fun hc => ?_)
  · replace h := pw_t hc h
    exact wX10_talk_b23 C  _ _ _ _ hw (lv_sub hl [0] rfl) h
  · replace h := pw_f hc h
    refine lv_iload_n hx hb dX10_talk_9 rfl (lv_at hl 2 rfl) ?_
    refine lv_bipush (v := 16) hx hb dX10_talk_10 (by decide) ?_
    obtain ⟨v9, σ8, e7, h⟩ := cal_some h
    refine r_cSI C hw (sh := shC) (ad := ad) (As := [.int x2, .int 16]) (rest := []) (kX10_within l D cI cZ ad _ _ _ _ e7) YX10_within ml_X10_87 (pw_rmOK (by omega) (by decide)) rfl hl.1 rfl (Nat.le_of_ble_eq_true rfl) dX10_talk_12 ⟨Nat.zero_le _, Nat.zero_le _⟩ (fun H locs hw => ?_)
    refine lv_if_eq (tgt := 23) hx hb dX10_talk_15 (by decide) (fun hc => ?_) (fun hc => ?_)
    · replace h := pw_t hc h
      exact wX10_talk_b23 C  _ _ _ _ hw (lv_sub hl [0] rfl) h
    · replace h := pw_f hc h
      refine lv_iload_n hx hb dX10_talk_18 rfl (lv_at hl 1 rfl) ?_
      refine lv_iload_n hx hb dX10_talk_19 rfl (lv_at hl 2 rfl) ?_
      refine lv_icmp_ne (tgt := 29) hx hb dX10_talk_20 (by decide) (fun hc => ?_) (fun hc => ?_)
      · replace h := pw_f hc h
        refine lv_aload_n hx hb dX10_talk_29 rfl (lv_at hl 0 rfl) ?_
        refine r_get C hw qC_0 clsX10 9 rfl (by decide) fl_X10_72 dX10_talk_30 (v := .ref (ad 47)) rfl ?_
        refine lv_iload_n hx hb dX10_talk_33 rfl (lv_at hl 1 rfl) ?_
        refine lv_iload_n hx hb dX10_talk_34 rfl (lv_at hl 2 rfl) ?_
        refine lv_aload_n hx hb dX10_talk_35 rfl (lv_at hl 0 rfl) ?_
        refine r_get C hw qC_0 clsX10 11 rfl (by decide) fl_X10_83 dX10_talk_36 (v := .int (σ8 0 11)) rfl ?_
        obtain ⟨v12, σ11, e10, h⟩ := cal_some h
        refine r_cNI C hw (As := [.int x1, .int x2, .int (σ8 0 11)]) (rest := []) (kX7_talkedOn l D cI cZ ad _ _ _ _ _ e10) YX7_talkedOn mn_X10_265 qC_47 clsX7 (pw_rmOK (by omega) (by decide)) rfl hl.1 rfl (Nat.le_of_ble_eq_true rfl) dX10_talk_39 ⟨Nat.zero_le _, Nat.zero_le _⟩ (fun H locs hw => ?_)
        refine lv_if_eq (tgt := 47) hx hb dX10_talk_42 (by decide) (fun hc => ?_) (fun hc => ?_)
        · replace h := pw_t hc h
          refine lv_aload_n hx hb dX10_talk_47 rfl (lv_at hl 0 rfl) ?_
          refine r_get C hw qC_0 clsX10 9 rfl (by decide) fl_X10_72 dX10_talk_48 (v := .ref (ad 47)) rfl ?_
          refine r_getN C hw qC_47 clsX7 9 rfl (by decide) fn_X10_268 dX10_talk_51 (v := .int (σ11 47 9)) rfl ?_
          refine lv_bipush (v := 60) hx hb dX10_talk_54 (by decide) ?_
          refine lv_icmp_lt (tgt := 66) hx hb dX10_talk_56 (by decide) (fun hc => ?_) (fun hc => ?_)
          · replace h := pw_t hc h
            refine lv_aload_n hx hb dX10_talk_66 rfl (lv_at hl 0 rfl) ?_
            refine r_get C hw qC_0 clsX10 9 rfl (by decide) fl_X10_72 dX10_talk_67 (v := .ref (ad 47)) rfl ?_
            refine lv_iload_n hx hb dX10_talk_70 rfl (lv_at hl 1 rfl) ?_
            refine lv_iload_n hx hb dX10_talk_71 rfl (lv_at hl 2 rfl) ?_
            refine lv_aload_n hx hb dX10_talk_72 rfl (lv_at hl 0 rfl) ?_
            refine r_get C hw qC_0 clsX10 11 rfl (by decide) fl_X10_83 dX10_talk_73 (v := .int (σ11 0 11)) rfl ?_
            obtain ⟨r15, σ14, e13, h⟩ := cal_some h
            refine r_cNV C hw (As := [.int x1, .int x2, .int (σ11 0 11)]) (rest := []) (kX7_tellTalk l D cI cZ ad _ _ _ _ _ e13) YX7_tellTalk mn_X10_271 qC_47 clsX7 (pw_rmOK (by omega) (by decide)) rfl hl.1 rfl (Nat.le_of_ble_eq_true rfl) dX10_talk_76 ⟨Nat.zero_le _, Nat.zero_le _⟩ (fun H locs hw => ?_)
            refine lv_iconst (v := 1) hx hb dX10_talk_79 (by decide) ?_
            exact r_iret C hw dX10_talk_80 h
          · replace h := pw_f hc h
            refine lv_aload_n hx hb dX10_talk_59 rfl (lv_at hl 0 rfl) ?_
            refine lv_bipush (v := (-6)) hx hb dX10_talk_60 (by decide) ?_
            obtain ⟨v18, σ17, e16, h⟩ := cal_some h
            refine r_cVI C hw (As := [.int (-6)]) (rest := []) (kX10_refuse l D cI cZ ad _ _ _ e16) YX10_refuse ml_X10_91 qC_0 clsX10 (pw_rmOK (by omega) (by decide)) rfl hl.1 rfl (Nat.le_of_ble_eq_true rfl) dX10_talk_62 ⟨Nat.zero_le _, Nat.zero_le _⟩ (fun H locs hw => ?_)
            exact r_iret C hw dX10_talk_65 h
        · replace h := pw_f hc h
          refine lv_iconst (v := 0) hx hb dX10_talk_45 (by decide) ?_
          exact r_iret C hw dX10_talk_46 h
      · replace h := pw_t hc h
        exact wX10_talk_b23 C  _ _ _ _ hw (lv_sub hl [0] rfl) h
set_option maxRecDepth 100000 in
set_option maxHeartbeats 4000000 in
theorem kX7_knownBy (l : Launch) (D : va_G) (cI cZ : ClassId) (ad : Nat → Nat) (x1 : Int32) (σ : St) (z : Int32 × St) (h : fX7_knownBy x1 σ = some z) : pw_MI l D shC cI cZ ad yX7_knownBy cX7_knownBy 2 (some .int) (pw_rm 0) [.ref (ad 47), .int x1] σ z.1 z.2 := by
  refine pw_ofI (by decide) (Nat.le_of_ble_eq_true rfl) ?_
  intro p e s m args below meth c A C hw ls hl
  obtain ⟨hx, hb, hr, hts, hown, hlk, hml, hK, hN⟩ := id C
  have hl : lv_has ls 2 [(0, .ref (ad 47)), (1, .int x1)] := hl
  unfold fX7_knownBy at h
  refine lv_aload_n hx hb dX7_knownBy_0 rfl (lv_at hl 0 rfl) ?_
  refine r_get C hw qC_47 clsX7 6 rfl (by decide) fl_X7_30 dX7_knownBy_1 (v := .ref (ad 54)) rfl ?_
  refine lv_iconst (v := 0) hx hb dX7_knownBy_4 (by decide) ?_
  refine r_iald C hw qC_54 dX7_knownBy_5 h (fun v1 h => ?_)
  refine lv_iload_n hx hb dX7_knownBy_6 rfl (lv_at hl 1 rfl) ?_
  refine lv_ishr hx hb dX7_knownBy_7 ?_
  refine lv_iconst (v := 1) hx hb dX7_knownBy_8 (by decide) ?_
  refine lv_iand hx hb dX7_knownBy_9 ?_
  refine lv_iconst (v := 2) hx hb dX7_knownBy_10 (by decide) ?_
  refine lv_aload_n hx hb dX7_knownBy_11 rfl (lv_at hl 0 rfl) ?_
  refine r_get C hw qC_47 clsX7 6 rfl (by decide) fl_X7_30 dX7_knownBy_12 (v := .ref (ad 54)) rfl ?_
  refine lv_iconst (v := 1) hx hb dX7_knownBy_15 (by decide) ?_
  refine r_iald C hw qC_54 dX7_knownBy_16 h (fun v2 h => ?_)
  refine lv_iload_n hx hb dX7_knownBy_17 rfl (lv_at hl 1 rfl) ?_
  refine lv_ishr hx hb dX7_knownBy_18 ?_
  refine lv_iconst (v := 1) hx hb dX7_knownBy_19 (by decide) ?_
  refine lv_iand hx hb dX7_knownBy_20 ?_
  refine lv_imul hx hb dX7_knownBy_21 ?_
  refine lv_iadd hx hb dX7_knownBy_22 ?_
  exact r_iret C hw dX7_knownBy_23 h
set_option maxRecDepth 100000 in
set_option maxHeartbeats 4000000 in
theorem kX7_noteJoined (l : Launch) (D : va_G) (cI cZ : ClassId) (ad : Nat → Nat) (x1 : Int32) (σ : St) (z : Int32 × St) (h : fX7_noteJoined x1 σ = some z) : pw_MV l D shC cI cZ ad yX7_noteJoined cX7_noteJoined 2 none (pw_rm 0) [.ref (ad 47), .int x1] σ z.2 := by
  refine pw_ofV (by decide) (Nat.le_of_ble_eq_true rfl) ?_
  intro p e s m args below meth c A C hw ls hl
  obtain ⟨hx, hb, hr, hts, hown, hlk, hml, hK, hN⟩ := id C
  have hl : lv_has ls 2 [(0, .ref (ad 47)), (1, .int x1)] := hl
  unfold fX7_noteJoined at h
  refine lv_aload_n hx hb dX7_noteJoined_0 rfl (lv_at hl 0 rfl) ?_
  refine r_get C hw qC_47 clsX7 10 rfl (by decide) fl_X7_43 dX7_noteJoined_1 (v := .int (σ 47 10)) rfl ?_
  refine lv_bipush (v := (-9)) hx hb dX7_noteJoined_4 (by decide) ?_
  refine lv_icmp_ne (tgt := 30) hx hb dX7_noteJoined_6 (by decide) (fun hc => ?_) (fun hc => ?_)
  · replace h := pw_f hc h
    exact r_vret C hw dX7_noteJoined_30 h
  · replace h := pw_t hc h
    refine lv_aload_n hx hb dX7_noteJoined_9 rfl (lv_at hl 0 rfl) ?_
    refine r_get C hw qC_47 clsX7 6 rfl (by decide) fl_X7_30 dX7_noteJoined_10 (v := .ref (ad 54)) rfl ?_
    refine lv_iconst (v := 0) hx hb dX7_noteJoined_13 (by decide) ?_
    refine r_iald C hw qC_54 dX7_noteJoined_14 h (fun v1 h => ?_)
    refine lv_aload_n hx hb dX7_noteJoined_15 rfl (lv_at hl 0 rfl) ?_
    refine r_get C hw qC_47 clsX7 6 rfl (by decide) fl_X7_30 dX7_noteJoined_16 (v := .ref (ad 54)) rfl ?_
    refine lv_iconst (v := 1) hx hb dX7_noteJoined_19 (by decide) ?_
    refine r_iald C hw qC_54 dX7_noteJoined_20 h (fun v2 h => ?_)
    refine lv_iand hx hb dX7_noteJoined_21 ?_
    refine lv_if_eq (tgt := 30) hx hb dX7_noteJoined_22 (by decide) (fun hc => ?_) (fun hc => ?_)
    · replace h := pw_t hc h
      exact r_vret C hw dX7_noteJoined_30 h
    · replace h := pw_f hc h
      refine lv_aload_n hx hb dX7_noteJoined_25 rfl (lv_at hl 0 rfl) ?_
      refine lv_iload_n hx hb dX7_noteJoined_26 rfl (lv_at hl 1 rfl) ?_
      refine r_put C hw qC_47 clsX7 10 rfl (by decide) fl_X7_43 dX7_noteJoined_27 rfl rfl rfl h (fun σ3 H locs hw h => ?_)
      exact r_vret C hw dX7_noteJoined_30 h
set_option maxRecDepth 100000 in
set_option maxHeartbeats 4000000 in
theorem wX7_seeTill_b2 {p : Program} {l : Launch} {e : Env} {s : State} {m : MethodId} {args : Array Value} {below : List Frame} {meth : Method} {c : Code} {D : va_G} {cI cZ : ClassId} {ad : Nat → Nat} {A : Nat → Prop} {z : Int32 × St}  (C : pw_C p s m args meth c yX7_seeTill.cls cX7_seeTill 4 (some .int) D cI cZ) : ∀ (n : Nat) (x2 : Int32) (x3 : Int32) (σ : St) (H : Heap) (locs : List Loc) (ls : Array Slot), pw_H D (pw_w shC cI cZ ad σ) A s.heap H locs → lv_has ls 4 [(0, .ref (ad 47)), (2, .int x2), (3, .int x3)] → fX7_seeTill_b2  n x2 x3 σ = some z → W p l e (pw_rm 1) s m args below meth c H locs 0 0 (pw_QI below args s D (pw_w shC cI cZ ad) A z) (F0 m 2 ls []) := by
  obtain ⟨hx, hb, hr, hts, hown, hlk, hml, hK, hN⟩ := id C
  intro n
  induction n with
  | zero =>
    intro x2 x3 σ H locs ls hw hl h
    exact absurd h (by simp [fX7_seeTill_b2])
  | succ n ih =>
    intro x2 x3 σ H locs ls hw hl h
    rw [fX7_seeTill_b2] at h
    refine lv_iload_n hx hb dX7_seeTill_2 rfl (lv_at hl 2 rfl) ?_
    refine lv_aload_n hx hb dX7_seeTill_3 rfl (lv_at hl 0 rfl) ?_
    refine r_get C hw qC_47 clsX7 8 rfl (by decide) fl_X7_36 dX7_seeTill_4 (v := .int (σ 47 8)) rfl ?_
    refine lv_icmp_ge (tgt := 58) hx hb dX7_seeTill_7 (by decide) (fun hc => ?_) (fun hc => ?_)
    · replace h := pw_t hc h
      refine lv_iload_n hx hb dX7_seeTill_58 rfl (lv_at hl 2 rfl) ?_
      exact r_iret C hw dX7_seeTill_59 h
    · replace h := pw_f hc h
      refine lv_aload_n hx hb dX7_seeTill_10 rfl (lv_at hl 0 rfl) ?_
      refine r_get C hw qC_47 clsX7 2 rfl (by decide) fl_X7_18 dX7_seeTill_11 (v := .ref (ad 50)) rfl ?_
      refine lv_iload_n hx hb dX7_seeTill_14 rfl (lv_at hl 2 rfl) ?_
      refine r_iald C hw qC_50 dX7_seeTill_15 h (fun v1 h => ?_)
      refine lv_iload_n hx hb dX7_seeTill_16 rfl (lv_at hl 1 rfl) ?_
      refine lv_icmp_gt (tgt := 58) hx hb dX7_seeTill_17 (by decide) (fun hc => ?_) (fun hc => ?_)
      · replace h := pw_t hc h
        refine lv_iload_n hx hb dX7_seeTill_58 rfl (lv_at hl 2 rfl) ?_
        exact r_iret C hw dX7_seeTill_59 h
      · replace h := pw_f hc h
        refine lv_aload_n hx hb dX7_seeTill_20 rfl (lv_at hl 0 rfl) ?_
        refine r_get C hw qC_47 clsX7 6 rfl (by decide) fl_X7_30 dX7_seeTill_21 (v := .ref (ad 54)) rfl ?_
        refine lv_aload_n hx hb dX7_seeTill_24 rfl (lv_at hl 0 rfl) ?_
        refine r_get C hw qC_47 clsX7 1 rfl (by decide) fl_X7_15 dX7_seeTill_25 (v := .ref (ad 49)) rfl ?_
        refine lv_iload_n hx hb dX7_seeTill_28 rfl (lv_at hl 2 rfl) ?_
        refine r_iald C hw qC_49 dX7_seeTill_29 h (fun v2 h => ?_)
        refine lv_dup2_11 hx hb dX7_seeTill_30 rfl rfl ?_
        refine r_iald C hw qC_54 dX7_seeTill_31 h (fun v3 h => ?_)
        refine lv_iconst (v := 1) hx hb dX7_seeTill_32 (by decide) ?_
        refine lv_aload_n hx hb dX7_seeTill_33 rfl (lv_at hl 0 rfl) ?_
        refine r_get C hw qC_47 clsX7 0 rfl (by decide) fl_X7_9 dX7_seeTill_34 (v := .ref (ad 48)) rfl ?_
        refine lv_iload_n hx hb dX7_seeTill_37 rfl (lv_at hl 2 rfl) ?_
        refine r_iald C hw qC_48 dX7_seeTill_38 h (fun v4 h => ?_)
        refine lv_ishl hx hb dX7_seeTill_39 ?_
        refine lv_ior hx hb dX7_seeTill_40 ?_
        refine r_iast C hw qC_54 dX7_seeTill_41 h (fun σ5 H locs hw h => ?_)
        refine lv_aload_n hx hb dX7_seeTill_42 rfl (lv_at hl 0 rfl) ?_
        refine lv_aload_n hx hb dX7_seeTill_43 rfl (lv_at hl 0 rfl) ?_
        refine r_get C hw qC_47 clsX7 2 rfl (by decide) fl_X7_18 dX7_seeTill_44 (v := .ref (ad 50)) rfl ?_
        refine lv_iload_n hx hb dX7_seeTill_47 rfl (lv_at hl 2 rfl) ?_
        refine r_iald C hw qC_50 dX7_seeTill_48 h (fun v6 h => ?_)
        obtain ⟨r9, σ8, e7, h⟩ := cal_some h
        refine r_cVV C hw (As := [.int v6]) (rest := []) (kX7_noteJoined l D cI cZ ad _ _ _ e7) YX7_noteJoined ml_X7_53 qC_47 clsX7 (pw_rmOK (by omega) (by decide)) rfl hl.1 rfl (Nat.le_of_ble_eq_true rfl) dX7_seeTill_49 ⟨Nat.zero_le _, Nat.zero_le _⟩ (fun H locs hw => ?_)
        refine lv_iinc (v := (x3 + 1)) (lv' := [(3, .int (x3 + 1)), (0, .ref (ad 47)), (2, .int x2)]) hx hb dX7_seeTill_52 hl (k := 2) rfl rfl (by decide) rfl (fun ls hl => ?_)
        refine lv_goto (tgt := 2) hx hb dX7_seeTill_55 (by decide) ?_
        exact ih _ _ _ _ _ _ hw (lv_sub hl [1, 2, 0] rfl) h
set_option maxRecDepth 100000 in
set_option maxHeartbeats 4000000 in
theorem kX7_seeTill (l : Launch) (D : va_G) (cI cZ : ClassId) (ad : Nat → Nat) (x1 : Int32) (x2 : Int32) (σ : St) (z : Int32 × St) (h : fX7_seeTill x1 x2 σ = some z) : pw_MI l D shC cI cZ ad yX7_seeTill cX7_seeTill 4 (some .int) (pw_rm 1) [.ref (ad 47), .int x1, .int x2] σ z.1 z.2 := by
  refine pw_ofI (by decide) (Nat.le_of_ble_eq_true rfl) ?_
  intro p e s m args below meth c A C hw ls hl
  obtain ⟨hx, hb, hr, hts, hown, hlk, hml, hK, hN⟩ := id C
  have hl : lv_has ls 4 [(0, .ref (ad 47)), (1, .int x1), (2, .int x2)] := hl
  unfold fX7_seeTill at h
  refine lv_iload_n hx hb dX7_seeTill_0 rfl (lv_at hl 1 rfl) ?_
  refine lv_istore_n (lv' := [(3, .int x1), (0, .ref (ad 47)), (1, .int x1), (2, .int x2)]) hx hb dX7_seeTill_1 rfl hl (by decide) rfl (fun ls hl => ?_)
  exact wX7_seeTill_b2 C  _ _ _ _ _ _ _ hw (lv_sub hl [1, 3, 0] rfl) h
set_option maxRecDepth 100000 in
set_option maxHeartbeats 4000000 in
theorem wX7_exchange_b11 {p : Program} {l : Launch} {e : Env} {s : State} {m : MethodId} {args : Array Value} {below : List Frame} {meth : Method} {c : Code} {D : va_G} {cI cZ : ClassId} {ad : Nat → Nat} {A : Nat → Prop} {z : Int32 × St}  (C : pw_C p s m args meth c yX7_exchange.cls cX7_exchange 5 none D cI cZ) : ∀ (n : Nat) (x3 : Int32) (x4 : Int32) (σ : St) (H : Heap) (locs : List Loc) (ls : Array Slot), pw_H D (pw_w shC cI cZ ad σ) A s.heap H locs → lv_has ls 5 [(0, .ref (ad 47)), (3, .int x3), (4, .int x4)] → fX7_exchange_b11  n x3 x4 σ = some z → W p l e (pw_rm 0) s m args below meth c H locs 0 0 (pw_QV below args s D (pw_w shC cI cZ ad) A z) (F0 m 11 ls []) := by
  obtain ⟨hx, hb, hr, hts, hown, hlk, hml, hK, hN⟩ := id C
  intro n
  induction n with
  | zero =>
    intro x3 x4 σ H locs ls hw hl h
    exact absurd h (by simp [fX7_exchange_b11])
  | succ n ih =>
    intro x3 x4 σ H locs ls hw hl h
    rw [fX7_exchange_b11] at h
    refine lv_iload hx hb dX7_exchange_11 (lv_at hl 2 rfl) ?_
    refine lv_iconst (v := 2) hx hb dX7_exchange_13 (by decide) ?_
    refine lv_icmp_ge (tgt := 46) hx hb dX7_exchange_14 (by decide) (fun hc => ?_) (fun hc => ?_)
    · replace h := pw_t hc h
      exact r_vret C hw dX7_exchange_46 h
    · replace h := pw_f hc h
      refine lv_aload_n hx hb dX7_exchange_17 rfl (lv_at hl 0 rfl) ?_
      refine r_get C hw qC_47 clsX7 7 rfl (by decide) fl_X7_33 dX7_exchange_18 (v := .ref (ad 55)) rfl ?_
      refine lv_iload hx hb dX7_exchange_21 (lv_at hl 2 rfl) ?_
      refine r_iald C hw qC_55 dX7_exchange_23 h (fun v1 h => ?_)
      refine lv_iload_n hx hb dX7_exchange_24 rfl (lv_at hl 1 rfl) ?_
      refine lv_iand hx hb dX7_exchange_25 ?_
      refine lv_if_eq (tgt := 40) hx hb dX7_exchange_26 (by decide) (fun hc => ?_) (fun hc => ?_)
      · replace h := pw_t hc h
        refine lv_iinc (v := (x4 + 1)) (lv' := [(4, .int (x4 + 1)), (0, .ref (ad 47)), (3, .int x3)]) hx hb dX7_exchange_40 hl (k := 2) rfl rfl (by decide) rfl (fun ls hl => ?_)
        refine lv_goto (tgt := 11) hx hb dX7_exchange_43 (by decide) ?_
        exact ih _ _ _ _ _ _ hw (lv_sub hl [1, 2, 0] rfl) h
      · replace h := pw_f hc h
        refine lv_aload_n hx hb dX7_exchange_29 rfl (lv_at hl 0 rfl) ?_
        refine r_get C hw qC_47 clsX7 6 rfl (by decide) fl_X7_30 dX7_exchange_30 (v := .ref (ad 54)) rfl ?_
        refine lv_iload hx hb dX7_exchange_33 (lv_at hl 2 rfl) ?_
        refine lv_dup2_11 hx hb dX7_exchange_35 rfl rfl ?_
        refine r_iald C hw qC_54 dX7_exchange_36 h (fun v2 h => ?_)
        refine lv_iload_n hx hb dX7_exchange_37 rfl (lv_at hl 1 rfl) ?_
        refine lv_ior hx hb dX7_exchange_38 ?_
        refine r_iast C hw qC_54 dX7_exchange_39 h (fun σ3 H locs hw h => ?_)
        refine lv_iinc (v := (x4 + 1)) (lv' := [(4, .int (x4 + 1)), (0, .ref (ad 47)), (3, .int x3)]) hx hb dX7_exchange_40 hl (k := 2) rfl rfl (by decide) rfl (fun ls hl => ?_)
        refine lv_goto (tgt := 11) hx hb dX7_exchange_43 (by decide) ?_
        exact ih _ _ _ _ _ _ hw (lv_sub hl [1, 2, 0] rfl) h
set_option maxRecDepth 100000 in
set_option maxHeartbeats 4000000 in
theorem kX7_exchange (l : Launch) (D : va_G) (cI cZ : ClassId) (ad : Nat → Nat) (x1 : Int32) (x2 : Int32) (σ : St) (z : Int32 × St) (h : fX7_exchange x1 x2 σ = some z) : pw_MV l D shC cI cZ ad yX7_exchange cX7_exchange 5 none (pw_rm 0) [.ref (ad 47), .int x1, .int x2] σ z.2 := by
  refine pw_ofV (by decide) (Nat.le_of_ble_eq_true rfl) ?_
  intro p e s m args below meth c A C hw ls hl
  obtain ⟨hx, hb, hr, hts, hown, hlk, hml, hK, hN⟩ := id C
  have hl : lv_has ls 5 [(0, .ref (ad 47)), (1, .int x1), (2, .int x2)] := hl
  unfold fX7_exchange at h
  refine lv_iconst (v := 1) hx hb dX7_exchange_0 (by decide) ?_
  refine lv_iload_n hx hb dX7_exchange_1 rfl (lv_at hl 1 rfl) ?_
  refine lv_ishl hx hb dX7_exchange_2 ?_
  refine lv_iconst (v := 1) hx hb dX7_exchange_3 (by decide) ?_
  refine lv_iload_n hx hb dX7_exchange_4 rfl (lv_at hl 2 rfl) ?_
  refine lv_ishl hx hb dX7_exchange_5 ?_
  refine lv_ior hx hb dX7_exchange_6 ?_
  refine r_leti h (fun v4 h => ?_)
  refine lv_istore_n (lv' := [(3, .int v4), (0, .ref (ad 47)), (1, .int x1), (2, .int x2)]) hx hb dX7_exchange_7 rfl hl (by decide) rfl (fun ls hl => ?_)
  refine lv_iconst (v := 0) hx hb dX7_exchange_8 (by decide) ?_
  refine lv_istore (lv' := [(4, .int 0), (3, .int v4), (0, .ref (ad 47)), (1, .int x1), (2, .int x2)]) hx hb dX7_exchange_9 hl (by decide) rfl (fun ls hl => ?_)
  exact wX7_exchange_b11 C  _ _ _ _ _ _ _ hw (lv_sub hl [2, 1, 0] rfl) h
set_option maxRecDepth 100000 in
set_option maxHeartbeats 4000000 in
theorem wX7_talkAllDay_b34 {p : Program} {l : Launch} {e : Env} {s : State} {m : MethodId} {args : Array Value} {below : List Frame} {meth : Method} {c : Code} {D : va_G} {cI cZ : ClassId} {ad : Nat → Nat} {A : Nat → Prop} {z : Int32 × St}  (C : pw_C p s m args meth c yX7_talkAllDay.cls cX7_talkAllDay 5 (some .int) D cI cZ) : ∀ (n : Nat) (x2 : Int32) (x3 : Int32) (x4 : Int32) (σ : St) (H : Heap) (locs : List Loc) (ls : Array Slot), pw_H D (pw_w shC cI cZ ad σ) A s.heap H locs → lv_has ls 5 [(0, .ref (ad 47)), (2, .int x2), (3, .int x3), (4, .int x4)] → fX7_talkAllDay_b34  n x2 x3 x4 σ = some z → W p l e (pw_rm 1) s m args below meth c H locs 0 0 (pw_QI below args s D (pw_w shC cI cZ ad) A z) (F0 m 34 ls []) := by
  obtain ⟨hx, hb, hr, hts, hown, hlk, hml, hK, hN⟩ := id C
  intro n
  induction n with
  | zero =>
    intro x2 x3 x4 σ H locs ls hw hl h
    exact absurd h (by simp [fX7_talkAllDay_b34])
  | succ n ih =>
    intro x2 x3 x4 σ H locs ls hw hl h
    rw [fX7_talkAllDay_b34] at h
    refine lv_iload hx hb dX7_talkAllDay_34 (lv_at hl 3 rfl) ?_
    refine lv_aload_n hx hb dX7_talkAllDay_36 rfl (lv_at hl 0 rfl) ?_
    refine r_get C hw qC_47 clsX7 9 rfl (by decide) fl_X7_40 dX7_talkAllDay_37 (v := .int (σ 47 9)) rfl ?_
    refine lv_icmp_ge (tgt := 84) hx hb dX7_talkAllDay_40 (by decide) (fun hc => ?_) (fun hc => ?_)
    · replace h := pw_t hc h
      refine lv_aload_n hx hb dX7_talkAllDay_84 rfl (lv_at hl 0 rfl) ?_
      refine lv_iload_n hx hb dX7_talkAllDay_85 rfl (lv_at hl 2 rfl) ?_
      obtain ⟨r3, σ2, e1, h⟩ := cal_some h
      refine r_cVV C hw (As := [.int x3]) (rest := []) (kX7_noteJoined l D cI cZ ad _ _ _ e1) YX7_noteJoined ml_X7_53 qC_47 clsX7 (pw_rmOK (by omega) (by decide)) rfl hl.1 rfl (Nat.le_of_ble_eq_true rfl) dX7_talkAllDay_86 ⟨Nat.zero_le _, Nat.zero_le _⟩ (fun H locs hw => ?_)
      refine lv_iload hx hb dX7_talkAllDay_89 (lv_at hl 3 rfl) ?_
      exact r_iret C hw dX7_talkAllDay_91 h
    · replace h := pw_f hc h
      refine lv_aload_n hx hb dX7_talkAllDay_43 rfl (lv_at hl 0 rfl) ?_
      refine r_get C hw qC_47 clsX7 5 rfl (by decide) fl_X7_27 dX7_talkAllDay_44 (v := .ref (ad 53)) rfl ?_
      refine lv_iload hx hb dX7_talkAllDay_47 (lv_at hl 3 rfl) ?_
      refine r_iald C hw qC_53 dX7_talkAllDay_49 h (fun v4 h => ?_)
      refine lv_iload_n hx hb dX7_talkAllDay_50 rfl (lv_at hl 2 rfl) ?_
      refine lv_icmp_ne (tgt := 84) hx hb dX7_talkAllDay_51 (by decide) (fun hc => ?_) (fun hc => ?_)
      · replace h := pw_f hc h
        refine lv_aload_n hx hb dX7_talkAllDay_84 rfl (lv_at hl 0 rfl) ?_
        refine lv_iload_n hx hb dX7_talkAllDay_85 rfl (lv_at hl 2 rfl) ?_
        obtain ⟨r7, σ6, e5, h⟩ := cal_some h
        refine r_cVV C hw (As := [.int x3]) (rest := []) (kX7_noteJoined l D cI cZ ad _ _ _ e5) YX7_noteJoined ml_X7_53 qC_47 clsX7 (pw_rmOK (by omega) (by decide)) rfl hl.1 rfl (Nat.le_of_ble_eq_true rfl) dX7_talkAllDay_86 ⟨Nat.zero_le _, Nat.zero_le _⟩ (fun H locs hw => ?_)
        refine lv_iload hx hb dX7_talkAllDay_89 (lv_at hl 3 rfl) ?_
        exact r_iret C hw dX7_talkAllDay_91 h
      · replace h := pw_t hc h
        refine lv_iload hx hb dX7_talkAllDay_54 (lv_at hl 3 rfl) ?_
        refine lv_iload_n hx hb dX7_talkAllDay_56 rfl (lv_at hl 1 rfl) ?_
        refine lv_icmp_eq (tgt := 78) hx hb dX7_talkAllDay_57 (by decide) (fun hc => ?_) (fun hc => ?_)
        · replace h := pw_t hc h
          refine lv_iinc (v := (x4 + 1)) (lv' := [(4, .int (x4 + 1)), (0, .ref (ad 47)), (2, .int x2), (3, .int x3)]) hx hb dX7_talkAllDay_78 hl (k := 3) rfl rfl (by decide) rfl (fun ls hl => ?_)
          refine lv_goto (tgt := 34) hx hb dX7_talkAllDay_81 (by decide) ?_
          exact ih _ _ _ _ _ _ _ hw (lv_sub hl [1, 2, 3, 0] rfl) h
        · replace h := pw_f hc h
          refine lv_aload_n hx hb dX7_talkAllDay_60 rfl (lv_at hl 0 rfl) ?_
          refine lv_aload_n hx hb dX7_talkAllDay_61 rfl (lv_at hl 0 rfl) ?_
          refine r_get C hw qC_47 clsX7 3 rfl (by decide) fl_X7_21 dX7_talkAllDay_62 (v := .ref (ad 51)) rfl ?_
          refine lv_iload hx hb dX7_talkAllDay_65 (lv_at hl 3 rfl) ?_
          refine r_iald C hw qC_51 dX7_talkAllDay_67 h (fun v8 h => ?_)
          refine lv_aload_n hx hb dX7_talkAllDay_68 rfl (lv_at hl 0 rfl) ?_
          refine r_get C hw qC_47 clsX7 4 rfl (by decide) fl_X7_24 dX7_talkAllDay_69 (v := .ref (ad 52)) rfl ?_
          refine lv_iload hx hb dX7_talkAllDay_72 (lv_at hl 3 rfl) ?_
          refine r_iald C hw qC_52 dX7_talkAllDay_74 h (fun v9 h => ?_)
          obtain ⟨r12, σ11, e10, h⟩ := cal_some h
          refine r_cVV C hw (As := [.int v8, .int v9]) (rest := []) (kX7_exchange l D cI cZ ad _ _ _ _ e10) YX7_exchange ml_X7_57 qC_47 clsX7 (pw_rmOK (by omega) (by decide)) rfl hl.1 rfl (Nat.le_of_ble_eq_true rfl) dX7_talkAllDay_75 ⟨Nat.zero_le _, Nat.zero_le _⟩ (fun H locs hw => ?_)
          refine lv_iinc (v := (x4 + 1)) (lv' := [(4, .int (x4 + 1)), (0, .ref (ad 47)), (2, .int x2), (3, .int x3)]) hx hb dX7_talkAllDay_78 hl (k := 3) rfl rfl (by decide) rfl (fun ls hl => ?_)
          refine lv_goto (tgt := 34) hx hb dX7_talkAllDay_81 (by decide) ?_
          exact ih _ _ _ _ _ _ _ hw (lv_sub hl [1, 2, 3, 0] rfl) h
set_option maxRecDepth 100000 in
set_option maxHeartbeats 4000000 in
theorem kX7_talkAllDay (l : Launch) (D : va_G) (cI cZ : ClassId) (ad : Nat → Nat) (x1 : Int32) (x2 : Int32) (σ : St) (z : Int32 × St) (h : fX7_talkAllDay x1 x2 σ = some z) : pw_MI l D shC cI cZ ad yX7_talkAllDay cX7_talkAllDay 5 (some .int) (pw_rm 1) [.ref (ad 47), .int x1, .int x2] σ z.1 z.2 := by
  refine pw_ofI (by decide) (Nat.le_of_ble_eq_true rfl) ?_
  intro p e s m args below meth c A C hw ls hl
  obtain ⟨hx, hb, hr, hts, hown, hlk, hml, hK, hN⟩ := id C
  have hl : lv_has ls 5 [(0, .ref (ad 47)), (1, .int x1), (2, .int x2)] := hl
  unfold fX7_talkAllDay at h
  refine lv_aload_n hx hb dX7_talkAllDay_0 rfl (lv_at hl 0 rfl) ?_
  refine r_get C hw qC_47 clsX7 5 rfl (by decide) fl_X7_27 dX7_talkAllDay_1 (v := .ref (ad 53)) rfl ?_
  refine lv_iload_n hx hb dX7_talkAllDay_4 rfl (lv_at hl 1 rfl) ?_
  refine r_iald C hw qC_53 dX7_talkAllDay_5 h (fun v13 h => ?_)
  refine lv_istore_n (lv' := [(3, .int v13), (0, .ref (ad 47)), (1, .int x1), (2, .int x2)]) hx hb dX7_talkAllDay_6 rfl hl (by decide) rfl (fun ls hl => ?_)
  refine lv_aload_n hx hb dX7_talkAllDay_7 rfl (lv_at hl 1 rfl) ?_
  refine r_get C hw qC_47 clsX7 7 rfl (by decide) fl_X7_33 dX7_talkAllDay_8 (v := .ref (ad 55)) rfl ?_
  refine lv_iconst (v := 0) hx hb dX7_talkAllDay_11 (by decide) ?_
  refine lv_aload_n hx hb dX7_talkAllDay_12 rfl (lv_at hl 1 rfl) ?_
  refine r_get C hw qC_47 clsX7 6 rfl (by decide) fl_X7_30 dX7_talkAllDay_13 (v := .ref (ad 54)) rfl ?_
  refine lv_iconst (v := 0) hx hb dX7_talkAllDay_16 (by decide) ?_
  refine r_iald C hw qC_54 dX7_talkAllDay_17 h (fun v14 h => ?_)
  refine r_iast C hw qC_55 dX7_talkAllDay_18 h (fun σ15 H locs hw h => ?_)
  refine lv_aload_n hx hb dX7_talkAllDay_19 rfl (lv_at hl 1 rfl) ?_
  refine r_get C hw qC_47 clsX7 7 rfl (by decide) fl_X7_33 dX7_talkAllDay_20 (v := .ref (ad 55)) rfl ?_
  refine lv_iconst (v := 1) hx hb dX7_talkAllDay_23 (by decide) ?_
  refine lv_aload_n hx hb dX7_talkAllDay_24 rfl (lv_at hl 1 rfl) ?_
  refine r_get C hw qC_47 clsX7 6 rfl (by decide) fl_X7_30 dX7_talkAllDay_25 (v := .ref (ad 54)) rfl ?_
  refine lv_iconst (v := 1) hx hb dX7_talkAllDay_28 (by decide) ?_
  refine r_iald C hw qC_54 dX7_talkAllDay_29 h (fun v16 h => ?_)
  refine r_iast C hw qC_55 dX7_talkAllDay_30 h (fun σ17 H locs hw h => ?_)
  refine lv_iload_n hx hb dX7_talkAllDay_31 rfl (lv_at hl 2 rfl) ?_
  refine lv_istore (lv' := [(4, .int x1), (3, .int v13), (0, .ref (ad 47)), (1, .int x1), (2, .int x2)]) hx hb dX7_talkAllDay_32 hl (by decide) rfl (fun ls hl => ?_)
  exact wX7_talkAllDay_b34 C  _ _ _ _ _ _ _ _ hw (lv_sub hl [2, 4, 1, 0] rfl) h
set_option maxRecDepth 100000 in
set_option maxHeartbeats 4000000 in
theorem wX7_retell_b27 {p : Program} {l : Launch} {e : Env} {s : State} {m : MethodId} {args : Array Value} {below : List Frame} {meth : Method} {c : Code} {D : va_G} {cI cZ : ClassId} {ad : Nat → Nat} {A : Nat → Prop} {z : Int32 × St}  (C : pw_C p s m args meth c yX7_retell.cls cX7_retell 5 none D cI cZ) : ∀ (n : Nat) (x1 : Int32) (x2 : Int32) (x3 : Int32) (x4 : Int32) (σ : St) (H : Heap) (locs : List Loc) (ls : Array Slot), pw_H D (pw_w shC cI cZ ad σ) A s.heap H locs → lv_has ls 5 [(0, .ref (ad 47)), (1, .int x1), (2, .int x2), (3, .int x3), (4, .int x4)] → fX7_retell_b27  n x1 x2 x3 x4 σ = some z → W p l e (pw_rm 2) s m args below meth c H locs 0 0 (pw_QV below args s D (pw_w shC cI cZ ad) A z) (F0 m 27 ls []) := by
  obtain ⟨hx, hb, hr, hts, hown, hlk, hml, hK, hN⟩ := id C
  intro n
  induction n with
  | zero =>
    intro x1 x2 x3 x4 σ H locs ls hw hl h
    exact absurd h (by simp [fX7_retell_b27])
  | succ n ih =>
    intro x1 x2 x3 x4 σ H locs ls hw hl h
    rw [fX7_retell_b27] at h
    refine lv_iload hx hb dX7_retell_27 (lv_at hl 4 rfl) ?_
    refine lv_bipush (v := 60) hx hb dX7_retell_29 (by decide) ?_
    refine lv_icmp_ge (tgt := 67) hx hb dX7_retell_31 (by decide) (fun hc => ?_) (fun hc => ?_)
    · replace h := pw_t hc h
      refine lv_aload_n hx hb dX7_retell_67 rfl (lv_at hl 0 rfl) ?_
      refine lv_iload_n hx hb dX7_retell_68 rfl (lv_at hl 2 rfl) ?_
      refine lv_sipush (v := 4000) hx hb dX7_retell_69 (by decide) ?_
      obtain ⟨v3, σ2, e1, h⟩ := cal_some h
      refine r_cVI C hw (As := [.int x2, .int 4000]) (rest := []) (kX7_seeTill l D cI cZ ad _ _ _ _ e1) YX7_seeTill ml_X7_46 qC_47 clsX7 (pw_rmOK (by omega) (by decide)) rfl hl.1 rfl (Nat.le_of_ble_eq_true rfl) dX7_retell_72 ⟨Nat.zero_le _, Nat.zero_le _⟩ (fun H locs hw => ?_)
      refine lv_pop hx hb dX7_retell_75 rfl ?_
      exact r_vret C hw dX7_retell_76 h
    · replace h := pw_f hc h
      refine lv_iload_n hx hb dX7_retell_34 rfl (lv_at hl 3 rfl) ?_
      refine lv_aload_n hx hb dX7_retell_35 rfl (lv_at hl 0 rfl) ?_
      refine r_get C hw qC_47 clsX7 9 rfl (by decide) fl_X7_40 dX7_retell_36 (v := .int (σ 47 9)) rfl ?_
      refine lv_icmp_ge (tgt := 67) hx hb dX7_retell_39 (by decide) (fun hc => ?_) (fun hc => ?_)
      · replace h := pw_t hc h
        refine lv_aload_n hx hb dX7_retell_67 rfl (lv_at hl 0 rfl) ?_
        refine lv_iload_n hx hb dX7_retell_68 rfl (lv_at hl 2 rfl) ?_
        refine lv_sipush (v := 4000) hx hb dX7_retell_69 (by decide) ?_
        obtain ⟨v6, σ5, e4, h⟩ := cal_some h
        refine r_cVI C hw (As := [.int x2, .int 4000]) (rest := []) (kX7_seeTill l D cI cZ ad _ _ _ _ e4) YX7_seeTill ml_X7_46 qC_47 clsX7 (pw_rmOK (by omega) (by decide)) rfl hl.1 rfl (Nat.le_of_ble_eq_true rfl) dX7_retell_72 ⟨Nat.zero_le _, Nat.zero_le _⟩ (fun H locs hw => ?_)
        refine lv_pop hx hb dX7_retell_75 rfl ?_
        exact r_vret C hw dX7_retell_76 h
      · replace h := pw_f hc h
        refine lv_aload_n hx hb dX7_retell_42 rfl (lv_at hl 0 rfl) ?_
        refine lv_iload_n hx hb dX7_retell_43 rfl (lv_at hl 2 rfl) ?_
        refine lv_aload_n hx hb dX7_retell_44 rfl (lv_at hl 0 rfl) ?_
        refine r_get C hw qC_47 clsX7 5 rfl (by decide) fl_X7_27 dX7_retell_45 (v := .ref (ad 53)) rfl ?_
        refine lv_iload_n hx hb dX7_retell_48 rfl (lv_at hl 3 rfl) ?_
        refine r_iald C hw qC_53 dX7_retell_49 h (fun v7 h => ?_)
        obtain ⟨v10, σ9, e8, h⟩ := cal_some h
        refine r_cVI C hw (As := [.int x2, .int v7]) (rest := []) (kX7_seeTill l D cI cZ ad _ _ _ _ e8) YX7_seeTill ml_X7_46 qC_47 clsX7 (pw_rmOK (by omega) (by decide)) rfl hl.1 rfl (Nat.le_of_ble_eq_true rfl) dX7_retell_50 ⟨Nat.zero_le _, Nat.zero_le _⟩ (fun H locs hw => ?_)
        refine lv_istore_n (lv' := [(2, .int v10), (0, .ref (ad 47)), (1, .int x1), (3, .int x3), (4, .int x4)]) hx hb dX7_retell_53 rfl hl (by decide) rfl (fun ls hl => ?_)
        refine lv_aload_n hx hb dX7_retell_54 rfl (lv_at hl 1 rfl) ?_
        refine lv_iload_n hx hb dX7_retell_55 rfl (lv_at hl 3 rfl) ?_
        refine lv_iload_n hx hb dX7_retell_56 rfl (lv_at hl 2 rfl) ?_
        obtain ⟨v13, σ12, e11, h⟩ := cal_some h
        refine r_cVI C hw (As := [.int x3, .int x1]) (rest := []) (kX7_talkAllDay l D cI cZ ad _ _ _ _ e11) YX7_talkAllDay ml_X7_50 qC_47 clsX7 (pw_rmOK (by omega) (by decide)) rfl hl.1 rfl (Nat.le_of_ble_eq_true rfl) dX7_retell_57 ⟨Nat.zero_le _, Nat.zero_le _⟩ (fun H locs hw => ?_)
        refine lv_istore_n (lv' := [(3, .int v13), (2, .int v10), (0, .ref (ad 47)), (1, .int x1), (4, .int x4)]) hx hb dX7_retell_60 rfl hl (by decide) rfl (fun ls hl => ?_)
        refine lv_iinc (v := (x4 + 1)) (lv' := [(4, .int (x4 + 1)), (3, .int v13), (2, .int v10), (0, .ref (ad 47)), (1, .int x1)]) hx hb dX7_retell_61 hl (k := 4) rfl rfl (by decide) rfl (fun ls hl => ?_)
        refine lv_goto (tgt := 27) hx hb dX7_retell_64 (by decide) ?_
        exact ih _ _ _ _ _ _ _ _ hw (lv_sub hl [3, 4, 2, 1, 0] rfl) h
set_option maxRecDepth 100000 in
set_option maxHeartbeats 4000000 in
theorem kX7_retell (l : Launch) (D : va_G) (cI cZ : ClassId) (ad : Nat → Nat) (x1 : Int32) (σ : St) (z : Int32 × St) (h : fX7_retell x1 σ = some z) : pw_MV l D shC cI cZ ad yX7_retell cX7_retell 5 none (pw_rm 2) [.ref (ad 47), .int x1] σ z.2 := by
  refine pw_ofV (by decide) (Nat.le_of_ble_eq_true rfl) ?_
  intro p e s m args below meth c A C hw ls hl
  obtain ⟨hx, hb, hr, hts, hown, hlk, hml, hK, hN⟩ := id C
  have hl : lv_has ls 5 [(0, .ref (ad 47)), (1, .int x1)] := hl
  unfold fX7_retell at h
  refine lv_aload_n hx hb dX7_retell_0 rfl (lv_at hl 0 rfl) ?_
  refine r_get C hw qC_47 clsX7 6 rfl (by decide) fl_X7_30 dX7_retell_1 (v := .ref (ad 54)) rfl ?_
  refine lv_iconst (v := 0) hx hb dX7_retell_4 (by decide) ?_
  refine lv_iconst (v := 0) hx hb dX7_retell_5 (by decide) ?_
  refine r_iast C hw qC_54 dX7_retell_6 h (fun σ14 H locs hw h => ?_)
  refine lv_aload_n hx hb dX7_retell_7 rfl (lv_at hl 0 rfl) ?_
  refine r_get C hw qC_47 clsX7 6 rfl (by decide) fl_X7_30 dX7_retell_8 (v := .ref (ad 54)) rfl ?_
  refine lv_iconst (v := 1) hx hb dX7_retell_11 (by decide) ?_
  refine lv_iconst (v := 0) hx hb dX7_retell_12 (by decide) ?_
  refine r_iast C hw qC_54 dX7_retell_13 h (fun σ15 H locs hw h => ?_)
  refine lv_aload_n hx hb dX7_retell_14 rfl (lv_at hl 0 rfl) ?_
  refine lv_bipush (v := (-9)) hx hb dX7_retell_15 (by decide) ?_
  refine r_put C hw qC_47 clsX7 10 rfl (by decide) fl_X7_43 dX7_retell_17 rfl rfl rfl h (fun σ16 H locs hw h => ?_)
  refine lv_iconst (v := 0) hx hb dX7_retell_20 (by decide) ?_
  refine lv_istore_n (lv' := [(2, .int 0), (0, .ref (ad 47)), (1, .int x1)]) hx hb dX7_retell_21 rfl hl (by decide) rfl (fun ls hl => ?_)
  refine lv_iconst (v := 0) hx hb dX7_retell_22 (by decide) ?_
  refine lv_istore_n (lv' := [(3, .int 0), (2, .int 0), (0, .ref (ad 47)), (1, .int x1)]) hx hb dX7_retell_23 rfl hl (by decide) rfl (fun ls hl => ?_)
  refine lv_iconst (v := 0) hx hb dX7_retell_24 (by decide) ?_
  refine lv_istore (lv' := [(4, .int 0), (3, .int 0), (2, .int 0), (0, .ref (ad 47)), (1, .int x1)]) hx hb dX7_retell_25 hl (by decide) rfl (fun ls hl => ?_)
  exact wX7_retell_b27 C  _ _ _ _ _ _ _ _ _ hw (lv_sub hl [3, 4, 2, 1, 0] rfl) h
set_option maxRecDepth 100000 in
set_option maxHeartbeats 4000000 in
theorem kX10_knows (l : Launch) (D : va_G) (cI cZ : ClassId) (ad : Nat → Nat) (x1 : Int32) (σ : St) (z : Int32 × St) (h : fX10_knows x1 σ = some z) : pw_MI l D shC cI cZ ad yX10_knows cX10_knows 2 (some .int) (pw_rm 3) [.ref (ad 0), .int x1] σ z.1 z.2 := by
  refine pw_ofI (by decide) (Nat.le_of_ble_eq_true rfl) ?_
  intro p e s m args below meth c A C hw ls hl
  obtain ⟨hx, hb, hr, hts, hown, hlk, hml, hK, hN⟩ := id C
  have hl : lv_has ls 2 [(0, .ref (ad 0)), (1, .int x1)] := hl
  unfold fX10_knows at h
  refine lv_iload_n hx hb dX10_knows_0 rfl (lv_at hl 1 rfl) ?_
  refine lv_bipush (v := 16) hx hb dX10_knows_1 (by decide) ?_
  obtain ⟨v3, σ2, e1, h⟩ := cal_some h
  refine r_cSI C hw (sh := shC) (ad := ad) (As := [.int x1, .int 16]) (rest := []) (kX10_within l D cI cZ ad _ _ _ _ e1) YX10_within ml_X10_87 (pw_rmOK (by omega) (by decide)) rfl hl.1 rfl (Nat.le_of_ble_eq_true rfl) dX10_knows_3 ⟨Nat.zero_le _, Nat.zero_le _⟩ (fun H locs hw => ?_)
  refine lv_if_ne (tgt := 15) hx hb dX10_knows_6 (by decide) (fun hc => ?_) (fun hc => ?_)
  · replace h := pw_f hc h
    refine lv_aload_n hx hb dX10_knows_15 rfl (lv_at hl 0 rfl) ?_
    refine r_get C hw qC_0 clsX10 9 rfl (by decide) fl_X10_72 dX10_knows_16 (v := .ref (ad 47)) rfl ?_
    refine lv_bipush (v := (-9)) hx hb dX10_knows_19 (by decide) ?_
    obtain ⟨r6, σ5, e4, h⟩ := cal_some h
    refine r_cNV C hw (As := [.int (-9)]) (rest := []) (kX7_retell l D cI cZ ad _ _ _ e4) YX7_retell mn_X10_275 qC_47 clsX7 (pw_rmOK (by omega) (by decide)) rfl hl.1 rfl (Nat.le_of_ble_eq_true rfl) dX10_knows_21 ⟨Nat.zero_le _, Nat.zero_le _⟩ (fun H locs hw => ?_)
    refine lv_aload_n hx hb dX10_knows_24 rfl (lv_at hl 0 rfl) ?_
    refine r_get C hw qC_0 clsX10 9 rfl (by decide) fl_X10_72 dX10_knows_25 (v := .ref (ad 47)) rfl ?_
    refine lv_iload_n hx hb dX10_knows_28 rfl (lv_at hl 1 rfl) ?_
    obtain ⟨v9, σ8, e7, h⟩ := cal_some h
    refine r_cNI C hw (As := [.int x1]) (rest := []) (kX7_knownBy l D cI cZ ad _ _ _ e7) YX7_knownBy mn_X10_278 qC_47 clsX7 (pw_rmOK (by omega) (by decide)) rfl hl.1 rfl (Nat.le_of_ble_eq_true rfl) dX10_knows_29 ⟨Nat.zero_le _, Nat.zero_le _⟩ (fun H locs hw => ?_)
    exact r_iret C hw dX10_knows_32 h
  · replace h := pw_t hc h
    refine lv_aload_n hx hb dX10_knows_9 rfl (lv_at hl 0 rfl) ?_
    refine lv_iconst (v := (-1)) hx hb dX10_knows_10 (by decide) ?_
    obtain ⟨v12, σ11, e10, h⟩ := cal_some h
    refine r_cVI C hw (As := [.int (-1)]) (rest := []) (kX10_refuse l D cI cZ ad _ _ _ e10) YX10_refuse ml_X10_91 qC_0 clsX10 (pw_rmOK (by omega) (by decide)) rfl hl.1 rfl (Nat.le_of_ble_eq_true rfl) dX10_knows_11 ⟨Nat.zero_le _, Nat.zero_le _⟩ (fun H locs hw => ?_)
    exact r_iret C hw dX10_knows_14 h
set_option maxRecDepth 100000 in
set_option maxHeartbeats 4000000 in
theorem kX10_joined (l : Launch) (D : va_G) (cI cZ : ClassId) (ad : Nat → Nat)  (σ : St) (z : Int32 × St) (h : fX10_joined  σ = some z) : pw_MI l D shC cI cZ ad yX10_joined cX10_joined 1 (some .int) (pw_rm 3) [.ref (ad 0)] σ z.1 z.2 := by
  refine pw_ofI (by decide) (Nat.le_of_ble_eq_true rfl) ?_
  intro p e s m args below meth c A C hw ls hl
  obtain ⟨hx, hb, hr, hts, hown, hlk, hml, hK, hN⟩ := id C
  have hl : lv_has ls 1 [(0, .ref (ad 0))] := hl
  unfold fX10_joined at h
  refine lv_aload_n hx hb dX10_joined_0 rfl (lv_at hl 0 rfl) ?_
  refine r_get C hw qC_0 clsX10 9 rfl (by decide) fl_X10_72 dX10_joined_1 (v := .ref (ad 47)) rfl ?_
  refine lv_bipush (v := (-9)) hx hb dX10_joined_4 (by decide) ?_
  obtain ⟨r3, σ2, e1, h⟩ := cal_some h
  refine r_cNV C hw (As := [.int (-9)]) (rest := []) (kX7_retell l D cI cZ ad _ _ _ e1) YX7_retell mn_X10_275 qC_47 clsX7 (pw_rmOK (by omega) (by decide)) rfl hl.1 rfl (Nat.le_of_ble_eq_true rfl) dX10_joined_6 ⟨Nat.zero_le _, Nat.zero_le _⟩ (fun H locs hw => ?_)
  refine lv_aload_n hx hb dX10_joined_9 rfl (lv_at hl 0 rfl) ?_
  refine r_get C hw qC_0 clsX10 9 rfl (by decide) fl_X10_72 dX10_joined_10 (v := .ref (ad 47)) rfl ?_
  refine r_getN C hw qC_47 clsX7 10 rfl (by decide) fn_X10_281 dX10_joined_13 (v := .int (σ2 47 10)) rfl ?_
  exact r_iret C hw dX10_joined_16 h
set_option maxRecDepth 100000 in
set_option maxHeartbeats 4000000 in
theorem wX7_firstLeak_b20 {p : Program} {l : Launch} {e : Env} {s : State} {m : MethodId} {args : Array Value} {below : List Frame} {meth : Method} {c : Code} {D : va_G} {cI cZ : ClassId} {ad : Nat → Nat} {A : Nat → Prop} {z : Int32 × St}  (C : pw_C p s m args meth c yX7_firstLeak.cls cX7_firstLeak 2 (some .int) D cI cZ) : ∀ (n : Nat) (x1 : Int32) (σ : St) (H : Heap) (locs : List Loc) (ls : Array Slot), pw_H D (pw_w shC cI cZ ad σ) A s.heap H locs → lv_has ls 2 [(0, .ref (ad 47)), (1, .int x1)] → fX7_firstLeak_b20  n x1 σ = some z → W p l e (pw_rm 3) s m args below meth c H locs 0 0 (pw_QI below args s D (pw_w shC cI cZ ad) A z) (F0 m 20 ls []) := by
  obtain ⟨hx, hb, hr, hts, hown, hlk, hml, hK, hN⟩ := id C
  intro n
  induction n with
  | zero =>
    intro x1 σ H locs ls hw hl h
    exact absurd h (by simp [fX7_firstLeak_b20])
  | succ n ih =>
    intro x1 σ H locs ls hw hl h
    rw [fX7_firstLeak_b20] at h
    refine lv_iload_n hx hb dX7_firstLeak_20 rfl (lv_at hl 1 rfl) ?_
    refine lv_aload_n hx hb dX7_firstLeak_21 rfl (lv_at hl 0 rfl) ?_
    refine r_get C hw qC_47 clsX7 9 rfl (by decide) fl_X7_40 dX7_firstLeak_22 (v := .int (σ 47 9)) rfl ?_
    refine lv_icmp_ge (tgt := 50) hx hb dX7_firstLeak_25 (by decide) (fun hc => ?_) (fun hc => ?_)
    · replace h := pw_t hc h
      refine lv_bipush (v := (-9)) hx hb dX7_firstLeak_50 (by decide) ?_
      exact r_iret C hw dX7_firstLeak_52 h
    · replace h := pw_f hc h
      refine lv_aload_n hx hb dX7_firstLeak_28 rfl (lv_at hl 0 rfl) ?_
      refine lv_iload_n hx hb dX7_firstLeak_29 rfl (lv_at hl 1 rfl) ?_
      obtain ⟨r3, σ2, e1, h⟩ := cal_some h
      refine r_cVV C hw (As := [.int x1]) (rest := []) (kX7_retell l D cI cZ ad _ _ _ e1) YX7_retell ml_X7_61 qC_47 clsX7 (pw_rmOK (by omega) (by decide)) rfl hl.1 rfl (Nat.le_of_ble_eq_true rfl) dX7_firstLeak_30 ⟨Nat.zero_le _, Nat.zero_le _⟩ (fun H locs hw => ?_)
      refine lv_aload_n hx hb dX7_firstLeak_33 rfl (lv_at hl 0 rfl) ?_
      refine r_get C hw qC_47 clsX7 10 rfl (by decide) fl_X7_43 dX7_firstLeak_34 (v := .int (σ2 47 10)) rfl ?_
      refine lv_bipush (v := (-9)) hx hb dX7_firstLeak_37 (by decide) ?_
      refine lv_icmp_ne (tgt := 44) hx hb dX7_firstLeak_39 (by decide) (fun hc => ?_) (fun hc => ?_)
      · replace h := pw_f hc h
        refine lv_iinc (v := (x1 + 1)) (lv' := [(1, .int (x1 + 1)), (0, .ref (ad 47))]) hx hb dX7_firstLeak_44 hl (k := 1) rfl rfl (by decide) rfl (fun ls hl => ?_)
        refine lv_goto (tgt := 20) hx hb dX7_firstLeak_47 (by decide) ?_
        exact ih _ _ _ _ _ hw (lv_sub hl [1, 0] rfl) h
      · replace h := pw_t hc h
        refine lv_iload_n hx hb dX7_firstLeak_42 rfl (lv_at hl 1 rfl) ?_
        exact r_iret C hw dX7_firstLeak_43 h
set_option maxRecDepth 100000 in
set_option maxHeartbeats 4000000 in
theorem kX7_firstLeak (l : Launch) (D : va_G) (cI cZ : ClassId) (ad : Nat → Nat)  (σ : St) (z : Int32 × St) (h : fX7_firstLeak  σ = some z) : pw_MI l D shC cI cZ ad yX7_firstLeak cX7_firstLeak 2 (some .int) (pw_rm 3) [.ref (ad 47)] σ z.1 z.2 := by
  refine pw_ofI (by decide) (Nat.le_of_ble_eq_true rfl) ?_
  intro p e s m args below meth c A C hw ls hl
  obtain ⟨hx, hb, hr, hts, hown, hlk, hml, hK, hN⟩ := id C
  have hl : lv_has ls 2 [(0, .ref (ad 47))] := hl
  unfold fX7_firstLeak at h
  refine lv_aload_n hx hb dX7_firstLeak_0 rfl (lv_at hl 0 rfl) ?_
  refine lv_bipush (v := (-9)) hx hb dX7_firstLeak_1 (by decide) ?_
  obtain ⟨r6, σ5, e4, h⟩ := cal_some h
  refine r_cVV C hw (As := [.int (-9)]) (rest := []) (kX7_retell l D cI cZ ad _ _ _ e4) YX7_retell ml_X7_61 qC_47 clsX7 (pw_rmOK (by omega) (by decide)) rfl hl.1 rfl (Nat.le_of_ble_eq_true rfl) dX7_firstLeak_3 ⟨Nat.zero_le _, Nat.zero_le _⟩ (fun H locs hw => ?_)
  refine lv_aload_n hx hb dX7_firstLeak_6 rfl (lv_at hl 0 rfl) ?_
  refine r_get C hw qC_47 clsX7 10 rfl (by decide) fl_X7_43 dX7_firstLeak_7 (v := .int (σ5 47 10)) rfl ?_
  refine lv_bipush (v := (-9)) hx hb dX7_firstLeak_10 (by decide) ?_
  refine lv_icmp_ne (tgt := 18) hx hb dX7_firstLeak_12 (by decide) (fun hc => ?_) (fun hc => ?_)
  · replace h := pw_f hc h
    refine lv_iconst (v := 0) hx hb dX7_firstLeak_18 (by decide) ?_
    refine lv_istore_n (lv' := [(1, .int 0), (0, .ref (ad 47))]) hx hb dX7_firstLeak_19 rfl hl (by decide) rfl (fun ls hl => ?_)
    exact wX7_firstLeak_b20 C  _ _ _ _ _ _ hw (lv_sub hl [1, 0] rfl) h
  · replace h := pw_t hc h
    refine lv_bipush (v := (-9)) hx hb dX7_firstLeak_15 (by decide) ?_
    exact r_iret C hw dX7_firstLeak_17 h
set_option maxRecDepth 100000 in
set_option maxHeartbeats 4000000 in
theorem kX10_leak (l : Launch) (D : va_G) (cI cZ : ClassId) (ad : Nat → Nat)  (σ : St) (z : Int32 × St) (h : fX10_leak  σ = some z) : pw_MI l D shC cI cZ ad yX10_leak cX10_leak 1 (some .int) (pw_rm 4) [.ref (ad 0)] σ z.1 z.2 := by
  refine pw_ofI (by decide) (Nat.le_of_ble_eq_true rfl) ?_
  intro p e s m args below meth c A C hw ls hl
  obtain ⟨hx, hb, hr, hts, hown, hlk, hml, hK, hN⟩ := id C
  have hl : lv_has ls 1 [(0, .ref (ad 0))] := hl
  unfold fX10_leak at h
  refine lv_aload_n hx hb dX10_leak_0 rfl (lv_at hl 0 rfl) ?_
  refine r_get C hw qC_0 clsX10 9 rfl (by decide) fl_X10_72 dX10_leak_1 (v := .ref (ad 47)) rfl ?_
  obtain ⟨v3, σ2, e1, h⟩ := cal_some h
  refine r_cNI C hw (As := []) (rest := []) (kX7_firstLeak l D cI cZ ad _ _ e1) YX7_firstLeak mn_X10_284 qC_47 clsX7 (pw_rmOK (by omega) (by decide)) rfl hl.1 rfl (Nat.le_of_ble_eq_true rfl) dX10_leak_4 ⟨Nat.zero_le _, Nat.zero_le _⟩ (fun H locs hw => ?_)
  exact r_iret C hw dX10_leak_7 h
set_option maxRecDepth 100000 in
set_option maxHeartbeats 4000000 in
theorem kX2_lend (l : Launch) (D : va_G) (cI cZ : ClassId) (ad : Nat → Nat) (x1 : Int32) (x2 : Int32) (x3 : Int32) (σ : St) (z : Int32 × St) (h : fX2_lend x1 x2 x3 σ = some z) : pw_MI l D shC cI cZ ad yX2_lend cX2_lend 4 (some .int) (pw_rm 0) [.ref (ad 56), .int x1, .int x2, .int x3] σ z.1 z.2 := by
  refine pw_ofI (by decide) (Nat.le_of_ble_eq_true rfl) ?_
  intro p e s m args below meth c A C hw ls hl
  obtain ⟨hx, hb, hr, hts, hown, hlk, hml, hK, hN⟩ := id C
  have hl : lv_has ls 4 [(0, .ref (ad 56)), (1, .int x1), (2, .int x2), (3, .int x3)] := hl
  unfold fX2_lend at h
  refine lv_aload_n hx hb dX2_lend_0 rfl (lv_at hl 0 rfl) ?_
  refine r_get C hw qC_56 clsX2 0 rfl (by decide) fl_X2_9 dX2_lend_1 (v := .ref (ad 57)) rfl ?_
  refine lv_aload_n hx hb dX2_lend_4 rfl (lv_at hl 0 rfl) ?_
  refine r_get C hw qC_56 clsX2 3 rfl (by decide) fl_X2_21 dX2_lend_5 (v := .int (σ 56 3)) rfl ?_
  refine lv_iload_n hx hb dX2_lend_8 rfl (lv_at hl 1 rfl) ?_
  refine r_iast C hw qC_57 dX2_lend_9 h (fun σ1 H locs hw h => ?_)
  refine lv_aload_n hx hb dX2_lend_10 rfl (lv_at hl 0 rfl) ?_
  refine r_get C hw qC_56 clsX2 1 rfl (by decide) fl_X2_15 dX2_lend_11 (v := .ref (ad 58)) rfl ?_
  refine lv_aload_n hx hb dX2_lend_14 rfl (lv_at hl 0 rfl) ?_
  refine r_get C hw qC_56 clsX2 3 rfl (by decide) fl_X2_21 dX2_lend_15 (v := .int (σ1 56 3)) rfl ?_
  refine lv_iload_n hx hb dX2_lend_18 rfl (lv_at hl 2 rfl) ?_
  refine r_iast C hw qC_58 dX2_lend_19 h (fun σ2 H locs hw h => ?_)
  refine lv_aload_n hx hb dX2_lend_20 rfl (lv_at hl 0 rfl) ?_
  refine r_get C hw qC_56 clsX2 2 rfl (by decide) fl_X2_18 dX2_lend_21 (v := .ref (ad 59)) rfl ?_
  refine lv_aload_n hx hb dX2_lend_24 rfl (lv_at hl 0 rfl) ?_
  refine r_get C hw qC_56 clsX2 3 rfl (by decide) fl_X2_21 dX2_lend_25 (v := .int (σ2 56 3)) rfl ?_
  refine lv_iload_n hx hb dX2_lend_28 rfl (lv_at hl 3 rfl) ?_
  refine r_iast C hw qC_59 dX2_lend_29 h (fun σ3 H locs hw h => ?_)
  refine lv_aload_n hx hb dX2_lend_30 rfl (lv_at hl 0 rfl) ?_
  refine lv_dup hx hb dX2_lend_31 rfl ?_
  refine r_get C hw qC_56 clsX2 3 rfl (by decide) fl_X2_21 dX2_lend_32 (v := .int (σ3 56 3)) rfl ?_
  refine lv_iconst (v := 1) hx hb dX2_lend_35 (by decide) ?_
  refine lv_iadd hx hb dX2_lend_36 ?_
  refine r_put C hw qC_56 clsX2 3 rfl (by decide) fl_X2_21 dX2_lend_37 rfl rfl rfl h (fun σ4 H locs hw h => ?_)
  refine lv_aload_n hx hb dX2_lend_40 rfl (lv_at hl 0 rfl) ?_
  refine r_get C hw qC_56 clsX2 3 rfl (by decide) fl_X2_21 dX2_lend_41 (v := .int (σ4 56 3)) rfl ?_
  refine lv_iconst (v := 1) hx hb dX2_lend_44 (by decide) ?_
  refine lv_isub hx hb dX2_lend_45 ?_
  exact r_iret C hw dX2_lend_46 h
set_option maxRecDepth 100000 in
set_option maxHeartbeats 4000000 in
theorem wX10_debt_b41 {p : Program} {l : Launch} {e : Env} {s : State} {m : MethodId} {args : Array Value} {below : List Frame} {meth : Method} {c : Code} {D : va_G} {cI cZ : ClassId} {ad : Nat → Nat} {A : Nat → Prop} {z : Int32 × St}  (C : pw_C p s m args meth c yX10_debt.cls cX10_debt 3 (some .int) D cI cZ) : ∀  (σ : St) (H : Heap) (locs : List Loc) (ls : Array Slot), pw_H D (pw_w shC cI cZ ad σ) A s.heap H locs → lv_has ls 3 [(0, .ref (ad 0))] → fX10_debt_b41   σ = some z → W p l e (pw_rm 2) s m args below meth c H locs 0 0 (pw_QI below args s D (pw_w shC cI cZ ad) A z) (F0 m 41 ls []) := by
  obtain ⟨hx, hb, hr, hts, hown, hlk, hml, hK, hN⟩ := id C
  intro σ H locs ls hw hl h
  unfold fX10_debt_b41 at h
  refine lv_aload_n hx hb dX10_debt_41 rfl (lv_at hl 0 rfl) ?_
  refine lv_bipush (v := (-6)) hx hb dX10_debt_42 (by decide) ?_
  obtain ⟨v3, σ2, e1, h⟩ := cal_some h
  refine r_cVI C hw (As := [.int (-6)]) (rest := []) (kX10_refuse l D cI cZ ad _ _ _ e1) YX10_refuse ml_X10_91 qC_0 clsX10 (pw_rmOK (by omega) (by decide)) rfl hl.1 rfl (Nat.le_of_ble_eq_true rfl) dX10_debt_44 ⟨Nat.zero_le _, Nat.zero_le _⟩ (fun H locs hw => ?_)
  exact r_iret C hw dX10_debt_47 h
set_option maxRecDepth 100000 in
set_option maxHeartbeats 4000000 in
theorem kX10_debt (l : Launch) (D : va_G) (cI cZ : ClassId) (ad : Nat → Nat) (x1 : Int32) (x2 : Int32) (σ : St) (z : Int32 × St) (h : fX10_debt x1 x2 σ = some z) : pw_MI l D shC cI cZ ad yX10_debt cX10_debt 3 (some .int) (pw_rm 2) [.ref (ad 0), .int x1, .int x2] σ z.1 z.2 := by
  refine pw_ofI (by decide) (Nat.le_of_ble_eq_true rfl) ?_
  intro p e s m args below meth c A C hw ls hl
  obtain ⟨hx, hb, hr, hts, hown, hlk, hml, hK, hN⟩ := id C
  have hl : lv_has ls 3 [(0, .ref (ad 0)), (1, .int x1), (2, .int x2)] := hl
  unfold fX10_debt at h
  refine lv_iload_n hx hb dX10_debt_0 rfl (lv_at hl 1 rfl) ?_
  refine lv_if_lt (tgt := 8) hx hb dX10_debt_1 (by decide) (fun hc => ?_) (fun hc => ?_)
  · replace h := pw_t hc h
    refine lv_aload_n hx hb dX10_debt_8 rfl (lv_at hl 0 rfl) ?_
    refine lv_bipush (v := (-4)) hx hb dX10_debt_9 (by decide) ?_
    obtain ⟨v6, σ5, e4, h⟩ := cal_some h
    refine r_cVI C hw (As := [.int (-4)]) (rest := []) (kX10_refuse l D cI cZ ad _ _ _ e4) YX10_refuse ml_X10_91 qC_0 clsX10 (pw_rmOK (by omega) (by decide)) rfl hl.1 rfl (Nat.le_of_ble_eq_true rfl) dX10_debt_11 ⟨Nat.zero_le _, Nat.zero_le _⟩ (fun H locs hw => ?_)
    exact r_iret C hw dX10_debt_14 h
  · replace h := pw_f hc h
    refine lv_iload_n hx hb dX10_debt_4 rfl (lv_at hl 2 rfl) ?_
    refine lv_if_ge (tgt := 15) hx hb dX10_debt_5 (by decide) (fun hc => ?_) (fun hc => ?_)
    · replace h := pw_t hc h
      refine lv_iload_n hx hb dX10_debt_15 rfl (lv_at hl 1 rfl) ?_
      refine lv_ldcw (v := 1000000) hx hb hown (hts _ ct_X10_287) dX10_debt_16 ?_
      refine lv_icmp_gt (tgt := 41) hx hb dX10_debt_19 (by decide) (fun hc => ?_) (fun hc => ?_)
      · replace h := pw_t hc h
        exact wX10_debt_b41 C  _ _ _ _ hw (lv_sub hl [0] rfl) h
      · replace h := pw_f hc h
        refine lv_iload_n hx hb dX10_debt_22 rfl (lv_at hl 2 rfl) ?_
        refine lv_sipush (v := 500) hx hb dX10_debt_23 (by decide) ?_
        refine lv_icmp_gt (tgt := 41) hx hb dX10_debt_26 (by decide) (fun hc => ?_) (fun hc => ?_)
        · replace h := pw_t hc h
          exact wX10_debt_b41 C  _ _ _ _ hw (lv_sub hl [0] rfl) h
        · replace h := pw_f hc h
          refine lv_aload_n hx hb dX10_debt_29 rfl (lv_at hl 0 rfl) ?_
          refine r_get C hw qC_0 clsX10 10 rfl (by decide) fl_X10_79 dX10_debt_30 (v := .ref (ad 56)) rfl ?_
          refine r_getN C hw qC_56 clsX2 3 rfl (by decide) fn_X10_288 dX10_debt_33 (v := .int (σ 56 3)) rfl ?_
          refine lv_bipush (v := 6) hx hb dX10_debt_36 (by decide) ?_
          refine lv_icmp_lt (tgt := 48) hx hb dX10_debt_38 (by decide) (fun hc => ?_) (fun hc => ?_)
          · replace h := pw_t hc h
            refine lv_aload_n hx hb dX10_debt_48 rfl (lv_at hl 0 rfl) ?_
            refine r_get C hw qC_0 clsX10 10 rfl (by decide) fl_X10_79 dX10_debt_49 (v := .ref (ad 56)) rfl ?_
            refine lv_iload_n hx hb dX10_debt_52 rfl (lv_at hl 1 rfl) ?_
            refine lv_iload_n hx hb dX10_debt_53 rfl (lv_at hl 2 rfl) ?_
            refine lv_aload_n hx hb dX10_debt_54 rfl (lv_at hl 0 rfl) ?_
            refine r_get C hw qC_0 clsX10 11 rfl (by decide) fl_X10_83 dX10_debt_55 (v := .int (σ 0 11)) rfl ?_
            obtain ⟨v9, σ8, e7, h⟩ := cal_some h
            refine r_cNI C hw (As := [.int x1, .int x2, .int (σ 0 11)]) (rest := []) (kX2_lend l D cI cZ ad _ _ _ _ _ e7) YX2_lend mn_X10_291 qC_56 clsX2 (pw_rmOK (by omega) (by decide)) rfl hl.1 rfl (Nat.le_of_ble_eq_true rfl) dX10_debt_58 ⟨Nat.zero_le _, Nat.zero_le _⟩ (fun H locs hw => ?_)
            exact r_iret C hw dX10_debt_61 h
          · replace h := pw_f hc h
            exact wX10_debt_b41 C  _ _ _ _ hw (lv_sub hl [0] rfl) h
    · replace h := pw_f hc h
      refine lv_aload_n hx hb dX10_debt_8 rfl (lv_at hl 0 rfl) ?_
      refine lv_bipush (v := (-4)) hx hb dX10_debt_9 (by decide) ?_
      obtain ⟨v12, σ11, e10, h⟩ := cal_some h
      refine r_cVI C hw (As := [.int (-4)]) (rest := []) (kX10_refuse l D cI cZ ad _ _ _ e10) YX10_refuse ml_X10_91 qC_0 clsX10 (pw_rmOK (by omega) (by decide)) rfl hl.1 rfl (Nat.le_of_ble_eq_true rfl) dX10_debt_11 ⟨Nat.zero_le _, Nat.zero_le _⟩ (fun H locs hw => ?_)
      exact r_iret C hw dX10_debt_14 h
set_option maxRecDepth 100000 in
set_option maxHeartbeats 4000000 in
theorem kX10_pay (l : Launch) (D : va_G) (cI cZ : ClassId) (ad : Nat → Nat) (x1 : Int32) (x2 : Int32) (σ : St) (z : Int32 × St) (h : fX10_pay x1 x2 σ = some z) : pw_MI l D shC cI cZ ad yX10_pay cX10_pay 3 (some .int) (pw_rm 2) [.ref (ad 0), .int x1, .int x2] σ z.1 z.2 := by
  refine pw_ofI (by decide) (Nat.le_of_ble_eq_true rfl) ?_
  intro p e s m args below meth c A C hw ls hl
  obtain ⟨hx, hb, hr, hts, hown, hlk, hml, hK, hN⟩ := id C
  have hl : lv_has ls 3 [(0, .ref (ad 0)), (1, .int x1), (2, .int x2)] := hl
  unfold fX10_pay at h
  refine lv_iload_n hx hb dX10_pay_0 rfl (lv_at hl 1 rfl) ?_
  refine lv_aload_n hx hb dX10_pay_1 rfl (lv_at hl 0 rfl) ?_
  refine r_get C hw qC_0 clsX10 10 rfl (by decide) fl_X10_79 dX10_pay_2 (v := .ref (ad 56)) rfl ?_
  refine r_getN C hw qC_56 clsX2 3 rfl (by decide) fn_X10_288 dX10_pay_5 (v := .int (σ 56 3)) rfl ?_
  obtain ⟨v3, σ2, e1, h⟩ := cal_some h
  refine r_cSI C hw (sh := shC) (ad := ad) (As := [.int x1, .int (σ 56 3)]) (rest := []) (kX10_within l D cI cZ ad _ _ _ _ e1) YX10_within ml_X10_87 (pw_rmOK (by omega) (by decide)) rfl hl.1 rfl (Nat.le_of_ble_eq_true rfl) dX10_pay_8 ⟨Nat.zero_le _, Nat.zero_le _⟩ (fun H locs hw => ?_)
  refine lv_if_ne (tgt := 20) hx hb dX10_pay_11 (by decide) (fun hc => ?_) (fun hc => ?_)
  · replace h := pw_f hc h
    refine lv_iload_n hx hb dX10_pay_20 rfl (lv_at hl 2 rfl) ?_
    refine lv_iconst (v := 1) hx hb dX10_pay_21 (by decide) ?_
    refine lv_icmp_ge (tgt := 32) hx hb dX10_pay_22 (by decide) (fun hc => ?_) (fun hc => ?_)
    · replace h := pw_t hc h
      refine lv_iload_n hx hb dX10_pay_32 rfl (lv_at hl 2 rfl) ?_
      refine lv_ldcw (v := 1000000) hx hb hown (hts _ ct_X10_287) dX10_pay_33 ?_
      refine lv_icmp_gt (tgt := 52) hx hb dX10_pay_36 (by decide) (fun hc => ?_) (fun hc => ?_)
      · replace h := pw_t hc h
        refine lv_aload_n hx hb dX10_pay_52 rfl (lv_at hl 0 rfl) ?_
        refine lv_bipush (v := (-6)) hx hb dX10_pay_53 (by decide) ?_
        obtain ⟨v6, σ5, e4, h⟩ := cal_some h
        refine r_cVI C hw (As := [.int (-6)]) (rest := []) (kX10_refuse l D cI cZ ad _ _ _ e4) YX10_refuse ml_X10_91 qC_0 clsX10 (pw_rmOK (by omega) (by decide)) rfl hl.1 rfl (Nat.le_of_ble_eq_true rfl) dX10_pay_55 ⟨Nat.zero_le _, Nat.zero_le _⟩ (fun H locs hw => ?_)
        exact r_iret C hw dX10_pay_58 h
      · replace h := pw_f hc h
        refine lv_iload_n hx hb dX10_pay_39 rfl (lv_at hl 2 rfl) ?_
        refine lv_aload_n hx hb dX10_pay_40 rfl (lv_at hl 0 rfl) ?_
        refine r_get C hw qC_0 clsX10 10 rfl (by decide) fl_X10_79 dX10_pay_41 (v := .ref (ad 56)) rfl ?_
        refine r_getN C hw qC_56 clsX2 0 rfl (by decide) fn_X10_294 dX10_pay_44 (v := .ref (ad 57)) rfl ?_
        refine lv_iload_n hx hb dX10_pay_47 rfl (lv_at hl 1 rfl) ?_
        refine r_iald C hw qC_57 dX10_pay_48 h (fun v7 h => ?_)
        refine lv_icmp_le (tgt := 59) hx hb dX10_pay_49 (by decide) (fun hc => ?_) (fun hc => ?_)
        · replace h := pw_t hc h
          refine lv_aload_n hx hb dX10_pay_59 rfl (lv_at hl 0 rfl) ?_
          refine r_get C hw qC_0 clsX10 10 rfl (by decide) fl_X10_79 dX10_pay_60 (v := .ref (ad 56)) rfl ?_
          refine r_getN C hw qC_56 clsX2 0 rfl (by decide) fn_X10_294 dX10_pay_63 (v := .ref (ad 57)) rfl ?_
          refine lv_iload_n hx hb dX10_pay_66 rfl (lv_at hl 1 rfl) ?_
          refine lv_dup2_11 hx hb dX10_pay_67 rfl rfl ?_
          refine r_iald C hw qC_57 dX10_pay_68 h (fun v8 h => ?_)
          refine lv_iload_n hx hb dX10_pay_69 rfl (lv_at hl 2 rfl) ?_
          refine lv_isub hx hb dX10_pay_70 ?_
          refine r_iast C hw qC_57 dX10_pay_71 h (fun σ9 H locs hw h => ?_)
          refine lv_aload_n hx hb dX10_pay_72 rfl (lv_at hl 0 rfl) ?_
          refine r_get C hw qC_0 clsX10 10 rfl (by decide) fl_X10_79 dX10_pay_73 (v := .ref (ad 56)) rfl ?_
          refine r_getN C hw qC_56 clsX2 0 rfl (by decide) fn_X10_294 dX10_pay_76 (v := .ref (ad 57)) rfl ?_
          refine lv_iload_n hx hb dX10_pay_79 rfl (lv_at hl 1 rfl) ?_
          refine r_iald C hw qC_57 dX10_pay_80 h (fun v10 h => ?_)
          exact r_iret C hw dX10_pay_81 h
        · replace h := pw_f hc h
          refine lv_aload_n hx hb dX10_pay_52 rfl (lv_at hl 0 rfl) ?_
          refine lv_bipush (v := (-6)) hx hb dX10_pay_53 (by decide) ?_
          obtain ⟨v13, σ12, e11, h⟩ := cal_some h
          refine r_cVI C hw (As := [.int (-6)]) (rest := []) (kX10_refuse l D cI cZ ad _ _ _ e11) YX10_refuse ml_X10_91 qC_0 clsX10 (pw_rmOK (by omega) (by decide)) rfl hl.1 rfl (Nat.le_of_ble_eq_true rfl) dX10_pay_55 ⟨Nat.zero_le _, Nat.zero_le _⟩ (fun H locs hw => ?_)
          exact r_iret C hw dX10_pay_58 h
    · replace h := pw_f hc h
      refine lv_aload_n hx hb dX10_pay_25 rfl (lv_at hl 0 rfl) ?_
      refine lv_bipush (v := (-4)) hx hb dX10_pay_26 (by decide) ?_
      obtain ⟨v16, σ15, e14, h⟩ := cal_some h
      refine r_cVI C hw (As := [.int (-4)]) (rest := []) (kX10_refuse l D cI cZ ad _ _ _ e14) YX10_refuse ml_X10_91 qC_0 clsX10 (pw_rmOK (by omega) (by decide)) rfl hl.1 rfl (Nat.le_of_ble_eq_true rfl) dX10_pay_28 ⟨Nat.zero_le _, Nat.zero_le _⟩ (fun H locs hw => ?_)
      exact r_iret C hw dX10_pay_31 h
  · replace h := pw_t hc h
    refine lv_aload_n hx hb dX10_pay_14 rfl (lv_at hl 0 rfl) ?_
    refine lv_iconst (v := (-1)) hx hb dX10_pay_15 (by decide) ?_
    obtain ⟨v19, σ18, e17, h⟩ := cal_some h
    refine r_cVI C hw (As := [.int (-1)]) (rest := []) (kX10_refuse l D cI cZ ad _ _ _ e17) YX10_refuse ml_X10_91 qC_0 clsX10 (pw_rmOK (by omega) (by decide)) rfl hl.1 rfl (Nat.le_of_ble_eq_true rfl) dX10_pay_16 ⟨Nat.zero_le _, Nat.zero_le _⟩ (fun H locs hw => ?_)
    exact r_iret C hw dX10_pay_19 h
set_option maxRecDepth 100000 in
set_option maxHeartbeats 4000000 in
theorem kX10_owed (l : Launch) (D : va_G) (cI cZ : ClassId) (ad : Nat → Nat) (x1 : Int32) (x2 : Int32) (σ : St) (z : Int32 × St) (h : fX10_owed x1 x2 σ = some z) : pw_MI l D shC cI cZ ad yX10_owed cX10_owed 3 (some .int) (pw_rm 2) [.ref (ad 0), .int x1, .int x2] σ z.1 z.2 := by
  refine pw_ofI (by decide) (Nat.le_of_ble_eq_true rfl) ?_
  intro p e s m args below meth c A C hw ls hl
  obtain ⟨hx, hb, hr, hts, hown, hlk, hml, hK, hN⟩ := id C
  have hl : lv_has ls 3 [(0, .ref (ad 0)), (1, .int x1), (2, .int x2)] := hl
  unfold fX10_owed at h
  refine lv_iload_n hx hb dX10_owed_0 rfl (lv_at hl 1 rfl) ?_
  refine lv_aload_n hx hb dX10_owed_1 rfl (lv_at hl 0 rfl) ?_
  refine r_get C hw qC_0 clsX10 10 rfl (by decide) fl_X10_79 dX10_owed_2 (v := .ref (ad 56)) rfl ?_
  refine r_getN C hw qC_56 clsX2 3 rfl (by decide) fn_X10_288 dX10_owed_5 (v := .int (σ 56 3)) rfl ?_
  obtain ⟨v3, σ2, e1, h⟩ := cal_some h
  refine r_cSI C hw (sh := shC) (ad := ad) (As := [.int x1, .int (σ 56 3)]) (rest := []) (kX10_within l D cI cZ ad _ _ _ _ e1) YX10_within ml_X10_87 (pw_rmOK (by omega) (by decide)) rfl hl.1 rfl (Nat.le_of_ble_eq_true rfl) dX10_owed_8 ⟨Nat.zero_le _, Nat.zero_le _⟩ (fun H locs hw => ?_)
  refine lv_if_ne (tgt := 20) hx hb dX10_owed_11 (by decide) (fun hc => ?_) (fun hc => ?_)
  · replace h := pw_f hc h
    refine lv_iload_n hx hb dX10_owed_20 rfl (lv_at hl 2 rfl) ?_
    refine lv_if_ge (tgt := 31) hx hb dX10_owed_21 (by decide) (fun hc => ?_) (fun hc => ?_)
    · replace h := pw_t hc h
      refine lv_iload_n hx hb dX10_owed_31 rfl (lv_at hl 2 rfl) ?_
      refine lv_sipush (v := 4000) hx hb dX10_owed_32 (by decide) ?_
      refine lv_icmp_le (tgt := 45) hx hb dX10_owed_35 (by decide) (fun hc => ?_) (fun hc => ?_)
      · replace h := pw_t hc h
        refine lv_aload_n hx hb dX10_owed_45 rfl (lv_at hl 0 rfl) ?_
        refine r_get C hw qC_0 clsX10 10 rfl (by decide) fl_X10_79 dX10_owed_46 (v := .ref (ad 56)) rfl ?_
        refine lv_iload_n hx hb dX10_owed_49 rfl (lv_at hl 1 rfl) ?_
        refine lv_aload_n hx hb dX10_owed_50 rfl (lv_at hl 0 rfl) ?_
        refine r_get C hw qC_0 clsX10 11 rfl (by decide) fl_X10_83 dX10_owed_51 (v := .int (σ2 0 11)) rfl ?_
        refine lv_iload_n hx hb dX10_owed_54 rfl (lv_at hl 2 rfl) ?_
        obtain ⟨v6, σ5, e4, h⟩ := cal_some h
        refine r_cNI C hw (As := [.int x1, .int (σ2 0 11), .int x2]) (rest := []) (kX2_sumAfter l D cI cZ ad _ _ _ _ _ e4) YX2_sumAfter mn_X10_297 qC_56 clsX2 (pw_rmOK (by omega) (by decide)) rfl hl.1 rfl (Nat.le_of_ble_eq_true rfl) dX10_owed_55 ⟨Nat.zero_le _, Nat.zero_le _⟩ (fun H locs hw => ?_)
        exact r_iret C hw dX10_owed_58 h
      · replace h := pw_f hc h
        refine lv_aload_n hx hb dX10_owed_38 rfl (lv_at hl 0 rfl) ?_
        refine lv_bipush (v := (-6)) hx hb dX10_owed_39 (by decide) ?_
        obtain ⟨v9, σ8, e7, h⟩ := cal_some h
        refine r_cVI C hw (As := [.int (-6)]) (rest := []) (kX10_refuse l D cI cZ ad _ _ _ e7) YX10_refuse ml_X10_91 qC_0 clsX10 (pw_rmOK (by omega) (by decide)) rfl hl.1 rfl (Nat.le_of_ble_eq_true rfl) dX10_owed_41 ⟨Nat.zero_le _, Nat.zero_le _⟩ (fun H locs hw => ?_)
        exact r_iret C hw dX10_owed_44 h
    · replace h := pw_f hc h
      refine lv_aload_n hx hb dX10_owed_24 rfl (lv_at hl 0 rfl) ?_
      refine lv_bipush (v := (-4)) hx hb dX10_owed_25 (by decide) ?_
      obtain ⟨v12, σ11, e10, h⟩ := cal_some h
      refine r_cVI C hw (As := [.int (-4)]) (rest := []) (kX10_refuse l D cI cZ ad _ _ _ e10) YX10_refuse ml_X10_91 qC_0 clsX10 (pw_rmOK (by omega) (by decide)) rfl hl.1 rfl (Nat.le_of_ble_eq_true rfl) dX10_owed_27 ⟨Nat.zero_le _, Nat.zero_le _⟩ (fun H locs hw => ?_)
      exact r_iret C hw dX10_owed_30 h
  · replace h := pw_t hc h
    refine lv_aload_n hx hb dX10_owed_14 rfl (lv_at hl 0 rfl) ?_
    refine lv_iconst (v := (-1)) hx hb dX10_owed_15 (by decide) ?_
    obtain ⟨v15, σ14, e13, h⟩ := cal_some h
    refine r_cVI C hw (As := [.int (-1)]) (rest := []) (kX10_refuse l D cI cZ ad _ _ _ e13) YX10_refuse ml_X10_91 qC_0 clsX10 (pw_rmOK (by omega) (by decide)) rfl hl.1 rfl (Nat.le_of_ble_eq_true rfl) dX10_owed_16 ⟨Nat.zero_le _, Nat.zero_le _⟩ (fun H locs hw => ?_)
    exact r_iret C hw dX10_owed_19 h
set_option maxRecDepth 100000 in
set_option maxHeartbeats 4000000 in
theorem kX10_pieceOf (l : Launch) (D : va_G) (cI cZ : ClassId) (ad : Nat → Nat) (x1 : Int32) (x2 : Int32) (σ : St) (z : Int32 × St) (h : fX10_pieceOf x1 x2 σ = some z) : pw_MI l D shC cI cZ ad yX10_pieceOf cX10_pieceOf 3 (some .int) (pw_rm 2) [.ref (ad 0), .int x1, .int x2] σ z.1 z.2 := by
  refine pw_ofI (by decide) (Nat.le_of_ble_eq_true rfl) ?_
  intro p e s m args below meth c A C hw ls hl
  obtain ⟨hx, hb, hr, hts, hown, hlk, hml, hK, hN⟩ := id C
  have hl : lv_has ls 3 [(0, .ref (ad 0)), (1, .int x1), (2, .int x2)] := hl
  unfold fX10_pieceOf at h
  refine lv_iload_n hx hb dX10_pieceOf_0 rfl (lv_at hl 1 rfl) ?_
  refine lv_aload_n hx hb dX10_pieceOf_1 rfl (lv_at hl 0 rfl) ?_
  refine r_get C hw qC_0 clsX10 2 rfl (by decide) fl_X10_23 dX10_pieceOf_2 (v := .ref (ad 7)) rfl ?_
  refine r_getN C hw qC_7 clsX6 7 rfl (by decide) fn_X10_118 dX10_pieceOf_5 (v := .int (σ 7 7)) rfl ?_
  obtain ⟨v3, σ2, e1, h⟩ := cal_some h
  refine r_cSI C hw (sh := shC) (ad := ad) (As := [.int x1, .int (σ 7 7)]) (rest := []) (kX10_within l D cI cZ ad _ _ _ _ e1) YX10_within ml_X10_87 (pw_rmOK (by omega) (by decide)) rfl hl.1 rfl (Nat.le_of_ble_eq_true rfl) dX10_pieceOf_8 ⟨Nat.zero_le _, Nat.zero_le _⟩ (fun H locs hw => ?_)
  refine lv_if_ne (tgt := 20) hx hb dX10_pieceOf_11 (by decide) (fun hc => ?_) (fun hc => ?_)
  · replace h := pw_f hc h
    refine lv_iload_n hx hb dX10_pieceOf_20 rfl (lv_at hl 2 rfl) ?_
    by_cases hc0 : x2 = 0
    · replace h := pw_t hc0 h
      refine lv_tableIn (off := 43) (tgt := 64) hx hb dX10_pieceOf_21 (by rw [hc0]; decide) (by rw [hc0]; decide) (by rw [hc0]; rfl) (by decide) ?_
      refine lv_aload_n hx hb dX10_pieceOf_64 rfl (lv_at hl 0 rfl) ?_
      refine r_get C hw qC_0 clsX10 2 rfl (by decide) fl_X10_23 dX10_pieceOf_65 (v := .ref (ad 7)) rfl ?_
      refine r_getN C hw qC_7 clsX6 3 rfl (by decide) fn_X10_232 dX10_pieceOf_68 (v := .ref (ad 11)) rfl ?_
      refine lv_iload_n hx hb dX10_pieceOf_71 rfl (lv_at hl 1 rfl) ?_
      refine r_iald C hw qC_11 dX10_pieceOf_72 h (fun v4 h => ?_)
      exact r_iret C hw dX10_pieceOf_73 h
    replace h := pw_f hc0 h
    by_cases hc1 : x2 = 1
    · replace h := pw_t hc1 h
      refine lv_tableIn (off := 53) (tgt := 74) hx hb dX10_pieceOf_21 (by rw [hc1]; decide) (by rw [hc1]; decide) (by rw [hc1]; rfl) (by decide) ?_
      refine lv_aload_n hx hb dX10_pieceOf_74 rfl (lv_at hl 0 rfl) ?_
      refine r_get C hw qC_0 clsX10 2 rfl (by decide) fl_X10_23 dX10_pieceOf_75 (v := .ref (ad 7)) rfl ?_
      refine r_getN C hw qC_7 clsX6 1 rfl (by decide) fn_X10_300 dX10_pieceOf_78 (v := .ref (ad 9)) rfl ?_
      refine lv_iload_n hx hb dX10_pieceOf_81 rfl (lv_at hl 1 rfl) ?_
      refine r_iald C hw qC_9 dX10_pieceOf_82 h (fun v5 h => ?_)
      exact r_iret C hw dX10_pieceOf_83 h
    replace h := pw_f hc1 h
    by_cases hc2 : x2 = 2
    · replace h := pw_t hc2 h
      refine lv_tableIn (off := 63) (tgt := 84) hx hb dX10_pieceOf_21 (by rw [hc2]; decide) (by rw [hc2]; decide) (by rw [hc2]; rfl) (by decide) ?_
      refine lv_aload_n hx hb dX10_pieceOf_84 rfl (lv_at hl 0 rfl) ?_
      refine r_get C hw qC_0 clsX10 2 rfl (by decide) fl_X10_23 dX10_pieceOf_85 (v := .ref (ad 7)) rfl ?_
      refine r_getN C hw qC_7 clsX6 2 rfl (by decide) fn_X10_303 dX10_pieceOf_88 (v := .ref (ad 10)) rfl ?_
      refine lv_iload_n hx hb dX10_pieceOf_91 rfl (lv_at hl 1 rfl) ?_
      refine r_iald C hw qC_10 dX10_pieceOf_92 h (fun v6 h => ?_)
      exact r_iret C hw dX10_pieceOf_93 h
    replace h := pw_f hc2 h
    by_cases hc3 : x2 = 3
    · replace h := pw_t hc3 h
      refine lv_tableIn (off := 73) (tgt := 94) hx hb dX10_pieceOf_21 (by rw [hc3]; decide) (by rw [hc3]; decide) (by rw [hc3]; rfl) (by decide) ?_
      refine lv_aload_n hx hb dX10_pieceOf_94 rfl (lv_at hl 0 rfl) ?_
      refine r_get C hw qC_0 clsX10 2 rfl (by decide) fl_X10_23 dX10_pieceOf_95 (v := .ref (ad 7)) rfl ?_
      refine r_getN C hw qC_7 clsX6 0 rfl (by decide) fn_X10_306 dX10_pieceOf_98 (v := .ref (ad 8)) rfl ?_
      refine lv_iload_n hx hb dX10_pieceOf_101 rfl (lv_at hl 1 rfl) ?_
      refine r_iald C hw qC_8 dX10_pieceOf_102 h (fun v7 h => ?_)
      exact r_iret C hw dX10_pieceOf_103 h
    replace h := pw_f hc3 h
    by_cases hc4 : x2 = 4
    · replace h := pw_t hc4 h
      refine lv_tableIn (off := 83) (tgt := 104) hx hb dX10_pieceOf_21 (by rw [hc4]; decide) (by rw [hc4]; decide) (by rw [hc4]; rfl) (by decide) ?_
      refine lv_aload_n hx hb dX10_pieceOf_104 rfl (lv_at hl 0 rfl) ?_
      refine r_get C hw qC_0 clsX10 2 rfl (by decide) fl_X10_23 dX10_pieceOf_105 (v := .ref (ad 7)) rfl ?_
      refine r_getN C hw qC_7 clsX6 4 rfl (by decide) fn_X10_309 dX10_pieceOf_108 (v := .ref (ad 12)) rfl ?_
      refine lv_iload_n hx hb dX10_pieceOf_111 rfl (lv_at hl 1 rfl) ?_
      refine r_iald C hw qC_12 dX10_pieceOf_112 h (fun v8 h => ?_)
      exact r_iret C hw dX10_pieceOf_113 h
    replace h := pw_f hc4 h
    by_cases hc5 : x2 = 5
    · replace h := pw_t hc5 h
      refine lv_tableIn (off := 93) (tgt := 114) hx hb dX10_pieceOf_21 (by rw [hc5]; decide) (by rw [hc5]; decide) (by rw [hc5]; rfl) (by decide) ?_
      refine lv_aload_n hx hb dX10_pieceOf_114 rfl (lv_at hl 0 rfl) ?_
      refine r_get C hw qC_0 clsX10 2 rfl (by decide) fl_X10_23 dX10_pieceOf_115 (v := .ref (ad 7)) rfl ?_
      refine r_getN C hw qC_7 clsX6 5 rfl (by decide) fn_X10_310 dX10_pieceOf_118 (v := .ref (ad 13)) rfl ?_
      refine lv_iload_n hx hb dX10_pieceOf_121 rfl (lv_at hl 1 rfl) ?_
      refine r_iald C hw qC_13 dX10_pieceOf_122 h (fun v9 h => ?_)
      exact r_iret C hw dX10_pieceOf_123 h
    replace h := pw_f hc5 h
    by_cases hc6 : x2 = 6
    · replace h := pw_t hc6 h
      refine lv_tableIn (off := 103) (tgt := 124) hx hb dX10_pieceOf_21 (by rw [hc6]; decide) (by rw [hc6]; decide) (by rw [hc6]; rfl) (by decide) ?_
      refine lv_aload_n hx hb dX10_pieceOf_124 rfl (lv_at hl 0 rfl) ?_
      refine r_get C hw qC_0 clsX10 2 rfl (by decide) fl_X10_23 dX10_pieceOf_125 (v := .ref (ad 7)) rfl ?_
      refine r_getN C hw qC_7 clsX6 6 rfl (by decide) fn_X10_311 dX10_pieceOf_128 (v := .ref (ad 14)) rfl ?_
      refine lv_iload_n hx hb dX10_pieceOf_131 rfl (lv_at hl 1 rfl) ?_
      refine r_iald C hw qC_14 dX10_pieceOf_132 h (fun v10 h => ?_)
      exact r_iret C hw dX10_pieceOf_133 h
    replace h := pw_f hc6 h
    refine lv_tableOut (tgt := 134) hx hb dX10_pieceOf_21 (pw_out6 hc0 hc1 hc2 hc3 hc4 hc5 hc6) (by decide) ?_
    refine lv_aload_n hx hb dX10_pieceOf_134 rfl (lv_at hl 0 rfl) ?_
    refine lv_bipush (v := (-2)) hx hb dX10_pieceOf_135 (by decide) ?_
    obtain ⟨v13, σ12, e11, h⟩ := cal_some h
    refine r_cVI C hw (As := [.int (-2)]) (rest := []) (kX10_refuse l D cI cZ ad _ _ _ e11) YX10_refuse ml_X10_91 qC_0 clsX10 (pw_rmOK (by omega) (by decide)) rfl hl.1 rfl (Nat.le_of_ble_eq_true rfl) dX10_pieceOf_137 ⟨Nat.zero_le _, Nat.zero_le _⟩ (fun H locs hw => ?_)
    exact r_iret C hw dX10_pieceOf_140 h
  · replace h := pw_t hc h
    refine lv_aload_n hx hb dX10_pieceOf_14 rfl (lv_at hl 0 rfl) ?_
    refine lv_iconst (v := (-1)) hx hb dX10_pieceOf_15 (by decide) ?_
    obtain ⟨v16, σ15, e14, h⟩ := cal_some h
    refine r_cVI C hw (As := [.int (-1)]) (rest := []) (kX10_refuse l D cI cZ ad _ _ _ e14) YX10_refuse ml_X10_91 qC_0 clsX10 (pw_rmOK (by omega) (by decide)) rfl hl.1 rfl (Nat.le_of_ble_eq_true rfl) dX10_pieceOf_16 ⟨Nat.zero_le _, Nat.zero_le _⟩ (fun H locs hw => ?_)
    exact r_iret C hw dX10_pieceOf_19 h
set_option maxRecDepth 100000 in
set_option maxHeartbeats 4000000 in
theorem wX6_inState_b4 {p : Program} {l : Launch} {e : Env} {s : State} {m : MethodId} {args : Array Value} {below : List Frame} {meth : Method} {c : Code} {D : va_G} {cI cZ : ClassId} {ad : Nat → Nat} {A : Nat → Prop} {z : Int32 × St}  (C : pw_C p s m args meth c yX6_inState.cls cX6_inState 4 (some .int) D cI cZ) : ∀ (n : Nat) (x1 : Int32) (x2 : Int32) (x3 : Int32) (σ : St) (H : Heap) (locs : List Loc) (ls : Array Slot), pw_H D (pw_w shC cI cZ ad σ) A s.heap H locs → lv_has ls 4 [(0, .ref (ad 7)), (1, .int x1), (2, .int x2), (3, .int x3)] → fX6_inState_b4  n x1 x2 x3 σ = some z → W p l e (pw_rm 0) s m args below meth c H locs 0 0 (pw_QI below args s D (pw_w shC cI cZ ad) A z) (F0 m 4 ls []) := by
  obtain ⟨hx, hb, hr, hts, hown, hlk, hml, hK, hN⟩ := id C
  intro n
  induction n with
  | zero =>
    intro x1 x2 x3 σ H locs ls hw hl h
    exact absurd h (by simp [fX6_inState_b4])
  | succ n ih =>
    intro x1 x2 x3 σ H locs ls hw hl h
    rw [fX6_inState_b4] at h
    refine lv_iload_n hx hb dX6_inState_4 rfl (lv_at hl 3 rfl) ?_
    refine lv_aload_n hx hb dX6_inState_5 rfl (lv_at hl 0 rfl) ?_
    refine r_get C hw qC_7 clsX6 7 rfl (by decide) fl_X6_33 dX6_inState_6 (v := .int (σ 7 7)) rfl ?_
    refine lv_icmp_ge (tgt := 31) hx hb dX6_inState_9 (by decide) (fun hc => ?_) (fun hc => ?_)
    · replace h := pw_t hc h
      refine lv_iload_n hx hb dX6_inState_31 rfl (lv_at hl 2 rfl) ?_
      exact r_iret C hw dX6_inState_32 h
    · replace h := pw_f hc h
      refine lv_aload_n hx hb dX6_inState_12 rfl (lv_at hl 0 rfl) ?_
      refine r_get C hw qC_7 clsX6 3 rfl (by decide) fl_X6_21 dX6_inState_13 (v := .ref (ad 11)) rfl ?_
      refine lv_iload_n hx hb dX6_inState_16 rfl (lv_at hl 3 rfl) ?_
      refine r_iald C hw qC_11 dX6_inState_17 h (fun v1 h => ?_)
      refine lv_iload_n hx hb dX6_inState_18 rfl (lv_at hl 1 rfl) ?_
      refine lv_icmp_ne (tgt := 25) hx hb dX6_inState_19 (by decide) (fun hc => ?_) (fun hc => ?_)
      · replace h := pw_f hc h
        refine lv_iinc (v := (x3 + 1)) (lv' := [(3, .int (x3 + 1)), (0, .ref (ad 7)), (1, .int x1), (2, .int x2)]) hx hb dX6_inState_25 hl (k := 3) rfl rfl (by decide) rfl (fun ls hl => ?_)
        refine lv_goto (tgt := 4) hx hb dX6_inState_28 (by decide) ?_
        exact ih _ _ _ _ _ _ _ hw (lv_sub hl [1, 2, 3, 0] rfl) h
      · replace h := pw_t hc h
        refine lv_iinc (v := (x2 + 1)) (lv' := [(2, .int (x2 + 1)), (0, .ref (ad 7)), (1, .int x1), (3, .int x3)]) hx hb dX6_inState_22 hl (k := 2) rfl rfl (by decide) rfl (fun ls hl => ?_)
        refine lv_iinc (v := (x3 + 1)) (lv' := [(3, .int (x3 + 1)), (2, .int (x2 + 1)), (0, .ref (ad 7)), (1, .int x1)]) hx hb dX6_inState_25 hl (k := 3) rfl rfl (by decide) rfl (fun ls hl => ?_)
        refine lv_goto (tgt := 4) hx hb dX6_inState_28 (by decide) ?_
        exact ih _ _ _ _ _ _ _ hw (lv_sub hl [2, 3, 1, 0] rfl) h
set_option maxRecDepth 100000 in
set_option maxHeartbeats 4000000 in
theorem kX6_inState (l : Launch) (D : va_G) (cI cZ : ClassId) (ad : Nat → Nat) (x1 : Int32) (σ : St) (z : Int32 × St) (h : fX6_inState x1 σ = some z) : pw_MI l D shC cI cZ ad yX6_inState cX6_inState 4 (some .int) (pw_rm 0) [.ref (ad 7), .int x1] σ z.1 z.2 := by
  refine pw_ofI (by decide) (Nat.le_of_ble_eq_true rfl) ?_
  intro p e s m args below meth c A C hw ls hl
  obtain ⟨hx, hb, hr, hts, hown, hlk, hml, hK, hN⟩ := id C
  have hl : lv_has ls 4 [(0, .ref (ad 7)), (1, .int x1)] := hl
  unfold fX6_inState at h
  refine lv_iconst (v := 0) hx hb dX6_inState_0 (by decide) ?_
  refine lv_istore_n (lv' := [(2, .int 0), (0, .ref (ad 7)), (1, .int x1)]) hx hb dX6_inState_1 rfl hl (by decide) rfl (fun ls hl => ?_)
  refine lv_iconst (v := 0) hx hb dX6_inState_2 (by decide) ?_
  refine lv_istore_n (lv' := [(3, .int 0), (2, .int 0), (0, .ref (ad 7)), (1, .int x1)]) hx hb dX6_inState_3 rfl hl (by decide) rfl (fun ls hl => ?_)
  exact wX6_inState_b4 C  _ _ _ _ _ _ _ _ hw (lv_sub hl [2, 3, 1, 0] rfl) h
