set_option maxRecDepth 100000 in
set_option maxHeartbeats 4000000 in
theorem wX0_init_b43 {p : Program} {l : Launch} {e : Env} {R : Room} {s : State} {m : MethodId} {args : Array Value} {below : List Frame} {meth : Method} {c : Code} {D : va_G} {cI cZ : ClassId} {ad : Nat → Nat} {A : Nat → Prop} {z : Int32 × St} {cells slots : Nat} (hX : pw_X A s) (C : pw_C p s m args meth c yX0_init.cls cX0_init 2 none D cI cZ) : ∀ (n : Nat) (x1 : Int32) (σ : St) (H : Heap) (locs : List Loc) (ls : Array Slot), pw_H D (pw_w shX0 cI cZ ad σ) A s.heap H locs → lv_has ls 2 [(0, .ref (ad 0)), (1, .int x1)] → fX0_init_b43 n x1 σ = some z → W p l e R s m args below meth c H locs cells slots (pw_QK below args s D cI cZ shX0 z.2 (ad 0) A cells slots) (F0 m 43 ls []) := by
  obtain ⟨hx, hb, hr, hts, hown, hlk, hml, hK, hN⟩ := id C
  obtain ⟨t_, hXX⟩ := id hX
  have hZ_GREATEST_TRAITS : va_Z "PorcelainWorks" "GREATEST_TRAITS" "[I" (.ref (t_ 0)) A s s.heap := (hXX 0 (by decide)).1
  have hT_GREATEST_TRAITS : va_T .int (t_ 0) 4 (fun j => .int (pw_GT j)) A s s.heap := (hXX 0 (by decide)).2
  have hZ_LEAST_PLACE_TRAITS : va_Z "PorcelainWorks" "LEAST_PLACE_TRAITS" "[I" (.ref (t_ 1)) A s s.heap := (hXX 1 (by decide)).1
  have hT_LEAST_PLACE_TRAITS : va_T .int (t_ 1) 2 (fun j => .int (pw_LP j)) A s s.heap := (hXX 1 (by decide)).2
  have hZ_GREATEST_PLACE_TRAITS : va_Z "PorcelainWorks" "GREATEST_PLACE_TRAITS" "[I" (.ref (t_ 2)) A s s.heap := (hXX 2 (by decide)).1
  have hT_GREATEST_PLACE_TRAITS : va_T .int (t_ 2) 2 (fun j => .int (pw_GP j)) A s s.heap := (hXX 2 (by decide)).2
  have hZ_FIRST_TRAITS : va_Z "PorcelainWorks" "FIRST_TRAITS" "[I" (.ref (t_ 3)) A s s.heap := (hXX 3 (by decide)).1
  have hT_FIRST_TRAITS : va_T .int (t_ 3) 4 (fun j => .int (pw_FT j)) A s s.heap := (hXX 3 (by decide)).2
  have hZ_FIRST_PLACE_TRAITS : va_Z "PorcelainWorks" "FIRST_PLACE_TRAITS" "[I" (.ref (t_ 4)) A s s.heap := (hXX 4 (by decide)).1
  have hT_FIRST_PLACE_TRAITS : va_T .int (t_ 4) 2 (fun j => .int (pw_FP j)) A s s.heap := (hXX 4 (by decide)).2
  intro n
  induction n with
  | zero =>
    intro x1 σ H locs ls hw hl h
    exact absurd h (by simp [fX0_init_b43])
  | succ n ih =>
    intro x1 σ H locs ls hw hl h
    rw [fX0_init_b43] at h
    refine lv_iload_n hx hb dX0_init_43 rfl (lv_at hl 1 rfl) ?_
    refine lv_bipush (v := 24) hx hb dX0_init_44 (by decide) ?_
    refine lv_icmp_ge (tgt := 68) hx hb dX0_init_46 (by decide) (fun hc => ?_) (fun hc => ?_)
    · replace h := pw_t hc h
      exact r_kret C hw dX0_init_68 h
    · replace h := pw_f hc h
      refine lv_aload_n hx hb dX0_init_49 rfl (lv_at hl 0 rfl) ?_
      refine r_get C hw qX0_0 clsX0 0 rfl (by decide) fl_X0_9 dX0_init_50 (v := .ref (ad 1)) rfl ?_
      refine lv_iload_n hx hb dX0_init_53 rfl (lv_at hl 1 rfl) ?_
      refine va_getsN hx hb hZ_FIRST_TRAITS hw.2.2.1 hown (va_Nw.use rfl (hN _ fn_X0_28)) (fun _ h => h) dX0_init_54 ?_
      refine lv_iload_n hx hb dX0_init_57 rfl (lv_at hl 1 rfl) ?_
      refine lv_iconst (v := 4) hx hb dX0_init_58 (by decide) ?_
      refine lv_irem hx hb dX0_init_59 (by decide) ?_
      refine r_tald C hT_FIRST_TRAITS hw.2.2.1 dX0_init_60 h (fun v1 h => ?_)
      refine r_iast C hw qX0_1 dX0_init_61 h (fun σ2 H locs hw h => ?_)
      refine lv_iinc (v := (x1 + 1)) (lv' := [(1, .int (x1 + 1)), (0, .ref (ad 0))]) hx hb dX0_init_62 hl (k := 1) rfl rfl (by decide) rfl (fun ls hl => ?_)
      refine lv_goto (tgt := 43) hx hb dX0_init_65 (by decide) ?_
      exact ih _ _ _ _ _ hw (lv_sub hl [1, 0] rfl) h
set_option maxRecDepth 100000 in
set_option maxHeartbeats 4000000 in
theorem wX0_init_b36 {p : Program} {l : Launch} {e : Env} {R : Room} {s : State} {m : MethodId} {args : Array Value} {below : List Frame} {meth : Method} {c : Code} {D : va_G} {cI cZ : ClassId} {ad : Nat → Nat} {A : Nat → Prop} {z : Int32 × St} {cells slots : Nat} (hX : pw_X A s) (C : pw_C p s m args meth c yX0_init.cls cX0_init 2 none D cI cZ) : ∀  (σ : St) (H : Heap) (locs : List Loc) (ls : Array Slot), pw_H D (pw_w shX0 cI cZ ad σ) A s.heap H locs → lv_has ls 2 [(0, .ref (ad 0))] → fX0_init_b36  σ = some z → W p l e R s m args below meth c H locs cells slots (pw_QK below args s D cI cZ shX0 z.2 (ad 0) A cells slots) (F0 m 36 ls []) := by
  obtain ⟨hx, hb, hr, hts, hown, hlk, hml, hK, hN⟩ := id C
  obtain ⟨t_, hXX⟩ := id hX
  have hZ_GREATEST_TRAITS : va_Z "PorcelainWorks" "GREATEST_TRAITS" "[I" (.ref (t_ 0)) A s s.heap := (hXX 0 (by decide)).1
  have hT_GREATEST_TRAITS : va_T .int (t_ 0) 4 (fun j => .int (pw_GT j)) A s s.heap := (hXX 0 (by decide)).2
  have hZ_LEAST_PLACE_TRAITS : va_Z "PorcelainWorks" "LEAST_PLACE_TRAITS" "[I" (.ref (t_ 1)) A s s.heap := (hXX 1 (by decide)).1
  have hT_LEAST_PLACE_TRAITS : va_T .int (t_ 1) 2 (fun j => .int (pw_LP j)) A s s.heap := (hXX 1 (by decide)).2
  have hZ_GREATEST_PLACE_TRAITS : va_Z "PorcelainWorks" "GREATEST_PLACE_TRAITS" "[I" (.ref (t_ 2)) A s s.heap := (hXX 2 (by decide)).1
  have hT_GREATEST_PLACE_TRAITS : va_T .int (t_ 2) 2 (fun j => .int (pw_GP j)) A s s.heap := (hXX 2 (by decide)).2
  have hZ_FIRST_TRAITS : va_Z "PorcelainWorks" "FIRST_TRAITS" "[I" (.ref (t_ 3)) A s s.heap := (hXX 3 (by decide)).1
  have hT_FIRST_TRAITS : va_T .int (t_ 3) 4 (fun j => .int (pw_FT j)) A s s.heap := (hXX 3 (by decide)).2
  have hZ_FIRST_PLACE_TRAITS : va_Z "PorcelainWorks" "FIRST_PLACE_TRAITS" "[I" (.ref (t_ 4)) A s s.heap := (hXX 4 (by decide)).1
  have hT_FIRST_PLACE_TRAITS : va_T .int (t_ 4) 2 (fun j => .int (pw_FP j)) A s s.heap := (hXX 4 (by decide)).2
  intro σ H locs ls hw hl h
  unfold fX0_init_b36 at h
  refine lv_aload_n hx hb dX0_init_36 rfl (lv_at hl 0 rfl) ?_
  refine lv_iconst (v := 0) hx hb dX0_init_37 (by decide) ?_
  refine r_put C hw qX0_0 clsX0 4 rfl (by decide) fl_X0_24 dX0_init_38 rfl rfl rfl h (fun σ3 H locs hw h => ?_)
  refine lv_iconst (v := 0) hx hb dX0_init_41 (by decide) ?_
  refine lv_istore_n (lv' := [(1, .int 0), (0, .ref (ad 0))]) hx hb dX0_init_42 rfl hl (by decide) rfl (fun ls hl => ?_)
  exact wX0_init_b43 hX C  _ _ _ _ _ _ hw (lv_sub hl [1, 0] rfl) h
set_option maxRecDepth 100000 in
set_option maxHeartbeats 4000000 in
theorem kX0_init (l : Launch) (D : va_G) (cI cZ : ClassId)  (z : Int32 × St) (h : fX0_init_b36 (fun _ _ => 0) = some z) : pw_MK l D cI cZ yX0_init cX0_init 2 (pw_rk 1 4 84) 4 84 0 [.null, .null, .null, .null, .int 0] shX0 z.2 := by
  refine pw_ofK (by decide) rfl (by decide) ?_
  intro h0 p e s m args below meth c A C hin hX hw ls hl
  obtain ⟨hx, hb, hr, hts, hown, hlk, hml, hK, hN⟩ := id C
  refine lv_aload_n hx hb dX0_init_0 rfl (lv_at hl 0 rfl) ?_
  refine W.objInit hx hb hown (hts _ ml_X0_3) (hts _ ko_inst) (hts _ ko_code) rfl (by rw [hml]; exact hl.1) rfl dX0_init_1 (by decide) (Nat.le_of_ble_eq_true rfl) ?_
  refine W.eq (g2 := F0 m 4 ls []) rfl ?_
  refine lv_aload_n hx hb dX0_init_4 rfl (lv_at hl 0 rfl) ?_
  refine lv_bipush (v := 24) hx hb dX0_init_5 (by decide) ?_
  refine r_newI C hw clsX0 hin 0 (by decide) (Nat.le_of_ble_eq_true rfl) rfl rfl rfl fl_X0_9 ka_int 24 (by decide) (by decide) (by decide) (by decide) (by decide) dX0_init_7 dX0_init_9 (fun q0 H locs hw => ?_)
  refine lv_aload_n hx hb dX0_init_12 rfl (lv_at hl 0 rfl) ?_
  refine lv_bipush (v := 20) hx hb dX0_init_13 (by decide) ?_
  refine r_newI C hw clsX0 hin 1 (by decide) (Nat.le_of_ble_eq_true rfl) rfl rfl rfl fl_X0_15 ka_int 20 (by decide) (by decide) (by decide) (by decide) (by decide) dX0_init_15 dX0_init_17 (fun q1 H locs hw => ?_)
  refine lv_aload_n hx hb dX0_init_20 rfl (lv_at hl 0 rfl) ?_
  refine lv_bipush (v := 20) hx hb dX0_init_21 (by decide) ?_
  refine r_newI C hw clsX0 hin 2 (by decide) (Nat.le_of_ble_eq_true rfl) rfl rfl rfl fl_X0_18 ka_int 20 (by decide) (by decide) (by decide) (by decide) (by decide) dX0_init_23 dX0_init_25 (fun q2 H locs hw => ?_)
  refine lv_aload_n hx hb dX0_init_28 rfl (lv_at hl 0 rfl) ?_
  refine lv_bipush (v := 20) hx hb dX0_init_29 (by decide) ?_
  refine r_newI C hw clsX0 hin 3 (by decide) (Nat.le_of_ble_eq_true rfl) rfl rfl rfl fl_X0_21 ka_int 20 (by decide) (by decide) (by decide) (by decide) (by decide) dX0_init_31 dX0_init_33 (fun q3 H locs hw => ?_)
  have hw : pw_H D (pw_w shX0 cI cZ (fun c => ([h0, q0, q1, q2, q3] : List Nat).getD c 0) (fun _ _ => 0)) A s.heap H locs := hw
  exact wX0_init_b36 (ad := (fun c => ([h0, q0, q1, q2, q3] : List Nat).getD c 0)) hX C _ _ _ _ hw (lv_sub hl [0] rfl) h
set_option maxRecDepth 100000 in
set_option maxHeartbeats 4000000 in
theorem wX1_init_b91 {p : Program} {l : Launch} {e : Env} {R : Room} {s : State} {m : MethodId} {args : Array Value} {below : List Frame} {meth : Method} {c : Code} {D : va_G} {cI cZ : ClassId} {ad : Nat → Nat} {A : Nat → Prop} {z : Int32 × St} {cells slots : Nat} (hX : pw_X A s) (C : pw_C p s m args meth c yX1_init.cls cX1_init 2 none D cI cZ) : ∀ (n : Nat) (x1 : Int32) (σ : St) (H : Heap) (locs : List Loc) (ls : Array Slot), pw_H D (pw_w shX1 cI cZ ad σ) A s.heap H locs → lv_has ls 2 [(0, .ref (ad 0)), (1, .int x1)] → fX1_init_b91 n x1 σ = some z → W p l e R s m args below meth c H locs cells slots (pw_QK below args s D cI cZ shX1 z.2 (ad 0) A cells slots) (F0 m 91 ls []) := by
  obtain ⟨hx, hb, hr, hts, hown, hlk, hml, hK, hN⟩ := id C
  obtain ⟨t_, hXX⟩ := id hX
  have hZ_GREATEST_TRAITS : va_Z "PorcelainWorks" "GREATEST_TRAITS" "[I" (.ref (t_ 0)) A s s.heap := (hXX 0 (by decide)).1
  have hT_GREATEST_TRAITS : va_T .int (t_ 0) 4 (fun j => .int (pw_GT j)) A s s.heap := (hXX 0 (by decide)).2
  have hZ_LEAST_PLACE_TRAITS : va_Z "PorcelainWorks" "LEAST_PLACE_TRAITS" "[I" (.ref (t_ 1)) A s s.heap := (hXX 1 (by decide)).1
  have hT_LEAST_PLACE_TRAITS : va_T .int (t_ 1) 2 (fun j => .int (pw_LP j)) A s s.heap := (hXX 1 (by decide)).2
  have hZ_GREATEST_PLACE_TRAITS : va_Z "PorcelainWorks" "GREATEST_PLACE_TRAITS" "[I" (.ref (t_ 2)) A s s.heap := (hXX 2 (by decide)).1
  have hT_GREATEST_PLACE_TRAITS : va_T .int (t_ 2) 2 (fun j => .int (pw_GP j)) A s s.heap := (hXX 2 (by decide)).2
  have hZ_FIRST_TRAITS : va_Z "PorcelainWorks" "FIRST_TRAITS" "[I" (.ref (t_ 3)) A s s.heap := (hXX 3 (by decide)).1
  have hT_FIRST_TRAITS : va_T .int (t_ 3) 4 (fun j => .int (pw_FT j)) A s s.heap := (hXX 3 (by decide)).2
  have hZ_FIRST_PLACE_TRAITS : va_Z "PorcelainWorks" "FIRST_PLACE_TRAITS" "[I" (.ref (t_ 4)) A s s.heap := (hXX 4 (by decide)).1
  have hT_FIRST_PLACE_TRAITS : va_T .int (t_ 4) 2 (fun j => .int (pw_FP j)) A s s.heap := (hXX 4 (by decide)).2
  intro n
  induction n with
  | zero =>
    intro x1 σ H locs ls hw hl h
    exact absurd h (by simp [fX1_init_b91])
  | succ n ih =>
    intro x1 σ H locs ls hw hl h
    rw [fX1_init_b91] at h
    refine lv_iload_n hx hb dX1_init_91 rfl (lv_at hl 1 rfl) ?_
    refine lv_bipush (v := 12) hx hb dX1_init_92 (by decide) ?_
    refine lv_icmp_ge (tgt := 111) hx hb dX1_init_94 (by decide) (fun hc => ?_) (fun hc => ?_)
    · replace h := pw_t hc h
      exact r_kret C hw dX1_init_111 h
    · replace h := pw_f hc h
      refine lv_aload_n hx hb dX1_init_97 rfl (lv_at hl 0 rfl) ?_
      refine r_get C hw qX1_0 clsX1 1 rfl (by decide) fl_X1_15 dX1_init_98 (v := .ref (ad 2)) rfl ?_
      refine lv_iload_n hx hb dX1_init_101 rfl (lv_at hl 1 rfl) ?_
      refine lv_bipush (v := (-9)) hx hb dX1_init_102 (by decide) ?_
      refine r_iast C hw qX1_2 dX1_init_104 h (fun σ1 H locs hw h => ?_)
      refine lv_iinc (v := (x1 + 1)) (lv' := [(1, .int (x1 + 1)), (0, .ref (ad 0))]) hx hb dX1_init_105 hl (k := 1) rfl rfl (by decide) rfl (fun ls hl => ?_)
      refine lv_goto (tgt := 91) hx hb dX1_init_108 (by decide) ?_
      exact ih _ _ _ _ _ hw (lv_sub hl [1, 0] rfl) h
set_option maxRecDepth 100000 in
set_option maxHeartbeats 4000000 in
theorem wX1_init_b64 {p : Program} {l : Launch} {e : Env} {R : Room} {s : State} {m : MethodId} {args : Array Value} {below : List Frame} {meth : Method} {c : Code} {D : va_G} {cI cZ : ClassId} {ad : Nat → Nat} {A : Nat → Prop} {z : Int32 × St} {cells slots : Nat} (hX : pw_X A s) (C : pw_C p s m args meth c yX1_init.cls cX1_init 2 none D cI cZ) : ∀ (n : Nat) (x1 : Int32) (σ : St) (H : Heap) (locs : List Loc) (ls : Array Slot), pw_H D (pw_w shX1 cI cZ ad σ) A s.heap H locs → lv_has ls 2 [(0, .ref (ad 0)), (1, .int x1)] → fX1_init_b64 n x1 σ = some z → W p l e R s m args below meth c H locs cells slots (pw_QK below args s D cI cZ shX1 z.2 (ad 0) A cells slots) (F0 m 64 ls []) := by
  obtain ⟨hx, hb, hr, hts, hown, hlk, hml, hK, hN⟩ := id C
  obtain ⟨t_, hXX⟩ := id hX
  have hZ_GREATEST_TRAITS : va_Z "PorcelainWorks" "GREATEST_TRAITS" "[I" (.ref (t_ 0)) A s s.heap := (hXX 0 (by decide)).1
  have hT_GREATEST_TRAITS : va_T .int (t_ 0) 4 (fun j => .int (pw_GT j)) A s s.heap := (hXX 0 (by decide)).2
  have hZ_LEAST_PLACE_TRAITS : va_Z "PorcelainWorks" "LEAST_PLACE_TRAITS" "[I" (.ref (t_ 1)) A s s.heap := (hXX 1 (by decide)).1
  have hT_LEAST_PLACE_TRAITS : va_T .int (t_ 1) 2 (fun j => .int (pw_LP j)) A s s.heap := (hXX 1 (by decide)).2
  have hZ_GREATEST_PLACE_TRAITS : va_Z "PorcelainWorks" "GREATEST_PLACE_TRAITS" "[I" (.ref (t_ 2)) A s s.heap := (hXX 2 (by decide)).1
  have hT_GREATEST_PLACE_TRAITS : va_T .int (t_ 2) 2 (fun j => .int (pw_GP j)) A s s.heap := (hXX 2 (by decide)).2
  have hZ_FIRST_TRAITS : va_Z "PorcelainWorks" "FIRST_TRAITS" "[I" (.ref (t_ 3)) A s s.heap := (hXX 3 (by decide)).1
  have hT_FIRST_TRAITS : va_T .int (t_ 3) 4 (fun j => .int (pw_FT j)) A s s.heap := (hXX 3 (by decide)).2
  have hZ_FIRST_PLACE_TRAITS : va_Z "PorcelainWorks" "FIRST_PLACE_TRAITS" "[I" (.ref (t_ 4)) A s s.heap := (hXX 4 (by decide)).1
  have hT_FIRST_PLACE_TRAITS : va_T .int (t_ 4) 2 (fun j => .int (pw_FP j)) A s s.heap := (hXX 4 (by decide)).2
  intro n
  induction n with
  | zero =>
    intro x1 σ H locs ls hw hl h
    exact absurd h (by simp [fX1_init_b64])
  | succ n ih =>
    intro x1 σ H locs ls hw hl h
    rw [fX1_init_b64] at h
    refine lv_iload_n hx hb dX1_init_64 rfl (lv_at hl 1 rfl) ?_
    refine lv_bipush (v := 24) hx hb dX1_init_65 (by decide) ?_
    refine lv_icmp_ge (tgt := 89) hx hb dX1_init_67 (by decide) (fun hc => ?_) (fun hc => ?_)
    · replace h := pw_t hc h
      refine lv_iconst (v := 0) hx hb dX1_init_89 (by decide) ?_
      refine lv_istore_n (lv' := [(1, .int 0), (0, .ref (ad 0))]) hx hb dX1_init_90 rfl hl (by decide) rfl (fun ls hl => ?_)
      exact wX1_init_b91 hX C  _ _ _ _ _ _ hw (lv_sub hl [1, 0] rfl) h
    · replace h := pw_f hc h
      refine lv_aload_n hx hb dX1_init_70 rfl (lv_at hl 0 rfl) ?_
      refine r_get C hw qX1_0 clsX1 0 rfl (by decide) fl_X1_9 dX1_init_71 (v := .ref (ad 1)) rfl ?_
      refine lv_iload_n hx hb dX1_init_74 rfl (lv_at hl 1 rfl) ?_
      refine va_getsN hx hb hZ_FIRST_PLACE_TRAITS hw.2.2.1 hown (va_Nw.use rfl (hN _ fn_X1_37)) (fun _ h => h) dX1_init_75 ?_
      refine lv_iload_n hx hb dX1_init_78 rfl (lv_at hl 1 rfl) ?_
      refine lv_iconst (v := 2) hx hb dX1_init_79 (by decide) ?_
      refine lv_irem hx hb dX1_init_80 (by decide) ?_
      refine r_tald C hT_FIRST_PLACE_TRAITS hw.2.2.1 dX1_init_81 h (fun v2 h => ?_)
      refine r_iast C hw qX1_1 dX1_init_82 h (fun σ3 H locs hw h => ?_)
      refine lv_iinc (v := (x1 + 1)) (lv' := [(1, .int (x1 + 1)), (0, .ref (ad 0))]) hx hb dX1_init_83 hl (k := 1) rfl rfl (by decide) rfl (fun ls hl => ?_)
      refine lv_goto (tgt := 64) hx hb dX1_init_86 (by decide) ?_
      exact ih _ _ _ _ _ hw (lv_sub hl [1, 0] rfl) h
set_option maxRecDepth 100000 in
set_option maxHeartbeats 4000000 in
theorem wX1_init_b52 {p : Program} {l : Launch} {e : Env} {R : Room} {s : State} {m : MethodId} {args : Array Value} {below : List Frame} {meth : Method} {c : Code} {D : va_G} {cI cZ : ClassId} {ad : Nat → Nat} {A : Nat → Prop} {z : Int32 × St} {cells slots : Nat} (hX : pw_X A s) (C : pw_C p s m args meth c yX1_init.cls cX1_init 2 none D cI cZ) : ∀  (σ : St) (H : Heap) (locs : List Loc) (ls : Array Slot), pw_H D (pw_w shX1 cI cZ ad σ) A s.heap H locs → lv_has ls 2 [(0, .ref (ad 0))] → fX1_init_b52  σ = some z → W p l e R s m args below meth c H locs cells slots (pw_QK below args s D cI cZ shX1 z.2 (ad 0) A cells slots) (F0 m 52 ls []) := by
  obtain ⟨hx, hb, hr, hts, hown, hlk, hml, hK, hN⟩ := id C
  obtain ⟨t_, hXX⟩ := id hX
  have hZ_GREATEST_TRAITS : va_Z "PorcelainWorks" "GREATEST_TRAITS" "[I" (.ref (t_ 0)) A s s.heap := (hXX 0 (by decide)).1
  have hT_GREATEST_TRAITS : va_T .int (t_ 0) 4 (fun j => .int (pw_GT j)) A s s.heap := (hXX 0 (by decide)).2
  have hZ_LEAST_PLACE_TRAITS : va_Z "PorcelainWorks" "LEAST_PLACE_TRAITS" "[I" (.ref (t_ 1)) A s s.heap := (hXX 1 (by decide)).1
  have hT_LEAST_PLACE_TRAITS : va_T .int (t_ 1) 2 (fun j => .int (pw_LP j)) A s s.heap := (hXX 1 (by decide)).2
  have hZ_GREATEST_PLACE_TRAITS : va_Z "PorcelainWorks" "GREATEST_PLACE_TRAITS" "[I" (.ref (t_ 2)) A s s.heap := (hXX 2 (by decide)).1
  have hT_GREATEST_PLACE_TRAITS : va_T .int (t_ 2) 2 (fun j => .int (pw_GP j)) A s s.heap := (hXX 2 (by decide)).2
  have hZ_FIRST_TRAITS : va_Z "PorcelainWorks" "FIRST_TRAITS" "[I" (.ref (t_ 3)) A s s.heap := (hXX 3 (by decide)).1
  have hT_FIRST_TRAITS : va_T .int (t_ 3) 4 (fun j => .int (pw_FT j)) A s s.heap := (hXX 3 (by decide)).2
  have hZ_FIRST_PLACE_TRAITS : va_Z "PorcelainWorks" "FIRST_PLACE_TRAITS" "[I" (.ref (t_ 4)) A s s.heap := (hXX 4 (by decide)).1
  have hT_FIRST_PLACE_TRAITS : va_T .int (t_ 4) 2 (fun j => .int (pw_FP j)) A s s.heap := (hXX 4 (by decide)).2
  intro σ H locs ls hw hl h
  unfold fX1_init_b52 at h
  refine lv_aload_n hx hb dX1_init_52 rfl (lv_at hl 0 rfl) ?_
  refine lv_iconst (v := 0) hx hb dX1_init_53 (by decide) ?_
  refine r_put C hw qX1_0 clsX1 6 rfl (by decide) fl_X1_30 dX1_init_54 rfl rfl rfl h (fun σ4 H locs hw h => ?_)
  refine lv_aload_n hx hb dX1_init_57 rfl (lv_at hl 0 rfl) ?_
  refine lv_iconst (v := 0) hx hb dX1_init_58 (by decide) ?_
  refine r_put C hw qX1_0 clsX1 7 rfl (by decide) fl_X1_34 dX1_init_59 rfl rfl rfl h (fun σ5 H locs hw h => ?_)
  refine lv_iconst (v := 0) hx hb dX1_init_62 (by decide) ?_
  refine lv_istore_n (lv' := [(1, .int 0), (0, .ref (ad 0))]) hx hb dX1_init_63 rfl hl (by decide) rfl (fun ls hl => ?_)
  exact wX1_init_b64 hX C  _ _ _ _ _ _ hw (lv_sub hl [1, 0] rfl) h
set_option maxRecDepth 100000 in
set_option maxHeartbeats 4000000 in
theorem kX1_init (l : Launch) (D : va_G) (cI cZ : ClassId)  (z : Int32 × St) (h : fX1_init_b52 (fun _ _ => 0) = some z) : pw_MK l D cI cZ yX1_init cX1_init 2 (pw_rk 1 6 120) 6 120 1 [.null, .null, .null, .null, .null, .null, .int 0, .int 0] shX1 z.2 := by
  refine pw_ofK (by decide) rfl (by decide) ?_
  intro h0 p e s m args below meth c A C hin hX hw ls hl
  obtain ⟨hx, hb, hr, hts, hown, hlk, hml, hK, hN⟩ := id C
  refine lv_aload_n hx hb dX1_init_0 rfl (lv_at hl 0 rfl) ?_
  refine W.objInit hx hb hown (hts _ ml_X1_3) (hts _ ko_inst) (hts _ ko_code) rfl (by rw [hml]; exact hl.1) rfl dX1_init_1 (by decide) (Nat.le_of_ble_eq_true rfl) ?_
  refine W.eq (g2 := F0 m 4 ls []) rfl ?_
  refine lv_aload_n hx hb dX1_init_4 rfl (lv_at hl 0 rfl) ?_
  refine lv_bipush (v := 24) hx hb dX1_init_5 (by decide) ?_
  refine r_newI C hw clsX1 hin 0 (by decide) (Nat.le_of_ble_eq_true rfl) rfl rfl rfl fl_X1_9 ka_int 24 (by decide) (by decide) (by decide) (by decide) (by decide) dX1_init_7 dX1_init_9 (fun q0 H locs hw => ?_)
  refine lv_aload_n hx hb dX1_init_12 rfl (lv_at hl 0 rfl) ?_
  refine lv_bipush (v := 12) hx hb dX1_init_13 (by decide) ?_
  refine r_newI C hw clsX1 hin 1 (by decide) (Nat.le_of_ble_eq_true rfl) rfl rfl rfl fl_X1_15 ka_int 12 (by decide) (by decide) (by decide) (by decide) (by decide) dX1_init_15 dX1_init_17 (fun q1 H locs hw => ?_)
  refine lv_aload_n hx hb dX1_init_20 rfl (lv_at hl 0 rfl) ?_
  refine lv_bipush (v := 12) hx hb dX1_init_21 (by decide) ?_
  refine r_newI C hw clsX1 hin 2 (by decide) (Nat.le_of_ble_eq_true rfl) rfl rfl rfl fl_X1_18 ka_int 12 (by decide) (by decide) (by decide) (by decide) (by decide) dX1_init_23 dX1_init_25 (fun q2 H locs hw => ?_)
  refine lv_aload_n hx hb dX1_init_28 rfl (lv_at hl 0 rfl) ?_
  refine lv_bipush (v := 12) hx hb dX1_init_29 (by decide) ?_
  refine r_newI C hw clsX1 hin 3 (by decide) (Nat.le_of_ble_eq_true rfl) rfl rfl rfl fl_X1_21 ka_int 12 (by decide) (by decide) (by decide) (by decide) (by decide) dX1_init_31 dX1_init_33 (fun q3 H locs hw => ?_)
  refine lv_aload_n hx hb dX1_init_36 rfl (lv_at hl 0 rfl) ?_
  refine lv_bipush (v := 12) hx hb dX1_init_37 (by decide) ?_
  refine r_newI C hw clsX1 hin 4 (by decide) (Nat.le_of_ble_eq_true rfl) rfl rfl rfl fl_X1_24 ka_int 12 (by decide) (by decide) (by decide) (by decide) (by decide) dX1_init_39 dX1_init_41 (fun q4 H locs hw => ?_)
  refine lv_aload_n hx hb dX1_init_44 rfl (lv_at hl 0 rfl) ?_
  refine lv_bipush (v := 48) hx hb dX1_init_45 (by decide) ?_
  refine r_newI C hw clsX1 hin 5 (by decide) (Nat.le_of_ble_eq_true rfl) rfl rfl rfl fl_X1_27 ka_int 48 (by decide) (by decide) (by decide) (by decide) (by decide) dX1_init_47 dX1_init_49 (fun q5 H locs hw => ?_)
  have hw : pw_H D (pw_w shX1 cI cZ (fun c => ([h0, q0, q1, q2, q3, q4, q5] : List Nat).getD c 0) (fun _ _ => 0)) A s.heap H locs := hw
  exact wX1_init_b52 (ad := (fun c => ([h0, q0, q1, q2, q3, q4, q5] : List Nat).getD c 0)) hX C _ _ _ _ hw (lv_sub hl [0] rfl) h
set_option maxRecDepth 100000 in
set_option maxHeartbeats 4000000 in
theorem wX2_init_b28 {p : Program} {l : Launch} {e : Env} {R : Room} {s : State} {m : MethodId} {args : Array Value} {below : List Frame} {meth : Method} {c : Code} {D : va_G} {cI cZ : ClassId} {ad : Nat → Nat} {A : Nat → Prop} {z : Int32 × St} {cells slots : Nat} (hX : pw_X A s) (C : pw_C p s m args meth c yX2_init.cls cX2_init 1 none D cI cZ) : ∀  (σ : St) (H : Heap) (locs : List Loc) (ls : Array Slot), pw_H D (pw_w shX2 cI cZ ad σ) A s.heap H locs → lv_has ls 1 [(0, .ref (ad 0))] → fX2_init_b28  σ = some z → W p l e R s m args below meth c H locs cells slots (pw_QK below args s D cI cZ shX2 z.2 (ad 0) A cells slots) (F0 m 28 ls []) := by
  obtain ⟨hx, hb, hr, hts, hown, hlk, hml, hK, hN⟩ := id C
  intro σ H locs ls hw hl h
  unfold fX2_init_b28 at h
  refine lv_aload_n hx hb dX2_init_28 rfl (lv_at hl 0 rfl) ?_
  refine lv_iconst (v := 0) hx hb dX2_init_29 (by decide) ?_
  refine r_put C hw qX2_0 clsX2 3 rfl (by decide) fl_X2_21 dX2_init_30 rfl rfl rfl h (fun σ1 H locs hw h => ?_)
  exact r_kret C hw dX2_init_33 h
set_option maxRecDepth 100000 in
set_option maxHeartbeats 4000000 in
theorem kX2_init (l : Launch) (D : va_G) (cI cZ : ClassId)  (z : Int32 × St) (h : fX2_init_b28 (fun _ _ => 0) = some z) : pw_MK l D cI cZ yX2_init cX2_init 1 (pw_rk 1 3 18) 3 18 2 [.null, .null, .null, .int 0] shX2 z.2 := by
  refine pw_ofK (by decide) rfl (by decide) ?_
  intro h0 p e s m args below meth c A C hin hX hw ls hl
  obtain ⟨hx, hb, hr, hts, hown, hlk, hml, hK, hN⟩ := id C
  refine lv_aload_n hx hb dX2_init_0 rfl (lv_at hl 0 rfl) ?_
  refine W.objInit hx hb hown (hts _ ml_X2_3) (hts _ ko_inst) (hts _ ko_code) rfl (by rw [hml]; exact hl.1) rfl dX2_init_1 (by decide) (Nat.le_of_ble_eq_true rfl) ?_
  refine W.eq (g2 := F0 m 4 ls []) rfl ?_
  refine lv_aload_n hx hb dX2_init_4 rfl (lv_at hl 0 rfl) ?_
  refine lv_bipush (v := 6) hx hb dX2_init_5 (by decide) ?_
  refine r_newI C hw clsX2 hin 0 (by decide) (Nat.le_of_ble_eq_true rfl) rfl rfl rfl fl_X2_9 ka_int 6 (by decide) (by decide) (by decide) (by decide) (by decide) dX2_init_7 dX2_init_9 (fun q0 H locs hw => ?_)
  refine lv_aload_n hx hb dX2_init_12 rfl (lv_at hl 0 rfl) ?_
  refine lv_bipush (v := 6) hx hb dX2_init_13 (by decide) ?_
  refine r_newI C hw clsX2 hin 1 (by decide) (Nat.le_of_ble_eq_true rfl) rfl rfl rfl fl_X2_15 ka_int 6 (by decide) (by decide) (by decide) (by decide) (by decide) dX2_init_15 dX2_init_17 (fun q1 H locs hw => ?_)
  refine lv_aload_n hx hb dX2_init_20 rfl (lv_at hl 0 rfl) ?_
  refine lv_bipush (v := 6) hx hb dX2_init_21 (by decide) ?_
  refine r_newI C hw clsX2 hin 2 (by decide) (Nat.le_of_ble_eq_true rfl) rfl rfl rfl fl_X2_18 ka_int 6 (by decide) (by decide) (by decide) (by decide) (by decide) dX2_init_23 dX2_init_25 (fun q2 H locs hw => ?_)
  have hw : pw_H D (pw_w shX2 cI cZ (fun c => ([h0, q0, q1, q2] : List Nat).getD c 0) (fun _ _ => 0)) A s.heap H locs := hw
  exact wX2_init_b28 (ad := (fun c => ([h0, q0, q1, q2] : List Nat).getD c 0)) hX C _ _ _ _ hw (lv_sub hl [0] rfl) h
set_option maxRecDepth 100000 in
set_option maxHeartbeats 4000000 in
theorem wX3_init_b28 {p : Program} {l : Launch} {e : Env} {R : Room} {s : State} {m : MethodId} {args : Array Value} {below : List Frame} {meth : Method} {c : Code} {D : va_G} {cI cZ : ClassId} {ad : Nat → Nat} {A : Nat → Prop} {z : Int32 × St} {cells slots : Nat} (hX : pw_X A s) (C : pw_C p s m args meth c yX3_init.cls cX3_init 1 none D cI cZ) : ∀  (σ : St) (H : Heap) (locs : List Loc) (ls : Array Slot), pw_H D (pw_w shX3 cI cZ ad σ) A s.heap H locs → lv_has ls 1 [(0, .ref (ad 0))] → fX3_init_b28  σ = some z → W p l e R s m args below meth c H locs cells slots (pw_QK below args s D cI cZ shX3 z.2 (ad 0) A cells slots) (F0 m 28 ls []) := by
  obtain ⟨hx, hb, hr, hts, hown, hlk, hml, hK, hN⟩ := id C
  intro σ H locs ls hw hl h
  unfold fX3_init_b28 at h
  refine lv_aload_n hx hb dX3_init_28 rfl (lv_at hl 0 rfl) ?_
  refine lv_iconst (v := 0) hx hb dX3_init_29 (by decide) ?_
  refine r_put C hw qX3_0 clsX3 3 rfl (by decide) fl_X3_21 dX3_init_30 rfl rfl rfl h (fun σ1 H locs hw h => ?_)
  refine lv_aload_n hx hb dX3_init_33 rfl (lv_at hl 0 rfl) ?_
  refine lv_iconst (v := 0) hx hb dX3_init_34 (by decide) ?_
  refine r_put C hw qX3_0 clsX3 4 rfl (by decide) fl_X3_25 dX3_init_35 rfl rfl rfl h (fun σ2 H locs hw h => ?_)
  refine lv_aload_n hx hb dX3_init_38 rfl (lv_at hl 0 rfl) ?_
  refine lv_iconst (v := 0) hx hb dX3_init_39 (by decide) ?_
  refine r_put C hw qX3_0 clsX3 5 rfl (by decide) fl_X3_28 dX3_init_40 rfl rfl rfl h (fun σ3 H locs hw h => ?_)
  exact r_kret C hw dX3_init_43 h
set_option maxRecDepth 100000 in
set_option maxHeartbeats 4000000 in
theorem kX3_init (l : Launch) (D : va_G) (cI cZ : ClassId)  (z : Int32 × St) (h : fX3_init_b28 (fun _ _ => 0) = some z) : pw_MK l D cI cZ yX3_init cX3_init 1 (pw_rk 1 3 172) 3 172 3 [.null, .null, .null, .int 0, .int 0, .int 0] shX3 z.2 := by
  refine pw_ofK (by decide) rfl (by decide) ?_
  intro h0 p e s m args below meth c A C hin hX hw ls hl
  obtain ⟨hx, hb, hr, hts, hown, hlk, hml, hK, hN⟩ := id C
  refine lv_aload_n hx hb dX3_init_0 rfl (lv_at hl 0 rfl) ?_
  refine W.objInit hx hb hown (hts _ ml_X3_3) (hts _ ko_inst) (hts _ ko_code) rfl (by rw [hml]; exact hl.1) rfl dX3_init_1 (by decide) (Nat.le_of_ble_eq_true rfl) ?_
  refine W.eq (g2 := F0 m 4 ls []) rfl ?_
  refine lv_aload_n hx hb dX3_init_4 rfl (lv_at hl 0 rfl) ?_
  refine lv_bipush (v := 80) hx hb dX3_init_5 (by decide) ?_
  refine r_newI C hw clsX3 hin 0 (by decide) (Nat.le_of_ble_eq_true rfl) rfl rfl rfl fl_X3_9 ka_int 80 (by decide) (by decide) (by decide) (by decide) (by decide) dX3_init_7 dX3_init_9 (fun q0 H locs hw => ?_)
  refine lv_aload_n hx hb dX3_init_12 rfl (lv_at hl 0 rfl) ?_
  refine lv_bipush (v := 80) hx hb dX3_init_13 (by decide) ?_
  refine r_newI C hw clsX3 hin 1 (by decide) (Nat.le_of_ble_eq_true rfl) rfl rfl rfl fl_X3_15 ka_int 80 (by decide) (by decide) (by decide) (by decide) (by decide) dX3_init_15 dX3_init_17 (fun q1 H locs hw => ?_)
  refine lv_aload_n hx hb dX3_init_20 rfl (lv_at hl 0 rfl) ?_
  refine lv_bipush (v := 12) hx hb dX3_init_21 (by decide) ?_
  refine r_newI C hw clsX3 hin 2 (by decide) (Nat.le_of_ble_eq_true rfl) rfl rfl rfl fl_X3_18 ka_int 12 (by decide) (by decide) (by decide) (by decide) (by decide) dX3_init_23 dX3_init_25 (fun q2 H locs hw => ?_)
  have hw : pw_H D (pw_w shX3 cI cZ (fun c => ([h0, q0, q1, q2] : List Nat).getD c 0) (fun _ _ => 0)) A s.heap H locs := hw
  exact wX3_init_b28 (ad := (fun c => ([h0, q0, q1, q2] : List Nat).getD c 0)) hX C _ _ _ _ hw (lv_sub hl [0] rfl) h
set_option maxRecDepth 100000 in
set_option maxHeartbeats 4000000 in
theorem wX4_init_b13 {p : Program} {l : Launch} {e : Env} {R : Room} {s : State} {m : MethodId} {args : Array Value} {below : List Frame} {meth : Method} {c : Code} {D : va_G} {cI cZ : ClassId} {ad : Nat → Nat} {A : Nat → Prop} {z : Int32 × St} {cells slots : Nat} (hX : pw_X A s) (C : pw_C p s m args meth c yX4_init.cls cX4_init 1 none D cI cZ) : ∀  (σ : St) (H : Heap) (locs : List Loc) (ls : Array Slot), pw_H D (pw_w shX4 cI cZ ad σ) A s.heap H locs → lv_has ls 1 [] → fX4_init_b13  σ = some z → W p l e R s m args below meth c H locs cells slots (pw_QK below args s D cI cZ shX4 z.2 (ad 0) A cells slots) (F0 m 13 ls []) := by
  obtain ⟨hx, hb, hr, hts, hown, hlk, hml, hK, hN⟩ := id C
  intro σ H locs ls hw hl h
  unfold fX4_init_b13 at h
  exact r_kret C hw dX4_init_13 h
set_option maxRecDepth 100000 in
set_option maxHeartbeats 4000000 in
theorem kX4_init (l : Launch) (D : va_G) (cI cZ : ClassId)  (z : Int32 × St) (h : fX4_init_b13 (fun _ _ => 0) = some z) : pw_MK l D cI cZ yX4_init cX4_init 1 (pw_rk 1 1 201) 1 201 4 [.null] shX4 z.2 := by
  refine pw_ofK (by decide) rfl (by decide) ?_
  intro h0 p e s m args below meth c A C hin hX hw ls hl
  obtain ⟨hx, hb, hr, hts, hown, hlk, hml, hK, hN⟩ := id C
  refine lv_aload_n hx hb dX4_init_0 rfl (lv_at hl 0 rfl) ?_
  refine W.objInit hx hb hown (hts _ ml_X4_3) (hts _ ko_inst) (hts _ ko_code) rfl (by rw [hml]; exact hl.1) rfl dX4_init_1 (by decide) (Nat.le_of_ble_eq_true rfl) ?_
  refine W.eq (g2 := F0 m 4 ls []) rfl ?_
  refine lv_aload_n hx hb dX4_init_4 rfl (lv_at hl 0 rfl) ?_
  refine lv_sipush (v := 201) hx hb dX4_init_5 (by decide) ?_
  refine r_newI C hw clsX4 hin 0 (by decide) (Nat.le_of_ble_eq_true rfl) rfl rfl rfl fl_X4_9 ka_int 201 (by decide) (by decide) (by decide) (by decide) (by decide) dX4_init_8 dX4_init_10 (fun q0 H locs hw => ?_)
  have hw : pw_H D (pw_w shX4 cI cZ (fun c => ([h0, q0] : List Nat).getD c 0) (fun _ _ => 0)) A s.heap H locs := hw
  exact wX4_init_b13 (ad := (fun c => ([h0, q0] : List Nat).getD c 0)) hX C _ _ _ _ hw (lv_sub hl [] rfl) h
set_option maxRecDepth 100000 in
set_option maxHeartbeats 4000000 in
theorem wX5_init_b28 {p : Program} {l : Launch} {e : Env} {R : Room} {s : State} {m : MethodId} {args : Array Value} {below : List Frame} {meth : Method} {c : Code} {D : va_G} {cI cZ : ClassId} {ad : Nat → Nat} {A : Nat → Prop} {z : Int32 × St} {cells slots : Nat} (hX : pw_X A s) (C : pw_C p s m args meth c yX5_init.cls cX5_init 1 none D cI cZ) : ∀  (σ : St) (H : Heap) (locs : List Loc) (ls : Array Slot), pw_H D (pw_w shX5 cI cZ ad σ) A s.heap H locs → lv_has ls 1 [] → fX5_init_b28  σ = some z → W p l e R s m args below meth c H locs cells slots (pw_QK below args s D cI cZ shX5 z.2 (ad 0) A cells slots) (F0 m 28 ls []) := by
  obtain ⟨hx, hb, hr, hts, hown, hlk, hml, hK, hN⟩ := id C
  intro σ H locs ls hw hl h
  unfold fX5_init_b28 at h
  exact r_kret C hw dX5_init_28 h
set_option maxRecDepth 100000 in
set_option maxHeartbeats 4000000 in
theorem kX5_init (l : Launch) (D : va_G) (cI cZ : ClassId)  (z : Int32 × St) (h : fX5_init_b28 (fun _ _ => 0) = some z) : pw_MK l D cI cZ yX5_init cX5_init 1 (pw_rk 1 3 36) 3 36 5 [.null, .null, .null] shX5 z.2 := by
  refine pw_ofK (by decide) rfl (by decide) ?_
  intro h0 p e s m args below meth c A C hin hX hw ls hl
  obtain ⟨hx, hb, hr, hts, hown, hlk, hml, hK, hN⟩ := id C
  refine lv_aload_n hx hb dX5_init_0 rfl (lv_at hl 0 rfl) ?_
  refine W.objInit hx hb hown (hts _ ml_X5_3) (hts _ ko_inst) (hts _ ko_code) rfl (by rw [hml]; exact hl.1) rfl dX5_init_1 (by decide) (Nat.le_of_ble_eq_true rfl) ?_
  refine W.eq (g2 := F0 m 4 ls []) rfl ?_
  refine lv_aload_n hx hb dX5_init_4 rfl (lv_at hl 0 rfl) ?_
  refine lv_bipush (v := 12) hx hb dX5_init_5 (by decide) ?_
  refine r_newI C hw clsX5 hin 0 (by decide) (Nat.le_of_ble_eq_true rfl) rfl rfl rfl fl_X5_9 ka_int 12 (by decide) (by decide) (by decide) (by decide) (by decide) dX5_init_7 dX5_init_9 (fun q0 H locs hw => ?_)
  refine lv_aload_n hx hb dX5_init_12 rfl (lv_at hl 0 rfl) ?_
  refine lv_bipush (v := 12) hx hb dX5_init_13 (by decide) ?_
  refine r_newI C hw clsX5 hin 1 (by decide) (Nat.le_of_ble_eq_true rfl) rfl rfl rfl fl_X5_15 ka_int 12 (by decide) (by decide) (by decide) (by decide) (by decide) dX5_init_15 dX5_init_17 (fun q1 H locs hw => ?_)
  refine lv_aload_n hx hb dX5_init_20 rfl (lv_at hl 0 rfl) ?_
  refine lv_bipush (v := 12) hx hb dX5_init_21 (by decide) ?_
  refine r_newI C hw clsX5 hin 2 (by decide) (Nat.le_of_ble_eq_true rfl) rfl rfl rfl fl_X5_18 ka_int 12 (by decide) (by decide) (by decide) (by decide) (by decide) dX5_init_23 dX5_init_25 (fun q2 H locs hw => ?_)
  have hw : pw_H D (pw_w shX5 cI cZ (fun c => ([h0, q0, q1, q2] : List Nat).getD c 0) (fun _ _ => 0)) A s.heap H locs := hw
  exact wX5_init_b28 (ad := (fun c => ([h0, q0, q1, q2] : List Nat).getD c 0)) hX C _ _ _ _ hw (lv_sub hl [] rfl) h
set_option maxRecDepth 100000 in
set_option maxHeartbeats 4000000 in
theorem wX6_init_b60 {p : Program} {l : Launch} {e : Env} {R : Room} {s : State} {m : MethodId} {args : Array Value} {below : List Frame} {meth : Method} {c : Code} {D : va_G} {cI cZ : ClassId} {ad : Nat → Nat} {A : Nat → Prop} {z : Int32 × St} {cells slots : Nat} (hX : pw_X A s) (C : pw_C p s m args meth c yX6_init.cls cX6_init 1 none D cI cZ) : ∀  (σ : St) (H : Heap) (locs : List Loc) (ls : Array Slot), pw_H D (pw_w shX6 cI cZ ad σ) A s.heap H locs → lv_has ls 1 [(0, .ref (ad 0))] → fX6_init_b60  σ = some z → W p l e R s m args below meth c H locs cells slots (pw_QK below args s D cI cZ shX6 z.2 (ad 0) A cells slots) (F0 m 60 ls []) := by
  obtain ⟨hx, hb, hr, hts, hown, hlk, hml, hK, hN⟩ := id C
  intro σ H locs ls hw hl h
  unfold fX6_init_b60 at h
  refine lv_aload_n hx hb dX6_init_60 rfl (lv_at hl 0 rfl) ?_
  refine lv_iconst (v := 0) hx hb dX6_init_61 (by decide) ?_
  refine r_put C hw qX6_0 clsX6 7 rfl (by decide) fl_X6_33 dX6_init_62 rfl rfl rfl h (fun σ1 H locs hw h => ?_)
  exact r_kret C hw dX6_init_65 h
set_option maxRecDepth 100000 in
set_option maxHeartbeats 4000000 in
theorem kX6_init (l : Launch) (D : va_G) (cI cZ : ClassId)  (z : Int32 × St) (h : fX6_init_b60 (fun _ _ => 0) = some z) : pw_MK l D cI cZ yX6_init cX6_init 1 (pw_rk 1 7 560) 7 560 6 [.null, .null, .null, .null, .null, .null, .null, .int 0] shX6 z.2 := by
  refine pw_ofK (by decide) rfl (by decide) ?_
  intro h0 p e s m args below meth c A C hin hX hw ls hl
  obtain ⟨hx, hb, hr, hts, hown, hlk, hml, hK, hN⟩ := id C
  refine lv_aload_n hx hb dX6_init_0 rfl (lv_at hl 0 rfl) ?_
  refine W.objInit hx hb hown (hts _ ml_X6_3) (hts _ ko_inst) (hts _ ko_code) rfl (by rw [hml]; exact hl.1) rfl dX6_init_1 (by decide) (Nat.le_of_ble_eq_true rfl) ?_
  refine W.eq (g2 := F0 m 4 ls []) rfl ?_
  refine lv_aload_n hx hb dX6_init_4 rfl (lv_at hl 0 rfl) ?_
  refine lv_bipush (v := 80) hx hb dX6_init_5 (by decide) ?_
  refine r_newI C hw clsX6 hin 0 (by decide) (Nat.le_of_ble_eq_true rfl) rfl rfl rfl fl_X6_9 ka_int 80 (by decide) (by decide) (by decide) (by decide) (by decide) dX6_init_7 dX6_init_9 (fun q0 H locs hw => ?_)
  refine lv_aload_n hx hb dX6_init_12 rfl (lv_at hl 0 rfl) ?_
  refine lv_bipush (v := 80) hx hb dX6_init_13 (by decide) ?_
  refine r_newI C hw clsX6 hin 1 (by decide) (Nat.le_of_ble_eq_true rfl) rfl rfl rfl fl_X6_15 ka_int 80 (by decide) (by decide) (by decide) (by decide) (by decide) dX6_init_15 dX6_init_17 (fun q1 H locs hw => ?_)
  refine lv_aload_n hx hb dX6_init_20 rfl (lv_at hl 0 rfl) ?_
  refine lv_bipush (v := 80) hx hb dX6_init_21 (by decide) ?_
  refine r_newI C hw clsX6 hin 2 (by decide) (Nat.le_of_ble_eq_true rfl) rfl rfl rfl fl_X6_18 ka_int 80 (by decide) (by decide) (by decide) (by decide) (by decide) dX6_init_23 dX6_init_25 (fun q2 H locs hw => ?_)
  refine lv_aload_n hx hb dX6_init_28 rfl (lv_at hl 0 rfl) ?_
  refine lv_bipush (v := 80) hx hb dX6_init_29 (by decide) ?_
  refine r_newI C hw clsX6 hin 3 (by decide) (Nat.le_of_ble_eq_true rfl) rfl rfl rfl fl_X6_21 ka_int 80 (by decide) (by decide) (by decide) (by decide) (by decide) dX6_init_31 dX6_init_33 (fun q3 H locs hw => ?_)
  refine lv_aload_n hx hb dX6_init_36 rfl (lv_at hl 0 rfl) ?_
  refine lv_bipush (v := 80) hx hb dX6_init_37 (by decide) ?_
  refine r_newI C hw clsX6 hin 4 (by decide) (Nat.le_of_ble_eq_true rfl) rfl rfl rfl fl_X6_24 ka_int 80 (by decide) (by decide) (by decide) (by decide) (by decide) dX6_init_39 dX6_init_41 (fun q4 H locs hw => ?_)
  refine lv_aload_n hx hb dX6_init_44 rfl (lv_at hl 0 rfl) ?_
  refine lv_bipush (v := 80) hx hb dX6_init_45 (by decide) ?_
  refine r_newI C hw clsX6 hin 5 (by decide) (Nat.le_of_ble_eq_true rfl) rfl rfl rfl fl_X6_27 ka_int 80 (by decide) (by decide) (by decide) (by decide) (by decide) dX6_init_47 dX6_init_49 (fun q5 H locs hw => ?_)
  refine lv_aload_n hx hb dX6_init_52 rfl (lv_at hl 0 rfl) ?_
  refine lv_bipush (v := 80) hx hb dX6_init_53 (by decide) ?_
  refine r_newI C hw clsX6 hin 6 (by decide) (Nat.le_of_ble_eq_true rfl) rfl rfl rfl fl_X6_30 ka_int 80 (by decide) (by decide) (by decide) (by decide) (by decide) dX6_init_55 dX6_init_57 (fun q6 H locs hw => ?_)
  have hw : pw_H D (pw_w shX6 cI cZ (fun c => ([h0, q0, q1, q2, q3, q4, q5, q6] : List Nat).getD c 0) (fun _ _ => 0)) A s.heap H locs := hw
  exact wX6_init_b60 (ad := (fun c => ([h0, q0, q1, q2, q3, q4, q5, q6] : List Nat).getD c 0)) hX C _ _ _ _ hw (lv_sub hl [0] rfl) h
set_option maxRecDepth 100000 in
set_option maxHeartbeats 4000000 in
theorem wX7_init_b66 {p : Program} {l : Launch} {e : Env} {R : Room} {s : State} {m : MethodId} {args : Array Value} {below : List Frame} {meth : Method} {c : Code} {D : va_G} {cI cZ : ClassId} {ad : Nat → Nat} {A : Nat → Prop} {z : Int32 × St} {cells slots : Nat} (hX : pw_X A s) (C : pw_C p s m args meth c yX7_init.cls cX7_init 1 none D cI cZ) : ∀  (σ : St) (H : Heap) (locs : List Loc) (ls : Array Slot), pw_H D (pw_w shX7 cI cZ ad σ) A s.heap H locs → lv_has ls 1 [(0, .ref (ad 0))] → fX7_init_b66  σ = some z → W p l e R s m args below meth c H locs cells slots (pw_QK below args s D cI cZ shX7 z.2 (ad 0) A cells slots) (F0 m 66 ls []) := by
  obtain ⟨hx, hb, hr, hts, hown, hlk, hml, hK, hN⟩ := id C
  intro σ H locs ls hw hl h
  unfold fX7_init_b66 at h
  refine lv_aload_n hx hb dX7_init_66 rfl (lv_at hl 0 rfl) ?_
  refine lv_iconst (v := 0) hx hb dX7_init_67 (by decide) ?_
  refine r_put C hw qX7_0 clsX7 8 rfl (by decide) fl_X7_36 dX7_init_68 rfl rfl rfl h (fun σ1 H locs hw h => ?_)
  refine lv_aload_n hx hb dX7_init_71 rfl (lv_at hl 0 rfl) ?_
  refine lv_iconst (v := 0) hx hb dX7_init_72 (by decide) ?_
  refine r_put C hw qX7_0 clsX7 9 rfl (by decide) fl_X7_40 dX7_init_73 rfl rfl rfl h (fun σ2 H locs hw h => ?_)
  refine lv_aload_n hx hb dX7_init_76 rfl (lv_at hl 0 rfl) ?_
  refine lv_bipush (v := (-9)) hx hb dX7_init_77 (by decide) ?_
  refine r_put C hw qX7_0 clsX7 10 rfl (by decide) fl_X7_43 dX7_init_79 rfl rfl rfl h (fun σ3 H locs hw h => ?_)
  exact r_kret C hw dX7_init_82 h
set_option maxRecDepth 100000 in
set_option maxHeartbeats 4000000 in
theorem kX7_init (l : Launch) (D : va_G) (cI cZ : ClassId)  (z : Int32 × St) (h : fX7_init_b66 (fun _ _ => 0) = some z) : pw_MK l D cI cZ yX7_init cX7_init 1 (pw_rk 1 8 280) 8 280 7 [.null, .null, .null, .null, .null, .null, .null, .null, .int 0, .int 0, .int 0] shX7 z.2 := by
  refine pw_ofK (by decide) rfl (by decide) ?_
  intro h0 p e s m args below meth c A C hin hX hw ls hl
  obtain ⟨hx, hb, hr, hts, hown, hlk, hml, hK, hN⟩ := id C
  refine lv_aload_n hx hb dX7_init_0 rfl (lv_at hl 0 rfl) ?_
  refine W.objInit hx hb hown (hts _ ml_X7_3) (hts _ ko_inst) (hts _ ko_code) rfl (by rw [hml]; exact hl.1) rfl dX7_init_1 (by decide) (Nat.le_of_ble_eq_true rfl) ?_
  refine W.eq (g2 := F0 m 4 ls []) rfl ?_
  refine lv_aload_n hx hb dX7_init_4 rfl (lv_at hl 0 rfl) ?_
  refine lv_bipush (v := 32) hx hb dX7_init_5 (by decide) ?_
  refine r_newI C hw clsX7 hin 0 (by decide) (Nat.le_of_ble_eq_true rfl) rfl rfl rfl fl_X7_9 ka_int 32 (by decide) (by decide) (by decide) (by decide) (by decide) dX7_init_7 dX7_init_9 (fun q0 H locs hw => ?_)
  refine lv_aload_n hx hb dX7_init_12 rfl (lv_at hl 0 rfl) ?_
  refine lv_bipush (v := 32) hx hb dX7_init_13 (by decide) ?_
  refine r_newI C hw clsX7 hin 1 (by decide) (Nat.le_of_ble_eq_true rfl) rfl rfl rfl fl_X7_15 ka_int 32 (by decide) (by decide) (by decide) (by decide) (by decide) dX7_init_15 dX7_init_17 (fun q1 H locs hw => ?_)
  refine lv_aload_n hx hb dX7_init_20 rfl (lv_at hl 0 rfl) ?_
  refine lv_bipush (v := 32) hx hb dX7_init_21 (by decide) ?_
  refine r_newI C hw clsX7 hin 2 (by decide) (Nat.le_of_ble_eq_true rfl) rfl rfl rfl fl_X7_18 ka_int 32 (by decide) (by decide) (by decide) (by decide) (by decide) dX7_init_23 dX7_init_25 (fun q2 H locs hw => ?_)
  refine lv_aload_n hx hb dX7_init_28 rfl (lv_at hl 0 rfl) ?_
  refine lv_bipush (v := 60) hx hb dX7_init_29 (by decide) ?_
  refine r_newI C hw clsX7 hin 3 (by decide) (Nat.le_of_ble_eq_true rfl) rfl rfl rfl fl_X7_21 ka_int 60 (by decide) (by decide) (by decide) (by decide) (by decide) dX7_init_31 dX7_init_33 (fun q3 H locs hw => ?_)
  refine lv_aload_n hx hb dX7_init_36 rfl (lv_at hl 0 rfl) ?_
  refine lv_bipush (v := 60) hx hb dX7_init_37 (by decide) ?_
  refine r_newI C hw clsX7 hin 4 (by decide) (Nat.le_of_ble_eq_true rfl) rfl rfl rfl fl_X7_24 ka_int 60 (by decide) (by decide) (by decide) (by decide) (by decide) dX7_init_39 dX7_init_41 (fun q4 H locs hw => ?_)
  refine lv_aload_n hx hb dX7_init_44 rfl (lv_at hl 0 rfl) ?_
  refine lv_bipush (v := 60) hx hb dX7_init_45 (by decide) ?_
  refine r_newI C hw clsX7 hin 5 (by decide) (Nat.le_of_ble_eq_true rfl) rfl rfl rfl fl_X7_27 ka_int 60 (by decide) (by decide) (by decide) (by decide) (by decide) dX7_init_47 dX7_init_49 (fun q5 H locs hw => ?_)
  refine lv_aload_n hx hb dX7_init_52 rfl (lv_at hl 0 rfl) ?_
  refine lv_iconst (v := 2) hx hb dX7_init_53 (by decide) ?_
  refine r_newI C hw clsX7 hin 6 (by decide) (Nat.le_of_ble_eq_true rfl) rfl rfl rfl fl_X7_30 ka_int 2 (by decide) (by decide) (by decide) (by decide) (by decide) dX7_init_54 dX7_init_56 (fun q6 H locs hw => ?_)
  refine lv_aload_n hx hb dX7_init_59 rfl (lv_at hl 0 rfl) ?_
  refine lv_iconst (v := 2) hx hb dX7_init_60 (by decide) ?_
  refine r_newI C hw clsX7 hin 7 (by decide) (Nat.le_of_ble_eq_true rfl) rfl rfl rfl fl_X7_33 ka_int 2 (by decide) (by decide) (by decide) (by decide) (by decide) dX7_init_61 dX7_init_63 (fun q7 H locs hw => ?_)
  have hw : pw_H D (pw_w shX7 cI cZ (fun c => ([h0, q0, q1, q2, q3, q4, q5, q6, q7] : List Nat).getD c 0) (fun _ _ => 0)) A s.heap H locs := hw
  exact wX7_init_b66 (ad := (fun c => ([h0, q0, q1, q2, q3, q4, q5, q6, q7] : List Nat).getD c 0)) hX C _ _ _ _ hw (lv_sub hl [0] rfl) h
set_option maxRecDepth 100000 in
set_option maxHeartbeats 4000000 in
theorem wX8_init_b68 {p : Program} {l : Launch} {e : Env} {R : Room} {s : State} {m : MethodId} {args : Array Value} {below : List Frame} {meth : Method} {c : Code} {D : va_G} {cI cZ : ClassId} {ad : Nat → Nat} {A : Nat → Prop} {z : Int32 × St} {cells slots : Nat} (hX : pw_X A s) (C : pw_C p s m args meth c yX8_init.cls cX8_init 1 none D cI cZ) : ∀  (σ : St) (H : Heap) (locs : List Loc) (ls : Array Slot), pw_H D (pw_w shX8 cI cZ ad σ) A s.heap H locs → lv_has ls 1 [(0, .ref (ad 0))] → fX8_init_b68  σ = some z → W p l e R s m args below meth c H locs cells slots (pw_QK below args s D cI cZ shX8 z.2 (ad 0) A cells slots) (F0 m 68 ls []) := by
  obtain ⟨hx, hb, hr, hts, hown, hlk, hml, hK, hN⟩ := id C
  intro σ H locs ls hw hl h
  unfold fX8_init_b68 at h
  refine lv_aload_n hx hb dX8_init_68 rfl (lv_at hl 0 rfl) ?_
  refine lv_iconst (v := 0) hx hb dX8_init_69 (by decide) ?_
  refine r_put C hw qX8_0 clsX8 8 rfl (by decide) fl_X8_36 dX8_init_70 rfl rfl rfl h (fun σ1 H locs hw h => ?_)
  exact r_kret C hw dX8_init_73 h
set_option maxRecDepth 100000 in
set_option maxHeartbeats 4000000 in
theorem kX8_init (l : Launch) (D : va_G) (cI cZ : ClassId)  (z : Int32 × St) (h : fX8_init_b68 (fun _ _ => 0) = some z) : pw_MK l D cI cZ yX8_init cX8_init 1 (pw_rk 1 8 72) 8 72 8 [.null, .null, .null, .null, .null, .null, .null, .null, .int 0] shX8 z.2 := by
  refine pw_ofK (by decide) rfl (by decide) ?_
  intro h0 p e s m args below meth c A C hin hX hw ls hl
  obtain ⟨hx, hb, hr, hts, hown, hlk, hml, hK, hN⟩ := id C
  refine lv_aload_n hx hb dX8_init_0 rfl (lv_at hl 0 rfl) ?_
  refine W.objInit hx hb hown (hts _ ml_X8_3) (hts _ ko_inst) (hts _ ko_code) rfl (by rw [hml]; exact hl.1) rfl dX8_init_1 (by decide) (Nat.le_of_ble_eq_true rfl) ?_
  refine W.eq (g2 := F0 m 4 ls []) rfl ?_
  refine lv_aload_n hx hb dX8_init_4 rfl (lv_at hl 0 rfl) ?_
  refine lv_bipush (v := 8) hx hb dX8_init_5 (by decide) ?_
  refine r_newI C hw clsX8 hin 0 (by decide) (Nat.le_of_ble_eq_true rfl) rfl rfl rfl fl_X8_9 ka_int 8 (by decide) (by decide) (by decide) (by decide) (by decide) dX8_init_7 dX8_init_9 (fun q0 H locs hw => ?_)
  refine lv_aload_n hx hb dX8_init_12 rfl (lv_at hl 0 rfl) ?_
  refine lv_bipush (v := 8) hx hb dX8_init_13 (by decide) ?_
  refine r_newI C hw clsX8 hin 1 (by decide) (Nat.le_of_ble_eq_true rfl) rfl rfl rfl fl_X8_15 ka_int 8 (by decide) (by decide) (by decide) (by decide) (by decide) dX8_init_15 dX8_init_17 (fun q1 H locs hw => ?_)
  refine lv_aload_n hx hb dX8_init_20 rfl (lv_at hl 0 rfl) ?_
  refine lv_bipush (v := 8) hx hb dX8_init_21 (by decide) ?_
  refine r_newI C hw clsX8 hin 2 (by decide) (Nat.le_of_ble_eq_true rfl) rfl rfl rfl fl_X8_18 ka_int 8 (by decide) (by decide) (by decide) (by decide) (by decide) dX8_init_23 dX8_init_25 (fun q2 H locs hw => ?_)
  refine lv_aload_n hx hb dX8_init_28 rfl (lv_at hl 0 rfl) ?_
  refine lv_bipush (v := 8) hx hb dX8_init_29 (by decide) ?_
  refine r_newI C hw clsX8 hin 3 (by decide) (Nat.le_of_ble_eq_true rfl) rfl rfl rfl fl_X8_21 ka_int 8 (by decide) (by decide) (by decide) (by decide) (by decide) dX8_init_31 dX8_init_33 (fun q3 H locs hw => ?_)
  refine lv_aload_n hx hb dX8_init_36 rfl (lv_at hl 0 rfl) ?_
  refine lv_bipush (v := 8) hx hb dX8_init_37 (by decide) ?_
  refine r_newI C hw clsX8 hin 4 (by decide) (Nat.le_of_ble_eq_true rfl) rfl rfl rfl fl_X8_24 ka_int 8 (by decide) (by decide) (by decide) (by decide) (by decide) dX8_init_39 dX8_init_41 (fun q4 H locs hw => ?_)
  refine lv_aload_n hx hb dX8_init_44 rfl (lv_at hl 0 rfl) ?_
  refine lv_bipush (v := 8) hx hb dX8_init_45 (by decide) ?_
  refine r_newI C hw clsX8 hin 5 (by decide) (Nat.le_of_ble_eq_true rfl) rfl rfl rfl fl_X8_27 ka_int 8 (by decide) (by decide) (by decide) (by decide) (by decide) dX8_init_47 dX8_init_49 (fun q5 H locs hw => ?_)
  refine lv_aload_n hx hb dX8_init_52 rfl (lv_at hl 0 rfl) ?_
  refine lv_bipush (v := 12) hx hb dX8_init_53 (by decide) ?_
  refine r_newI C hw clsX8 hin 6 (by decide) (Nat.le_of_ble_eq_true rfl) rfl rfl rfl fl_X8_30 ka_int 12 (by decide) (by decide) (by decide) (by decide) (by decide) dX8_init_55 dX8_init_57 (fun q6 H locs hw => ?_)
  refine lv_aload_n hx hb dX8_init_60 rfl (lv_at hl 0 rfl) ?_
  refine lv_bipush (v := 12) hx hb dX8_init_61 (by decide) ?_
  refine r_newI C hw clsX8 hin 7 (by decide) (Nat.le_of_ble_eq_true rfl) rfl rfl rfl fl_X8_33 ka_int 12 (by decide) (by decide) (by decide) (by decide) (by decide) dX8_init_63 dX8_init_65 (fun q7 H locs hw => ?_)
  have hw : pw_H D (pw_w shX8 cI cZ (fun c => ([h0, q0, q1, q2, q3, q4, q5, q6, q7] : List Nat).getD c 0) (fun _ _ => 0)) A s.heap H locs := hw
  exact wX8_init_b68 (ad := (fun c => ([h0, q0, q1, q2, q3, q4, q5, q6, q7] : List Nat).getD c 0)) hX C _ _ _ _ hw (lv_sub hl [0] rfl) h
set_option maxRecDepth 100000 in
set_option maxHeartbeats 4000000 in
theorem wX9_init_b59 {p : Program} {l : Launch} {e : Env} {R : Room} {s : State} {m : MethodId} {args : Array Value} {below : List Frame} {meth : Method} {c : Code} {D : va_G} {cI cZ : ClassId} {ad : Nat → Nat} {A : Nat → Prop} {z : Int32 × St} {cells slots : Nat} (hX : pw_X A s) (C : pw_C p s m args meth c yX9_init.cls cX9_init 2 none D cI cZ) : ∀ (n : Nat) (x1 : Int32) (σ : St) (H : Heap) (locs : List Loc) (ls : Array Slot), pw_H D (pw_w shX9 cI cZ ad σ) A s.heap H locs → lv_has ls 2 [(0, .ref (ad 0)), (1, .int x1)] → fX9_init_b59 n x1 σ = some z → W p l e R s m args below meth c H locs cells slots (pw_QK below args s D cI cZ shX9 z.2 (ad 0) A cells slots) (F0 m 59 ls []) := by
  obtain ⟨hx, hb, hr, hts, hown, hlk, hml, hK, hN⟩ := id C
  intro n
  induction n with
  | zero =>
    intro x1 σ H locs ls hw hl h
    exact absurd h (by simp [fX9_init_b59])
  | succ n ih =>
    intro x1 σ H locs ls hw hl h
    rw [fX9_init_b59] at h
    refine lv_iload_n hx hb dX9_init_59 rfl (lv_at hl 1 rfl) ?_
    refine lv_iconst (v := 3) hx hb dX9_init_60 (by decide) ?_
    refine lv_icmp_ge (tgt := 77) hx hb dX9_init_61 (by decide) (fun hc => ?_) (fun hc => ?_)
    · replace h := pw_t hc h
      exact r_kret C hw dX9_init_77 h
    · replace h := pw_f hc h
      refine lv_aload_n hx hb dX9_init_64 rfl (lv_at hl 0 rfl) ?_
      refine r_get C hw qX9_0 clsX9 0 rfl (by decide) fl_X9_9 dX9_init_65 (v := .ref (ad 1)) rfl ?_
      refine lv_iload_n hx hb dX9_init_68 rfl (lv_at hl 1 rfl) ?_
      refine lv_iconst (v := 1) hx hb dX9_init_69 (by decide) ?_
      refine r_iast C hw qX9_1 dX9_init_70 h (fun σ1 H locs hw h => ?_)
      refine lv_iinc (v := (x1 + 1)) (lv' := [(1, .int (x1 + 1)), (0, .ref (ad 0))]) hx hb dX9_init_71 hl (k := 1) rfl rfl (by decide) rfl (fun ls hl => ?_)
      refine lv_goto (tgt := 59) hx hb dX9_init_74 (by decide) ?_
      exact ih _ _ _ _ _ hw (lv_sub hl [1, 0] rfl) h
set_option maxRecDepth 100000 in
set_option maxHeartbeats 4000000 in
theorem wX9_init_b42 {p : Program} {l : Launch} {e : Env} {R : Room} {s : State} {m : MethodId} {args : Array Value} {below : List Frame} {meth : Method} {c : Code} {D : va_G} {cI cZ : ClassId} {ad : Nat → Nat} {A : Nat → Prop} {z : Int32 × St} {cells slots : Nat} (hX : pw_X A s) (C : pw_C p s m args meth c yX9_init.cls cX9_init 2 none D cI cZ) : ∀  (σ : St) (H : Heap) (locs : List Loc) (ls : Array Slot), pw_H D (pw_w shX9 cI cZ ad σ) A s.heap H locs → lv_has ls 2 [(0, .ref (ad 0))] → fX9_init_b42  σ = some z → W p l e R s m args below meth c H locs cells slots (pw_QK below args s D cI cZ shX9 z.2 (ad 0) A cells slots) (F0 m 42 ls []) := by
  obtain ⟨hx, hb, hr, hts, hown, hlk, hml, hK, hN⟩ := id C
  intro σ H locs ls hw hl h
  unfold fX9_init_b42 at h
  refine lv_aload_n hx hb dX9_init_42 rfl (lv_at hl 0 rfl) ?_
  refine lv_iconst (v := 0) hx hb dX9_init_43 (by decide) ?_
  refine r_put C hw qX9_0 clsX9 5 rfl (by decide) fl_X9_27 dX9_init_44 rfl rfl rfl h (fun σ2 H locs hw h => ?_)
  refine lv_aload_n hx hb dX9_init_47 rfl (lv_at hl 0 rfl) ?_
  refine lv_iconst (v := 0) hx hb dX9_init_48 (by decide) ?_
  refine r_put C hw qX9_0 clsX9 6 rfl (by decide) fl_X9_31 dX9_init_49 rfl rfl rfl h (fun σ3 H locs hw h => ?_)
  refine lv_aload_n hx hb dX9_init_52 rfl (lv_at hl 0 rfl) ?_
  refine lv_iconst (v := 1) hx hb dX9_init_53 (by decide) ?_
  refine r_put C hw qX9_0 clsX9 7 rfl (by decide) fl_X9_34 dX9_init_54 rfl rfl rfl h (fun σ4 H locs hw h => ?_)
  refine lv_iconst (v := 0) hx hb dX9_init_57 (by decide) ?_
  refine lv_istore_n (lv' := [(1, .int 0), (0, .ref (ad 0))]) hx hb dX9_init_58 rfl hl (by decide) rfl (fun ls hl => ?_)
  exact wX9_init_b59 hX C  _ _ _ _ _ _ hw (lv_sub hl [1, 0] rfl) h
set_option maxRecDepth 100000 in
set_option maxHeartbeats 4000000 in
theorem kX9_init (l : Launch) (D : va_G) (cI cZ : ClassId)  (z : Int32 × St) (h : fX9_init_b42 (fun _ _ => 0) = some z) : pw_MK l D cI cZ yX9_init cX9_init 2 (pw_rk 1 5 30) 5 30 9 [.null, .null, .null, .null, .null, .int 0, .int 0, .int 0] shX9 z.2 := by
  refine pw_ofK (by decide) rfl (by decide) ?_
  intro h0 p e s m args below meth c A C hin hX hw ls hl
  obtain ⟨hx, hb, hr, hts, hown, hlk, hml, hK, hN⟩ := id C
  refine lv_aload_n hx hb dX9_init_0 rfl (lv_at hl 0 rfl) ?_
  refine W.objInit hx hb hown (hts _ ml_X9_3) (hts _ ko_inst) (hts _ ko_code) rfl (by rw [hml]; exact hl.1) rfl dX9_init_1 (by decide) (Nat.le_of_ble_eq_true rfl) ?_
  refine W.eq (g2 := F0 m 4 ls []) rfl ?_
  refine lv_aload_n hx hb dX9_init_4 rfl (lv_at hl 0 rfl) ?_
  refine lv_iconst (v := 3) hx hb dX9_init_5 (by decide) ?_
  refine r_newI C hw clsX9 hin 0 (by decide) (Nat.le_of_ble_eq_true rfl) rfl rfl rfl fl_X9_9 ka_int 3 (by decide) (by decide) (by decide) (by decide) (by decide) dX9_init_6 dX9_init_8 (fun q0 H locs hw => ?_)
  refine lv_aload_n hx hb dX9_init_11 rfl (lv_at hl 0 rfl) ?_
  refine lv_bipush (v := 8) hx hb dX9_init_12 (by decide) ?_
  refine r_newI C hw clsX9 hin 1 (by decide) (Nat.le_of_ble_eq_true rfl) rfl rfl rfl fl_X9_15 ka_int 8 (by decide) (by decide) (by decide) (by decide) (by decide) dX9_init_14 dX9_init_16 (fun q1 H locs hw => ?_)
  refine lv_aload_n hx hb dX9_init_19 rfl (lv_at hl 0 rfl) ?_
  refine lv_bipush (v := 8) hx hb dX9_init_20 (by decide) ?_
  refine r_newI C hw clsX9 hin 2 (by decide) (Nat.le_of_ble_eq_true rfl) rfl rfl rfl fl_X9_18 ka_int 8 (by decide) (by decide) (by decide) (by decide) (by decide) dX9_init_22 dX9_init_24 (fun q2 H locs hw => ?_)
  refine lv_aload_n hx hb dX9_init_27 rfl (lv_at hl 0 rfl) ?_
  refine lv_bipush (v := 8) hx hb dX9_init_28 (by decide) ?_
  refine r_newI C hw clsX9 hin 3 (by decide) (Nat.le_of_ble_eq_true rfl) rfl rfl rfl fl_X9_21 ka_int 8 (by decide) (by decide) (by decide) (by decide) (by decide) dX9_init_30 dX9_init_32 (fun q3 H locs hw => ?_)
  refine lv_aload_n hx hb dX9_init_35 rfl (lv_at hl 0 rfl) ?_
  refine lv_iconst (v := 3) hx hb dX9_init_36 (by decide) ?_
  refine r_newI C hw clsX9 hin 4 (by decide) (Nat.le_of_ble_eq_true rfl) rfl rfl rfl fl_X9_24 ka_int 3 (by decide) (by decide) (by decide) (by decide) (by decide) dX9_init_37 dX9_init_39 (fun q4 H locs hw => ?_)
  have hw : pw_H D (pw_w shX9 cI cZ (fun c => ([h0, q0, q1, q2, q3, q4] : List Nat).getD c 0) (fun _ _ => 0)) A s.heap H locs := hw
  exact wX9_init_b42 (ad := (fun c => ([h0, q0, q1, q2, q3, q4] : List Nat).getD c 0)) hX C _ _ _ _ hw (lv_sub hl [0] rfl) h
set_option maxRecDepth 100000 in
set_option maxHeartbeats 4000000 in
theorem wX11_init_b457 {p : Program} {l : Launch} {e : Env} {R : Room} {s : State} {m : MethodId} {args : Array Value} {below : List Frame} {meth : Method} {c : Code} {D : va_G} {cI cZ : ClassId} {ad : Nat → Nat} {A : Nat → Prop} {z : Int32 × St} {cells slots : Nat} (hX : pw_X A s) (C : pw_C p s m args meth c yX11_init.cls cX11_init 2 none D cI cZ) : ∀ (n : Nat) (x1 : Int32) (σ : St) (H : Heap) (locs : List Loc) (ls : Array Slot), pw_H D (pw_w shM cI cZ ad σ) A s.heap H locs → lv_has ls 2 [(0, .ref (ad 0)), (1, .int x1)] → fX11_init_b457 n x1 σ = some z → W p l e R s m args below meth c H locs cells slots (pw_QK below args s D cI cZ shM z.2 (ad 0) A cells slots) (F0 m 457 ls []) := by
  obtain ⟨hx, hb, hr, hts, hown, hlk, hml, hK, hN⟩ := id C
  intro n
  induction n with
  | zero =>
    intro x1 σ H locs ls hw hl h
    exact absurd h (by simp [fX11_init_b457])
  | succ n ih =>
    intro x1 σ H locs ls hw hl h
    rw [fX11_init_b457] at h
    refine lv_iload_n hx hb dX11_init_457 rfl (lv_at hl 1 rfl) ?_
    refine lv_iconst (v := 3) hx hb dX11_init_458 (by decide) ?_
    refine lv_icmp_ge (tgt := 475) hx hb dX11_init_459 (by decide) (fun hc => ?_) (fun hc => ?_)
    · replace h := pw_t hc h
      exact r_kret C hw dX11_init_475 h
    · replace h := pw_f hc h
      refine lv_aload_n hx hb dX11_init_462 rfl (lv_at hl 0 rfl) ?_
      refine r_get C hw qM_0 clsX11 36 rfl (by decide) fl_X11_89 dX11_init_463 (v := .ref (ad 27)) rfl ?_
      refine lv_iload_n hx hb dX11_init_466 rfl (lv_at hl 1 rfl) ?_
      refine lv_iconst (v := 1) hx hb dX11_init_467 (by decide) ?_
      refine r_iast C hw qM_27 dX11_init_468 h (fun σ1 H locs hw h => ?_)
      refine lv_iinc (v := (x1 + 1)) (lv' := [(1, .int (x1 + 1)), (0, .ref (ad 0))]) hx hb dX11_init_469 hl (k := 1) rfl rfl (by decide) rfl (fun ls hl => ?_)
      refine lv_goto (tgt := 457) hx hb dX11_init_472 (by decide) ?_
      exact ih _ _ _ _ _ hw (lv_sub hl [1, 0] rfl) h
set_option maxRecDepth 100000 in
set_option maxHeartbeats 4000000 in
theorem wX11_init_b419 {p : Program} {l : Launch} {e : Env} {R : Room} {s : State} {m : MethodId} {args : Array Value} {below : List Frame} {meth : Method} {c : Code} {D : va_G} {cI cZ : ClassId} {ad : Nat → Nat} {A : Nat → Prop} {z : Int32 × St} {cells slots : Nat} (hX : pw_X A s) (C : pw_C p s m args meth c yX11_init.cls cX11_init 2 none D cI cZ) : ∀ (n : Nat) (x1 : Int32) (σ : St) (H : Heap) (locs : List Loc) (ls : Array Slot), pw_H D (pw_w shM cI cZ ad σ) A s.heap H locs → lv_has ls 2 [(0, .ref (ad 0)), (1, .int x1)] → fX11_init_b419 n x1 σ = some z → W p l e R s m args below meth c H locs cells slots (pw_QK below args s D cI cZ shM z.2 (ad 0) A cells slots) (F0 m 419 ls []) := by
  obtain ⟨hx, hb, hr, hts, hown, hlk, hml, hK, hN⟩ := id C
  intro n
  induction n with
  | zero =>
    intro x1 σ H locs ls hw hl h
    exact absurd h (by simp [fX11_init_b419])
  | succ n ih =>
    intro x1 σ H locs ls hw hl h
    rw [fX11_init_b419] at h
    refine lv_iload_n hx hb dX11_init_419 rfl (lv_at hl 1 rfl) ?_
    refine lv_bipush (v := 12) hx hb dX11_init_420 (by decide) ?_
    refine lv_icmp_ge (tgt := 455) hx hb dX11_init_422 (by decide) (fun hc => ?_) (fun hc => ?_)
    · replace h := pw_t hc h
      refine lv_iconst (v := 0) hx hb dX11_init_455 (by decide) ?_
      refine lv_istore_n (lv' := [(1, .int 0), (0, .ref (ad 0))]) hx hb dX11_init_456 rfl hl (by decide) rfl (fun ls hl => ?_)
      exact wX11_init_b457 hX C  _ _ _ _ _ _ hw (lv_sub hl [1, 0] rfl) h
    · replace h := pw_f hc h
      refine lv_aload_n hx hb dX11_init_425 rfl (lv_at hl 0 rfl) ?_
      refine r_get C hw qM_0 clsX11 12 rfl (by decide) fl_X11_46 dX11_init_426 (v := .ref (ad 13)) rfl ?_
      refine lv_iload_n hx hb dX11_init_429 rfl (lv_at hl 1 rfl) ?_
      refine lv_bipush (v := 10) hx hb dX11_init_430 (by decide) ?_
      refine r_iast C hw qM_13 dX11_init_432 h (fun σ2 H locs hw h => ?_)
      refine lv_aload_n hx hb dX11_init_433 rfl (lv_at hl 0 rfl) ?_
      refine r_get C hw qM_0 clsX11 13 rfl (by decide) fl_X11_49 dX11_init_434 (v := .ref (ad 14)) rfl ?_
      refine lv_iload_n hx hb dX11_init_437 rfl (lv_at hl 1 rfl) ?_
      refine lv_bipush (v := 20) hx hb dX11_init_438 (by decide) ?_
      refine r_iast C hw qM_14 dX11_init_440 h (fun σ3 H locs hw h => ?_)
      refine lv_aload_n hx hb dX11_init_441 rfl (lv_at hl 0 rfl) ?_
      refine r_get C hw qM_0 clsX11 14 rfl (by decide) fl_X11_52 dX11_init_442 (v := .ref (ad 15)) rfl ?_
      refine lv_iload_n hx hb dX11_init_445 rfl (lv_at hl 1 rfl) ?_
      refine lv_bipush (v := (-9)) hx hb dX11_init_446 (by decide) ?_
      refine r_iast C hw qM_15 dX11_init_448 h (fun σ4 H locs hw h => ?_)
      refine lv_iinc (v := (x1 + 1)) (lv' := [(1, .int (x1 + 1)), (0, .ref (ad 0))]) hx hb dX11_init_449 hl (k := 1) rfl rfl (by decide) rfl (fun ls hl => ?_)
      refine lv_goto (tgt := 419) hx hb dX11_init_452 (by decide) ?_
      exact ih _ _ _ _ _ hw (lv_sub hl [1, 0] rfl) h
set_option maxRecDepth 100000 in
set_option maxHeartbeats 4000000 in
theorem wX11_init_b357 {p : Program} {l : Launch} {e : Env} {R : Room} {s : State} {m : MethodId} {args : Array Value} {below : List Frame} {meth : Method} {c : Code} {D : va_G} {cI cZ : ClassId} {ad : Nat → Nat} {A : Nat → Prop} {z : Int32 × St} {cells slots : Nat} (hX : pw_X A s) (C : pw_C p s m args meth c yX11_init.cls cX11_init 2 none D cI cZ) : ∀ (n : Nat) (x1 : Int32) (σ : St) (H : Heap) (locs : List Loc) (ls : Array Slot), pw_H D (pw_w shM cI cZ ad σ) A s.heap H locs → lv_has ls 2 [(0, .ref (ad 0)), (1, .int x1)] → fX11_init_b357 n x1 σ = some z → W p l e R s m args below meth c H locs cells slots (pw_QK below args s D cI cZ shM z.2 (ad 0) A cells slots) (F0 m 357 ls []) := by
  obtain ⟨hx, hb, hr, hts, hown, hlk, hml, hK, hN⟩ := id C
  intro n
  induction n with
  | zero =>
    intro x1 σ H locs ls hw hl h
    exact absurd h (by simp [fX11_init_b357])
  | succ n ih =>
    intro x1 σ H locs ls hw hl h
    rw [fX11_init_b357] at h
    refine lv_iload_n hx hb dX11_init_357 rfl (lv_at hl 1 rfl) ?_
    refine lv_bipush (v := 6) hx hb dX11_init_358 (by decide) ?_
    refine lv_icmp_ge (tgt := 417) hx hb dX11_init_360 (by decide) (fun hc => ?_) (fun hc => ?_)
    · replace h := pw_t hc h
      refine lv_iconst (v := 0) hx hb dX11_init_417 (by decide) ?_
      refine lv_istore_n (lv' := [(1, .int 0), (0, .ref (ad 0))]) hx hb dX11_init_418 rfl hl (by decide) rfl (fun ls hl => ?_)
      exact wX11_init_b419 hX C  _ _ _ _ _ _ hw (lv_sub hl [1, 0] rfl) h
    · replace h := pw_f hc h
      refine lv_aload_n hx hb dX11_init_363 rfl (lv_at hl 0 rfl) ?_
      refine r_get C hw qM_0 clsX11 1 rfl (by decide) fl_X11_13 dX11_init_364 (v := .ref (ad 2)) rfl ?_
      refine lv_iconst (v := 4) hx hb dX11_init_367 (by decide) ?_
      refine lv_iload_n hx hb dX11_init_368 rfl (lv_at hl 1 rfl) ?_
      refine lv_imul hx hb dX11_init_369 ?_
      refine lv_bipush (v := 30) hx hb dX11_init_370 (by decide) ?_
      refine r_iast C hw qM_2 dX11_init_372 h (fun σ5 H locs hw h => ?_)
      refine lv_aload_n hx hb dX11_init_373 rfl (lv_at hl 0 rfl) ?_
      refine r_get C hw qM_0 clsX11 1 rfl (by decide) fl_X11_13 dX11_init_374 (v := .ref (ad 2)) rfl ?_
      refine lv_iconst (v := 4) hx hb dX11_init_377 (by decide) ?_
      refine lv_iload_n hx hb dX11_init_378 rfl (lv_at hl 1 rfl) ?_
      refine lv_imul hx hb dX11_init_379 ?_
      refine lv_iconst (v := 1) hx hb dX11_init_380 (by decide) ?_
      refine lv_iadd hx hb dX11_init_381 ?_
      refine lv_bipush (v := 120) hx hb dX11_init_382 (by decide) ?_
      refine r_iast C hw qM_2 dX11_init_384 h (fun σ6 H locs hw h => ?_)
      refine lv_aload_n hx hb dX11_init_385 rfl (lv_at hl 0 rfl) ?_
      refine r_get C hw qM_0 clsX11 1 rfl (by decide) fl_X11_13 dX11_init_386 (v := .ref (ad 2)) rfl ?_
      refine lv_iconst (v := 4) hx hb dX11_init_389 (by decide) ?_
      refine lv_iload_n hx hb dX11_init_390 rfl (lv_at hl 1 rfl) ?_
      refine lv_imul hx hb dX11_init_391 ?_
      refine lv_iconst (v := 2) hx hb dX11_init_392 (by decide) ?_
      refine lv_iadd hx hb dX11_init_393 ?_
      refine lv_sipush (v := 1200) hx hb dX11_init_394 (by decide) ?_
      refine r_iast C hw qM_2 dX11_init_397 h (fun σ7 H locs hw h => ?_)
      refine lv_aload_n hx hb dX11_init_398 rfl (lv_at hl 0 rfl) ?_
      refine r_get C hw qM_0 clsX11 1 rfl (by decide) fl_X11_13 dX11_init_399 (v := .ref (ad 2)) rfl ?_
      refine lv_iconst (v := 4) hx hb dX11_init_402 (by decide) ?_
      refine lv_iload_n hx hb dX11_init_403 rfl (lv_at hl 1 rfl) ?_
      refine lv_imul hx hb dX11_init_404 ?_
      refine lv_iconst (v := 3) hx hb dX11_init_405 (by decide) ?_
      refine lv_iadd hx hb dX11_init_406 ?_
      refine lv_sipush (v := 1400) hx hb dX11_init_407 (by decide) ?_
      refine r_iast C hw qM_2 dX11_init_410 h (fun σ8 H locs hw h => ?_)
      refine lv_iinc (v := (x1 + 1)) (lv' := [(1, .int (x1 + 1)), (0, .ref (ad 0))]) hx hb dX11_init_411 hl (k := 1) rfl rfl (by decide) rfl (fun ls hl => ?_)
      refine lv_goto (tgt := 357) hx hb dX11_init_414 (by decide) ?_
      exact ih _ _ _ _ _ hw (lv_sub hl [1, 0] rfl) h
set_option maxRecDepth 100000 in
set_option maxHeartbeats 4000000 in
theorem wX11_init_b355 {p : Program} {l : Launch} {e : Env} {R : Room} {s : State} {m : MethodId} {args : Array Value} {below : List Frame} {meth : Method} {c : Code} {D : va_G} {cI cZ : ClassId} {ad : Nat → Nat} {A : Nat → Prop} {z : Int32 × St} {cells slots : Nat} (hX : pw_X A s) (C : pw_C p s m args meth c yX11_init.cls cX11_init 2 none D cI cZ) : ∀  (σ : St) (H : Heap) (locs : List Loc) (ls : Array Slot), pw_H D (pw_w shM cI cZ ad σ) A s.heap H locs → lv_has ls 2 [(0, .ref (ad 0))] → fX11_init_b355  σ = some z → W p l e R s m args below meth c H locs cells slots (pw_QK below args s D cI cZ shM z.2 (ad 0) A cells slots) (F0 m 355 ls []) := by
  obtain ⟨hx, hb, hr, hts, hown, hlk, hml, hK, hN⟩ := id C
  intro σ H locs ls hw hl h
  unfold fX11_init_b355 at h
  refine lv_iconst (v := 0) hx hb dX11_init_355 (by decide) ?_
  refine lv_istore_n (lv' := [(1, .int 0), (0, .ref (ad 0))]) hx hb dX11_init_356 rfl hl (by decide) rfl (fun ls hl => ?_)
  exact wX11_init_b357 hX C  _ _ _ _ _ _ hw (lv_sub hl [1, 0] rfl) h
set_option maxRecDepth 100000 in
set_option maxHeartbeats 4000000 in
theorem kX11_init (l : Launch) (D : va_G) (cI cZ : ClassId)  (z : Int32 × St) (h : fX11_init_b355 (fun _ _ => 0) = some z) : pw_MK l D cI cZ yX11_init cX11_init 2 (pw_rk 1 44 38405) 44 38405 11 [.null, .null, .null, .null, .null, .null, .null, .null, .null, .null, .null, .null, .null, .null, .null, .null, .int 0, .int 0, .int 0, .int 0, .int 0, .int 0, .int 0, .int 0, .int 0, .int 0, .null, .null, .null, .null, .null, .null, .null, .null, .null, .null, .null, .null, .null, .null, .null, .null, .null, .null, .null, .null, .null, .null, .null, .null, .null, .null, .null, .null] shM z.2 := by
  refine pw_ofK (by decide) rfl (by decide) ?_
  intro h0 p e s m args below meth c A C hin hX hw ls hl
  obtain ⟨hx, hb, hr, hts, hown, hlk, hml, hK, hN⟩ := id C
  refine lv_aload_n hx hb dX11_init_0 rfl (lv_at hl 0 rfl) ?_
  refine W.objInit hx hb hown (hts _ ml_X11_1) (hts _ ko_inst) (hts _ ko_code) rfl (by rw [hml]; exact hl.1) rfl dX11_init_1 (by decide) (Nat.le_of_ble_eq_true rfl) ?_
  refine W.eq (g2 := F0 m 4 ls []) rfl ?_
  refine lv_aload_n hx hb dX11_init_4 rfl (lv_at hl 0 rfl) ?_
  refine lv_bipush (v := 7) hx hb dX11_init_5 (by decide) ?_
  refine r_newI C hw clsX11 hin 0 (by decide) (Nat.le_of_ble_eq_true rfl) rfl rfl rfl fl_X11_7 ka_int 7 (by decide) (by decide) (by decide) (by decide) (by decide) dX11_init_7 dX11_init_9 (fun q0 H locs hw => ?_)
  refine lv_aload_n hx hb dX11_init_12 rfl (lv_at hl 0 rfl) ?_
  refine lv_bipush (v := 24) hx hb dX11_init_13 (by decide) ?_
  refine r_newI C hw clsX11 hin 1 (by decide) (Nat.le_of_ble_eq_true rfl) rfl rfl rfl fl_X11_13 ka_int 24 (by decide) (by decide) (by decide) (by decide) (by decide) dX11_init_15 dX11_init_17 (fun q1 H locs hw => ?_)
  refine lv_aload_n hx hb dX11_init_20 rfl (lv_at hl 0 rfl) ?_
  refine lv_bipush (v := 20) hx hb dX11_init_21 (by decide) ?_
  refine r_newI C hw clsX11 hin 2 (by decide) (Nat.le_of_ble_eq_true rfl) rfl rfl rfl fl_X11_16 ka_int 20 (by decide) (by decide) (by decide) (by decide) (by decide) dX11_init_23 dX11_init_25 (fun q2 H locs hw => ?_)
  refine lv_aload_n hx hb dX11_init_28 rfl (lv_at hl 0 rfl) ?_
  refine lv_bipush (v := 20) hx hb dX11_init_29 (by decide) ?_
  refine r_newI C hw clsX11 hin 3 (by decide) (Nat.le_of_ble_eq_true rfl) rfl rfl rfl fl_X11_19 ka_int 20 (by decide) (by decide) (by decide) (by decide) (by decide) dX11_init_31 dX11_init_33 (fun q3 H locs hw => ?_)
  refine lv_aload_n hx hb dX11_init_36 rfl (lv_at hl 0 rfl) ?_
  refine lv_bipush (v := 20) hx hb dX11_init_37 (by decide) ?_
  refine r_newI C hw clsX11 hin 4 (by decide) (Nat.le_of_ble_eq_true rfl) rfl rfl rfl fl_X11_22 ka_int 20 (by decide) (by decide) (by decide) (by decide) (by decide) dX11_init_39 dX11_init_41 (fun q4 H locs hw => ?_)
  refine lv_aload_n hx hb dX11_init_44 rfl (lv_at hl 0 rfl) ?_
  refine lv_bipush (v := 80) hx hb dX11_init_45 (by decide) ?_
  refine r_newI C hw clsX11 hin 5 (by decide) (Nat.le_of_ble_eq_true rfl) rfl rfl rfl fl_X11_25 ka_int 80 (by decide) (by decide) (by decide) (by decide) (by decide) dX11_init_47 dX11_init_49 (fun q5 H locs hw => ?_)
  refine lv_aload_n hx hb dX11_init_52 rfl (lv_at hl 0 rfl) ?_
  refine lv_bipush (v := 80) hx hb dX11_init_53 (by decide) ?_
  refine r_newI C hw clsX11 hin 6 (by decide) (Nat.le_of_ble_eq_true rfl) rfl rfl rfl fl_X11_28 ka_int 80 (by decide) (by decide) (by decide) (by decide) (by decide) dX11_init_55 dX11_init_57 (fun q6 H locs hw => ?_)
  refine lv_aload_n hx hb dX11_init_60 rfl (lv_at hl 0 rfl) ?_
  refine lv_bipush (v := 80) hx hb dX11_init_61 (by decide) ?_
  refine r_newI C hw clsX11 hin 7 (by decide) (Nat.le_of_ble_eq_true rfl) rfl rfl rfl fl_X11_31 ka_int 80 (by decide) (by decide) (by decide) (by decide) (by decide) dX11_init_63 dX11_init_65 (fun q7 H locs hw => ?_)
  refine lv_aload_n hx hb dX11_init_68 rfl (lv_at hl 0 rfl) ?_
  refine lv_bipush (v := 80) hx hb dX11_init_69 (by decide) ?_
  refine r_newI C hw clsX11 hin 8 (by decide) (Nat.le_of_ble_eq_true rfl) rfl rfl rfl fl_X11_34 ka_int 80 (by decide) (by decide) (by decide) (by decide) (by decide) dX11_init_71 dX11_init_73 (fun q8 H locs hw => ?_)
  refine lv_aload_n hx hb dX11_init_76 rfl (lv_at hl 0 rfl) ?_
  refine lv_bipush (v := 80) hx hb dX11_init_77 (by decide) ?_
  refine r_newI C hw clsX11 hin 9 (by decide) (Nat.le_of_ble_eq_true rfl) rfl rfl rfl fl_X11_37 ka_int 80 (by decide) (by decide) (by decide) (by decide) (by decide) dX11_init_79 dX11_init_81 (fun q9 H locs hw => ?_)
  refine lv_aload_n hx hb dX11_init_84 rfl (lv_at hl 0 rfl) ?_
  refine lv_bipush (v := 80) hx hb dX11_init_85 (by decide) ?_
  refine r_newI C hw clsX11 hin 10 (by decide) (Nat.le_of_ble_eq_true rfl) rfl rfl rfl fl_X11_40 ka_int 80 (by decide) (by decide) (by decide) (by decide) (by decide) dX11_init_87 dX11_init_89 (fun q10 H locs hw => ?_)
  refine lv_aload_n hx hb dX11_init_92 rfl (lv_at hl 0 rfl) ?_
  refine lv_bipush (v := 80) hx hb dX11_init_93 (by decide) ?_
  refine r_newI C hw clsX11 hin 11 (by decide) (Nat.le_of_ble_eq_true rfl) rfl rfl rfl fl_X11_43 ka_int 80 (by decide) (by decide) (by decide) (by decide) (by decide) dX11_init_95 dX11_init_97 (fun q11 H locs hw => ?_)
  refine lv_aload_n hx hb dX11_init_100 rfl (lv_at hl 0 rfl) ?_
  refine lv_bipush (v := 12) hx hb dX11_init_101 (by decide) ?_
  refine r_newI C hw clsX11 hin 12 (by decide) (Nat.le_of_ble_eq_true rfl) rfl rfl rfl fl_X11_46 ka_int 12 (by decide) (by decide) (by decide) (by decide) (by decide) dX11_init_103 dX11_init_105 (fun q12 H locs hw => ?_)
  refine lv_aload_n hx hb dX11_init_108 rfl (lv_at hl 0 rfl) ?_
  refine lv_bipush (v := 12) hx hb dX11_init_109 (by decide) ?_
  refine r_newI C hw clsX11 hin 13 (by decide) (Nat.le_of_ble_eq_true rfl) rfl rfl rfl fl_X11_49 ka_int 12 (by decide) (by decide) (by decide) (by decide) (by decide) dX11_init_111 dX11_init_113 (fun q13 H locs hw => ?_)
  refine lv_aload_n hx hb dX11_init_116 rfl (lv_at hl 0 rfl) ?_
  refine lv_bipush (v := 12) hx hb dX11_init_117 (by decide) ?_
  refine r_newI C hw clsX11 hin 14 (by decide) (Nat.le_of_ble_eq_true rfl) rfl rfl rfl fl_X11_52 ka_int 12 (by decide) (by decide) (by decide) (by decide) (by decide) dX11_init_119 dX11_init_121 (fun q14 H locs hw => ?_)
  refine lv_aload_n hx hb dX11_init_124 rfl (lv_at hl 0 rfl) ?_
  refine lv_bipush (v := 48) hx hb dX11_init_125 (by decide) ?_
  refine r_newI C hw clsX11 hin 15 (by decide) (Nat.le_of_ble_eq_true rfl) rfl rfl rfl fl_X11_55 ka_int 48 (by decide) (by decide) (by decide) (by decide) (by decide) dX11_init_127 dX11_init_129 (fun q15 H locs hw => ?_)
  refine lv_aload_n hx hb dX11_init_132 rfl (lv_at hl 0 rfl) ?_
  refine lv_bipush (v := 12) hx hb dX11_init_133 (by decide) ?_
  refine r_newI C hw clsX11 hin 26 (by decide) (Nat.le_of_ble_eq_true rfl) rfl rfl rfl fl_X11_58 ka_int 12 (by decide) (by decide) (by decide) (by decide) (by decide) dX11_init_135 dX11_init_137 (fun q26 H locs hw => ?_)
  refine lv_aload_n hx hb dX11_init_140 rfl (lv_at hl 0 rfl) ?_
  refine lv_bipush (v := 12) hx hb dX11_init_141 (by decide) ?_
  refine r_newI C hw clsX11 hin 27 (by decide) (Nat.le_of_ble_eq_true rfl) rfl rfl rfl fl_X11_61 ka_int 12 (by decide) (by decide) (by decide) (by decide) (by decide) dX11_init_143 dX11_init_145 (fun q27 H locs hw => ?_)
  refine lv_aload_n hx hb dX11_init_148 rfl (lv_at hl 0 rfl) ?_
  refine lv_bipush (v := 12) hx hb dX11_init_149 (by decide) ?_
  refine r_newI C hw clsX11 hin 28 (by decide) (Nat.le_of_ble_eq_true rfl) rfl rfl rfl fl_X11_64 ka_int 12 (by decide) (by decide) (by decide) (by decide) (by decide) dX11_init_151 dX11_init_153 (fun q28 H locs hw => ?_)
  refine lv_aload_n hx hb dX11_init_156 rfl (lv_at hl 0 rfl) ?_
  refine lv_bipush (v := 8) hx hb dX11_init_157 (by decide) ?_
  refine r_newI C hw clsX11 hin 29 (by decide) (Nat.le_of_ble_eq_true rfl) rfl rfl rfl fl_X11_67 ka_int 8 (by decide) (by decide) (by decide) (by decide) (by decide) dX11_init_159 dX11_init_161 (fun q29 H locs hw => ?_)
  refine lv_aload_n hx hb dX11_init_164 rfl (lv_at hl 0 rfl) ?_
  refine lv_bipush (v := 8) hx hb dX11_init_165 (by decide) ?_
  refine r_newI C hw clsX11 hin 30 (by decide) (Nat.le_of_ble_eq_true rfl) rfl rfl rfl fl_X11_70 ka_int 8 (by decide) (by decide) (by decide) (by decide) (by decide) dX11_init_167 dX11_init_169 (fun q30 H locs hw => ?_)
  refine lv_aload_n hx hb dX11_init_172 rfl (lv_at hl 0 rfl) ?_
  refine lv_ldc (v := 36864) hx hb hown (hts _ ct_X11_73) dX11_init_173 ?_
  refine r_newI C hw clsX11 hin 31 (by decide) (Nat.le_of_ble_eq_true rfl) rfl rfl rfl fl_X11_74 ka_int 36864 (by decide) (by decide) (by decide) (by decide) (by decide) dX11_init_175 dX11_init_177 (fun q31 H locs hw => ?_)
  refine lv_aload_n hx hb dX11_init_180 rfl (lv_at hl 0 rfl) ?_
  refine lv_bipush (v := 8) hx hb dX11_init_181 (by decide) ?_
  refine r_newI C hw clsX11 hin 32 (by decide) (Nat.le_of_ble_eq_true rfl) rfl rfl rfl fl_X11_77 ka_int 8 (by decide) (by decide) (by decide) (by decide) (by decide) dX11_init_183 dX11_init_185 (fun q32 H locs hw => ?_)
  refine lv_aload_n hx hb dX11_init_188 rfl (lv_at hl 0 rfl) ?_
  refine lv_bipush (v := 12) hx hb dX11_init_189 (by decide) ?_
  refine r_newI C hw clsX11 hin 33 (by decide) (Nat.le_of_ble_eq_true rfl) rfl rfl rfl fl_X11_80 ka_int 12 (by decide) (by decide) (by decide) (by decide) (by decide) dX11_init_191 dX11_init_193 (fun q33 H locs hw => ?_)
  refine lv_aload_n hx hb dX11_init_196 rfl (lv_at hl 0 rfl) ?_
  refine lv_bipush (v := 12) hx hb dX11_init_197 (by decide) ?_
  refine r_newI C hw clsX11 hin 34 (by decide) (Nat.le_of_ble_eq_true rfl) rfl rfl rfl fl_X11_83 ka_int 12 (by decide) (by decide) (by decide) (by decide) (by decide) dX11_init_199 dX11_init_201 (fun q34 H locs hw => ?_)
  refine lv_aload_n hx hb dX11_init_204 rfl (lv_at hl 0 rfl) ?_
  refine lv_bipush (v := 12) hx hb dX11_init_205 (by decide) ?_
  refine r_newI C hw clsX11 hin 35 (by decide) (Nat.le_of_ble_eq_true rfl) rfl rfl rfl fl_X11_86 ka_int 12 (by decide) (by decide) (by decide) (by decide) (by decide) dX11_init_207 dX11_init_209 (fun q35 H locs hw => ?_)
  refine lv_aload_n hx hb dX11_init_212 rfl (lv_at hl 0 rfl) ?_
  refine lv_iconst (v := 3) hx hb dX11_init_213 (by decide) ?_
  refine r_newI C hw clsX11 hin 36 (by decide) (Nat.le_of_ble_eq_true rfl) rfl rfl rfl fl_X11_89 ka_int 3 (by decide) (by decide) (by decide) (by decide) (by decide) dX11_init_214 dX11_init_216 (fun q36 H locs hw => ?_)
  refine lv_aload_n hx hb dX11_init_219 rfl (lv_at hl 0 rfl) ?_
  refine lv_bipush (v := 8) hx hb dX11_init_220 (by decide) ?_
  refine r_newI C hw clsX11 hin 37 (by decide) (Nat.le_of_ble_eq_true rfl) rfl rfl rfl fl_X11_92 ka_int 8 (by decide) (by decide) (by decide) (by decide) (by decide) dX11_init_222 dX11_init_224 (fun q37 H locs hw => ?_)
  refine lv_aload_n hx hb dX11_init_227 rfl (lv_at hl 0 rfl) ?_
  refine lv_bipush (v := 8) hx hb dX11_init_228 (by decide) ?_
  refine r_newI C hw clsX11 hin 38 (by decide) (Nat.le_of_ble_eq_true rfl) rfl rfl rfl fl_X11_95 ka_int 8 (by decide) (by decide) (by decide) (by decide) (by decide) dX11_init_230 dX11_init_232 (fun q38 H locs hw => ?_)
  refine lv_aload_n hx hb dX11_init_235 rfl (lv_at hl 0 rfl) ?_
  refine lv_iconst (v := 3) hx hb dX11_init_236 (by decide) ?_
  refine r_newI C hw clsX11 hin 39 (by decide) (Nat.le_of_ble_eq_true rfl) rfl rfl rfl fl_X11_98 ka_int 3 (by decide) (by decide) (by decide) (by decide) (by decide) dX11_init_237 dX11_init_239 (fun q39 H locs hw => ?_)
  refine lv_aload_n hx hb dX11_init_242 rfl (lv_at hl 0 rfl) ?_
  refine lv_bipush (v := 80) hx hb dX11_init_243 (by decide) ?_
  refine r_newZ C hw clsX11 hin 40 (by decide) (Nat.le_of_ble_eq_true rfl) rfl rfl rfl fl_X11_101 ka_boolean 80 (by decide) (by decide) (by decide) (by decide) (by decide) dX11_init_245 dX11_init_247 (fun q40 H locs hw => ?_)
  refine lv_aload_n hx hb dX11_init_250 rfl (lv_at hl 0 rfl) ?_
  refine lv_bipush (v := 80) hx hb dX11_init_251 (by decide) ?_
  refine r_newZ C hw clsX11 hin 41 (by decide) (Nat.le_of_ble_eq_true rfl) rfl rfl rfl fl_X11_105 ka_boolean 80 (by decide) (by decide) (by decide) (by decide) (by decide) dX11_init_253 dX11_init_255 (fun q41 H locs hw => ?_)
  refine lv_aload_n hx hb dX11_init_258 rfl (lv_at hl 0 rfl) ?_
  refine lv_sipush (v := 202) hx hb dX11_init_259 (by decide) ?_
  refine r_newI C hw clsX11 hin 42 (by decide) (Nat.le_of_ble_eq_true rfl) rfl rfl rfl fl_X11_108 ka_int 202 (by decide) (by decide) (by decide) (by decide) (by decide) dX11_init_262 dX11_init_264 (fun q42 H locs hw => ?_)
  refine lv_aload_n hx hb dX11_init_267 rfl (lv_at hl 0 rfl) ?_
  refine lv_bipush (v := 32) hx hb dX11_init_268 (by decide) ?_
  refine r_newI C hw clsX11 hin 43 (by decide) (Nat.le_of_ble_eq_true rfl) rfl rfl rfl fl_X11_111 ka_int 32 (by decide) (by decide) (by decide) (by decide) (by decide) dX11_init_270 dX11_init_272 (fun q43 H locs hw => ?_)
  refine lv_aload_n hx hb dX11_init_275 rfl (lv_at hl 0 rfl) ?_
  refine lv_bipush (v := 32) hx hb dX11_init_276 (by decide) ?_
  refine r_newI C hw clsX11 hin 44 (by decide) (Nat.le_of_ble_eq_true rfl) rfl rfl rfl fl_X11_114 ka_int 32 (by decide) (by decide) (by decide) (by decide) (by decide) dX11_init_278 dX11_init_280 (fun q44 H locs hw => ?_)
  refine lv_aload_n hx hb dX11_init_283 rfl (lv_at hl 0 rfl) ?_
  refine lv_bipush (v := 32) hx hb dX11_init_284 (by decide) ?_
  refine r_newI C hw clsX11 hin 45 (by decide) (Nat.le_of_ble_eq_true rfl) rfl rfl rfl fl_X11_117 ka_int 32 (by decide) (by decide) (by decide) (by decide) (by decide) dX11_init_286 dX11_init_288 (fun q45 H locs hw => ?_)
  refine lv_aload_n hx hb dX11_init_291 rfl (lv_at hl 0 rfl) ?_
  refine lv_bipush (v := 60) hx hb dX11_init_292 (by decide) ?_
  refine r_newI C hw clsX11 hin 46 (by decide) (Nat.le_of_ble_eq_true rfl) rfl rfl rfl fl_X11_120 ka_int 60 (by decide) (by decide) (by decide) (by decide) (by decide) dX11_init_294 dX11_init_296 (fun q46 H locs hw => ?_)
  refine lv_aload_n hx hb dX11_init_299 rfl (lv_at hl 0 rfl) ?_
  refine lv_bipush (v := 60) hx hb dX11_init_300 (by decide) ?_
  refine r_newI C hw clsX11 hin 47 (by decide) (Nat.le_of_ble_eq_true rfl) rfl rfl rfl fl_X11_123 ka_int 60 (by decide) (by decide) (by decide) (by decide) (by decide) dX11_init_302 dX11_init_304 (fun q47 H locs hw => ?_)
  refine lv_aload_n hx hb dX11_init_307 rfl (lv_at hl 0 rfl) ?_
  refine lv_bipush (v := 60) hx hb dX11_init_308 (by decide) ?_
  refine r_newI C hw clsX11 hin 48 (by decide) (Nat.le_of_ble_eq_true rfl) rfl rfl rfl fl_X11_126 ka_int 60 (by decide) (by decide) (by decide) (by decide) (by decide) dX11_init_310 dX11_init_312 (fun q48 H locs hw => ?_)
  refine lv_aload_n hx hb dX11_init_315 rfl (lv_at hl 0 rfl) ?_
  refine lv_bipush (v := 16) hx hb dX11_init_316 (by decide) ?_
  refine r_newI C hw clsX11 hin 49 (by decide) (Nat.le_of_ble_eq_true rfl) rfl rfl rfl fl_X11_129 ka_int 16 (by decide) (by decide) (by decide) (by decide) (by decide) dX11_init_318 dX11_init_320 (fun q49 H locs hw => ?_)
  refine lv_aload_n hx hb dX11_init_323 rfl (lv_at hl 0 rfl) ?_
  refine lv_bipush (v := 16) hx hb dX11_init_324 (by decide) ?_
  refine r_newI C hw clsX11 hin 50 (by decide) (Nat.le_of_ble_eq_true rfl) rfl rfl rfl fl_X11_132 ka_int 16 (by decide) (by decide) (by decide) (by decide) (by decide) dX11_init_326 dX11_init_328 (fun q50 H locs hw => ?_)
  refine lv_aload_n hx hb dX11_init_331 rfl (lv_at hl 0 rfl) ?_
  refine lv_bipush (v := 6) hx hb dX11_init_332 (by decide) ?_
  refine r_newI C hw clsX11 hin 51 (by decide) (Nat.le_of_ble_eq_true rfl) rfl rfl rfl fl_X11_135 ka_int 6 (by decide) (by decide) (by decide) (by decide) (by decide) dX11_init_334 dX11_init_336 (fun q51 H locs hw => ?_)
  refine lv_aload_n hx hb dX11_init_339 rfl (lv_at hl 0 rfl) ?_
  refine lv_bipush (v := 6) hx hb dX11_init_340 (by decide) ?_
  refine r_newI C hw clsX11 hin 52 (by decide) (Nat.le_of_ble_eq_true rfl) rfl rfl rfl fl_X11_138 ka_int 6 (by decide) (by decide) (by decide) (by decide) (by decide) dX11_init_342 dX11_init_344 (fun q52 H locs hw => ?_)
  refine lv_aload_n hx hb dX11_init_347 rfl (lv_at hl 0 rfl) ?_
  refine lv_bipush (v := 6) hx hb dX11_init_348 (by decide) ?_
  refine r_newI C hw clsX11 hin 53 (by decide) (Nat.le_of_ble_eq_true rfl) rfl rfl rfl fl_X11_141 ka_int 6 (by decide) (by decide) (by decide) (by decide) (by decide) dX11_init_350 dX11_init_352 (fun q53 H locs hw => ?_)
  have hw : pw_H D (pw_w shM cI cZ (fun c => ([h0, q0, q1, q2, q3, q4, q5, q6, q7, q8, q9, q10, q11, q12, q13, q14, q15, q26, q27, q28, q29, q30, q31, q32, q33, q34, q35, q36, q37, q38, q39, q40, q41, q42, q43, q44, q45, q46, q47, q48, q49, q50, q51, q52, q53] : List Nat).getD c 0) (fun _ _ => 0)) A s.heap H locs := hw
  exact wX11_init_b355 (ad := (fun c => ([h0, q0, q1, q2, q3, q4, q5, q6, q7, q8, q9, q10, q11, q12, q13, q14, q15, q26, q27, q28, q29, q30, q31, q32, q33, q34, q35, q36, q37, q38, q39, q40, q41, q42, q43, q44, q45, q46, q47, q48, q49, q50, q51, q52, q53] : List Nat).getD c 0)) hX C _ _ _ _ hw (lv_sub hl [0] rfl) h
set_option maxRecDepth 100000 in
set_option maxHeartbeats 4000000 in
theorem wX10_init_b122 {p : Program} {l : Launch} {e : Env} {R : Room} {s : State} {m : MethodId} {args : Array Value} {below : List Frame} {meth : Method} {c : Code} {D : va_G} {cI cZ : ClassId} {ad : Nat → Nat} {A : Nat → Prop} {z : Int32 × St} {cells slots : Nat} (hX : pw_X A s) (C : pw_C p s m args meth c yX10_init.cls cX10_init 1 none D cI cZ) : ∀  (σ : St) (H : Heap) (locs : List Loc) (ls : Array Slot), pw_H D (pw_w shC cI cZ ad σ) A s.heap H locs → lv_has ls 1 [(0, .ref (ad 0))] → fX10_init_b122  σ = some z → W p l e R s m args below meth c H locs cells slots (pw_QK below args s D cI cZ shC z.2 (ad 0) A cells slots) (F0 m 122 ls []) := by
  obtain ⟨hx, hb, hr, hts, hown, hlk, hml, hK, hN⟩ := id C
  intro σ H locs ls hw hl h
  unfold fX10_init_b122 at h
  refine lv_aload_n hx hb dX10_init_122 rfl (lv_at hl 0 rfl) ?_
  refine lv_iconst (v := 0) hx hb dX10_init_123 (by decide) ?_
  refine r_put C hw qC_0 clsX10 11 rfl (by decide) fl_X10_83 dX10_init_124 rfl rfl rfl h (fun σ1 H locs hw h => ?_)
  exact r_kret C hw dX10_init_127 h
set_option maxRecDepth 100000 in
set_option maxHeartbeats 4000000 in
theorem kX10_init (l : Launch) (D : va_G) (cI cZ : ClassId) (zX0 : Int32 × St) (hX0 : fX0_init_b36 (fun _ _ => 0) = some zX0) (zX6 : Int32 × St) (hX6 : fX6_init_b60 (fun _ _ => 0) = some zX6) (zX1 : Int32 × St) (hX1 : fX1_init_b52 (fun _ _ => 0) = some zX1) (zX8 : Int32 × St) (hX8 : fX8_init_b68 (fun _ _ => 0) = some zX8) (zX5 : Int32 × St) (hX5 : fX5_init_b28 (fun _ _ => 0) = some zX5) (zX9 : Int32 × St) (hX9 : fX9_init_b42 (fun _ _ => 0) = some zX9) (zX3 : Int32 × St) (hX3 : fX3_init_b28 (fun _ _ => 0) = some zX3) (zX4 : Int32 × St) (hX4 : fX4_init_b13 (fun _ _ => 0) = some zX4) (zX7 : Int32 × St) (hX7 : fX7_init_b66 (fun _ _ => 0) = some zX7) (zX2 : Int32 × St) (hX2 : fX2_init_b28 (fun _ _ => 0) = some zX2) (z : Int32 × St) (h : fX10_init_b122 (pw_s0 zX0 zX6 zX1 zX8 zX5 zX9 zX3 zX4 zX7 zX2) = some z) : pw_MK l D cI cZ yX10_init cX10_init 1 (pw_rk 2 59 1642) 59 1642 10 [.null, .null, .null, .null, .null, .null, .null, .null, .null, .null, .null, .int 0] shC z.2 := by
  refine pw_ofK (by decide) rfl (by decide) ?_
  intro h0 p e s m args below meth c A C hin hX hw ls hl
  obtain ⟨hx, hb, hr, hts, hown, hlk, hml, hK, hN⟩ := id C
  refine lv_aload_n hx hb dX10_init_0 rfl (lv_at hl 0 rfl) ?_
  refine W.objInit hx hb hown (hts _ ml_X10_3) (hts _ ko_inst) (hts _ ko_code) rfl (by rw [hml]; exact hl.1) rfl dX10_init_1 (by decide) (Nat.le_of_ble_eq_true rfl) ?_
  refine W.eq (g2 := F0 m 4 ls []) rfl ?_
  refine lv_aload_n hx hb dX10_init_4 rfl (lv_at hl 0 rfl) ?_
  refine lv_bipush (v := 6) hx hb dX10_init_5 (by decide) ?_
  refine r_newI C hw clsX10 hin 0 (by decide) (Nat.le_of_ble_eq_true rfl) rfl rfl rfl fl_X10_9 ka_int 6 (by decide) (by decide) (by decide) (by decide) (by decide) dX10_init_7 dX10_init_9 (fun q0 H locs hw => ?_)
  refine lv_aload_n hx hb dX10_init_12 rfl (lv_at hl 0 rfl) ?_
  refine r_newO C hX hw clsX10 hin 1 (by decide) (Nat.le_of_ble_eq_true rfl) rfl rfl (On := "PorcelainWorks$Clay") rfl fl_X10_16 (kX0_init l D cI cZ zX0 hX0) clsX0 YX0_init kc_X10_13 kn_X0 (by decide +kernel) mn_X10_15 ⟨rfl, rfl, by decide, by decide⟩ hl.1 (by decide) (by decide) (Nat.le_of_ble_eq_true rfl) dX10_init_13 dX10_init_16 dX10_init_17 dX10_init_20 (fun u1 H locs hw => ?_)
  refine lv_aload_n hx hb dX10_init_23 rfl (lv_at hl 0 rfl) ?_
  refine r_newO C hX hw clsX10 hin 2 (by decide) (Nat.le_of_ble_eq_true rfl) rfl rfl (On := "PorcelainWorks$Pieces") rfl fl_X10_23 (kX6_init l D cI cZ zX6 hX6) clsX6 YX6_init kc_X10_20 kn_X6 (by decide +kernel) mn_X10_22 ⟨rfl, rfl, by decide, by decide⟩ hl.1 (by decide) (by decide) (Nat.le_of_ble_eq_true rfl) dX10_init_24 dX10_init_27 dX10_init_28 dX10_init_31 (fun u2 H locs hw => ?_)
  refine lv_aload_n hx hb dX10_init_34 rfl (lv_at hl 0 rfl) ?_
  refine r_newO C hX hw clsX10 hin 3 (by decide) (Nat.le_of_ble_eq_true rfl) rfl rfl (On := "PorcelainWorks$Kiln") rfl fl_X10_30 (kX1_init l D cI cZ zX1 hX1) clsX1 YX1_init kc_X10_27 kn_X1 (by decide +kernel) mn_X10_29 ⟨rfl, rfl, by decide, by decide⟩ hl.1 (by decide) (by decide) (Nat.le_of_ble_eq_true rfl) dX10_init_35 dX10_init_38 dX10_init_39 dX10_init_42 (fun u3 H locs hw => ?_)
  refine lv_aload_n hx hb dX10_init_45 rfl (lv_at hl 0 rfl) ?_
  refine r_newO C hX hw clsX10 hin 4 (by decide) (Nat.le_of_ble_eq_true rfl) rfl rfl (On := "PorcelainWorks$Stacking") rfl fl_X10_37 (kX8_init l D cI cZ zX8 hX8) clsX8 YX8_init kc_X10_34 kn_X8 (by decide +kernel) mn_X10_36 ⟨rfl, rfl, by decide, by decide⟩ hl.1 (by decide) (by decide) (Nat.le_of_ble_eq_true rfl) dX10_init_46 dX10_init_49 dX10_init_50 dX10_init_53 (fun u4 H locs hw => ?_)
  refine lv_aload_n hx hb dX10_init_56 rfl (lv_at hl 0 rfl) ?_
  refine r_newO C hX hw clsX10 hin 5 (by decide) (Nat.le_of_ble_eq_true rfl) rfl rfl (On := "PorcelainWorks$Palette") rfl fl_X10_44 (kX5_init l D cI cZ zX5 hX5) clsX5 YX5_init kc_X10_41 kn_X5 (by decide +kernel) mn_X10_43 ⟨rfl, rfl, by decide, by decide⟩ hl.1 (by decide) (by decide) (Nat.le_of_ble_eq_true rfl) dX10_init_57 dX10_init_60 dX10_init_61 dX10_init_64 (fun u5 H locs hw => ?_)
  refine lv_aload_n hx hb dX10_init_67 rfl (lv_at hl 0 rfl) ?_
  refine r_newO C hX hw clsX10 hin 6 (by decide) (Nat.le_of_ble_eq_true rfl) rfl rfl (On := "PorcelainWorks$Workshop") rfl fl_X10_51 (kX9_init l D cI cZ zX9 hX9) clsX9 YX9_init kc_X10_48 kn_X9 (by decide +kernel) mn_X10_50 ⟨rfl, rfl, by decide, by decide⟩ hl.1 (by decide) (by decide) (Nat.le_of_ble_eq_true rfl) dX10_init_68 dX10_init_71 dX10_init_72 dX10_init_75 (fun u6 H locs hw => ?_)
  refine lv_aload_n hx hb dX10_init_78 rfl (lv_at hl 0 rfl) ?_
  refine r_newO C hX hw clsX10 hin 7 (by decide) (Nat.le_of_ble_eq_true rfl) rfl rfl (On := "PorcelainWorks$Matching") rfl fl_X10_58 (kX3_init l D cI cZ zX3 hX3) clsX3 YX3_init kc_X10_55 kn_X3 (by decide +kernel) mn_X10_57 ⟨rfl, rfl, by decide, by decide⟩ hl.1 (by decide) (by decide) (Nat.le_of_ble_eq_true rfl) dX10_init_79 dX10_init_82 dX10_init_83 dX10_init_86 (fun u7 H locs hw => ?_)
  refine lv_aload_n hx hb dX10_init_89 rfl (lv_at hl 0 rfl) ?_
  refine r_newO C hX hw clsX10 hin 8 (by decide) (Nat.le_of_ble_eq_true rfl) rfl rfl (On := "PorcelainWorks$Odds") rfl fl_X10_65 (kX4_init l D cI cZ zX4 hX4) clsX4 YX4_init kc_X10_62 kn_X4 (by decide +kernel) mn_X10_64 ⟨rfl, rfl, by decide, by decide⟩ hl.1 (by decide) (by decide) (Nat.le_of_ble_eq_true rfl) dX10_init_90 dX10_init_93 dX10_init_94 dX10_init_97 (fun u8 H locs hw => ?_)
  refine lv_aload_n hx hb dX10_init_100 rfl (lv_at hl 0 rfl) ?_
  refine r_newO C hX hw clsX10 hin 9 (by decide) (Nat.le_of_ble_eq_true rfl) rfl rfl (On := "PorcelainWorks$Secret") rfl fl_X10_72 (kX7_init l D cI cZ zX7 hX7) clsX7 YX7_init kc_X10_69 kn_X7 (by decide +kernel) mn_X10_71 ⟨rfl, rfl, by decide, by decide⟩ hl.1 (by decide) (by decide) (Nat.le_of_ble_eq_true rfl) dX10_init_101 dX10_init_104 dX10_init_105 dX10_init_108 (fun u9 H locs hw => ?_)
  refine lv_aload_n hx hb dX10_init_111 rfl (lv_at hl 0 rfl) ?_
  refine r_newO C hX hw clsX10 hin 10 (by decide) (Nat.le_of_ble_eq_true rfl) rfl rfl (On := "PorcelainWorks$Ledger") rfl fl_X10_79 (kX2_init l D cI cZ zX2 hX2) clsX2 YX2_init kc_X10_76 kn_X2 (by decide +kernel) mn_X10_78 ⟨rfl, rfl, by decide, by decide⟩ hl.1 (by decide) (by decide) (Nat.le_of_ble_eq_true rfl) dX10_init_112 dX10_init_115 dX10_init_116 dX10_init_119 (fun u10 H locs hw => ?_)
  have hw : pw_H D (pw_w shC cI cZ (fun c => ([h0, q0, u1 0, u1 1, u1 2, u1 3, u1 4, u2 0, u2 1, u2 2, u2 3, u2 4, u2 5, u2 6, u2 7, u3 0, u3 1, u3 2, u3 3, u3 4, u3 5, u3 6, u4 0, u4 1, u4 2, u4 3, u4 4, u4 5, u4 6, u4 7, u4 8, u5 0, u5 1, u5 2, u5 3, u6 0, u6 1, u6 2, u6 3, u6 4, u6 5, u7 0, u7 1, u7 2, u7 3, u8 0, u8 1, u9 0, u9 1, u9 2, u9 3, u9 4, u9 5, u9 6, u9 7, u9 8, u10 0, u10 1, u10 2, u10 3] : List Nat).getD c 0) (pw_s0 zX0 zX6 zX1 zX8 zX5 zX9 zX3 zX4 zX7 zX2)) A s.heap H locs := hw
  exact wX10_init_b122 (ad := (fun c => ([h0, q0, u1 0, u1 1, u1 2, u1 3, u1 4, u2 0, u2 1, u2 2, u2 3, u2 4, u2 5, u2 6, u2 7, u3 0, u3 1, u3 2, u3 3, u3 4, u3 5, u3 6, u4 0, u4 1, u4 2, u4 3, u4 4, u4 5, u4 6, u4 7, u4 8, u5 0, u5 1, u5 2, u5 3, u6 0, u6 1, u6 2, u6 3, u6 4, u6 5, u7 0, u7 1, u7 2, u7 3, u8 0, u8 1, u9 0, u9 1, u9 2, u9 3, u9 4, u9 5, u9 6, u9 7, u9 8, u10 0, u10 1, u10 2, u10 3] : List Nat).getD c 0)) hX C _ _ _ _ hw (lv_sub hl [0] rfl) h
