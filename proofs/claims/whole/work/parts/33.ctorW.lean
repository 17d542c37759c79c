set_option maxRecDepth 100000 in
set_option maxHeartbeats 4000000 in
theorem wX0_init_b43 {p : Program} {l : Launch} {e : Env} {R : Room} {s : State} {m : MethodId} {args : Array Value} {below : List Frame} {meth : Method} {c : Code} {D : va_G} {cI cZ : ClassId} {ad : Nat → Nat} {A : Nat → Prop} {z : Int32 × St} {cells slots : Nat} (hX : pw_X A s) (C : pw_C p s m args meth c yX0_init.cls cX0_init 2 none D cI cZ) : ∀ (n : Nat) (x1 : Int32) (σ : St) (H : Heap) (locs : List Loc) (ls : Array Slot), pw_H D (pw_w shX0 cI cZ ad σ) A s.heap H locs → lv_has ls 2 [(0, .ref (ad 0)), (1, .int x1)] → fX0_init_b43 n x1 σ = some z → W p l e R s m args below meth c H locs cells slots (pw_QK below args s D cI cZ shX0 z.2 (ad 0) A cells slots) (F0 m 43 ls []) := by
  obtain ⟨hx, hb, hr, hts, hown, hlk, hml, hK, hN⟩ := id C
  obtain ⟨t_, hXX⟩ := id hX
  have hZ_GREATEST_TRAITS : va_Z "PorcelainWorks" "GREATEST_TRAITS" "[I" (.ref (t_ 0)) A s s.heap := (hXX 0 (by decide)).1
  have hT_GREATEST_TRAITS : va_T .int (t_ 0) 4 (fun j => .int (pw_GT j)) A s s.heap := (hXX 0 (by decide)).2
  have hZ_LEAST_PLACE_TRAITS : va_Z "PorcelainWorks" "LEAST_PLACE_TRAITS" "[I" (.ref (t_ 1)) A s s.heap := (hXX 1 (by decide)).1
  have hT_LEAST_PLACE_TRAITS : va_T .int (t_ 1) 2 (fun j => .int (pw_LP j)) A s s.heap := (hXX 1 (by decide)).2
  have hZ_GREATEST_PLACE_TRAITS : va_Z "PorcelainWorks" "GREATEST_PLACE_TRAITS" "[I" (.ref (t_ 2)) A s s.heap := (hXX 2 (by decide)).1
  have hT_GREATEST_PLACE_TRAITS : va_T .int (t_ 2) 2 (fun j => .int (pw_GP j)) A s s.heap := (hXX 2 (by decide)).2
  have hZ_FIRST_TRAITS : va_Z "PorcelainWorks" "FIRST_TRAITS" "[I" (.ref (t_ 3)) A s s.heap := (hXX 3 (by decide)).1
  have hT_FIRST_TRAITS : va_T .int (t_ 3) 4 (fun j => .int (pw_FT j)) A s s.heap := (hXX 3 (by decide)).2
  have hZ_FIRST_PLACE_TRAITS : va_Z "PorcelainWorks" "FIRST_PLACE_TRAITS" "[I" (.ref (t_ 4)) A s s.heap := (hXX 4 (by decide)).1
  have hT_FIRST_PLACE_TRAITS : va_T .int (t_ 4) 2 (fun j => .int (pw_FP j)) A s s.heap := (hXX 4 (by decide)).2
  intro n
  induction n with
  | zero =>
    intro x1 σ H locs ls hw hl h
    exact absurd h (by simp [fX0_init_b43])
  | succ n ih =>
    intro x1 σ H locs ls hw hl h
    rw [fX0_init_b43] at h
    refine lv_iload_n hx hb dX0_init_43 rfl (lv_at hl 1 rfl) ?_
    refine lv_bipush (v := 24) hx hb dX0_init_44 (by decide) ?_
    refine lv_icmp_ge (tgt := 68) hx hb dX0_init_46 (by decide) (fun hc => ?_) (fun hc => ?_)
    · replace h := pw_t hc h
      exact r_kret C hw dX0_init_68 h
    · replace h := pw_f hc h
      refine lv_aload_n hx hb dX0_init_49 rfl (lv_at hl 0 rfl) ?_
      refine r_get C hw qX0_0 clsX0 0 rfl (by decide) fl_X0_9 dX0_init_50 (v := .ref (ad 1)) rfl ?_
      refine lv_iload_n hx hb dX0_init_53 rfl (lv_at hl 1 rfl) ?_
      refine va_getsN hx hb hZ_FIRST_TRAITS hw.2.2.1 hown (va_Nw.use rfl (hN _ fn_X0_28)) (fun _ h => h) dX0_init_54 ?_
      refine lv_iload_n hx hb dX0_init_57 rfl (lv_at hl 1 rfl) ?_
      refine lv_iconst (v := 4) hx hb dX0_init_58 (by decide) ?_
      refine lv_irem hx hb dX0_init_59 (by decide) ?_
      refine r_tald C hT_FIRST_TRAITS hw.2.2.1 dX0_init_60 h (fun v1 h => ?_)
      refine r_iast C hw qX0_1 dX0_init_61 h (fun σ2 H locs hw h => ?_)
      refine lv_iinc (v := (x1 + 1)) (lv' := [(1, .int (x1 + 1)), (0, .ref (ad 0))]) hx hb dX0_init_62 hl (k := 1) rfl rfl (by decide) rfl (fun ls hl => ?_)
      refine lv_goto (tgt := 43) hx hb dX0_init_65 (by decide) ?_
      exact ih _ _ _ _ _ hw (lv_sub hl [1, 0] rfl) h
set_option maxRecDepth 100000 in
set_option maxHeartbeats 4000000 in
theorem wX0_init_b36 {p : Program} {l : Launch} {e : Env} {R : Room} {s : State} {m : MethodId} {args : Array Value} {below : List Frame} {meth : Method} {c : Code} {D : va_G} {cI cZ : ClassId} {ad : Nat → Nat} {A : Nat → Prop} {z : Int32 × St} {cells slots : Nat} (hX : pw_X A s) (C : pw_C p s m args meth c yX0_init.cls cX0_init 2 none D cI cZ) : ∀  (σ : St) (H : Heap) (locs : List Loc) (ls : Array Slot), pw_H D (pw_w shX0 cI cZ ad σ) A s.heap H locs → lv_has ls 2 [(0, .ref (ad 0))] → fX0_init_b36  σ = some z → W p l e R s m args below meth c H locs cells slots (pw_QK below args s D cI cZ shX0 z.2 (ad 0) A cells slots) (F0 m 36 ls []) := by
  obtain ⟨hx, hb, hr, hts, hown, hlk, hml, hK, hN⟩ := id C
  obtain ⟨t_, hXX⟩ := id hX
  have hZ_GREATEST_TRAITS : va_Z "PorcelainWorks" "GREATEST_TRAITS" "[I" (.ref (t_ 0)) A s s.heap := (hXX 0 (by decide)).1
  have hT_GREATEST_TRAITS : va_T .int (t_ 0) 4 (fun j => .int (pw_GT j)) A s s.heap := (hXX 0 (by decide)).2
  have hZ_LEAST_PLACE_TRAITS : va_Z "PorcelainWorks" "LEAST_PLACE_TRAITS" "[I" (.ref (t_ 1)) A s s.heap := (hXX 1 (by decide)).1
  have hT_LEAST_PLACE_TRAITS : va_T .int (t_ 1) 2 (fun j => .int (pw_LP j)) A s s.heap := (hXX 1 (by decide)).2
  have hZ_GREATEST_PLACE_TRAITS : va_Z "PorcelainWorks" "GREATEST_PLACE_TRAITS" "[I" (.ref (t_ 2)) A s s.heap := (hXX 2 (by decide)).1
  have hT_GREATEST_PLACE_TRAITS : va_T .int (t_ 2) 2 (fun j => .int (pw_GP j)) A s s.heap := (hXX 2 (by decide)).2
  have hZ_FIRST_TRAITS : va_Z "PorcelainWorks" "FIRST_TRAITS" "[I" (.ref (t_ 3)) A s s.heap := (hXX 3 (by decide)).1
  have hT_FIRST_TRAITS : va_T .int (t_ 3) 4 (fun j => .int (pw_FT j)) A s s.heap := (hXX 3 (by decide)).2
  have hZ_FIRST_PLACE_TRAITS : va_Z "PorcelainWorks" "FIRST_PLACE_TRAITS" "[I" (.ref (t_ 4)) A s s.heap := (hXX 4 (by decide)).1
  have hT_FIRST_PLACE_TRAITS : va_T .int (t_ 4) 2 (fun j => .int (pw_FP j)) A s s.heap := (hXX 4 (by decide)).2
  intro σ H locs ls hw hl h
  unfold fX0_init_b36 at h
  refine lv_aload_n hx hb dX0_init_36 rfl (lv_at hl 0 rfl) ?_
  refine lv_iconst (v := 0) hx hb dX0_init_37 (by decide) ?_
  refine r_put C hw qX0_0 clsX0 4 rfl (by decide) fl_X0_24 dX0_init_38 rfl rfl rfl h (fun σ3 H locs hw h => ?_)
  refine lv_iconst (v := 0) hx hb dX0_init_41 (by decide) ?_
  refine lv_istore_n (lv' := [(1, .int 0), (0, .ref (ad 0))]) hx hb dX0_init_42 rfl hl (by decide) rfl (fun ls hl => ?_)
  exact wX0_init_b43 hX C  _ _ _ _ _ _ hw (lv_sub hl [1, 0] rfl) h
set_option maxRecDepth 100000 in
set_option maxHeartbeats 4000000 in
theorem kX0_init (l : Launch) (D : va_G) (cI cZ : ClassId)  (z : Int32 × St) (h : fX0_init_b36 (fun _ _ => 0) = some z) : pw_MK l D cI cZ yX0_init cX0_init 2 (pw_rk 1 4 84) 4 84 0 [.null, .null, .null, .null, .int 0] shX0 z.2 := by
  refine pw_ofK (by decide) rfl (by decide) ?_
  intro h0 p e s m args below meth c A C hin hX hw ls hl
  obtain ⟨hx, hb, hr, hts, hown, hlk, hml, hK, hN⟩ := id C
  have hlen : ([.null, .null, .null, .null, .int 0] : List Value).length = 5 := rfl
  refine lv_aload_n hx hb dX0_init_0 rfl (lv_at hl 0 rfl) ?_
  refine W.objInit hx hb hown (hts _ ml_X0_3) (hts _ ko_inst) (hts _ ko_code) rfl (by rw [hml]; exact hl.1) rfl dX0_init_1 (by decide) (Nat.le_of_ble_eq_true rfl) ?_
  refine W.eq (g2 := F0 m 4 ls []) rfl ?_
  refine lv_aload_n hx hb dX0_init_4 rfl (lv_at hl 0 rfl) ?_
  refine lv_bipush (v := 24) hx hb dX0_init_5 (by decide) ?_
  refine r_newI C hw clsX0 hin 0 (by decide) hlen rfl rfl rfl fl_X0_9 ka_int 24 (by decide) (by decide) (by decide) (by decide) (by decide) dX0_init_7 dX0_init_9 (fun q0 fs_ arrs_ H locs ef0 ea0 hlen hw => ?_)
  obtain rfl : fs_ = [.ref q0, .null, .null, .null, .int 0] := ef0
  obtain rfl : arrs_ = [(q0, .inl (cI, 24, .inl (fun _ => 0)))] := ea0
  refine lv_aload_n hx hb dX0_init_12 rfl (lv_at hl 0 rfl) ?_
  refine lv_bipush (v := 20) hx hb dX0_init_13 (by decide) ?_
  refine r_newI C hw clsX0 hin 1 (by decide) hlen rfl rfl rfl fl_X0_15 ka_int 20 (by decide) (by decide) (by decide) (by decide) (by decide) dX0_init_15 dX0_init_17 (fun q1 fs_ arrs_ H locs ef1 ea1 hlen hw => ?_)
  obtain rfl : fs_ = [.ref q0, .ref q1, .null, .null, .int 0] := ef1
  obtain rfl : arrs_ = [(q0, .inl (cI, 24, .inl (fun _ => 0))), (q1, .inl (cI, 20, .inl (fun _ => 0)))] := ea1
  refine lv_aload_n hx hb dX0_init_20 rfl (lv_at hl 0 rfl) ?_
  refine lv_bipush (v := 20) hx hb dX0_init_21 (by decide) ?_
  refine r_newI C hw clsX0 hin 2 (by decide) hlen rfl rfl rfl fl_X0_18 ka_int 20 (by decide) (by decide) (by decide) (by decide) (by decide) dX0_init_23 dX0_init_25 (fun q2 fs_ arrs_ H locs ef2 ea2 hlen hw => ?_)
  obtain rfl : fs_ = [.ref q0, .ref q1, .ref q2, .null, .int 0] := ef2
  obtain rfl : arrs_ = [(q0, .inl (cI, 24, .inl (fun _ => 0))), (q1, .inl (cI, 20, .inl (fun _ => 0))), (q2, .inl (cI, 20, .inl (fun _ => 0)))] := ea2
  refine lv_aload_n hx hb dX0_init_28 rfl (lv_at hl 0 rfl) ?_
  refine lv_bipush (v := 20) hx hb dX0_init_29 (by decide) ?_
  refine r_newI C hw clsX0 hin 3 (by decide) hlen rfl rfl rfl fl_X0_21 ka_int 20 (by decide) (by decide) (by decide) (by decide) (by decide) dX0_init_31 dX0_init_33 (fun q3 fs_ arrs_ H locs ef3 ea3 hlen hw => ?_)
  obtain rfl : fs_ = [.ref q0, .ref q1, .ref q2, .ref q3, .int 0] := ef3
  obtain rfl : arrs_ = [(q0, .inl (cI, 24, .inl (fun _ => 0))), (q1, .inl (cI, 20, .inl (fun _ => 0))), (q2, .inl (cI, 20, .inl (fun _ => 0))), (q3, .inl (cI, 20, .inl (fun _ => 0)))] := ea3
  have hw : pw_H D (pw_w shX0 cI cZ (pw_nth [h0, q0, q1, q2, q3]) (fun _ _ => 0)) A s.heap H locs := hw.of (by simp only [pw_w_eq]; rfl)
  exact wX0_init_b36 (ad := (pw_nth [h0, q0, q1, q2, q3])) hX C _ _ _ _ hw (lv_sub hl [0] rfl) h
set_option maxRecDepth 100000 in
set_option maxHeartbeats 4000000 in
theorem wX1_init_b91 {p : Program} {l : Launch} {e : Env} {R : Room} {s : State} {m : MethodId} {args : Array Value} {below : List Frame} {meth : Method} {c : Code} {D : va_G} {cI cZ : ClassId} {ad : Nat → Nat} {A : Nat → Prop} {z : Int32 × St} {cells slots : Nat} (hX : pw_X A s) (C : pw_C p s m args meth c yX1_init.cls cX1_init 2 none D cI cZ) : ∀ (n : Nat) (x1 : Int32) (σ : St) (H : Heap) (locs : List Loc) (ls : Array Slot), pw_H D (pw_w shX1 cI cZ ad σ) A s.heap H locs → lv_has ls 2 [(0, .ref (ad 0)), (1, .int x1)] → fX1_init_b91 n x1 σ = some z → W p l e R s m args below meth c H locs cells slots (pw_QK below args s D cI cZ shX1 z.2 (ad 0) A cells slots) (F0 m 91 ls []) := by
  obtain ⟨hx, hb, hr, hts, hown, hlk, hml, hK, hN⟩ := id C
  obtain ⟨t_, hXX⟩ := id hX
  have hZ_GREATEST_TRAITS : va_Z "PorcelainWorks" "GREATEST_TRAITS" "[I" (.ref (t_ 0)) A s s.heap := (hXX 0 (by decide)).1
  have hT_GREATEST_TRAITS : va_T .int (t_ 0) 4 (fun j => .int (pw_GT j)) A s s.heap := (hXX 0 (by decide)).2
  have hZ_LEAST_PLACE_TRAITS : va_Z "PorcelainWorks" "LEAST_PLACE_TRAITS" "[I" (.ref (t_ 1)) A s s.heap := (hXX 1 (by decide)).1
  have hT_LEAST_PLACE_TRAITS : va_T .int (t_ 1) 2 (fun j => .int (pw_LP j)) A s s.heap := (hXX 1 (by decide)).2
  have hZ_GREATEST_PLACE_TRAITS : va_Z "PorcelainWorks" "GREATEST_PLACE_TRAITS" "[I" (.ref (t_ 2)) A s s.heap := (hXX 2 (by decide)).1
  have hT_GREATEST_PLACE_TRAITS : va_T .int (t_ 2) 2 (fun j => .int (pw_GP j)) A s s.heap := (hXX 2 (by decide)).2
  have hZ_FIRST_TRAITS : va_Z "PorcelainWorks" "FIRST_TRAITS" "[I" (.ref (t_ 3)) A s s.heap := (hXX 3 (by decide)).1
  have hT_FIRST_TRAITS : va_T .int (t_ 3) 4 (fun j => .int (pw_FT j)) A s s.heap := (hXX 3 (by decide)).2
  have hZ_FIRST_PLACE_TRAITS : va_Z "PorcelainWorks" "FIRST_PLACE_TRAITS" "[I" (.ref (t_ 4)) A s s.heap := (hXX 4 (by decide)).1
  have hT_FIRST_PLACE_TRAITS : va_T .int (t_ 4) 2 (fun j => .int (pw_FP j)) A s s.heap := (hXX 4 (by decide)).2
  intro n
  induction n with
  | zero =>
    intro x1 σ H locs ls hw hl h
    exact absurd h (by simp [fX1_init_b91])
  | succ n ih =>
    intro x1 σ H locs ls hw hl h
    rw [fX1_init_b91] at h
    refine lv_iload_n hx hb dX1_init_91 rfl (lv_at hl 1 rfl) ?_
    refine lv_bipush (v := 12) hx hb dX1_init_92 (by decide) ?_
    refine lv_icmp_ge (tgt := 111) hx hb dX1_init_94 (by decide) (fun hc => ?_) (fun hc => ?_)
    · replace h := pw_t hc h
      exact r_kret C hw dX1_init_111 h
    · replace h := pw_f hc h
      refine lv_aload_n hx hb dX1_init_97 rfl (lv_at hl 0 rfl) ?_
      refine r_get C hw qX1_0 clsX1 1 rfl (by decide) fl_X1_15 dX1_init_98 (v := .ref (ad 2)) rfl ?_
      refine lv_iload_n hx hb dX1_init_101 rfl (lv_at hl 1 rfl) ?_
      refine lv_bipush (v := (-9)) hx hb dX1_init_102 (by decide) ?_
      refine r_iast C hw qX1_2 dX1_init_104 h (fun σ1 H locs hw h => ?_)
      refine lv_iinc (v := (x1 + 1)) (lv' := [(1, .int (x1 + 1)), (0, .ref (ad 0))]) hx hb dX1_init_105 hl (k := 1) rfl rfl (by decide) rfl (fun ls hl => ?_)
      refine lv_goto (tgt := 91) hx hb dX1_init_108 (by decide) ?_
      exact ih _ _ _ _ _ hw (lv_sub hl [1, 0] rfl) h
set_option maxRecDepth 100000 in
set_option maxHeartbeats 4000000 in
theorem wX1_init_b64 {p : Program} {l : Launch} {e : Env} {R : Room} {s : State} {m : MethodId} {args : Array Value} {below : List Frame} {meth : Method} {c : Code} {D : va_G} {cI cZ : ClassId} {ad : Nat → Nat} {A : Nat → Prop} {z : Int32 × St} {cells slots : Nat} (hX : pw_X A s) (C : pw_C p s m args meth c yX1_init.cls cX1_init 2 none D cI cZ) : ∀ (n : Nat) (x1 : Int32) (σ : St) (H : Heap) (locs : List Loc) (ls : Array Slot), pw_H D (pw_w shX1 cI cZ ad σ) A s.heap H locs → lv_has ls 2 [(0, .ref (ad 0)), (1, .int x1)] → fX1_init_b64 n x1 σ = some z → W p l e R s m args below meth c H locs cells slots (pw_QK below args s D cI cZ shX1 z.2 (ad 0) A cells slots) (F0 m 64 ls []) := by
  obtain ⟨hx, hb, hr, hts, hown, hlk, hml, hK, hN⟩ := id C
  obtain ⟨t_, hXX⟩ := id hX
  have hZ_GREATEST_TRAITS : va_Z "PorcelainWorks" "GREATEST_TRAITS" "[I" (.ref (t_ 0)) A s s.heap := (hXX 0 (by decide)).1
  have hT_GREATEST_TRAITS : va_T .int (t_ 0) 4 (fun j => .int (pw_GT j)) A s s.heap := (hXX 0 (by decide)).2
  have hZ_LEAST_PLACE_TRAITS : va_Z "PorcelainWorks" "LEAST_PLACE_TRAITS" "[I" (.ref (t_ 1)) A s s.heap := (hXX 1 (by decide)).1
  have hT_LEAST_PLACE_TRAITS : va_T .int (t_ 1) 2 (fun j => .int (pw_LP j)) A s s.heap := (hXX 1 (by decide)).2
  have hZ_GREATEST_PLACE_TRAITS : va_Z "PorcelainWorks" "GREATEST_PLACE_TRAITS" "[I" (.ref (t_ 2)) A s s.heap := (hXX 2 (by decide)).1
  have hT_GREATEST_PLACE_TRAITS : va_T .int (t_ 2) 2 (fun j => .int (pw_GP j)) A s s.heap := (hXX 2 (by decide)).2
  have hZ_FIRST_TRAITS : va_Z "PorcelainWorks" "FIRST_TRAITS" "[I" (.ref (t_ 3)) A s s.heap := (hXX 3 (by decide)).1
  have hT_FIRST_TRAITS : va_T .int (t_ 3) 4 (fun j => .int (pw_FT j)) A s s.heap := (hXX 3 (by decide)).2
  have hZ_FIRST_PLACE_TRAITS : va_Z "PorcelainWorks" "FIRST_PLACE_TRAITS" "[I" (.ref (t_ 4)) A s s.heap := (hXX 4 (by decide)).1
  have hT_FIRST_PLACE_TRAITS : va_T .int (t_ 4) 2 (fun j => .int (pw_FP j)) A s s.heap := (hXX 4 (by decide)).2
  intro n
  induction n with
  | zero =>
    intro x1 σ H locs ls hw hl h
    exact absurd h (by simp [fX1_init_b64])
  | succ n ih =>
    intro x1 σ H locs ls hw hl h
    rw [fX1_init_b64] at h
    refine lv_iload_n hx hb dX1_init_64 rfl (lv_at hl 1 rfl) ?_
    refine lv_bipush (v := 24) hx hb dX1_init_65 (by decide) ?_
    refine lv_icmp_ge (tgt := 89) hx hb dX1_init_67 (by decide) (fun hc => ?_) (fun hc => ?_)
    · replace h := pw_t hc h
      refine lv_iconst (v := 0) hx hb dX1_init_89 (by decide) ?_
      refine lv_istore_n (lv' := [(1, .int 0), (0, .ref (ad 0))]) hx hb dX1_init_90 rfl hl (by decide) rfl (fun ls hl => ?_)
      exact wX1_init_b91 hX C  _ _ _ _ _ _ hw (lv_sub hl [1, 0] rfl) h
    · replace h := pw_f hc h
      refine lv_aload_n hx hb dX1_init_70 rfl (lv_at hl 0 rfl) ?_
      refine r_get C hw qX1_0 clsX1 0 rfl (by decide) fl_X1_9 dX1_init_71 (v := .ref (ad 1)) rfl ?_
      refine lv_iload_n hx hb dX1_init_74 rfl (lv_at hl 1 rfl) ?_
      refine va_getsN hx hb hZ_FIRST_PLACE_TRAITS hw.2.2.1 hown (va_Nw.use rfl (hN _ fn_X1_37)) (fun _ h => h) dX1_init_75 ?_
      refine lv_iload_n hx hb dX1_init_78 rfl (lv_at hl 1 rfl) ?_
      refine lv_iconst (v := 2) hx hb dX1_init_79 (by decide) ?_
      refine lv_irem hx hb dX1_init_80 (by decide) ?_
      refine r_tald C hT_FIRST_PLACE_TRAITS hw.2.2.1 dX1_init_81 h (fun v2 h => ?_)
      refine r_iast C hw qX1_1 dX1_init_82 h (fun σ3 H locs hw h => ?_)
      refine lv_iinc (v := (x1 + 1)) (lv' := [(1, .int (x1 + 1)), (0, .ref (ad 0))]) hx hb dX1_init_83 hl (k := 1) rfl rfl (by decide) rfl (fun ls hl => ?_)
      refine lv_goto (tgt := 64) hx hb dX1_init_86 (by decide) ?_
      exact ih _ _ _ _ _ hw (lv_sub hl [1, 0] rfl) h
set_option maxRecDepth 100000 in
set_option maxHeartbeats 4000000 in
theorem wX1_init_b52 {p : Program} {l : Launch} {e : Env} {R : Room} {s : State} {m : MethodId} {args : Array Value} {below : List Frame} {meth : Method} {c : Code} {D : va_G} {cI cZ : ClassId} {ad : Nat → Nat} {A : Nat → Prop} {z : Int32 × St} {cells slots : Nat} (hX : pw_X A s) (C : pw_C p s m args meth c yX1_init.cls cX1_init 2 none D cI cZ) : ∀  (σ : St) (H : Heap) (locs : List Loc) (ls : Array Slot), pw_H D (pw_w shX1 cI cZ ad σ) A s.heap H locs → lv_has ls 2 [(0, .ref (ad 0))] → fX1_init_b52  σ = some z → W p l e R s m args below meth c H locs cells slots (pw_QK below args s D cI cZ shX1 z.2 (ad 0) A cells slots) (F0 m 52 ls []) := by
  obtain ⟨hx, hb, hr, hts, hown, hlk, hml, hK, hN⟩ := id C
  obtain ⟨t_, hXX⟩ := id hX
  have hZ_GREATEST_TRAITS : va_Z "PorcelainWorks" "GREATEST_TRAITS" "[I" (.ref (t_ 0)) A s s.heap := (hXX 0 (by decide)).1
  have hT_GREATEST_TRAITS : va_T .int (t_ 0) 4 (fun j => .int (pw_GT j)) A s s.heap := (hXX 0 (by decide)).2
  have hZ_LEAST_PLACE_TRAITS : va_Z "PorcelainWorks" "LEAST_PLACE_TRAITS" "[I" (.ref (t_ 1)) A s s.heap := (hXX 1 (by decide)).1
  have hT_LEAST_PLACE_TRAITS : va_T .int (t_ 1) 2 (fun j => .int (pw_LP j)) A s s.heap := (hXX 1 (by decide)).2
  have hZ_GREATEST_PLACE_TRAITS : va_Z "PorcelainWorks" "GREATEST_PLACE_TRAITS" "[I" (.ref (t_ 2)) A s s.heap := (hXX 2 (by decide)).1
  have hT_GREATEST_PLACE_TRAITS : va_T .int (t_ 2) 2 (fun j => .int (pw_GP j)) A s s.heap := (hXX 2 (by decide)).2
  have hZ_FIRST_TRAITS : va_Z "PorcelainWorks" "FIRST_TRAITS" "[I" (.ref (t_ 3)) A s s.heap := (hXX 3 (by decide)).1
  have hT_FIRST_TRAITS : va_T .int (t_ 3) 4 (fun j => .int (pw_FT j)) A s s.heap := (hXX 3 (by decide)).2
  have hZ_FIRST_PLACE_TRAITS : va_Z "PorcelainWorks" "FIRST_PLACE_TRAITS" "[I" (.ref (t_ 4)) A s s.heap := (hXX 4 (by decide)).1
  have hT_FIRST_PLACE_TRAITS : va_T .int (t_ 4) 2 (fun j => .int (pw_FP j)) A s s.heap := (hXX 4 (by decide)).2
  intro σ H locs ls hw hl h
  unfold fX1_init_b52 at h
  refine lv_aload_n hx hb dX1_init_52 rfl (lv_at hl 0 rfl) ?_
  refine lv_iconst (v := 0) hx hb dX1_init_53 (by decide) ?_
  refine r_put C hw qX1_0 clsX1 6 rfl (by decide) fl_X1_30 dX1_init_54 rfl rfl rfl h (fun σ4 H locs hw h => ?_)
  refine lv_aload_n hx hb dX1_init_57 rfl (lv_at hl 0 rfl) ?_
  refine lv_iconst (v := 0) hx hb dX1_init_58 (by decide) ?_
  refine r_put C hw qX1_0 clsX1 7 rfl (by decide) fl_X1_34 dX1_init_59 rfl rfl rfl h (fun σ5 H locs hw h => ?_)
  refine lv_iconst (v := 0) hx hb dX1_init_62 (by decide) ?_
  refine lv_istore_n (lv' := [(1, .int 0), (0, .ref (ad 0))]) hx hb dX1_init_63 rfl hl (by decide) rfl (fun ls hl => ?_)
  exact wX1_init_b64 hX C  _ _ _ _ _ _ hw (lv_sub hl [1, 0] rfl) h
set_option maxRecDepth 100000 in
set_option maxHeartbeats 4000000 in
theorem kX1_init (l : Launch) (D : va_G) (cI cZ : ClassId)  (z : Int32 × St) (h : fX1_init_b52 (fun _ _ => 0) = some z) : pw_MK l D cI cZ yX1_init cX1_init 2 (pw_rk 1 6 120) 6 120 1 [.null, .null, .null, .null, .null, .null, .int 0, .int 0] shX1 z.2 := by
  refine pw_ofK (by decide) rfl (by decide) ?_
  intro h0 p e s m args below meth c A C hin hX hw ls hl
  obtain ⟨hx, hb, hr, hts, hown, hlk, hml, hK, hN⟩ := id C
  have hlen : ([.null, .null, .null, .null, .null, .null, .int 0, .int 0] : List Value).length = 8 := rfl
  refine lv_aload_n hx hb dX1_init_0 rfl (lv_at hl 0 rfl) ?_
  refine W.objInit hx hb hown (hts _ ml_X1_3) (hts _ ko_inst) (hts _ ko_code) rfl (by rw [hml]; exact hl.1) rfl dX1_init_1 (by decide) (Nat.le_of_ble_eq_true rfl) ?_
  refine W.eq (g2 := F0 m 4 ls []) rfl ?_
  refine lv_aload_n hx hb dX1_init_4 rfl (lv_at hl 0 rfl) ?_
  refine lv_bipush (v := 24) hx hb dX1_init_5 (by decide) ?_
  refine r_newI C hw clsX1 hin 0 (by decide) hlen rfl rfl rfl fl_X1_9 ka_int 24 (by decide) (by decide) (by decide) (by decide) (by decide) dX1_init_7 dX1_init_9 (fun q0 fs_ arrs_ H locs ef0 ea0 hlen hw => ?_)
  obtain rfl : fs_ = [.ref q0, .null, .null, .null, .null, .null, .int 0, .int 0] := ef0
  obtain rfl : arrs_ = [(q0, .inl (cI, 24, .inl (fun _ => 0)))] := ea0
  refine lv_aload_n hx hb dX1_init_12 rfl (lv_at hl 0 rfl) ?_
  refine lv_bipush (v := 12) hx hb dX1_init_13 (by decide) ?_
  refine r_newI C hw clsX1 hin 1 (by decide) hlen rfl rfl rfl fl_X1_15 ka_int 12 (by decide) (by decide) (by decide) (by decide) (by decide) dX1_init_15 dX1_init_17 (fun q1 fs_ arrs_ H locs ef1 ea1 hlen hw => ?_)
  obtain rfl : fs_ = [.ref q0, .ref q1, .null, .null, .null, .null, .int 0, .int 0] := ef1
  obtain rfl : arrs_ = [(q0, .inl (cI, 24, .inl (fun _ => 0))), (q1, .inl (cI, 12, .inl (fun _ => 0)))] := ea1
  refine lv_aload_n hx hb dX1_init_20 rfl (lv_at hl 0 rfl) ?_
  refine lv_bipush (v := 12) hx hb dX1_init_21 (by decide) ?_
  refine r_newI C hw clsX1 hin 2 (by decide) hlen rfl rfl rfl fl_X1_18 ka_int 12 (by decide) (by decide) (by decide) (by decide) (by decide) dX1_init_23 dX1_init_25 (fun q2 fs_ arrs_ H locs ef2 ea2 hlen hw => ?_)
  obtain rfl : fs_ = [.ref q0, .ref q1, .ref q2, .null, .null, .null, .int 0, .int 0] := ef2
  obtain rfl : arrs_ = [(q0, .inl (cI, 24, .inl (fun _ => 0))), (q1, .inl (cI, 12, .inl (fun _ => 0))), (q2, .inl (cI, 12, .inl (fun _ => 0)))] := ea2
  refine lv_aload_n hx hb dX1_init_28 rfl (lv_at hl 0 rfl) ?_
  refine lv_bipush (v := 12) hx hb dX1_init_29 (by decide) ?_
  refine r_newI C hw clsX1 hin 3 (by decide) hlen rfl rfl rfl fl_X1_21 ka_int 12 (by decide) (by decide) (by decide) (by decide) (by decide) dX1_init_31 dX1_init_33 (fun q3 fs_ arrs_ H locs ef3 ea3 hlen hw => ?_)
  obtain rfl : fs_ = [.ref q0, .ref q1, .ref q2, .ref q3, .null, .null, .int 0, .int 0] := ef3
  obtain rfl : arrs_ = [(q0, .inl (cI, 24, .inl (fun _ => 0))), (q1, .inl (cI, 12, .inl (fun _ => 0))), (q2, .inl (cI, 12, .inl (fun _ => 0))), (q3, .inl (cI, 12, .inl (fun _ => 0)))] := ea3
  refine lv_aload_n hx hb dX1_init_36 rfl (lv_at hl 0 rfl) ?_
  refine lv_bipush (v := 12) hx hb dX1_init_37 (by decide) ?_
  refine r_newI C hw clsX1 hin 4 (by decide) hlen rfl rfl rfl fl_X1_24 ka_int 12 (by decide) (by decide) (by decide) (by decide) (by decide) dX1_init_39 dX1_init_41 (fun q4 fs_ arrs_ H locs ef4 ea4 hlen hw => ?_)
  obtain rfl : fs_ = [.ref q0, .ref q1, .ref q2, .ref q3, .ref q4, .null, .int 0, .int 0] := ef4
  obtain rfl : arrs_ = [(q0, .inl (cI, 24, .inl (fun _ => 0))), (q1, .inl (cI, 12, .inl (fun _ => 0))), (q2, .inl (cI, 12, .inl (fun _ => 0))), (q3, .inl (cI, 12, .inl (fun _ => 0))), (q4, .inl (cI, 12, .inl (fun _ => 0)))] := ea4
  refine lv_aload_n hx hb dX1_init_44 rfl (lv_at hl 0 rfl) ?_
  refine lv_bipush (v := 48) hx hb dX1_init_45 (by decide) ?_
  refine r_newI C hw clsX1 hin 5 (by decide) hlen rfl rfl rfl fl_X1_27 ka_int 48 (by decide) (by decide) (by decide) (by decide) (by decide) dX1_init_47 dX1_init_49 (fun q5 fs_ arrs_ H locs ef5 ea5 hlen hw => ?_)
  obtain rfl : fs_ = [.ref q0, .ref q1, .ref q2, .ref q3, .ref q4, .ref q5, .int 0, .int 0] := ef5
  obtain rfl : arrs_ = [(q0, .inl (cI, 24, .inl (fun _ => 0))), (q1, .inl (cI, 12, .inl (fun _ => 0))), (q2, .inl (cI, 12, .inl (fun _ => 0))), (q3, .inl (cI, 12, .inl (fun _ => 0))), (q4, .inl (cI, 12, .inl (fun _ => 0))), (q5, .inl (cI, 48, .inl (fun _ => 0)))] := ea5
  have hw : pw_H D (pw_w shX1 cI cZ (pw_nth [h0, q0, q1, q2, q3, q4, q5]) (fun _ _ => 0)) A s.heap H locs := hw.of (by simp only [pw_w_eq]; rfl)
  exact wX1_init_b52 (ad := (pw_nth [h0, q0, q1, q2, q3, q4, q5])) hX C _ _ _ _ hw (lv_sub hl [0] rfl) h
set_option maxRecDepth 100000 in
set_option maxHeartbeats 4000000 in
theorem wX2_init_b28 {p : Program} {l : Launch} {e : Env} {R : Room} {s : State} {m : MethodId} {args : Array Value} {below : List Frame} {meth : Method} {c : Code} {D : va_G} {cI cZ : ClassId} {ad : Nat → Nat} {A : Nat → Prop} {z : Int32 × St} {cells slots : Nat} (hX : pw_X A s) (C : pw_C p s m args meth c yX2_init.cls cX2_init 1 none D cI cZ) : ∀  (σ : St) (H : Heap) (locs : List Loc) (ls : Array Slot), pw_H D (pw_w shX2 cI cZ ad σ) A s.heap H locs → lv_has ls 1 [(0, .ref (ad 0))] → fX2_init_b28  σ = some z → W p l e R s m args below meth c H locs cells slots (pw_QK below args s D cI cZ shX2 z.2 (ad 0) A cells slots) (F0 m 28 ls []) := by
  obtain ⟨hx, hb, hr, hts, hown, hlk, hml, hK, hN⟩ := id C
  intro σ H locs ls hw hl h
  unfold fX2_init_b28 at h
  refine lv_aload_n hx hb dX2_init_28 rfl (lv_at hl 0 rfl) ?_
  refine lv_iconst (v := 0) hx hb dX2_init_29 (by decide) ?_
  refine r_put C hw qX2_0 clsX2 3 rfl (by decide) fl_X2_21 dX2_init_30 rfl rfl rfl h (fun σ1 H locs hw h => ?_)
  exact r_kret C hw dX2_init_33 h
set_option maxRecDepth 100000 in
set_option maxHeartbeats 4000000 in
theorem kX2_init (l : Launch) (D : va_G) (cI cZ : ClassId)  (z : Int32 × St) (h : fX2_init_b28 (fun _ _ => 0) = some z) : pw_MK l D cI cZ yX2_init cX2_init 1 (pw_rk 1 3 18) 3 18 2 [.null, .null, .null, .int 0] shX2 z.2 := by
  refine pw_ofK (by decide) rfl (by decide) ?_
  intro h0 p e s m args below meth c A C hin hX hw ls hl
  obtain ⟨hx, hb, hr, hts, hown, hlk, hml, hK, hN⟩ := id C
  have hlen : ([.null, .null, .null, .int 0] : List Value).length = 4 := rfl
  refine lv_aload_n hx hb dX2_init_0 rfl (lv_at hl 0 rfl) ?_
  refine W.objInit hx hb hown (hts _ ml_X2_3) (hts _ ko_inst) (hts _ ko_code) rfl (by rw [hml]; exact hl.1) rfl dX2_init_1 (by decide) (Nat.le_of_ble_eq_true rfl) ?_
  refine W.eq (g2 := F0 m 4 ls []) rfl ?_
  refine lv_aload_n hx hb dX2_init_4 rfl (lv_at hl 0 rfl) ?_
  refine lv_bipush (v := 6) hx hb dX2_init_5 (by decide) ?_
  refine r_newI C hw clsX2 hin 0 (by decide) hlen rfl rfl rfl fl_X2_9 ka_int 6 (by decide) (by decide) (by decide) (by decide) (by decide) dX2_init_7 dX2_init_9 (fun q0 fs_ arrs_ H locs ef0 ea0 hlen hw => ?_)
  obtain rfl : fs_ = [.ref q0, .null, .null, .int 0] := ef0
  obtain rfl : arrs_ = [(q0, .inl (cI, 6, .inl (fun _ => 0)))] := ea0
  refine lv_aload_n hx hb dX2_init_12 rfl (lv_at hl 0 rfl) ?_
  refine lv_bipush (v := 6) hx hb dX2_init_13 (by decide) ?_
  refine r_newI C hw clsX2 hin 1 (by decide) hlen rfl rfl rfl fl_X2_15 ka_int 6 (by decide) (by decide) (by decide) (by decide) (by decide) dX2_init_15 dX2_init_17 (fun q1 fs_ arrs_ H locs ef1 ea1 hlen hw => ?_)
  obtain rfl : fs_ = [.ref q0, .ref q1, .null, .int 0] := ef1
  obtain rfl : arrs_ = [(q0, .inl (cI, 6, .inl (fun _ => 0))), (q1, .inl (cI, 6, .inl (fun _ => 0)))] := ea1
  refine lv_aload_n hx hb dX2_init_20 rfl (lv_at hl 0 rfl) ?_
  refine lv_bipush (v := 6) hx hb dX2_init_21 (by decide) ?_
  refine r_newI C hw clsX2 hin 2 (by decide) hlen rfl rfl rfl fl_X2_18 ka_int 6 (by decide) (by decide) (by decide) (by decide) (by decide) dX2_init_23 dX2_init_25 (fun q2 fs_ arrs_ H locs ef2 ea2 hlen hw => ?_)
  obtain rfl : fs_ = [.ref q0, .ref q1, .ref q2, .int 0] := ef2
  obtain rfl : arrs_ = [(q0, .inl (cI, 6, .inl (fun _ => 0))), (q1, .inl (cI, 6, .inl (fun _ => 0))), (q2, .inl (cI, 6, .inl (fun _ => 0)))] := ea2
  have hw : pw_H D (pw_w shX2 cI cZ (pw_nth [h0, q0, q1, q2]) (fun _ _ => 0)) A s.heap H locs := hw.of (by simp only [pw_w_eq]; rfl)
  exact wX2_init_b28 (ad := (pw_nth [h0, q0, q1, q2])) hX C _ _ _ _ hw (lv_sub hl [0] rfl) h
set_option maxRecDepth 100000 in
set_option maxHeartbeats 4000000 in
theorem wX3_init_b28 {p : Program} {l : Launch} {e : Env} {R : Room} {s : State} {m : MethodId} {args : Array Value} {below : List Frame} {meth : Method} {c : Code} {D : va_G} {cI cZ : ClassId} {ad : Nat → Nat} {A : Nat → Prop} {z : Int32 × St} {cells slots : Nat} (hX : pw_X A s) (C : pw_C p s m args meth c yX3_init.cls cX3_init 1 none D cI cZ) : ∀  (σ : St) (H : Heap) (locs : List Loc) (ls : Array Slot), pw_H D (pw_w shX3 cI cZ ad σ) A s.heap H locs → lv_has ls 1 [(0, .ref (ad 0))] → fX3_init_b28  σ = some z → W p l e R s m args below meth c H locs cells slots (pw_QK below args s D cI cZ shX3 z.2 (ad 0) A cells slots) (F0 m 28 ls []) := by
  obtain ⟨hx, hb, hr, hts, hown, hlk, hml, hK, hN⟩ := id C
  intro σ H locs ls hw hl h
  unfold fX3_init_b28 at h
  refine lv_aload_n hx hb dX3_init_28 rfl (lv_at hl 0 rfl) ?_
  refine lv_iconst (v := 0) hx hb dX3_init_29 (by decide) ?_
  refine r_put C hw qX3_0 clsX3 3 rfl (by decide) fl_X3_21 dX3_init_30 rfl rfl rfl h (fun σ1 H locs hw h => ?_)
  refine lv_aload_n hx hb dX3_init_33 rfl (lv_at hl 0 rfl) ?_
  refine lv_iconst (v := 0) hx hb dX3_init_34 (by decide) ?_
  refine r_put C hw qX3_0 clsX3 4 rfl (by decide) fl_X3_25 dX3_init_35 rfl rfl rfl h (fun σ2 H locs hw h => ?_)
  refine lv_aload_n hx hb dX3_init_38 rfl (lv_at hl 0 rfl) ?_
  refine lv_iconst (v := 0) hx hb dX3_init_39 (by decide) ?_
  refine r_put C hw qX3_0 clsX3 5 rfl (by decide) fl_X3_28 dX3_init_40 rfl rfl rfl h (fun σ3 H locs hw h => ?_)
  exact r_kret C hw dX3_init_43 h
set_option maxRecDepth 100000 in
set_option maxHeartbeats 4000000 in
theorem kX3_init (l : Launch) (D : va_G) (cI cZ : ClassId)  (z : Int32 × St) (h : fX3_init_b28 (fun _ _ => 0) = some z) : pw_MK l D cI cZ yX3_init cX3_init 1 (pw_rk 1 3 172) 3 172 3 [.null, .null, .null, .int 0, .int 0, .int 0] shX3 z.2 := by
  refine pw_ofK (by decide) rfl (by decide) ?_
  intro h0 p e s m args below meth c A C hin hX hw ls hl
  obtain ⟨hx, hb, hr, hts, hown, hlk, hml, hK, hN⟩ := id C
  have hlen : ([.null, .null, .null, .int 0, .int 0, .int 0] : List Value).length = 6 := rfl
  refine lv_aload_n hx hb dX3_init_0 rfl (lv_at hl 0 rfl) ?_
  refine W.objInit hx hb hown (hts _ ml_X3_3) (hts _ ko_inst) (hts _ ko_code) rfl (by rw [hml]; exact hl.1) rfl dX3_init_1 (by decide) (Nat.le_of_ble_eq_true rfl) ?_
  refine W.eq (g2 := F0 m 4 ls []) rfl ?_
  refine lv_aload_n hx hb dX3_init_4 rfl (lv_at hl 0 rfl) ?_
  refine lv_bipush (v := 80) hx hb dX3_init_5 (by decide) ?_
  refine r_newI C hw clsX3 hin 0 (by decide) hlen rfl rfl rfl fl_X3_9 ka_int 80 (by decide) (by decide) (by decide) (by decide) (by decide) dX3_init_7 dX3_init_9 (fun q0 fs_ arrs_ H locs ef0 ea0 hlen hw => ?_)
  obtain rfl : fs_ = [.ref q0, .null, .null, .int 0, .int 0, .int 0] := ef0
  obtain rfl : arrs_ = [(q0, .inl (cI, 80, .inl (fun _ => 0)))] := ea0
  refine lv_aload_n hx hb dX3_init_12 rfl (lv_at hl 0 rfl) ?_
  refine lv_bipush (v := 80) hx hb dX3_init_13 (by decide) ?_
  refine r_newI C hw clsX3 hin 1 (by decide) hlen rfl rfl rfl fl_X3_15 ka_int 80 (by decide) (by decide) (by decide) (by decide) (by decide) dX3_init_15 dX3_init_17 (fun q1 fs_ arrs_ H locs ef1 ea1 hlen hw => ?_)
  obtain rfl : fs_ = [.ref q0, .ref q1, .null, .int 0, .int 0, .int 0] := ef1
  obtain rfl : arrs_ = [(q0, .inl (cI, 80, .inl (fun _ => 0))), (q1, .inl (cI, 80, .inl (fun _ => 0)))] := ea1
  refine lv_aload_n hx hb dX3_init_20 rfl (lv_at hl 0 rfl) ?_
  refine lv_bipush (v := 12) hx hb dX3_init_21 (by decide) ?_
  refine r_newI C hw clsX3 hin 2 (by decide) hlen rfl rfl rfl fl_X3_18 ka_int 12 (by decide) (by decide) (by decide) (by decide) (by decide) dX3_init_23 dX3_init_25 (fun q2 fs_ arrs_ H locs ef2 ea2 hlen hw => ?_)
  obtain rfl : fs_ = [.ref q0, .ref q1, .ref q2, .int 0, .int 0, .int 0] := ef2
  obtain rfl : arrs_ = [(q0, .inl (cI, 80, .inl (fun _ => 0))), (q1, .inl (cI, 80, .inl (fun _ => 0))), (q2, .inl (cI, 12, .inl (fun _ => 0)))] := ea2
  have hw : pw_H D (pw_w shX3 cI cZ (pw_nth [h0, q0, q1, q2]) (fun _ _ => 0)) A s.heap H locs := hw.of (by simp only [pw_w_eq]; rfl)
  exact wX3_init_b28 (ad := (pw_nth [h0, q0, q1, q2])) hX C _ _ _ _ hw (lv_sub hl [0] rfl) h
set_option maxRecDepth 100000 in
set_option maxHeartbeats 4000000 in
theorem wX4_init_b13 {p : Program} {l : Launch} {e : Env} {R : Room} {s : State} {m : MethodId} {args : Array Value} {below : List Frame} {meth : Method} {c : Code} {D : va_G} {cI cZ : ClassId} {ad : Nat → Nat} {A : Nat → Prop} {z : Int32 × St} {cells slots : Nat} (hX : pw_X A s) (C : pw_C p s m args meth c yX4_init.cls cX4_init 1 none D cI cZ) : ∀  (σ : St) (H : Heap) (locs : List Loc) (ls : Array Slot), pw_H D (pw_w shX4 cI cZ ad σ) A s.heap H locs → lv_has ls 1 [] → fX4_init_b13  σ = some z → W p l e R s m args below meth c H locs cells slots (pw_QK below args s D cI cZ shX4 z.2 (ad 0) A cells slots) (F0 m 13 ls []) := by
  obtain ⟨hx, hb, hr, hts, hown, hlk, hml, hK, hN⟩ := id C
  intro σ H locs ls hw hl h
  unfold fX4_init_b13 at h
  exact r_kret C hw dX4_init_13 h
set_option maxRecDepth 100000 in
set_option maxHeartbeats 4000000 in
theorem kX4_init (l : Launch) (D : va_G) (cI cZ : ClassId)  (z : Int32 × St) (h : fX4_init_b13 (fun _ _ => 0) = some z) : pw_MK l D cI cZ yX4_init cX4_init 1 (pw_rk 1 1 201) 1 201 4 [.null] shX4 z.2 := by
  refine pw_ofK (by decide) rfl (by decide) ?_
  intro h0 p e s m args below meth c A C hin hX hw ls hl
  obtain ⟨hx, hb, hr, hts, hown, hlk, hml, hK, hN⟩ := id C
  have hlen : ([.null] : List Value).length = 1 := rfl
  refine lv_aload_n hx hb dX4_init_0 rfl (lv_at hl 0 rfl) ?_
  refine W.objInit hx hb hown (hts _ ml_X4_3) (hts _ ko_inst) (hts _ ko_code) rfl (by rw [hml]; exact hl.1) rfl dX4_init_1 (by decide) (Nat.le_of_ble_eq_true rfl) ?_
  refine W.eq (g2 := F0 m 4 ls []) rfl ?_
  refine lv_aload_n hx hb dX4_init_4 rfl (lv_at hl 0 rfl) ?_
  refine lv_sipush (v := 201) hx hb dX4_init_5 (by decide) ?_
  refine r_newI C hw clsX4 hin 0 (by decide) hlen rfl rfl rfl fl_X4_9 ka_int 201 (by decide) (by decide) (by decide) (by decide) (by decide) dX4_init_8 dX4_init_10 (fun q0 fs_ arrs_ H locs ef0 ea0 hlen hw => ?_)
  obtain rfl : fs_ = [.ref q0] := ef0
  obtain rfl : arrs_ = [(q0, .inl (cI, 201, .inl (fun _ => 0)))] := ea0
  have hw : pw_H D (pw_w shX4 cI cZ (pw_nth [h0, q0]) (fun _ _ => 0)) A s.heap H locs := hw.of (by simp only [pw_w_eq]; rfl)
  exact wX4_init_b13 (ad := (pw_nth [h0, q0])) hX C _ _ _ _ hw (lv_sub hl [] rfl) h
set_option maxRecDepth 100000 in
set_option maxHeartbeats 4000000 in
theorem wX5_init_b28 {p : Program} {l : Launch} {e : Env} {R : Room} {s : State} {m : MethodId} {args : Array Value} {below : List Frame} {meth : Method} {c : Code} {D : va_G} {cI cZ : ClassId} {ad : Nat → Nat} {A : Nat → Prop} {z : Int32 × St} {cells slots : Nat} (hX : pw_X A s) (C : pw_C p s m args meth c yX5_init.cls cX5_init 1 none D cI cZ) : ∀  (σ : St) (H : Heap) (locs : List Loc) (ls : Array Slot), pw_H D (pw_w shX5 cI cZ ad σ) A s.heap H locs → lv_has ls 1 [] → fX5_init_b28  σ = some z → W p l e R s m args below meth c H locs cells slots (pw_QK below args s D cI cZ shX5 z.2 (ad 0) A cells slots) (F0 m 28 ls []) := by
  obtain ⟨hx, hb, hr, hts, hown, hlk, hml, hK, hN⟩ := id C
  intro σ H locs ls hw hl h
  unfold fX5_init_b28 at h
  exact r_kret C hw dX5_init_28 h
set_option maxRecDepth 100000 in
set_option maxHeartbeats 4000000 in
theorem kX5_init (l : Launch) (D : va_G) (cI cZ : ClassId)  (z : Int32 × St) (h : fX5_init_b28 (fun _ _ => 0) = some z) : pw_MK l D cI cZ yX5_init cX5_init 1 (pw_rk 1 3 36) 3 36 5 [.null, .null, .null] shX5 z.2 := by
  refine pw_ofK (by decide) rfl (by decide) ?_
  intro h0 p e s m args below meth c A C hin hX hw ls hl
  obtain ⟨hx, hb, hr, hts, hown, hlk, hml, hK, hN⟩ := id C
  have hlen : ([.null, .null, .null] : List Value).length = 3 := rfl
  refine lv_aload_n hx hb dX5_init_0 rfl (lv_at hl 0 rfl) ?_
  refine W.objInit hx hb hown (hts _ ml_X5_3) (hts _ ko_inst) (hts _ ko_code) rfl (by rw [hml]; exact hl.1) rfl dX5_init_1 (by decide) (Nat.le_of_ble_eq_true rfl) ?_
  refine W.eq (g2 := F0 m 4 ls []) rfl ?_
  refine lv_aload_n hx hb dX5_init_4 rfl (lv_at hl 0 rfl) ?_
  refine lv_bipush (v := 12) hx hb dX5_init_5 (by decide) ?_
  refine r_newI C hw clsX5 hin 0 (by decide) hlen rfl rfl rfl fl_X5_9 ka_int 12 (by decide) (by decide) (by decide) (by decide) (by decide) dX5_init_7 dX5_init_9 (fun q0 fs_ arrs_ H locs ef0 ea0 hlen hw => ?_)
  obtain rfl : fs_ = [.ref q0, .null, .null] := ef0
  obtain rfl : arrs_ = [(q0, .inl (cI, 12, .inl (fun _ => 0)))] := ea0
  refine lv_aload_n hx hb dX5_init_12 rfl (lv_at hl 0 rfl) ?_
  refine lv_bipush (v := 12) hx hb dX5_init_13 (by decide) ?_
  refine r_newI C hw clsX5 hin 1 (by decide) hlen rfl rfl rfl fl_X5_15 ka_int 12 (by decide) (by decide) (by decide) (by decide) (by decide) dX5_init_15 dX5_init_17 (fun q1 fs_ arrs_ H locs ef1 ea1 hlen hw => ?_)
  obtain rfl : fs_ = [.ref q0, .ref q1, .null] := ef1
  obtain rfl : arrs_ = [(q0, .inl (cI, 12, .inl (fun _ => 0))), (q1, .inl (cI, 12, .inl (fun _ => 0)))] := ea1
  refine lv_aload_n hx hb dX5_init_20 rfl (lv_at hl 0 rfl) ?_
  refine lv_bipush (v := 12) hx hb dX5_init_21 (by decide) ?_
  refine r_newI C hw clsX5 hin 2 (by decide) hlen rfl rfl rfl fl_X5_18 ka_int 12 (by decide) (by decide) (by decide) (by decide) (by decide) dX5_init_23 dX5_init_25 (fun q2 fs_ arrs_ H locs ef2 ea2 hlen hw => ?_)
  obtain rfl : fs_ = [.ref q0, .ref q1, .ref q2] := ef2
  obtain rfl : arrs_ = [(q0, .inl (cI, 12, .inl (fun _ => 0))), (q1, .inl (cI, 12, .inl (fun _ => 0))), (q2, .inl (cI, 12, .inl (fun _ => 0)))] := ea2
  have hw : pw_H D (pw_w shX5 cI cZ (pw_nth [h0, q0, q1, q2]) (fun _ _ => 0)) A s.heap H locs := hw.of (by simp only [pw_w_eq]; rfl)
  exact wX5_init_b28 (ad := (pw_nth [h0, q0, q1, q2])) hX C _ _ _ _ hw (lv_sub hl [] rfl) h
set_option maxRecDepth 100000 in
set_option maxHeartbeats 4000000 in
theorem wX6_init_b60 {p : Program} {l : Launch} {e : Env} {R : Room} {s : State} {m : MethodId} {args : Array Value} {below : List Frame} {meth : Method} {c : Code} {D : va_G} {cI cZ : ClassId} {ad : Nat → Nat} {A : Nat → Prop} {z : Int32 × St} {cells slots : Nat} (hX : pw_X A s) (C : pw_C p s m args meth c yX6_init.cls cX6_init 1 none D cI cZ) : ∀  (σ : St) (H : Heap) (locs : List Loc) (ls : Array Slot), pw_H D (pw_w shX6 cI cZ ad σ) A s.heap H locs → lv_has ls 1 [(0, .ref (ad 0))] → fX6_init_b60  σ = some z → W p l e R s m args below meth c H locs cells slots (pw_QK below args s D cI cZ shX6 z.2 (ad 0) A cells slots) (F0 m 60 ls []) := by
  obtain ⟨hx, hb, hr, hts, hown, hlk, hml, hK, hN⟩ := id C
  intro σ H locs ls hw hl h
  unfold fX6_init_b60 at h
  refine lv_aload_n hx hb dX6_init_60 rfl (lv_at hl 0 rfl) ?_
  refine lv_iconst (v := 0) hx hb dX6_init_61 (by decide) ?_
  refine r_put C hw qX6_0 clsX6 7 rfl (by decide) fl_X6_33 dX6_init_62 rfl rfl rfl h (fun σ1 H locs hw h => ?_)
  exact r_kret C hw dX6_init_65 h
set_option maxRecDepth 100000 in
set_option maxHeartbeats 4000000 in
theorem kX6_init (l : Launch) (D : va_G) (cI cZ : ClassId)  (z : Int32 × St) (h : fX6_init_b60 (fun _ _ => 0) = some z) : pw_MK l D cI cZ yX6_init cX6_init 1 (pw_rk 1 7 560) 7 560 6 [.null, .null, .null, .null, .null, .null, .null, .int 0] shX6 z.2 := by
  refine pw_ofK (by decide) rfl (by decide) ?_
  intro h0 p e s m args below meth c A C hin hX hw ls hl
  obtain ⟨hx, hb, hr, hts, hown, hlk, hml, hK, hN⟩ := id C
  have hlen : ([.null, .null, .null, .null, .null, .null, .null, .int 0] : List Value).length = 8 := rfl
  refine lv_aload_n hx hb dX6_init_0 rfl (lv_at hl 0 rfl) ?_
  refine W.objInit hx hb hown (hts _ ml_X6_3) (hts _ ko_inst) (hts _ ko_code) rfl (by rw [hml]; exact hl.1) rfl dX6_init_1 (by decide) (Nat.le_of_ble_eq_true rfl) ?_
  refine W.eq (g2 := F0 m 4 ls []) rfl ?_
  refine lv_aload_n hx hb dX6_init_4 rfl (lv_at hl 0 rfl) ?_
  refine lv_bipush (v := 80) hx hb dX6_init_5 (by decide) ?_
  refine r_newI C hw clsX6 hin 0 (by decide) hlen rfl rfl rfl fl_X6_9 ka_int 80 (by decide) (by decide) (by decide) (by decide) (by decide) dX6_init_7 dX6_init_9 (fun q0 fs_ arrs_ H locs ef0 ea0 hlen hw => ?_)
  obtain rfl : fs_ = [.ref q0, .null, .null, .null, .null, .null, .null, .int 0] := ef0
  obtain rfl : arrs_ = [(q0, .inl (cI, 80, .inl (fun _ => 0)))] := ea0
  refine lv_aload_n hx hb dX6_init_12 rfl (lv_at hl 0 rfl) ?_
  refine lv_bipush (v := 80) hx hb dX6_init_13 (by decide) ?_
  refine r_newI C hw clsX6 hin 1 (by decide) hlen rfl rfl rfl fl_X6_15 ka_int 80 (by decide) (by decide) (by decide) (by decide) (by decide) dX6_init_15 dX6_init_17 (fun q1 fs_ arrs_ H locs ef1 ea1 hlen hw => ?_)
  obtain rfl : fs_ = [.ref q0, .ref q1, .null, .null, .null, .null, .null, .int 0] := ef1
  obtain rfl : arrs_ = [(q0, .inl (cI, 80, .inl (fun _ => 0))), (q1, .inl (cI, 80, .inl (fun _ => 0)))] := ea1
  refine lv_aload_n hx hb dX6_init_20 rfl (lv_at hl 0 rfl) ?_
  refine lv_bipush (v := 80) hx hb dX6_init_21 (by decide) ?_
  refine r_newI C hw clsX6 hin 2 (by decide) hlen rfl rfl rfl fl_X6_18 ka_int 80 (by decide) (by decide) (by decide) (by decide) (by decide) dX6_init_23 dX6_init_25 (fun q2 fs_ arrs_ H locs ef2 ea2 hlen hw => ?_)
  obtain rfl : fs_ = [.ref q0, .ref q1, .ref q2, .null, .null, .null, .null, .int 0] := ef2
  obtain rfl : arrs_ = [(q0, .inl (cI, 80, .inl (fun _ => 0))), (q1, .inl (cI, 80, .inl (fun _ => 0))), (q2, .inl (cI, 80, .inl (fun _ => 0)))] := ea2
  refine lv_aload_n hx hb dX6_init_28 rfl (lv_at hl 0 rfl) ?_
  refine lv_bipush (v := 80) hx hb dX6_init_29 (by decide) ?_
  refine r_newI C hw clsX6 hin 3 (by decide) hlen rfl rfl rfl fl_X6_21 ka_int 80 (by decide) (by decide) (by decide) (by decide) (by decide) dX6_init_31 dX6_init_33 (fun q3 fs_ arrs_ H locs ef3 ea3 hlen hw => ?_)
  obtain rfl : fs_ = [.ref q0, .ref q1, .ref q2, .ref q3, .null, .null, .null, .int 0] := ef3
  obtain rfl : arrs_ = [(q0, .inl (cI, 80, .inl (fun _ => 0))), (q1, .inl (cI, 80, .inl (fun _ => 0))), (q2, .inl (cI, 80, .inl (fun _ => 0))), (q3, .inl (cI, 80, .inl (fun _ => 0)))] := ea3
  refine lv_aload_n hx hb dX6_init_36 rfl (lv_at hl 0 rfl) ?_
  refine lv_bipush (v := 80) hx hb dX6_init_37 (by decide) ?_
  refine r_newI C hw clsX6 hin 4 (by decide) hlen rfl rfl rfl fl_X6_24 ka_int 80 (by decide) (by decide) (by decide) (by decide) (by decide) dX6_init_39 dX6_init_41 (fun q4 fs_ arrs_ H locs ef4 ea4 hlen hw => ?_)
  obtain rfl : fs_ = [.ref q0, .ref q1, .ref q2, .ref q3, .ref q4, .null, .null, .int 0] := ef4
  obtain rfl : arrs_ = [(q0, .inl (cI, 80, .inl (fun _ => 0))), (q1, .inl (cI, 80, .inl (fun _ => 0))), (q2, .inl (cI, 80, .inl (fun _ => 0))), (q3, .inl (cI, 80, .inl (fun _ => 0))), (q4, .inl (cI, 80, .inl (fun _ => 0)))] := ea4
  refine lv_aload_n hx hb dX6_init_44 rfl (lv_at hl 0 rfl) ?_
  refine lv_bipush (v := 80) hx hb dX6_init_45 (by decide) ?_
  refine r_newI C hw clsX6 hin 5 (by decide) hlen rfl rfl rfl fl_X6_27 ka_int 80 (by decide) (by decide) (by decide) (by decide) (by decide) dX6_init_47 dX6_init_49 (fun q5 fs_ arrs_ H locs ef5 ea5 hlen hw => ?_)
  obtain rfl : fs_ = [.ref q0, .ref q1, .ref q2, .ref q3, .ref q4, .ref q5, .null, .int 0] := ef5
  obtain rfl : arrs_ = [(q0, .inl (cI, 80, .inl (fun _ => 0))), (q1, .inl (cI, 80, .inl (fun _ => 0))), (q2, .inl (cI, 80, .inl (fun _ => 0))), (q3, .inl (cI, 80, .inl (fun _ => 0))), (q4, .inl (cI, 80, .inl (fun _ => 0))), (q5, .inl (cI, 80, .inl (fun _ => 0)))] := ea5
  refine lv_aload_n hx hb dX6_init_52 rfl (lv_at hl 0 rfl) ?_
  refine lv_bipush (v := 80) hx hb dX6_init_53 (by decide) ?_
  refine r_newI C hw clsX6 hin 6 (by decide) hlen rfl rfl rfl fl_X6_30 ka_int 80 (by decide) (by decide) (by decide) (by decide) (by decide) dX6_init_55 dX6_init_57 (fun q6 fs_ arrs_ H locs ef6 ea6 hlen hw => ?_)
  obtain rfl : fs_ = [.ref q0, .ref q1, .ref q2, .ref q3, .ref q4, .ref q5, .ref q6, .int 0] := ef6
  obtain rfl : arrs_ = [(q0, .inl (cI, 80, .inl (fun _ => 0))), (q1, .inl (cI, 80, .inl (fun _ => 0))), (q2, .inl (cI, 80, .inl (fun _ => 0))), (q3, .inl (cI, 80, .inl (fun _ => 0))), (q4, .inl (cI, 80, .inl (fun _ => 0))), (q5, .inl (cI, 80, .inl (fun _ => 0))), (q6, .inl (cI, 80, .inl (fun _ => 0)))] := ea6
  have hw : pw_H D (pw_w shX6 cI cZ (pw_nth [h0, q0, q1, q2, q3, q4, q5, q6]) (fun _ _ => 0)) A s.heap H locs := hw.of (by simp only [pw_w_eq]; rfl)
  exact wX6_init_b60 (ad := (pw_nth [h0, q0, q1, q2, q3, q4, q5, q6])) hX C _ _ _ _ hw (lv_sub hl [0] rfl) h
set_option maxRecDepth 100000 in
set_option maxHeartbeats 4000000 in
theorem wX7_init_b66 {p : Program} {l : Launch} {e : Env} {R : Room} {s : State} {m : MethodId} {args : Array Value} {below : List Frame} {meth : Method} {c : Code} {D : va_G} {cI cZ : ClassId} {ad : Nat → Nat} {A : Nat → Prop} {z : Int32 × St} {cells slots : Nat} (hX : pw_X A s) (C : pw_C p s m args meth c yX7_init.cls cX7_init 1 none D cI cZ) : ∀  (σ : St) (H : Heap) (locs : List Loc) (ls : Array Slot), pw_H D (pw_w shX7 cI cZ ad σ) A s.heap H locs → lv_has ls 1 [(0, .ref (ad 0))] → fX7_init_b66  σ = some z → W p l e R s m args below meth c H locs cells slots (pw_QK below args s D cI cZ shX7 z.2 (ad 0) A cells slots) (F0 m 66 ls []) := by
  obtain ⟨hx, hb, hr, hts, hown, hlk, hml, hK, hN⟩ := id C
  intro σ H locs ls hw hl h
  unfold fX7_init_b66 at h
  refine lv_aload_n hx hb dX7_init_66 rfl (lv_at hl 0 rfl) ?_
  refine lv_iconst (v := 0) hx hb dX7_init_67 (by decide) ?_
  refine r_put C hw qX7_0 clsX7 8 rfl (by decide) fl_X7_36 dX7_init_68 rfl rfl rfl h (fun σ1 H locs hw h => ?_)
  refine lv_aload_n hx hb dX7_init_71 rfl (lv_at hl 0 rfl) ?_
  refine lv_iconst (v := 0) hx hb dX7_init_72 (by decide) ?_
  refine r_put C hw qX7_0 clsX7 9 rfl (by decide) fl_X7_40 dX7_init_73 rfl rfl rfl h (fun σ2 H locs hw h => ?_)
  refine lv_aload_n hx hb dX7_init_76 rfl (lv_at hl 0 rfl) ?_
  refine lv_bipush (v := (-9)) hx hb dX7_init_77 (by decide) ?_
  refine r_put C hw qX7_0 clsX7 10 rfl (by decide) fl_X7_43 dX7_init_79 rfl rfl rfl h (fun σ3 H locs hw h => ?_)
  exact r_kret C hw dX7_init_82 h
set_option maxRecDepth 100000 in
set_option maxHeartbeats 4000000 in
theorem kX7_init (l : Launch) (D : va_G) (cI cZ : ClassId)  (z : Int32 × St) (h : fX7_init_b66 (fun _ _ => 0) = some z) : pw_MK l D cI cZ yX7_init cX7_init 1 (pw_rk 1 8 280) 8 280 7 [.null, .null, .null, .null, .null, .null, .null, .null, .int 0, .int 0, .int 0] shX7 z.2 := by
  refine pw_ofK (by decide) rfl (by decide) ?_
  intro h0 p e s m args below meth c A C hin hX hw ls hl
  obtain ⟨hx, hb, hr, hts, hown, hlk, hml, hK, hN⟩ := id C
  have hlen : ([.null, .null, .null, .null, .null, .null, .null, .null, .int 0, .int 0, .int 0] : List Value).length = 11 := rfl
  refine lv_aload_n hx hb dX7_init_0 rfl (lv_at hl 0 rfl) ?_
  refine W.objInit hx hb hown (hts _ ml_X7_3) (hts _ ko_inst) (hts _ ko_code) rfl (by rw [hml]; exact hl.1) rfl dX7_init_1 (by decide) (Nat.le_of_ble_eq_true rfl) ?_
  refine W.eq (g2 := F0 m 4 ls []) rfl ?_
  refine lv_aload_n hx hb dX7_init_4 rfl (lv_at hl 0 rfl) ?_
  refine lv_bipush (v := 32) hx hb dX7_init_5 (by decide) ?_
  refine r_newI C hw clsX7 hin 0 (by decide) hlen rfl rfl rfl fl_X7_9 ka_int 32 (by decide) (by decide) (by decide) (by decide) (by decide) dX7_init_7 dX7_init_9 (fun q0 fs_ arrs_ H locs ef0 ea0 hlen hw => ?_)
  obtain rfl : fs_ = [.ref q0, .null, .null, .null, .null, .null, .null, .null, .int 0, .int 0, .int 0] := ef0
  obtain rfl : arrs_ = [(q0, .inl (cI, 32, .inl (fun _ => 0)))] := ea0
  refine lv_aload_n hx hb dX7_init_12 rfl (lv_at hl 0 rfl) ?_
  refine lv_bipush (v := 32) hx hb dX7_init_13 (by decide) ?_
  refine r_newI C hw clsX7 hin 1 (by decide) hlen rfl rfl rfl fl_X7_15 ka_int 32 (by decide) (by decide) (by decide) (by decide) (by decide) dX7_init_15 dX7_init_17 (fun q1 fs_ arrs_ H locs ef1 ea1 hlen hw => ?_)
  obtain rfl : fs_ = [.ref q0, .ref q1, .null, .null, .null, .null, .null, .null, .int 0, .int 0, .int 0] := ef1
  obtain rfl : arrs_ = [(q0, .inl (cI, 32, .inl (fun _ => 0))), (q1, .inl (cI, 32, .inl (fun _ => 0)))] := ea1
  refine lv_aload_n hx hb dX7_init_20 rfl (lv_at hl 0 rfl) ?_
  refine lv_bipush (v := 32) hx hb dX7_init_21 (by decide) ?_
  refine r_newI C hw clsX7 hin 2 (by decide) hlen rfl rfl rfl fl_X7_18 ka_int 32 (by decide) (by decide) (by decide) (by decide) (by decide) dX7_init_23 dX7_init_25 (fun q2 fs_ arrs_ H locs ef2 ea2 hlen hw => ?_)
  obtain rfl : fs_ = [.ref q0, .ref q1, .ref q2, .null, .null, .null, .null, .null, .int 0, .int 0, .int 0] := ef2
  obtain rfl : arrs_ = [(q0, .inl (cI, 32, .inl (fun _ => 0))), (q1, .inl (cI, 32, .inl (fun _ => 0))), (q2, .inl (cI, 32, .inl (fun _ => 0)))] := ea2
  refine lv_aload_n hx hb dX7_init_28 rfl (lv_at hl 0 rfl) ?_
  refine lv_bipush (v := 60) hx hb dX7_init_29 (by decide) ?_
  refine r_newI C hw clsX7 hin 3 (by decide) hlen rfl rfl rfl fl_X7_21 ka_int 60 (by decide) (by decide) (by decide) (by decide) (by decide) dX7_init_31 dX7_init_33 (fun q3 fs_ arrs_ H locs ef3 ea3 hlen hw => ?_)
  obtain rfl : fs_ = [.ref q0, .ref q1, .ref q2, .ref q3, .null, .null, .null, .null, .int 0, .int 0, .int 0] := ef3
  obtain rfl : arrs_ = [(q0, .inl (cI, 32, .inl (fun _ => 0))), (q1, .inl (cI, 32, .inl (fun _ => 0))), (q2, .inl (cI, 32, .inl (fun _ => 0))), (q3, .inl (cI, 60, .inl (fun _ => 0)))] := ea3
  refine lv_aload_n hx hb dX7_init_36 rfl (lv_at hl 0 rfl) ?_
  refine lv_bipush (v := 60) hx hb dX7_init_37 (by decide) ?_
  refine r_newI C hw clsX7 hin 4 (by decide) hlen rfl rfl rfl fl_X7_24 ka_int 60 (by decide) (by decide) (by decide) (by decide) (by decide) dX7_init_39 dX7_init_41 (fun q4 fs_ arrs_ H locs ef4 ea4 hlen hw => ?_)
  obtain rfl : fs_ = [.ref q0, .ref q1, .ref q2, .ref q3, .ref q4, .null, .null, .null, .int 0, .int 0, .int 0] := ef4
  obtain rfl : arrs_ = [(q0, .inl (cI, 32, .inl (fun _ => 0))), (q1, .inl (cI, 32, .inl (fun _ => 0))), (q2, .inl (cI, 32, .inl (fun _ => 0))), (q3, .inl (cI, 60, .inl (fun _ => 0))), (q4, .inl (cI, 60, .inl (fun _ => 0)))] := ea4
  refine lv_aload_n hx hb dX7_init_44 rfl (lv_at hl 0 rfl) ?_
  refine lv_bipush (v := 60) hx hb dX7_init_45 (by decide) ?_
  refine r_newI C hw clsX7 hin 5 (by decide) hlen rfl rfl rfl fl_X7_27 ka_int 60 (by decide) (by decide) (by decide) (by decide) (by decide) dX7_init_47 dX7_init_49 (fun q5 fs_ arrs_ H locs ef5 ea5 hlen hw => ?_)
  obtain rfl : fs_ = [.ref q0, .ref q1, .ref q2, .ref q3, .ref q4, .ref q5, .null, .null, .int 0, .int 0, .int 0] := ef5
  obtain rfl : arrs_ = [(q0, .inl (cI, 32, .inl (fun _ => 0))), (q1, .inl (cI, 32, .inl (fun _ => 0))), (q2, .inl (cI, 32, .inl (fun _ => 0))), (q3, .inl (cI, 60, .inl (fun _ => 0))), (q4, .inl (cI, 60, .inl (fun _ => 0))), (q5, .inl (cI, 60, .inl (fun _ => 0)))] := ea5
  refine lv_aload_n hx hb dX7_init_52 rfl (lv_at hl 0 rfl) ?_
  refine lv_iconst (v := 2) hx hb dX7_init_53 (by decide) ?_
  refine r_newI C hw clsX7 hin 6 (by decide) hlen rfl rfl rfl fl_X7_30 ka_int 2 (by decide) (by decide) (by decide) (by decide) (by decide) dX7_init_54 dX7_init_56 (fun q6 fs_ arrs_ H locs ef6 ea6 hlen hw => ?_)
  obtain rfl : fs_ = [.ref q0, .ref q1, .ref q2, .ref q3, .ref q4, .ref q5, .ref q6, .null, .int 0, .int 0, .int 0] := ef6
  obtain rfl : arrs_ = [(q0, .inl (cI, 32, .inl (fun _ => 0))), (q1, .inl (cI, 32, .inl (fun _ => 0))), (q2, .inl (cI, 32, .inl (fun _ => 0))), (q3, .inl (cI, 60, .inl (fun _ => 0))), (q4, .inl (cI, 60, .inl (fun _ => 0))), (q5, .inl (cI, 60, .inl (fun _ => 0))), (q6, .inl (cI, 2, .inl (fun _ => 0)))] := ea6
  refine lv_aload_n hx hb dX7_init_59 rfl (lv_at hl 0 rfl) ?_
  refine lv_iconst (v := 2) hx hb dX7_init_60 (by decide) ?_
  refine r_newI C hw clsX7 hin 7 (by decide) hlen rfl rfl rfl fl_X7_33 ka_int 2 (by decide) (by decide) (by decide) (by decide) (by decide) dX7_init_61 dX7_init_63 (fun q7 fs_ arrs_ H locs ef7 ea7 hlen hw => ?_)
  obtain rfl : fs_ = [.ref q0, .ref q1, .ref q2, .ref q3, .ref q4, .ref q5, .ref q6, .ref q7, .int 0, .int 0, .int 0] := ef7
  obtain rfl : arrs_ = [(q0, .inl (cI, 32, .inl (fun _ => 0))), (q1, .inl (cI, 32, .inl (fun _ => 0))), (q2, .inl (cI, 32, .inl (fun _ => 0))), (q3, .inl (cI, 60, .inl (fun _ => 0))), (q4, .inl (cI, 60, .inl (fun _ => 0))), (q5, .inl (cI, 60, .inl (fun _ => 0))), (q6, .inl (cI, 2, .inl (fun _ => 0))), (q7, .inl (cI, 2, .inl (fun _ => 0)))] := ea7
  have hw : pw_H D (pw_w shX7 cI cZ (pw_nth [h0, q0, q1, q2, q3, q4, q5, q6, q7]) (fun _ _ => 0)) A s.heap H locs := hw.of (by simp only [pw_w_eq]; rfl)
  exact wX7_init_b66 (ad := (pw_nth [h0, q0, q1, q2, q3, q4, q5, q6, q7])) hX C _ _ _ _ hw (lv_sub hl [0] rfl) h
set_option maxRecDepth 100000 in
set_option maxHeartbeats 4000000 in
theorem wX8_init_b68 {p : Program} {l : Launch} {e : Env} {R : Room} {s : State} {m : MethodId} {args : Array Value} {below : List Frame} {meth : Method} {c : Code} {D : va_G} {cI cZ : ClassId} {ad : Nat → Nat} {A : Nat → Prop} {z : Int32 × St} {cells slots : Nat} (hX : pw_X A s) (C : pw_C p s m args meth c yX8_init.cls cX8_init 1 none D cI cZ) : ∀  (σ : St) (H : Heap) (locs : List Loc) (ls : Array Slot), pw_H D (pw_w shX8 cI cZ ad σ) A s.heap H locs → lv_has ls 1 [(0, .ref (ad 0))] → fX8_init_b68  σ = some z → W p l e R s m args below meth c H locs cells slots (pw_QK below args s D cI cZ shX8 z.2 (ad 0) A cells slots) (F0 m 68 ls []) := by
  obtain ⟨hx, hb, hr, hts, hown, hlk, hml, hK, hN⟩ := id C
  intro σ H locs ls hw hl h
  unfold fX8_init_b68 at h
  refine lv_aload_n hx hb dX8_init_68 rfl (lv_at hl 0 rfl) ?_
  refine lv_iconst (v := 0) hx hb dX8_init_69 (by decide) ?_
  refine r_put C hw qX8_0 clsX8 8 rfl (by decide) fl_X8_36 dX8_init_70 rfl rfl rfl h (fun σ1 H locs hw h => ?_)
  exact r_kret C hw dX8_init_73 h
set_option maxRecDepth 100000 in
set_option maxHeartbeats 4000000 in
theorem kX8_init (l : Launch) (D : va_G) (cI cZ : ClassId)  (z : Int32 × St) (h : fX8_init_b68 (fun _ _ => 0) = some z) : pw_MK l D cI cZ yX8_init cX8_init 1 (pw_rk 1 8 72) 8 72 8 [.null, .null, .null, .null, .null, .null, .null, .null, .int 0] shX8 z.2 := by
  refine pw_ofK (by decide) rfl (by decide) ?_
  intro h0 p e s m args below meth c A C hin hX hw ls hl
  obtain ⟨hx, hb, hr, hts, hown, hlk, hml, hK, hN⟩ := id C
  have hlen : ([.null, .null, .null, .null, .null, .null, .null, .null, .int 0] : List Value).length = 9 := rfl
  refine lv_aload_n hx hb dX8_init_0 rfl (lv_at hl 0 rfl) ?_
  refine W.objInit hx hb hown (hts _ ml_X8_3) (hts _ ko_inst) (hts _ ko_code) rfl (by rw [hml]; exact hl.1) rfl dX8_init_1 (by decide) (Nat.le_of_ble_eq_true rfl) ?_
  refine W.eq (g2 := F0 m 4 ls []) rfl ?_
  refine lv_aload_n hx hb dX8_init_4 rfl (lv_at hl 0 rfl) ?_
  refine lv_bipush (v := 8) hx hb dX8_init_5 (by decide) ?_
  refine r_newI C hw clsX8 hin 0 (by decide) hlen rfl rfl rfl fl_X8_9 ka_int 8 (by decide) (by decide) (by decide) (by decide) (by decide) dX8_init_7 dX8_init_9 (fun q0 fs_ arrs_ H locs ef0 ea0 hlen hw => ?_)
  obtain rfl : fs_ = [.ref q0, .null, .null, .null, .null, .null, .null, .null, .int 0] := ef0
  obtain rfl : arrs_ = [(q0, .inl (cI, 8, .inl (fun _ => 0)))] := ea0
  refine lv_aload_n hx hb dX8_init_12 rfl (lv_at hl 0 rfl) ?_
  refine lv_bipush (v := 8) hx hb dX8_init_13 (by decide) ?_
  refine r_newI C hw clsX8 hin 1 (by decide) hlen rfl rfl rfl fl_X8_15 ka_int 8 (by decide) (by decide) (by decide) (by decide) (by decide) dX8_init_15 dX8_init_17 (fun q1 fs_ arrs_ H locs ef1 ea1 hlen hw => ?_)
  obtain rfl : fs_ = [.ref q0, .ref q1, .null, .null, .null, .null, .null, .null, .int 0] := ef1
  obtain rfl : arrs_ = [(q0, .inl (cI, 8, .inl (fun _ => 0))), (q1, .inl (cI, 8, .inl (fun _ => 0)))] := ea1
  refine lv_aload_n hx hb dX8_init_20 rfl (lv_at hl 0 rfl) ?_
  refine lv_bipush (v := 8) hx hb dX8_init_21 (by decide) ?_
  refine r_newI C hw clsX8 hin 2 (by decide) hlen rfl rfl rfl fl_X8_18 ka_int 8 (by decide) (by decide) (by decide) (by decide) (by decide) dX8_init_23 dX8_init_25 (fun q2 fs_ arrs_ H locs ef2 ea2 hlen hw => ?_)
  obtain rfl : fs_ = [.ref q0, .ref q1, .ref q2, .null, .null, .null, .null, .null, .int 0] := ef2
  obtain rfl : arrs_ = [(q0, .inl (cI, 8, .inl (fun _ => 0))), (q1, .inl (cI, 8, .inl (fun _ => 0))), (q2, .inl (cI, 8, .inl (fun _ => 0)))] := ea2
  refine lv_aload_n hx hb dX8_init_28 rfl (lv_at hl 0 rfl) ?_
  refine lv_bipush (v := 8) hx hb dX8_init_29 (by decide) ?_
  refine r_newI C hw clsX8 hin 3 (by decide) hlen rfl rfl rfl fl_X8_21 ka_int 8 (by decide) (by decide) (by decide) (by decide) (by decide) dX8_init_31 dX8_init_33 (fun q3 fs_ arrs_ H locs ef3 ea3 hlen hw => ?_)
  obtain rfl : fs_ = [.ref q0, .ref q1, .ref q2, .ref q3, .null, .null, .null, .null, .int 0] := ef3
  obtain rfl : arrs_ = [(q0, .inl (cI, 8, .inl (fun _ => 0))), (q1, .inl (cI, 8, .inl (fun _ => 0))), (q2, .inl (cI, 8, .inl (fun _ => 0))), (q3, .inl (cI, 8, .inl (fun _ => 0)))] := ea3
  refine lv_aload_n hx hb dX8_init_36 rfl (lv_at hl 0 rfl) ?_
  refine lv_bipush (v := 8) hx hb dX8_init_37 (by decide) ?_
  refine r_newI C hw clsX8 hin 4 (by decide) hlen rfl rfl rfl fl_X8_24 ka_int 8 (by decide) (by decide) (by decide) (by decide) (by decide) dX8_init_39 dX8_init_41 (fun q4 fs_ arrs_ H locs ef4 ea4 hlen hw => ?_)
  obtain rfl : fs_ = [.ref q0, .ref q1, .ref q2, .ref q3, .ref q4, .null, .null, .null, .int 0] := ef4
  obtain rfl : arrs_ = [(q0, .inl (cI, 8, .inl (fun _ => 0))), (q1, .inl (cI, 8, .inl (fun _ => 0))), (q2, .inl (cI, 8, .inl (fun _ => 0))), (q3, .inl (cI, 8, .inl (fun _ => 0))), (q4, .inl (cI, 8, .inl (fun _ => 0)))] := ea4
  refine lv_aload_n hx hb dX8_init_44 rfl (lv_at hl 0 rfl) ?_
  refine lv_bipush (v := 8) hx hb dX8_init_45 (by decide) ?_
  refine r_newI C hw clsX8 hin 5 (by decide) hlen rfl rfl rfl fl_X8_27 ka_int 8 (by decide) (by decide) (by decide) (by decide) (by decide) dX8_init_47 dX8_init_49 (fun q5 fs_ arrs_ H locs ef5 ea5 hlen hw => ?_)
  obtain rfl : fs_ = [.ref q0, .ref q1, .ref q2, .ref q3, .ref q4, .ref q5, .null, .null, .int 0] := ef5
  obtain rfl : arrs_ = [(q0, .inl (cI, 8, .inl (fun _ => 0))), (q1, .inl (cI, 8, .inl (fun _ => 0))), (q2, .inl (cI, 8, .inl (fun _ => 0))), (q3, .inl (cI, 8, .inl (fun _ => 0))), (q4, .inl (cI, 8, .inl (fun _ => 0))), (q5, .inl (cI, 8, .inl (fun _ => 0)))] := ea5
  refine lv_aload_n hx hb dX8_init_52 rfl (lv_at hl 0 rfl) ?_
  refine lv_bipush (v := 12) hx hb dX8_init_53 (by decide) ?_
  refine r_newI C hw clsX8 hin 6 (by decide) hlen rfl rfl rfl fl_X8_30 ka_int 12 (by decide) (by decide) (by decide) (by decide) (by decide) dX8_init_55 dX8_init_57 (fun q6 fs_ arrs_ H locs ef6 ea6 hlen hw => ?_)
  obtain rfl : fs_ = [.ref q0, .ref q1, .ref q2, .ref q3, .ref q4, .ref q5, .ref q6, .null, .int 0] := ef6
  obtain rfl : arrs_ = [(q0, .inl (cI, 8, .inl (fun _ => 0))), (q1, .inl (cI, 8, .inl (fun _ => 0))), (q2, .inl (cI, 8, .inl (fun _ => 0))), (q3, .inl (cI, 8, .inl (fun _ => 0))), (q4, .inl (cI, 8, .inl (fun _ => 0))), (q5, .inl (cI, 8, .inl (fun _ => 0))), (q6, .inl (cI, 12, .inl (fun _ => 0)))] := ea6
  refine lv_aload_n hx hb dX8_init_60 rfl (lv_at hl 0 rfl) ?_
  refine lv_bipush (v := 12) hx hb dX8_init_61 (by decide) ?_
  refine r_newI C hw clsX8 hin 7 (by decide) hlen rfl rfl rfl fl_X8_33 ka_int 12 (by decide) (by decide) (by decide) (by decide) (by decide) dX8_init_63 dX8_init_65 (fun q7 fs_ arrs_ H locs ef7 ea7 hlen hw => ?_)
  obtain rfl : fs_ = [.ref q0, .ref q1, .ref q2, .ref q3, .ref q4, .ref q5, .ref q6, .ref q7, .int 0] := ef7
  obtain rfl : arrs_ = [(q0, .inl (cI, 8, .inl (fun _ => 0))), (q1, .inl (cI, 8, .inl (fun _ => 0))), (q2, .inl (cI, 8, .inl (fun _ => 0))), (q3, .inl (cI, 8, .inl (fun _ => 0))), (q4, .inl (cI, 8, .inl (fun _ => 0))), (q5, .inl (cI, 8, .inl (fun _ => 0))), (q6, .inl (cI, 12, .inl (fun _ => 0))), (q7, .inl (cI, 12, .inl (fun _ => 0)))] := ea7
  have hw : pw_H D (pw_w shX8 cI cZ (pw_nth [h0, q0, q1, q2, q3, q4, q5, q6, q7]) (fun _ _ => 0)) A s.heap H locs := hw.of (by simp only [pw_w_eq]; rfl)
  exact wX8_init_b68 (ad := (pw_nth [h0, q0, q1, q2, q3, q4, q5, q6, q7])) hX C _ _ _ _ hw (lv_sub hl [0] rfl) h
set_option maxRecDepth 100000 in
set_option maxHeartbeats 4000000 in
theorem wX9_init_b59 {p : Program} {l : Launch} {e : Env} {R : Room} {s : State} {m : MethodId} {args : Array Value} {below : List Frame} {meth : Method} {c : Code} {D : va_G} {cI cZ : ClassId} {ad : Nat → Nat} {A : Nat → Prop} {z : Int32 × St} {cells slots : Nat} (hX : pw_X A s) (C : pw_C p s m args meth c yX9_init.cls cX9_init 2 none D cI cZ) : ∀ (n : Nat) (x1 : Int32) (σ : St) (H : Heap) (locs : List Loc) (ls : Array Slot), pw_H D (pw_w shX9 cI cZ ad σ) A s.heap H locs → lv_has ls 2 [(0, .ref (ad 0)), (1, .int x1)] → fX9_init_b59 n x1 σ = some z → W p l e R s m args below meth c H locs cells slots (pw_QK below args s D cI cZ shX9 z.2 (ad 0) A cells slots) (F0 m 59 ls []) := by
  obtain ⟨hx, hb, hr, hts, hown, hlk, hml, hK, hN⟩ := id C
  intro n
  induction n with
  | zero =>
    intro x1 σ H locs ls hw hl h
    exact absurd h (by simp [fX9_init_b59])
  | succ n ih =>
    intro x1 σ H locs ls hw hl h
    rw [fX9_init_b59] at h
    refine lv_iload_n hx hb dX9_init_59 rfl (lv_at hl 1 rfl) ?_
    refine lv_iconst (v := 3) hx hb dX9_init_60 (by decide) ?_
    refine lv_icmp_ge (tgt := 77) hx hb dX9_init_61 (by decide) (fun hc => ?_) (fun hc => ?_)
    · replace h := pw_t hc h
      exact r_kret C hw dX9_init_77 h
    · replace h := pw_f hc h
      refine lv_aload_n hx hb dX9_init_64 rfl (lv_at hl 0 rfl) ?_
      refine r_get C hw qX9_0 clsX9 0 rfl (by decide) fl_X9_9 dX9_init_65 (v := .ref (ad 1)) rfl ?_
      refine lv_iload_n hx hb dX9_init_68 rfl (lv_at hl 1 rfl) ?_
      refine lv_iconst (v := 1) hx hb dX9_init_69 (by decide) ?_
      refine r_iast C hw qX9_1 dX9_init_70 h (fun σ1 H locs hw h => ?_)
      refine lv_iinc (v := (x1 + 1)) (lv' := [(1, .int (x1 + 1)), (0, .ref (ad 0))]) hx hb dX9_init_71 hl (k := 1) rfl rfl (by decide) rfl (fun ls hl => ?_)
      refine lv_goto (tgt := 59) hx hb dX9_init_74 (by decide) ?_
      exact ih _ _ _ _ _ hw (lv_sub hl [1, 0] rfl) h
set_option maxRecDepth 100000 in
set_option maxHeartbeats 4000000 in
theorem wX9_init_b42 {p : Program} {l : Launch} {e : Env} {R : Room} {s : State} {m : MethodId} {args : Array Value} {below : List Frame} {meth : Method} {c : Code} {D : va_G} {cI cZ : ClassId} {ad : Nat → Nat} {A : Nat → Prop} {z : Int32 × St} {cells slots : Nat} (hX : pw_X A s) (C : pw_C p s m args meth c yX9_init.cls cX9_init 2 none D cI cZ) : ∀  (σ : St) (H : Heap) (locs : List Loc) (ls : Array Slot), pw_H D (pw_w shX9 cI cZ ad σ) A s.heap H locs → lv_has ls 2 [(0, .ref (ad 0))] → fX9_init_b42  σ = some z → W p l e R s m args below meth c H locs cells slots (pw_QK below args s D cI cZ shX9 z.2 (ad 0) A cells slots) (F0 m 42 ls []) := by
  obtain ⟨hx, hb, hr, hts, hown, hlk, hml, hK, hN⟩ := id C
  intro σ H locs ls hw hl h
  unfold fX9_init_b42 at h
  refine lv_aload_n hx hb dX9_init_42 rfl (lv_at hl 0 rfl) ?_
  refine lv_iconst (v := 0) hx hb dX9_init_43 (by decide) ?_
  refine r_put C hw qX9_0 clsX9 5 rfl (by decide) fl_X9_27 dX9_init_44 rfl rfl rfl h (fun σ2 H locs hw h => ?_)
  refine lv_aload_n hx hb dX9_init_47 rfl (lv_at hl 0 rfl) ?_
  refine lv_iconst (v := 0) hx hb dX9_init_48 (by decide) ?_
  refine r_put C hw qX9_0 clsX9 6 rfl (by decide) fl_X9_31 dX9_init_49 rfl rfl rfl h (fun σ3 H locs hw h => ?_)
  refine lv_aload_n hx hb dX9_init_52 rfl (lv_at hl 0 rfl) ?_
  refine lv_iconst (v := 1) hx hb dX9_init_53 (by decide) ?_
  refine r_put C hw qX9_0 clsX9 7 rfl (by decide) fl_X9_34 dX9_init_54 rfl rfl rfl h (fun σ4 H locs hw h => ?_)
  refine lv_iconst (v := 0) hx hb dX9_init_57 (by decide) ?_
  refine lv_istore_n (lv' := [(1, .int 0), (0, .ref (ad 0))]) hx hb dX9_init_58 rfl hl (by decide) rfl (fun ls hl => ?_)
  exact wX9_init_b59 hX C  _ _ _ _ _ _ hw (lv_sub hl [1, 0] rfl) h
set_option maxRecDepth 100000 in
set_option maxHeartbeats 4000000 in
theorem kX9_init (l : Launch) (D : va_G) (cI cZ : ClassId)  (z : Int32 × St) (h : fX9_init_b42 (fun _ _ => 0) = some z) : pw_MK l D cI cZ yX9_init cX9_init 2 (pw_rk 1 5 30) 5 30 9 [.null, .null, .null, .null, .null, .int 0, .int 0, .int 0] shX9 z.2 := by
  refine pw_ofK (by decide) rfl (by decide) ?_
  intro h0 p e s m args below meth c A C hin hX hw ls hl
  obtain ⟨hx, hb, hr, hts, hown, hlk, hml, hK, hN⟩ := id C
  have hlen : ([.null, .null, .null, .null, .null, .int 0, .int 0, .int 0] : List Value).length = 8 := rfl
  refine lv_aload_n hx hb dX9_init_0 rfl (lv_at hl 0 rfl) ?_
  refine W.objInit hx hb hown (hts _ ml_X9_3) (hts _ ko_inst) (hts _ ko_code) rfl (by rw [hml]; exact hl.1) rfl dX9_init_1 (by decide) (Nat.le_of_ble_eq_true rfl) ?_
  refine W.eq (g2 := F0 m 4 ls []) rfl ?_
  refine lv_aload_n hx hb dX9_init_4 rfl (lv_at hl 0 rfl) ?_
  refine lv_iconst (v := 3) hx hb dX9_init_5 (by decide) ?_
  refine r_newI C hw clsX9 hin 0 (by decide) hlen rfl rfl rfl fl_X9_9 ka_int 3 (by decide) (by decide) (by decide) (by decide) (by decide) dX9_init_6 dX9_init_8 (fun q0 fs_ arrs_ H locs ef0 ea0 hlen hw => ?_)
  obtain rfl : fs_ = [.ref q0, .null, .null, .null, .null, .int 0, .int 0, .int 0] := ef0
  obtain rfl : arrs_ = [(q0, .inl (cI, 3, .inl (fun _ => 0)))] := ea0
  refine lv_aload_n hx hb dX9_init_11 rfl (lv_at hl 0 rfl) ?_
  refine lv_bipush (v := 8) hx hb dX9_init_12 (by decide) ?_
  refine r_newI C hw clsX9 hin 1 (by decide) hlen rfl rfl rfl fl_X9_15 ka_int 8 (by decide) (by decide) (by decide) (by decide) (by decide) dX9_init_14 dX9_init_16 (fun q1 fs_ arrs_ H locs ef1 ea1 hlen hw => ?_)
  obtain rfl : fs_ = [.ref q0, .ref q1, .null, .null, .null, .int 0, .int 0, .int 0] := ef1
  obtain rfl : arrs_ = [(q0, .inl (cI, 3, .inl (fun _ => 0))), (q1, .inl (cI, 8, .inl (fun _ => 0)))] := ea1
  refine lv_aload_n hx hb dX9_init_19 rfl (lv_at hl 0 rfl) ?_
  refine lv_bipush (v := 8) hx hb dX9_init_20 (by decide) ?_
  refine r_newI C hw clsX9 hin 2 (by decide) hlen rfl rfl rfl fl_X9_18 ka_int 8 (by decide) (by decide) (by decide) (by decide) (by decide) dX9_init_22 dX9_init_24 (fun q2 fs_ arrs_ H locs ef2 ea2 hlen hw => ?_)
  obtain rfl : fs_ = [.ref q0, .ref q1, .ref q2, .null, .null, .int 0, .int 0, .int 0] := ef2
  obtain rfl : arrs_ = [(q0, .inl (cI, 3, .inl (fun _ => 0))), (q1, .inl (cI, 8, .inl (fun _ => 0))), (q2, .inl (cI, 8, .inl (fun _ => 0)))] := ea2
  refine lv_aload_n hx hb dX9_init_27 rfl (lv_at hl 0 rfl) ?_
  refine lv_bipush (v := 8) hx hb dX9_init_28 (by decide) ?_
  refine r_newI C hw clsX9 hin 3 (by decide) hlen rfl rfl rfl fl_X9_21 ka_int 8 (by decide) (by decide) (by decide) (by decide) (by decide) dX9_init_30 dX9_init_32 (fun q3 fs_ arrs_ H locs ef3 ea3 hlen hw => ?_)
  obtain rfl : fs_ = [.ref q0, .ref q1, .ref q2, .ref q3, .null, .int 0, .int 0, .int 0] := ef3
  obtain rfl : arrs_ = [(q0, .inl (cI, 3, .inl (fun _ => 0))), (q1, .inl (cI, 8, .inl (fun _ => 0))), (q2, .inl (cI, 8, .inl (fun _ => 0))), (q3, .inl (cI, 8, .inl (fun _ => 0)))] := ea3
  refine lv_aload_n hx hb dX9_init_35 rfl (lv_at hl 0 rfl) ?_
  refine lv_iconst (v := 3) hx hb dX9_init_36 (by decide) ?_
  refine r_newI C hw clsX9 hin 4 (by decide) hlen rfl rfl rfl fl_X9_24 ka_int 3 (by decide) (by decide) (by decide) (by decide) (by decide) dX9_init_37 dX9_init_39 (fun q4 fs_ arrs_ H locs ef4 ea4 hlen hw => ?_)
  obtain rfl : fs_ = [.ref q0, .ref q1, .ref q2, .ref q3, .ref q4, .int 0, .int 0, .int 0] := ef4
  obtain rfl : arrs_ = [(q0, .inl (cI, 3, .inl (fun _ => 0))), (q1, .inl (cI, 8, .inl (fun _ => 0))), (q2, .inl (cI, 8, .inl (fun _ => 0))), (q3, .inl (cI, 8, .inl (fun _ => 0))), (q4, .inl (cI, 3, .inl (fun _ => 0)))] := ea4
  have hw : pw_H D (pw_w shX9 cI cZ (pw_nth [h0, q0, q1, q2, q3, q4]) (fun _ _ => 0)) A s.heap H locs := hw.of (by simp only [pw_w_eq]; rfl)
  exact wX9_init_b42 (ad := (pw_nth [h0, q0, q1, q2, q3, q4])) hX C _ _ _ _ hw (lv_sub hl [0] rfl) h
