set_option maxRecDepth 100000 in
set_option maxHeartbeats 4000000 in
theorem wX11_tells_b219 {p : Program} {l : Launch} {e : Env} {s : State} {m : MethodId} {args : Array Value} {below : List Frame} {meth : Method} {c : Code} {D : va_G} {cI cZ : ClassId} {ad : Nat → Nat} {A : Nat → Prop} {z : Int32 × St} {k33 : Int32 → Int32 → Int32 → St → Option (Int32 × St)} (C : pw_C p s m args meth c yX11_tells.cls cX11_tells 6 (some .int) D cI cZ) (hk33 : ∀ (x1 : Int32) (x2 : Int32) (x4 : Int32) (σ : St) (H : Heap) (locs : List Loc) (ls : Array Slot), pw_H D (pw_w shM cI cZ ad σ) A s.heap H locs → lv_has ls 6 [(0, .ref (ad 0)), (1, .int x1), (2, .int x2), (4, .int x4)] → k33 x1 x2 x4 σ = some z → W p l e (pw_rm 1) s m args below meth c H locs 0 0 (pw_QI below args s D (pw_w shM cI cZ ad) A z) (F0 m 33 ls [])) : ∀ (n : Nat) (x1 : Int32) (x2 : Int32) (x3 : Int32) (x5 : Int32) (σ : St) (H : Heap) (locs : List Loc) (ls : Array Slot), pw_H D (pw_w shM cI cZ ad σ) A s.heap H locs → lv_has ls 6 [(0, .ref (ad 0)), (1, .int x1), (2, .int x2), (3, .int x3), (5, .int x5)] → fX11_tells_b219 k33 n x1 x2 x3 x5 σ = some z → W p l e (pw_rm 1) s m args below meth c H locs 0 0 (pw_QI below args s D (pw_w shM cI cZ ad) A z) (F0 m 219 ls []) := by
  obtain ⟨hx, hb, hr, hts, hown, hlk, hml, hK, hN⟩ := id C
  intro n
  induction n with
  | zero =>
    intro x1 x2 x3 x5 σ H locs ls hw hl h
    exact absurd h (by simp [fX11_tells_b219])
  | succ n ih =>
    intro x1 x2 x3 x5 σ H locs ls hw hl h
    rw [fX11_tells_b219] at h
    refine lv_iload hx hb dX11_tells_219 (lv_at hl 4 rfl) ?_
    refine lv_bipush (v := 16) hx hb dX11_tells_221 (by decide) ?_
    refine lv_icmp_ge (tgt := 249) hx hb dX11_tells_223 (by decide) (fun hc => ?_) (fun hc => ?_)
    · replace h := pw_t hc h
      refine lv_aload_n hx hb dX11_tells_249 rfl (lv_at hl 0 rfl) ?_
      refine lv_iload_n hx hb dX11_tells_250 rfl (lv_at hl 3 rfl) ?_
      obtain ⟨v3, σ2, e1, h⟩ := cal_some h
      refine r_cVI C hw (As := [.int x3]) (rest := []) (kX11_nextDay l D cI cZ ad _ _ _ e1) YX11_nextDay ml_X11_259 qM_0 clsX11 (pw_rmOK (by omega) (by decide)) rfl hl.1 rfl (Nat.le_of_ble_eq_true rfl) dX11_tells_251 ⟨Nat.zero_le _, Nat.zero_le _⟩ (fun H locs hw => ?_)
      refine lv_istore (lv' := [(4, .int v3), (0, .ref (ad 0)), (1, .int x1), (2, .int x2), (3, .int x3), (5, .int x5)]) hx hb dX11_tells_254 hl (by decide) rfl (fun ls hl => ?_)
      refine lv_goto (tgt := 33) hx hb dX11_tells_256 (by decide) ?_
      exact hk33 _ _ _ _ _ _ _ hw (lv_sub hl [1, 2, 3, 0] rfl) h
    · replace h := pw_f hc h
      refine lv_aload_n hx hb dX11_tells_226 rfl (lv_at hl 0 rfl) ?_
      refine r_get C hw qM_0 clsX11 49 rfl (by decide) fl_X11_129 dX11_tells_227 (v := .ref (ad 40)) rfl ?_
      refine lv_iload hx hb dX11_tells_230 (lv_at hl 4 rfl) ?_
      refine r_iald C hw qM_40 dX11_tells_232 h (fun v4 h => ?_)
      refine lv_iconst (v := 3) hx hb dX11_tells_233 (by decide) ?_
      refine lv_icmp_ne (tgt := 243) hx hb dX11_tells_234 (by decide) (fun hc => ?_) (fun hc => ?_)
      · replace h := pw_f hc h
        refine lv_iinc (v := (x5 + 1)) (lv' := [(5, .int (x5 + 1)), (0, .ref (ad 0)), (1, .int x1), (2, .int x2), (3, .int x3)]) hx hb dX11_tells_243 hl (k := 4) rfl rfl (by decide) rfl (fun ls hl => ?_)
        refine lv_goto (tgt := 219) hx hb dX11_tells_246 (by decide) ?_
        exact ih _ _ _ _ _ _ _ _ hw (lv_sub hl [1, 2, 3, 4, 0] rfl) h
      · replace h := pw_t hc h
        refine lv_iload_n hx hb dX11_tells_237 rfl (lv_at hl 2 rfl) ?_
        refine lv_if_ge (tgt := 243) hx hb dX11_tells_238 (by decide) (fun hc => ?_) (fun hc => ?_)
        · replace h := pw_t hc h
          refine lv_iinc (v := (x5 + 1)) (lv' := [(5, .int (x5 + 1)), (0, .ref (ad 0)), (1, .int x1), (2, .int x2), (3, .int x3)]) hx hb dX11_tells_243 hl (k := 4) rfl rfl (by decide) rfl (fun ls hl => ?_)
          refine lv_goto (tgt := 219) hx hb dX11_tells_246 (by decide) ?_
          exact ih _ _ _ _ _ _ _ _ hw (lv_sub hl [1, 2, 3, 4, 0] rfl) h
        · replace h := pw_f hc h
          refine lv_iload_n hx hb dX11_tells_241 rfl (lv_at hl 3 rfl) ?_
          refine lv_istore_n (lv' := [(2, .int x3), (0, .ref (ad 0)), (1, .int x1), (3, .int x3), (5, .int x5)]) hx hb dX11_tells_242 rfl hl (by decide) rfl (fun ls hl => ?_)
          refine lv_iinc (v := (x5 + 1)) (lv' := [(5, .int (x5 + 1)), (2, .int x3), (0, .ref (ad 0)), (1, .int x1), (3, .int x3)]) hx hb dX11_tells_243 hl (k := 4) rfl rfl (by decide) rfl (fun ls hl => ?_)
          refine lv_goto (tgt := 219) hx hb dX11_tells_246 (by decide) ?_
          exact ih _ _ _ _ _ _ _ _ hw (lv_sub hl [2, 3, 1, 4, 0] rfl) h
set_option maxRecDepth 100000 in
set_option maxHeartbeats 4000000 in
theorem wX11_tells_b127 {p : Program} {l : Launch} {e : Env} {s : State} {m : MethodId} {args : Array Value} {below : List Frame} {meth : Method} {c : Code} {D : va_G} {cI cZ : ClassId} {ad : Nat → Nat} {A : Nat → Prop} {z : Int32 × St} {k33 : Int32 → Int32 → Int32 → St → Option (Int32 × St)} (C : pw_C p s m args meth c yX11_tells.cls cX11_tells 6 (some .int) D cI cZ) (hk33 : ∀ (x1 : Int32) (x2 : Int32) (x4 : Int32) (σ : St) (H : Heap) (locs : List Loc) (ls : Array Slot), pw_H D (pw_w shM cI cZ ad σ) A s.heap H locs → lv_has ls 6 [(0, .ref (ad 0)), (1, .int x1), (2, .int x2), (4, .int x4)] → k33 x1 x2 x4 σ = some z → W p l e (pw_rm 1) s m args below meth c H locs 0 0 (pw_QI below args s D (pw_w shM cI cZ ad) A z) (F0 m 33 ls [])) : ∀ (n : Nat) (x1 : Int32) (x2 : Int32) (x3 : Int32) (x5 : Int32) (σ : St) (H : Heap) (locs : List Loc) (ls : Array Slot), pw_H D (pw_w shM cI cZ ad σ) A s.heap H locs → lv_has ls 6 [(0, .ref (ad 0)), (1, .int x1), (2, .int x2), (3, .int x3), (5, .int x5)] → fX11_tells_b127 k33 n x1 x2 x3 x5 σ = some z → W p l e (pw_rm 1) s m args below meth c H locs 0 0 (pw_QI below args s D (pw_w shM cI cZ ad) A z) (F0 m 127 ls []) := by
  obtain ⟨hx, hb, hr, hts, hown, hlk, hml, hK, hN⟩ := id C
  intro n
  induction n with
  | zero =>
    intro x1 x2 x3 x5 σ H locs ls hw hl h
    exact absurd h (by simp [fX11_tells_b127])
  | succ n ih =>
    intro x1 x2 x3 x5 σ H locs ls hw hl h
    rw [fX11_tells_b127] at h
    refine lv_iload hx hb dX11_tells_127 (lv_at hl 4 rfl) ?_
    refine lv_aload_n hx hb dX11_tells_129 rfl (lv_at hl 0 rfl) ?_
    refine r_get C hw qM_0 clsX11 23 rfl (by decide) fl_X11_256 dX11_tells_130 (v := .int (σ 0 23)) rfl ?_
    refine lv_icmp_ge (tgt := 216) hx hb dX11_tells_133 (by decide) (fun hc => ?_) (fun hc => ?_)
    · replace h := pw_t hc h
      refine lv_iconst (v := 0) hx hb dX11_tells_216 (by decide) ?_
      refine lv_istore (lv' := [(5, .int 0), (0, .ref (ad 0)), (1, .int x1), (2, .int x2), (3, .int x3)]) hx hb dX11_tells_217 hl (by decide) rfl (fun ls hl => ?_)
      exact wX11_tells_b219 C hk33 _ _ _ _ _ _ _ _ _ hw (lv_sub hl [1, 2, 3, 4, 0] rfl) h
    · replace h := pw_f hc h
      refine lv_aload_n hx hb dX11_tells_136 rfl (lv_at hl 0 rfl) ?_
      refine r_get C hw qM_0 clsX11 48 rfl (by decide) fl_X11_126 dX11_tells_137 (v := .ref (ad 39)) rfl ?_
      refine lv_iload hx hb dX11_tells_140 (lv_at hl 4 rfl) ?_
      refine r_iald C hw qM_39 dX11_tells_142 h (fun v5 h => ?_)
      refine lv_iload_n hx hb dX11_tells_143 rfl (lv_at hl 3 rfl) ?_
      refine lv_icmp_ne (tgt := 210) hx hb dX11_tells_144 (by decide) (fun hc => ?_) (fun hc => ?_)
      · replace h := pw_f hc h
        refine lv_iinc (v := (x5 + 1)) (lv' := [(5, .int (x5 + 1)), (0, .ref (ad 0)), (1, .int x1), (2, .int x2), (3, .int x3)]) hx hb dX11_tells_210 hl (k := 4) rfl rfl (by decide) rfl (fun ls hl => ?_)
        refine lv_goto (tgt := 127) hx hb dX11_tells_213 (by decide) ?_
        exact ih _ _ _ _ _ _ _ _ hw (lv_sub hl [1, 2, 3, 4, 0] rfl) h
      · replace h := pw_t hc h
        refine lv_iload hx hb dX11_tells_147 (lv_at hl 4 rfl) ?_
        refine lv_iload_n hx hb dX11_tells_149 rfl (lv_at hl 1 rfl) ?_
        refine lv_icmp_ne (tgt := 156) hx hb dX11_tells_150 (by decide) (fun hc => ?_) (fun hc => ?_)
        · replace h := pw_f hc h
          refine lv_aload_n hx hb dX11_tells_156 rfl (lv_at hl 0 rfl) ?_
          refine r_get C hw qM_0 clsX11 49 rfl (by decide) fl_X11_129 dX11_tells_157 (v := .ref (ad 40)) rfl ?_
          refine lv_aload_n hx hb dX11_tells_160 rfl (lv_at hl 0 rfl) ?_
          refine r_get C hw qM_0 clsX11 46 rfl (by decide) fl_X11_120 dX11_tells_161 (v := .ref (ad 37)) rfl ?_
          refine lv_iload hx hb dX11_tells_164 (lv_at hl 4 rfl) ?_
          refine r_iald C hw qM_37 dX11_tells_166 h (fun v6 h => ?_)
          refine lv_dup2_11 hx hb dX11_tells_167 rfl rfl ?_
          refine r_iald C hw qM_40 dX11_tells_168 h (fun v7 h => ?_)
          refine lv_aload_n hx hb dX11_tells_169 rfl (lv_at hl 0 rfl) ?_
          refine r_get C hw qM_0 clsX11 50 rfl (by decide) fl_X11_132 dX11_tells_170 (v := .ref (ad 41)) rfl ?_
          refine lv_aload_n hx hb dX11_tells_173 rfl (lv_at hl 0 rfl) ?_
          refine r_get C hw qM_0 clsX11 47 rfl (by decide) fl_X11_123 dX11_tells_174 (v := .ref (ad 38)) rfl ?_
          refine lv_iload hx hb dX11_tells_177 (lv_at hl 4 rfl) ?_
          refine r_iald C hw qM_38 dX11_tells_179 h (fun v8 h => ?_)
          refine r_iald C hw qM_41 dX11_tells_180 h (fun v9 h => ?_)
          refine lv_ior hx hb dX11_tells_181 ?_
          refine r_iast C hw qM_40 dX11_tells_182 h (fun σ10 H locs hw h => ?_)
          refine lv_aload_n hx hb dX11_tells_183 rfl (lv_at hl 0 rfl) ?_
          refine r_get C hw qM_0 clsX11 49 rfl (by decide) fl_X11_129 dX11_tells_184 (v := .ref (ad 40)) rfl ?_
          refine lv_aload_n hx hb dX11_tells_187 rfl (lv_at hl 0 rfl) ?_
          refine r_get C hw qM_0 clsX11 47 rfl (by decide) fl_X11_123 dX11_tells_188 (v := .ref (ad 38)) rfl ?_
          refine lv_iload hx hb dX11_tells_191 (lv_at hl 4 rfl) ?_
          refine r_iald C hw qM_38 dX11_tells_193 h (fun v11 h => ?_)
          refine lv_dup2_11 hx hb dX11_tells_194 rfl rfl ?_
          refine r_iald C hw qM_40 dX11_tells_195 h (fun v12 h => ?_)
          refine lv_aload_n hx hb dX11_tells_196 rfl (lv_at hl 0 rfl) ?_
          refine r_get C hw qM_0 clsX11 50 rfl (by decide) fl_X11_132 dX11_tells_197 (v := .ref (ad 41)) rfl ?_
          refine lv_aload_n hx hb dX11_tells_200 rfl (lv_at hl 0 rfl) ?_
          refine r_get C hw qM_0 clsX11 46 rfl (by decide) fl_X11_120 dX11_tells_201 (v := .ref (ad 37)) rfl ?_
          refine lv_iload hx hb dX11_tells_204 (lv_at hl 4 rfl) ?_
          refine r_iald C hw qM_37 dX11_tells_206 h (fun v13 h => ?_)
          refine r_iald C hw qM_41 dX11_tells_207 h (fun v14 h => ?_)
          refine lv_ior hx hb dX11_tells_208 ?_
          refine r_iast C hw qM_40 dX11_tells_209 h (fun σ15 H locs hw h => ?_)
          refine lv_iinc (v := (x5 + 1)) (lv' := [(5, .int (x5 + 1)), (0, .ref (ad 0)), (1, .int x1), (2, .int x2), (3, .int x3)]) hx hb dX11_tells_210 hl (k := 4) rfl rfl (by decide) rfl (fun ls hl => ?_)
          refine lv_goto (tgt := 127) hx hb dX11_tells_213 (by decide) ?_
          exact ih _ _ _ _ _ _ _ _ hw (lv_sub hl [1, 2, 3, 4, 0] rfl) h
        · replace h := pw_t hc h
          refine lv_goto (tgt := 210) hx hb dX11_tells_153 (by decide) ?_
          refine lv_iinc (v := (x5 + 1)) (lv' := [(5, .int (x5 + 1)), (0, .ref (ad 0)), (1, .int x1), (2, .int x2), (3, .int x3)]) hx hb dX11_tells_210 hl (k := 4) rfl rfl (by decide) rfl (fun ls hl => ?_)
          refine lv_goto (tgt := 127) hx hb dX11_tells_213 (by decide) ?_
          exact ih _ _ _ _ _ _ _ _ hw (lv_sub hl [1, 2, 3, 4, 0] rfl) h
set_option maxRecDepth 100000 in
set_option maxHeartbeats 4000000 in
theorem wX11_tells_b97 {p : Program} {l : Launch} {e : Env} {s : State} {m : MethodId} {args : Array Value} {below : List Frame} {meth : Method} {c : Code} {D : va_G} {cI cZ : ClassId} {ad : Nat → Nat} {A : Nat → Prop} {z : Int32 × St} {k33 : Int32 → Int32 → Int32 → St → Option (Int32 × St)} (C : pw_C p s m args meth c yX11_tells.cls cX11_tells 6 (some .int) D cI cZ) (hk33 : ∀ (x1 : Int32) (x2 : Int32) (x4 : Int32) (σ : St) (H : Heap) (locs : List Loc) (ls : Array Slot), pw_H D (pw_w shM cI cZ ad σ) A s.heap H locs → lv_has ls 6 [(0, .ref (ad 0)), (1, .int x1), (2, .int x2), (4, .int x4)] → k33 x1 x2 x4 σ = some z → W p l e (pw_rm 1) s m args below meth c H locs 0 0 (pw_QI below args s D (pw_w shM cI cZ ad) A z) (F0 m 33 ls [])) : ∀ (n : Nat) (x1 : Int32) (x2 : Int32) (x3 : Int32) (x5 : Int32) (σ : St) (H : Heap) (locs : List Loc) (ls : Array Slot), pw_H D (pw_w shM cI cZ ad σ) A s.heap H locs → lv_has ls 6 [(0, .ref (ad 0)), (1, .int x1), (2, .int x2), (3, .int x3), (5, .int x5)] → fX11_tells_b97 k33 n x1 x2 x3 x5 σ = some z → W p l e (pw_rm 1) s m args below meth c H locs 0 0 (pw_QI below args s D (pw_w shM cI cZ ad) A z) (F0 m 97 ls []) := by
  obtain ⟨hx, hb, hr, hts, hown, hlk, hml, hK, hN⟩ := id C
  intro n
  induction n with
  | zero =>
    intro x1 x2 x3 x5 σ H locs ls hw hl h
    exact absurd h (by simp [fX11_tells_b97])
  | succ n ih =>
    intro x1 x2 x3 x5 σ H locs ls hw hl h
    rw [fX11_tells_b97] at h
    refine lv_iload hx hb dX11_tells_97 (lv_at hl 4 rfl) ?_
    refine lv_bipush (v := 16) hx hb dX11_tells_99 (by decide) ?_
    refine lv_icmp_ge (tgt := 124) hx hb dX11_tells_101 (by decide) (fun hc => ?_) (fun hc => ?_)
    · replace h := pw_t hc h
      refine lv_iconst (v := 0) hx hb dX11_tells_124 (by decide) ?_
      refine lv_istore (lv' := [(5, .int 0), (0, .ref (ad 0)), (1, .int x1), (2, .int x2), (3, .int x3)]) hx hb dX11_tells_125 hl (by decide) rfl (fun ls hl => ?_)
      exact wX11_tells_b127 C hk33 _ _ _ _ _ _ _ _ _ hw (lv_sub hl [1, 2, 3, 4, 0] rfl) h
    · replace h := pw_f hc h
      refine lv_aload_n hx hb dX11_tells_104 rfl (lv_at hl 0 rfl) ?_
      refine r_get C hw qM_0 clsX11 50 rfl (by decide) fl_X11_132 dX11_tells_105 (v := .ref (ad 41)) rfl ?_
      refine lv_iload hx hb dX11_tells_108 (lv_at hl 4 rfl) ?_
      refine lv_aload_n hx hb dX11_tells_110 rfl (lv_at hl 0 rfl) ?_
      refine r_get C hw qM_0 clsX11 49 rfl (by decide) fl_X11_129 dX11_tells_111 (v := .ref (ad 40)) rfl ?_
      refine lv_iload hx hb dX11_tells_114 (lv_at hl 4 rfl) ?_
      refine r_iald C hw qM_40 dX11_tells_116 h (fun v16 h => ?_)
      refine r_iast C hw qM_41 dX11_tells_117 h (fun σ17 H locs hw h => ?_)
      refine lv_iinc (v := (x5 + 1)) (lv' := [(5, .int (x5 + 1)), (0, .ref (ad 0)), (1, .int x1), (2, .int x2), (3, .int x3)]) hx hb dX11_tells_118 hl (k := 4) rfl rfl (by decide) rfl (fun ls hl => ?_)
      refine lv_goto (tgt := 97) hx hb dX11_tells_121 (by decide) ?_
      exact ih _ _ _ _ _ _ _ _ hw (lv_sub hl [1, 2, 3, 4, 0] rfl) h
set_option maxRecDepth 100000 in
set_option maxHeartbeats 4000000 in
theorem wX11_tells_b44 {p : Program} {l : Launch} {e : Env} {s : State} {m : MethodId} {args : Array Value} {below : List Frame} {meth : Method} {c : Code} {D : va_G} {cI cZ : ClassId} {ad : Nat → Nat} {A : Nat → Prop} {z : Int32 × St} {k33 : Int32 → Int32 → Int32 → St → Option (Int32 × St)} (C : pw_C p s m args meth c yX11_tells.cls cX11_tells 6 (some .int) D cI cZ) (hk33 : ∀ (x1 : Int32) (x2 : Int32) (x4 : Int32) (σ : St) (H : Heap) (locs : List Loc) (ls : Array Slot), pw_H D (pw_w shM cI cZ ad σ) A s.heap H locs → lv_has ls 6 [(0, .ref (ad 0)), (1, .int x1), (2, .int x2), (4, .int x4)] → k33 x1 x2 x4 σ = some z → W p l e (pw_rm 1) s m args below meth c H locs 0 0 (pw_QI below args s D (pw_w shM cI cZ ad) A z) (F0 m 33 ls [])) : ∀ (n : Nat) (x1 : Int32) (x2 : Int32) (x3 : Int32) (x5 : Int32) (σ : St) (H : Heap) (locs : List Loc) (ls : Array Slot), pw_H D (pw_w shM cI cZ ad σ) A s.heap H locs → lv_has ls 6 [(0, .ref (ad 0)), (1, .int x1), (2, .int x2), (3, .int x3), (5, .int x5)] → fX11_tells_b44 k33 n x1 x2 x3 x5 σ = some z → W p l e (pw_rm 1) s m args below meth c H locs 0 0 (pw_QI below args s D (pw_w shM cI cZ ad) A z) (F0 m 44 ls []) := by
  obtain ⟨hx, hb, hr, hts, hown, hlk, hml, hK, hN⟩ := id C
  intro n
  induction n with
  | zero =>
    intro x1 x2 x3 x5 σ H locs ls hw hl h
    exact absurd h (by simp [fX11_tells_b44])
  | succ n ih =>
    intro x1 x2 x3 x5 σ H locs ls hw hl h
    rw [fX11_tells_b44] at h
    refine lv_iload hx hb dX11_tells_44 (lv_at hl 4 rfl) ?_
    refine lv_aload_n hx hb dX11_tells_46 rfl (lv_at hl 0 rfl) ?_
    refine r_get C hw qM_0 clsX11 24 rfl (by decide) fl_X11_253 dX11_tells_47 (v := .int (σ 0 24)) rfl ?_
    refine lv_icmp_ge (tgt := 94) hx hb dX11_tells_50 (by decide) (fun hc => ?_) (fun hc => ?_)
    · replace h := pw_t hc h
      refine lv_iconst (v := 0) hx hb dX11_tells_94 (by decide) ?_
      refine lv_istore (lv' := [(5, .int 0), (0, .ref (ad 0)), (1, .int x1), (2, .int x2), (3, .int x3)]) hx hb dX11_tells_95 hl (by decide) rfl (fun ls hl => ?_)
      exact wX11_tells_b97 C hk33 _ _ _ _ _ _ _ _ _ hw (lv_sub hl [1, 2, 3, 4, 0] rfl) h
    · replace h := pw_f hc h
      refine lv_aload_n hx hb dX11_tells_53 rfl (lv_at hl 0 rfl) ?_
      refine r_get C hw qM_0 clsX11 45 rfl (by decide) fl_X11_117 dX11_tells_54 (v := .ref (ad 36)) rfl ?_
      refine lv_iload hx hb dX11_tells_57 (lv_at hl 4 rfl) ?_
      refine r_iald C hw qM_36 dX11_tells_59 h (fun v18 h => ?_)
      refine lv_iload_n hx hb dX11_tells_60 rfl (lv_at hl 3 rfl) ?_
      refine lv_icmp_ne (tgt := 88) hx hb dX11_tells_61 (by decide) (fun hc => ?_) (fun hc => ?_)
      · replace h := pw_f hc h
        refine lv_iinc (v := (x5 + 1)) (lv' := [(5, .int (x5 + 1)), (0, .ref (ad 0)), (1, .int x1), (2, .int x2), (3, .int x3)]) hx hb dX11_tells_88 hl (k := 4) rfl rfl (by decide) rfl (fun ls hl => ?_)
        refine lv_goto (tgt := 44) hx hb dX11_tells_91 (by decide) ?_
        exact ih _ _ _ _ _ _ _ _ hw (lv_sub hl [1, 2, 3, 4, 0] rfl) h
      · replace h := pw_t hc h
        refine lv_aload_n hx hb dX11_tells_64 rfl (lv_at hl 0 rfl) ?_
        refine r_get C hw qM_0 clsX11 49 rfl (by decide) fl_X11_129 dX11_tells_65 (v := .ref (ad 40)) rfl ?_
        refine lv_aload_n hx hb dX11_tells_68 rfl (lv_at hl 0 rfl) ?_
        refine r_get C hw qM_0 clsX11 43 rfl (by decide) fl_X11_111 dX11_tells_69 (v := .ref (ad 34)) rfl ?_
        refine lv_iload hx hb dX11_tells_72 (lv_at hl 4 rfl) ?_
        refine r_iald C hw qM_34 dX11_tells_74 h (fun v19 h => ?_)
        refine lv_dup2_11 hx hb dX11_tells_75 rfl rfl ?_
        refine r_iald C hw qM_40 dX11_tells_76 h (fun v20 h => ?_)
        refine lv_iconst (v := 1) hx hb dX11_tells_77 (by decide) ?_
        refine lv_aload_n hx hb dX11_tells_78 rfl (lv_at hl 0 rfl) ?_
        refine r_get C hw qM_0 clsX11 44 rfl (by decide) fl_X11_114 dX11_tells_79 (v := .ref (ad 35)) rfl ?_
        refine lv_iload hx hb dX11_tells_82 (lv_at hl 4 rfl) ?_
        refine r_iald C hw qM_35 dX11_tells_84 h (fun v21 h => ?_)
        refine lv_ishl hx hb dX11_tells_85 ?_
        refine lv_ior hx hb dX11_tells_86 ?_
        refine r_iast C hw qM_40 dX11_tells_87 h (fun σ22 H locs hw h => ?_)
        refine lv_iinc (v := (x5 + 1)) (lv' := [(5, .int (x5 + 1)), (0, .ref (ad 0)), (1, .int x1), (2, .int x2), (3, .int x3)]) hx hb dX11_tells_88 hl (k := 4) rfl rfl (by decide) rfl (fun ls hl => ?_)
        refine lv_goto (tgt := 44) hx hb dX11_tells_91 (by decide) ?_
        exact ih _ _ _ _ _ _ _ _ hw (lv_sub hl [1, 2, 3, 4, 0] rfl) h
set_option maxRecDepth 100000 in
set_option maxHeartbeats 4000000 in
theorem wX11_tells_b33 {p : Program} {l : Launch} {e : Env} {s : State} {m : MethodId} {args : Array Value} {below : List Frame} {meth : Method} {c : Code} {D : va_G} {cI cZ : ClassId} {ad : Nat → Nat} {A : Nat → Prop} {z : Int32 × St}  (C : pw_C p s m args meth c yX11_tells.cls cX11_tells 6 (some .int) D cI cZ) : ∀ (n : Nat) (x1 : Int32) (x2 : Int32) (x4 : Int32) (σ : St) (H : Heap) (locs : List Loc) (ls : Array Slot), pw_H D (pw_w shM cI cZ ad σ) A s.heap H locs → lv_has ls 6 [(0, .ref (ad 0)), (1, .int x1), (2, .int x2), (4, .int x4)] → fX11_tells_b33  n x1 x2 x4 σ = some z → W p l e (pw_rm 1) s m args below meth c H locs 0 0 (pw_QI below args s D (pw_w shM cI cZ ad) A z) (F0 m 33 ls []) := by
  obtain ⟨hx, hb, hr, hts, hown, hlk, hml, hK, hN⟩ := id C
  intro n
  induction n with
  | zero =>
    intro x1 x2 x4 σ H locs ls hw hl h
    exact absurd h (by simp [fX11_tells_b33])
  | succ n ih =>
    intro x1 x2 x4 σ H locs ls hw hl h
    rw [fX11_tells_b33] at h
    refine lv_iload hx hb dX11_tells_33 (lv_at hl 3 rfl) ?_
    refine lv_if_lt (tgt := 259) hx hb dX11_tells_35 (by decide) (fun hc => ?_) (fun hc => ?_)
    · replace h := pw_t hc h
      refine lv_iload_n hx hb dX11_tells_259 rfl (lv_at hl 2 rfl) ?_
      exact r_iret C hw dX11_tells_260 h
    · replace h := pw_f hc h
      refine lv_iload hx hb dX11_tells_38 (lv_at hl 3 rfl) ?_
      refine lv_istore_n (lv' := [(3, .int x4), (0, .ref (ad 0)), (1, .int x1), (2, .int x2), (4, .int x4)]) hx hb dX11_tells_40 rfl hl (by decide) rfl (fun ls hl => ?_)
      refine lv_iconst (v := 0) hx hb dX11_tells_41 (by decide) ?_
      refine lv_istore (lv' := [(5, .int 0), (3, .int x4), (0, .ref (ad 0)), (1, .int x1), (2, .int x2), (4, .int x4)]) hx hb dX11_tells_42 hl (by decide) rfl (fun ls hl => ?_)
      exact wX11_tells_b44 C ih _ _ _ _ _ _ _ _ _ hw (lv_sub hl [2, 3, 4, 1, 0] rfl) h
set_option maxRecDepth 100000 in
set_option maxHeartbeats 4000000 in
theorem wX11_tells_b5 {p : Program} {l : Launch} {e : Env} {s : State} {m : MethodId} {args : Array Value} {below : List Frame} {meth : Method} {c : Code} {D : va_G} {cI cZ : ClassId} {ad : Nat → Nat} {A : Nat → Prop} {z : Int32 × St}  (C : pw_C p s m args meth c yX11_tells.cls cX11_tells 6 (some .int) D cI cZ) : ∀ (n : Nat) (x1 : Int32) (x2 : Int32) (x3 : Int32) (σ : St) (H : Heap) (locs : List Loc) (ls : Array Slot), pw_H D (pw_w shM cI cZ ad σ) A s.heap H locs → lv_has ls 6 [(0, .ref (ad 0)), (1, .int x1), (2, .int x2), (3, .int x3)] → fX11_tells_b5  n x1 x2 x3 σ = some z → W p l e (pw_rm 1) s m args below meth c H locs 0 0 (pw_QI below args s D (pw_w shM cI cZ ad) A z) (F0 m 5 ls []) := by
  obtain ⟨hx, hb, hr, hts, hown, hlk, hml, hK, hN⟩ := id C
  intro n
  induction n with
  | zero =>
    intro x1 x2 x3 σ H locs ls hw hl h
    exact absurd h (by simp [fX11_tells_b5])
  | succ n ih =>
    intro x1 x2 x3 σ H locs ls hw hl h
    rw [fX11_tells_b5] at h
    refine lv_iload_n hx hb dX11_tells_5 rfl (lv_at hl 3 rfl) ?_
    refine lv_bipush (v := 16) hx hb dX11_tells_6 (by decide) ?_
    refine lv_icmp_ge (tgt := 24) hx hb dX11_tells_8 (by decide) (fun hc => ?_) (fun hc => ?_)
    · replace h := pw_t hc h
      refine lv_iconst (v := (-1)) hx hb dX11_tells_24 (by decide) ?_
      refine lv_istore_n (lv' := [(3, .int (-1)), (0, .ref (ad 0)), (1, .int x1), (2, .int x2)]) hx hb dX11_tells_25 rfl hl (by decide) rfl (fun ls hl => ?_)
      refine lv_aload_n hx hb dX11_tells_26 rfl (lv_at hl 1 rfl) ?_
      refine lv_iload_n hx hb dX11_tells_27 rfl (lv_at hl 0 rfl) ?_
      obtain ⟨v25, σ24, e23, h⟩ := cal_some h
      refine r_cVI C hw (As := [.int (-1)]) (rest := []) (kX11_nextDay l D cI cZ ad _ _ _ e23) YX11_nextDay ml_X11_259 qM_0 clsX11 (pw_rmOK (by omega) (by decide)) rfl hl.1 rfl (Nat.le_of_ble_eq_true rfl) dX11_tells_28 ⟨Nat.zero_le _, Nat.zero_le _⟩ (fun H locs hw => ?_)
      refine lv_istore (lv' := [(4, .int v25), (3, .int (-1)), (0, .ref (ad 0)), (1, .int x1), (2, .int x2)]) hx hb dX11_tells_31 hl (by decide) rfl (fun ls hl => ?_)
      exact wX11_tells_b33 C  _ _ _ _ _ _ _ _ hw (lv_sub hl [2, 3, 4, 0] rfl) h
    · replace h := pw_f hc h
      refine lv_aload_n hx hb dX11_tells_11 rfl (lv_at hl 0 rfl) ?_
      refine r_get C hw qM_0 clsX11 49 rfl (by decide) fl_X11_129 dX11_tells_12 (v := .ref (ad 40)) rfl ?_
      refine lv_iload_n hx hb dX11_tells_15 rfl (lv_at hl 3 rfl) ?_
      refine lv_iconst (v := 0) hx hb dX11_tells_16 (by decide) ?_
      refine r_iast C hw qM_40 dX11_tells_17 h (fun σ26 H locs hw h => ?_)
      refine lv_iinc (v := (x3 + 1)) (lv' := [(3, .int (x3 + 1)), (0, .ref (ad 0)), (1, .int x1), (2, .int x2)]) hx hb dX11_tells_18 hl (k := 3) rfl rfl (by decide) rfl (fun ls hl => ?_)
      refine lv_goto (tgt := 5) hx hb dX11_tells_21 (by decide) ?_
      exact ih _ _ _ _ _ _ _ hw (lv_sub hl [1, 2, 3, 0] rfl) h
set_option maxRecDepth 100000 in
set_option maxHeartbeats 4000000 in
theorem kX11_tells (l : Launch) (D : va_G) (cI cZ : ClassId) (ad : Nat → Nat) (x1 : Int32) (σ : St) (z : Int32 × St) (h : fX11_tells x1 σ = some z) : pw_MI l D shM cI cZ ad yX11_tells cX11_tells 6 (some .int) (pw_rm 1) [.ref (ad 0), .int x1] σ z.1 z.2 := by
  refine pw_ofI (by decide) (Nat.le_of_ble_eq_true rfl) ?_
  intro p e s m args below meth c A C hw ls hl
  obtain ⟨hx, hb, hr, hts, hown, hlk, hml, hK, hN⟩ := id C
  have hl : lv_has ls 6 [(0, .ref (ad 0)), (1, .int x1)] := hl
  unfold fX11_tells at h
  refine lv_bipush (v := (-9)) hx hb dX11_tells_0 (by decide) ?_
  refine lv_istore_n (lv' := [(2, .int (-9)), (0, .ref (ad 0)), (1, .int x1)]) hx hb dX11_tells_2 rfl hl (by decide) rfl (fun ls hl => ?_)
  refine lv_iconst (v := 0) hx hb dX11_tells_3 (by decide) ?_
  refine lv_istore_n (lv' := [(3, .int 0), (2, .int (-9)), (0, .ref (ad 0)), (1, .int x1)]) hx hb dX11_tells_4 rfl hl (by decide) rfl (fun ls hl => ?_)
  exact wX11_tells_b5 C  _ _ _ _ _ _ _ _ hw (lv_sub hl [2, 3, 1, 0] rfl) h
set_option maxRecDepth 100000 in
set_option maxHeartbeats 4000000 in
theorem kX11_knows (l : Launch) (D : va_G) (cI cZ : ClassId) (ad : Nat → Nat) (x1 : Int32) (σ : St) (z : Int32 × St) (h : fX11_knows x1 σ = some z) : pw_MI l D shM cI cZ ad yX11_knows cX11_knows 3 (some .int) (pw_rm 2) [.ref (ad 0), .int x1] σ z.1 z.2 := by
  refine pw_ofI (by decide) (Nat.le_of_ble_eq_true rfl) ?_
  intro p e s m args below meth c A C hw ls hl
  obtain ⟨hx, hb, hr, hts, hown, hlk, hml, hK, hN⟩ := id C
  have hl : lv_has ls 3 [(0, .ref (ad 0)), (1, .int x1)] := hl
  unfold fX11_knows at h
  refine lv_iload_n hx hb dX11_knows_0 rfl (lv_at hl 1 rfl) ?_
  refine lv_bipush (v := 16) hx hb dX11_knows_1 (by decide) ?_
  obtain ⟨v3, σ2, e1, h⟩ := cal_some h
  refine r_cSI C hw (sh := shM) (ad := ad) (As := [.int x1, .int 16]) (rest := []) (kX11_isIn l D cI cZ ad _ _ _ _ e1) YX11_isIn ml_X11_144 (pw_rmOK (by omega) (by decide)) rfl hl.1 rfl (Nat.le_of_ble_eq_true rfl) dX11_knows_3 ⟨Nat.zero_le _, Nat.zero_le _⟩ (fun H locs hw => ?_)
  refine lv_if_ne (tgt := 15) hx hb dX11_knows_6 (by decide) (fun hc => ?_) (fun hc => ?_)
  · replace h := pw_f hc h
    refine lv_aload_n hx hb dX11_knows_15 rfl (lv_at hl 0 rfl) ?_
    refine lv_iconst (v := (-1)) hx hb dX11_knows_16 (by decide) ?_
    obtain ⟨v6, σ5, e4, h⟩ := cal_some h
    refine r_cVI C hw (As := [.int (-1)]) (rest := []) (kX11_tells l D cI cZ ad _ _ _ e4) YX11_tells ml_X11_262 qM_0 clsX11 (pw_rmOK (by omega) (by decide)) rfl hl.1 rfl (Nat.le_of_ble_eq_true rfl) dX11_knows_17 ⟨Nat.zero_le _, Nat.zero_le _⟩ (fun H locs hw => ?_)
    refine lv_istore_n (lv' := [(2, .int v6), (0, .ref (ad 0)), (1, .int x1)]) hx hb dX11_knows_20 rfl hl (by decide) rfl (fun ls hl => ?_)
    refine lv_aload_n hx hb dX11_knows_21 rfl (lv_at hl 1 rfl) ?_
    refine r_get C hw qM_0 clsX11 49 rfl (by decide) fl_X11_129 dX11_knows_22 (v := .ref (ad 40)) rfl ?_
    refine lv_iload_n hx hb dX11_knows_25 rfl (lv_at hl 2 rfl) ?_
    refine r_iald C hw qM_40 dX11_knows_26 h (fun v7 h => ?_)
    exact r_iret C hw dX11_knows_27 h
  · replace h := pw_t hc h
    refine lv_aload_n hx hb dX11_knows_9 rfl (lv_at hl 0 rfl) ?_
    refine lv_iconst (v := (-1)) hx hb dX11_knows_10 (by decide) ?_
    obtain ⟨v10, σ9, e8, h⟩ := cal_some h
    refine r_cVI C hw (As := [.int (-1)]) (rest := []) (kX11_refuse l D cI cZ ad _ _ _ e8) YX11_refuse ml_X11_152 qM_0 clsX11 (pw_rmOK (by omega) (by decide)) rfl hl.1 rfl (Nat.le_of_ble_eq_true rfl) dX11_knows_11 ⟨Nat.zero_le _, Nat.zero_le _⟩ (fun H locs hw => ?_)
    exact r_iret C hw dX11_knows_14 h
set_option maxRecDepth 100000 in
set_option maxHeartbeats 4000000 in
theorem kX11_joined (l : Launch) (D : va_G) (cI cZ : ClassId) (ad : Nat → Nat)  (σ : St) (z : Int32 × St) (h : fX11_joined  σ = some z) : pw_MI l D shM cI cZ ad yX11_joined cX11_joined 1 (some .int) (pw_rm 2) [.ref (ad 0)] σ z.1 z.2 := by
  refine pw_ofI (by decide) (Nat.le_of_ble_eq_true rfl) ?_
  intro p e s m args below meth c A C hw ls hl
  obtain ⟨hx, hb, hr, hts, hown, hlk, hml, hK, hN⟩ := id C
  have hl : lv_has ls 1 [(0, .ref (ad 0))] := hl
  unfold fX11_joined at h
  refine lv_aload_n hx hb dX11_joined_0 rfl (lv_at hl 0 rfl) ?_
  refine lv_iconst (v := (-1)) hx hb dX11_joined_1 (by decide) ?_
  obtain ⟨v3, σ2, e1, h⟩ := cal_some h
  refine r_cVI C hw (As := [.int (-1)]) (rest := []) (kX11_tells l D cI cZ ad _ _ _ e1) YX11_tells ml_X11_262 qM_0 clsX11 (pw_rmOK (by omega) (by decide)) rfl hl.1 rfl (Nat.le_of_ble_eq_true rfl) dX11_joined_2 ⟨Nat.zero_le _, Nat.zero_le _⟩ (fun H locs hw => ?_)
  exact r_iret C hw dX11_joined_5 h
set_option maxRecDepth 100000 in
set_option maxHeartbeats 4000000 in
theorem wX11_leak_b13 {p : Program} {l : Launch} {e : Env} {s : State} {m : MethodId} {args : Array Value} {below : List Frame} {meth : Method} {c : Code} {D : va_G} {cI cZ : ClassId} {ad : Nat → Nat} {A : Nat → Prop} {z : Int32 × St}  (C : pw_C p s m args meth c yX11_leak.cls cX11_leak 2 (some .int) D cI cZ) : ∀ (n : Nat) (x1 : Int32) (σ : St) (H : Heap) (locs : List Loc) (ls : Array Slot), pw_H D (pw_w shM cI cZ ad σ) A s.heap H locs → lv_has ls 2 [(0, .ref (ad 0)), (1, .int x1)] → fX11_leak_b13  n x1 σ = some z → W p l e (pw_rm 2) s m args below meth c H locs 0 0 (pw_QI below args s D (pw_w shM cI cZ ad) A z) (F0 m 13 ls []) := by
  obtain ⟨hx, hb, hr, hts, hown, hlk, hml, hK, hN⟩ := id C
  intro n
  induction n with
  | zero =>
    intro x1 σ H locs ls hw hl h
    exact absurd h (by simp [fX11_leak_b13])
  | succ n ih =>
    intro x1 σ H locs ls hw hl h
    rw [fX11_leak_b13] at h
    refine lv_iload_n hx hb dX11_leak_13 rfl (lv_at hl 1 rfl) ?_
    refine lv_aload_n hx hb dX11_leak_14 rfl (lv_at hl 0 rfl) ?_
    refine r_get C hw qM_0 clsX11 23 rfl (by decide) fl_X11_256 dX11_leak_15 (v := .int (σ 0 23)) rfl ?_
    refine lv_icmp_ge (tgt := 37) hx hb dX11_leak_18 (by decide) (fun hc => ?_) (fun hc => ?_)
    · replace h := pw_t hc h
      refine lv_bipush (v := (-9)) hx hb dX11_leak_37 (by decide) ?_
      exact r_iret C hw dX11_leak_39 h
    · replace h := pw_f hc h
      refine lv_aload_n hx hb dX11_leak_21 rfl (lv_at hl 0 rfl) ?_
      refine lv_iload_n hx hb dX11_leak_22 rfl (lv_at hl 1 rfl) ?_
      obtain ⟨v3, σ2, e1, h⟩ := cal_some h
      refine r_cVI C hw (As := [.int x1]) (rest := []) (kX11_tells l D cI cZ ad _ _ _ e1) YX11_tells ml_X11_262 qM_0 clsX11 (pw_rmOK (by omega) (by decide)) rfl hl.1 rfl (Nat.le_of_ble_eq_true rfl) dX11_leak_23 ⟨Nat.zero_le _, Nat.zero_le _⟩ (fun H locs hw => ?_)
      refine lv_if_ge (tgt := 31) hx hb dX11_leak_26 (by decide) (fun hc => ?_) (fun hc => ?_)
      · replace h := pw_t hc h
        refine lv_iinc (v := (x1 + 1)) (lv' := [(1, .int (x1 + 1)), (0, .ref (ad 0))]) hx hb dX11_leak_31 hl (k := 1) rfl rfl (by decide) rfl (fun ls hl => ?_)
        refine lv_goto (tgt := 13) hx hb dX11_leak_34 (by decide) ?_
        exact ih _ _ _ _ _ hw (lv_sub hl [1, 0] rfl) h
      · replace h := pw_f hc h
        refine lv_iload_n hx hb dX11_leak_29 rfl (lv_at hl 1 rfl) ?_
        exact r_iret C hw dX11_leak_30 h
set_option maxRecDepth 100000 in
set_option maxHeartbeats 4000000 in
theorem kX11_leak (l : Launch) (D : va_G) (cI cZ : ClassId) (ad : Nat → Nat)  (σ : St) (z : Int32 × St) (h : fX11_leak  σ = some z) : pw_MI l D shM cI cZ ad yX11_leak cX11_leak 2 (some .int) (pw_rm 2) [.ref (ad 0)] σ z.1 z.2 := by
  refine pw_ofI (by decide) (Nat.le_of_ble_eq_true rfl) ?_
  intro p e s m args below meth c A C hw ls hl
  obtain ⟨hx, hb, hr, hts, hown, hlk, hml, hK, hN⟩ := id C
  have hl : lv_has ls 2 [(0, .ref (ad 0))] := hl
  unfold fX11_leak at h
  refine lv_aload_n hx hb dX11_leak_0 rfl (lv_at hl 0 rfl) ?_
  refine lv_iconst (v := (-1)) hx hb dX11_leak_1 (by decide) ?_
  obtain ⟨v6, σ5, e4, h⟩ := cal_some h
  refine r_cVI C hw (As := [.int (-1)]) (rest := []) (kX11_tells l D cI cZ ad _ _ _ e4) YX11_tells ml_X11_262 qM_0 clsX11 (pw_rmOK (by omega) (by decide)) rfl hl.1 rfl (Nat.le_of_ble_eq_true rfl) dX11_leak_2 ⟨Nat.zero_le _, Nat.zero_le _⟩ (fun H locs hw => ?_)
  refine lv_if_ge (tgt := 11) hx hb dX11_leak_5 (by decide) (fun hc => ?_) (fun hc => ?_)
  · replace h := pw_t hc h
    refine lv_iconst (v := 0) hx hb dX11_leak_11 (by decide) ?_
    refine lv_istore_n (lv' := [(1, .int 0), (0, .ref (ad 0))]) hx hb dX11_leak_12 rfl hl (by decide) rfl (fun ls hl => ?_)
    exact wX11_leak_b13 C  _ _ _ _ _ _ hw (lv_sub hl [1, 0] rfl) h
  · replace h := pw_f hc h
    refine lv_bipush (v := (-9)) hx hb dX11_leak_8 (by decide) ?_
    exact r_iret C hw dX11_leak_10 h
set_option maxRecDepth 100000 in
set_option maxHeartbeats 4000000 in
theorem wX11_debt_b38 {p : Program} {l : Launch} {e : Env} {s : State} {m : MethodId} {args : Array Value} {below : List Frame} {meth : Method} {c : Code} {D : va_G} {cI cZ : ClassId} {ad : Nat → Nat} {A : Nat → Prop} {z : Int32 × St}  (C : pw_C p s m args meth c yX11_debt.cls cX11_debt 3 (some .int) D cI cZ) : ∀  (σ : St) (H : Heap) (locs : List Loc) (ls : Array Slot), pw_H D (pw_w shM cI cZ ad σ) A s.heap H locs → lv_has ls 3 [(0, .ref (ad 0))] → fX11_debt_b38   σ = some z → W p l e (pw_rm 1) s m args below meth c H locs 0 0 (pw_QI below args s D (pw_w shM cI cZ ad) A z) (F0 m 38 ls []) := by
  obtain ⟨hx, hb, hr, hts, hown, hlk, hml, hK, hN⟩ := id C
  intro σ H locs ls hw hl h
  unfold fX11_debt_b38 at h
  refine lv_aload_n hx hb dX11_debt_38 rfl (lv_at hl 0 rfl) ?_
  refine lv_bipush (v := (-6)) hx hb dX11_debt_39 (by decide) ?_
  obtain ⟨v3, σ2, e1, h⟩ := cal_some h
  refine r_cVI C hw (As := [.int (-6)]) (rest := []) (kX11_refuse l D cI cZ ad _ _ _ e1) YX11_refuse ml_X11_152 qM_0 clsX11 (pw_rmOK (by omega) (by decide)) rfl hl.1 rfl (Nat.le_of_ble_eq_true rfl) dX11_debt_41 ⟨Nat.zero_le _, Nat.zero_le _⟩ (fun H locs hw => ?_)
  exact r_iret C hw dX11_debt_44 h
set_option maxRecDepth 100000 in
set_option maxHeartbeats 4000000 in
theorem kX11_debt (l : Launch) (D : va_G) (cI cZ : ClassId) (ad : Nat → Nat) (x1 : Int32) (x2 : Int32) (σ : St) (z : Int32 × St) (h : fX11_debt x1 x2 σ = some z) : pw_MI l D shM cI cZ ad yX11_debt cX11_debt 3 (some .int) (pw_rm 1) [.ref (ad 0), .int x1, .int x2] σ z.1 z.2 := by
  refine pw_ofI (by decide) (Nat.le_of_ble_eq_true rfl) ?_
  intro p e s m args below meth c A C hw ls hl
  obtain ⟨hx, hb, hr, hts, hown, hlk, hml, hK, hN⟩ := id C
  have hl : lv_has ls 3 [(0, .ref (ad 0)), (1, .int x1), (2, .int x2)] := hl
  unfold fX11_debt at h
  refine lv_iload_n hx hb dX11_debt_0 rfl (lv_at hl 1 rfl) ?_
  refine lv_if_lt (tgt := 8) hx hb dX11_debt_1 (by decide) (fun hc => ?_) (fun hc => ?_)
  · replace h := pw_t hc h
    refine lv_aload_n hx hb dX11_debt_8 rfl (lv_at hl 0 rfl) ?_
    refine lv_bipush (v := (-4)) hx hb dX11_debt_9 (by decide) ?_
    obtain ⟨v6, σ5, e4, h⟩ := cal_some h
    refine r_cVI C hw (As := [.int (-4)]) (rest := []) (kX11_refuse l D cI cZ ad _ _ _ e4) YX11_refuse ml_X11_152 qM_0 clsX11 (pw_rmOK (by omega) (by decide)) rfl hl.1 rfl (Nat.le_of_ble_eq_true rfl) dX11_debt_11 ⟨Nat.zero_le _, Nat.zero_le _⟩ (fun H locs hw => ?_)
    exact r_iret C hw dX11_debt_14 h
  · replace h := pw_f hc h
    refine lv_iload_n hx hb dX11_debt_4 rfl (lv_at hl 2 rfl) ?_
    refine lv_if_ge (tgt := 15) hx hb dX11_debt_5 (by decide) (fun hc => ?_) (fun hc => ?_)
    · replace h := pw_t hc h
      refine lv_iload_n hx hb dX11_debt_15 rfl (lv_at hl 1 rfl) ?_
      refine lv_ldcw (v := 1000000) hx hb hown (hts _ ct_X11_271) dX11_debt_16 ?_
      refine lv_icmp_gt (tgt := 38) hx hb dX11_debt_19 (by decide) (fun hc => ?_) (fun hc => ?_)
      · replace h := pw_t hc h
        exact wX11_debt_b38 C  _ _ _ _ hw (lv_sub hl [0] rfl) h
      · replace h := pw_f hc h
        refine lv_iload_n hx hb dX11_debt_22 rfl (lv_at hl 2 rfl) ?_
        refine lv_sipush (v := 500) hx hb dX11_debt_23 (by decide) ?_
        refine lv_icmp_gt (tgt := 38) hx hb dX11_debt_26 (by decide) (fun hc => ?_) (fun hc => ?_)
        · replace h := pw_t hc h
          exact wX11_debt_b38 C  _ _ _ _ hw (lv_sub hl [0] rfl) h
        · replace h := pw_f hc h
          refine lv_aload_n hx hb dX11_debt_29 rfl (lv_at hl 0 rfl) ?_
          refine r_get C hw qM_0 clsX11 25 rfl (by decide) fl_X11_163 dX11_debt_30 (v := .int (σ 0 25)) rfl ?_
          refine lv_bipush (v := 6) hx hb dX11_debt_33 (by decide) ?_
          refine lv_icmp_ne (tgt := 45) hx hb dX11_debt_35 (by decide) (fun hc => ?_) (fun hc => ?_)
          · replace h := pw_f hc h
            refine lv_aload_n hx hb dX11_debt_45 rfl (lv_at hl 0 rfl) ?_
            refine r_get C hw qM_0 clsX11 51 rfl (by decide) fl_X11_135 dX11_debt_46 (v := .ref (ad 42)) rfl ?_
            refine lv_aload_n hx hb dX11_debt_49 rfl (lv_at hl 0 rfl) ?_
            refine r_get C hw qM_0 clsX11 25 rfl (by decide) fl_X11_163 dX11_debt_50 (v := .int (σ 0 25)) rfl ?_
            refine lv_iload_n hx hb dX11_debt_53 rfl (lv_at hl 1 rfl) ?_
            refine r_iast C hw qM_42 dX11_debt_54 h (fun σ7 H locs hw h => ?_)
            refine lv_aload_n hx hb dX11_debt_55 rfl (lv_at hl 0 rfl) ?_
            refine r_get C hw qM_0 clsX11 52 rfl (by decide) fl_X11_138 dX11_debt_56 (v := .ref (ad 43)) rfl ?_
            refine lv_aload_n hx hb dX11_debt_59 rfl (lv_at hl 0 rfl) ?_
            refine r_get C hw qM_0 clsX11 25 rfl (by decide) fl_X11_163 dX11_debt_60 (v := .int (σ7 0 25)) rfl ?_
            refine lv_iload_n hx hb dX11_debt_63 rfl (lv_at hl 2 rfl) ?_
            refine r_iast C hw qM_43 dX11_debt_64 h (fun σ8 H locs hw h => ?_)
            refine lv_aload_n hx hb dX11_debt_65 rfl (lv_at hl 0 rfl) ?_
            refine r_get C hw qM_0 clsX11 53 rfl (by decide) fl_X11_141 dX11_debt_66 (v := .ref (ad 44)) rfl ?_
            refine lv_aload_n hx hb dX11_debt_69 rfl (lv_at hl 0 rfl) ?_
            refine r_get C hw qM_0 clsX11 25 rfl (by decide) fl_X11_163 dX11_debt_70 (v := .int (σ8 0 25)) rfl ?_
            refine lv_aload_n hx hb dX11_debt_73 rfl (lv_at hl 0 rfl) ?_
            refine r_get C hw qM_0 clsX11 16 rfl (by decide) fl_X11_160 dX11_debt_74 (v := .int (σ8 0 16)) rfl ?_
            refine r_iast C hw qM_44 dX11_debt_77 h (fun σ9 H locs hw h => ?_)
            refine lv_aload_n hx hb dX11_debt_78 rfl (lv_at hl 0 rfl) ?_
            refine lv_dup hx hb dX11_debt_79 rfl ?_
            refine r_get C hw qM_0 clsX11 25 rfl (by decide) fl_X11_163 dX11_debt_80 (v := .int (σ9 0 25)) rfl ?_
            refine lv_iconst (v := 1) hx hb dX11_debt_83 (by decide) ?_
            refine lv_iadd hx hb dX11_debt_84 ?_
            refine r_put C hw qM_0 clsX11 25 rfl (by decide) fl_X11_163 dX11_debt_85 rfl rfl rfl h (fun σ10 H locs hw h => ?_)
            refine lv_aload_n hx hb dX11_debt_88 rfl (lv_at hl 0 rfl) ?_
            refine r_get C hw qM_0 clsX11 25 rfl (by decide) fl_X11_163 dX11_debt_89 (v := .int (σ10 0 25)) rfl ?_
            refine lv_iconst (v := 1) hx hb dX11_debt_92 (by decide) ?_
            refine lv_isub hx hb dX11_debt_93 ?_
            exact r_iret C hw dX11_debt_94 h
          · replace h := pw_t hc h
            exact wX11_debt_b38 C  _ _ _ _ hw (lv_sub hl [0] rfl) h
    · replace h := pw_f hc h
      refine lv_aload_n hx hb dX11_debt_8 rfl (lv_at hl 0 rfl) ?_
      refine lv_bipush (v := (-4)) hx hb dX11_debt_9 (by decide) ?_
      obtain ⟨v13, σ12, e11, h⟩ := cal_some h
      refine r_cVI C hw (As := [.int (-4)]) (rest := []) (kX11_refuse l D cI cZ ad _ _ _ e11) YX11_refuse ml_X11_152 qM_0 clsX11 (pw_rmOK (by omega) (by decide)) rfl hl.1 rfl (Nat.le_of_ble_eq_true rfl) dX11_debt_11 ⟨Nat.zero_le _, Nat.zero_le _⟩ (fun H locs hw => ?_)
      exact r_iret C hw dX11_debt_14 h
set_option maxRecDepth 100000 in
set_option maxHeartbeats 4000000 in
theorem wX11_pay_b32 {p : Program} {l : Launch} {e : Env} {s : State} {m : MethodId} {args : Array Value} {below : List Frame} {meth : Method} {c : Code} {D : va_G} {cI cZ : ClassId} {ad : Nat → Nat} {A : Nat → Prop} {z : Int32 × St}  (C : pw_C p s m args meth c yX11_pay.cls cX11_pay 4 (some .int) D cI cZ) : ∀ (x1 : Int32) (x2 : Int32) (s0 : Int32) (σ : St) (H : Heap) (locs : List Loc) (ls : Array Slot), pw_H D (pw_w shM cI cZ ad σ) A s.heap H locs → lv_has ls 4 [(0, .ref (ad 0)), (1, .int x1), (2, .int x2)] → fX11_pay_b32  x1 x2 s0 σ = some z → W p l e (pw_rm 1) s m args below meth c H locs 0 0 (pw_QI below args s D (pw_w shM cI cZ ad) A z) (F0 m 32 ls [.int s0]) := by
  obtain ⟨hx, hb, hr, hts, hown, hlk, hml, hK, hN⟩ := id C
  intro x1 x2 s0 σ H locs ls hw hl h
  unfold fX11_pay_b32 at h
  refine lv_istore_n (lv' := [(3, .int s0), (0, .ref (ad 0)), (1, .int x1), (2, .int x2)]) hx hb dX11_pay_32 rfl hl (by decide) rfl (fun ls hl => ?_)
  refine lv_iload_n hx hb dX11_pay_33 rfl (lv_at hl 0 rfl) ?_
  refine lv_if_eq (tgt := 43) hx hb dX11_pay_34 (by decide) (fun hc => ?_) (fun hc => ?_)
  · replace h := pw_t hc h
    refine lv_aload_n hx hb dX11_pay_43 rfl (lv_at hl 1 rfl) ?_
    refine r_get C hw qM_0 clsX11 51 rfl (by decide) fl_X11_135 dX11_pay_44 (v := .ref (ad 42)) rfl ?_
    refine lv_iload_n hx hb dX11_pay_47 rfl (lv_at hl 2 rfl) ?_
    refine lv_dup2_11 hx hb dX11_pay_48 rfl rfl ?_
    refine r_iald C hw qM_42 dX11_pay_49 h (fun v1 h => ?_)
    refine lv_iload_n hx hb dX11_pay_50 rfl (lv_at hl 3 rfl) ?_
    refine lv_isub hx hb dX11_pay_51 ?_
    refine r_iast C hw qM_42 dX11_pay_52 h (fun σ2 H locs hw h => ?_)
    refine lv_aload_n hx hb dX11_pay_53 rfl (lv_at hl 1 rfl) ?_
    refine r_get C hw qM_0 clsX11 51 rfl (by decide) fl_X11_135 dX11_pay_54 (v := .ref (ad 42)) rfl ?_
    refine lv_iload_n hx hb dX11_pay_57 rfl (lv_at hl 2 rfl) ?_
    refine r_iald C hw qM_42 dX11_pay_58 h (fun v3 h => ?_)
    exact r_iret C hw dX11_pay_59 h
  · replace h := pw_f hc h
    refine lv_aload_n hx hb dX11_pay_37 rfl (lv_at hl 1 rfl) ?_
    refine lv_iload_n hx hb dX11_pay_38 rfl (lv_at hl 0 rfl) ?_
    obtain ⟨v6, σ5, e4, h⟩ := cal_some h
    refine r_cVI C hw (As := [.int s0]) (rest := []) (kX11_refuse l D cI cZ ad _ _ _ e4) YX11_refuse ml_X11_152 qM_0 clsX11 (pw_rmOK (by omega) (by decide)) rfl hl.1 rfl (Nat.le_of_ble_eq_true rfl) dX11_pay_39 ⟨Nat.zero_le _, Nat.zero_le _⟩ (fun H locs hw => ?_)
    exact r_iret C hw dX11_pay_42 h
set_option maxRecDepth 100000 in
set_option maxHeartbeats 4000000 in
theorem kX11_pay (l : Launch) (D : va_G) (cI cZ : ClassId) (ad : Nat → Nat) (x1 : Int32) (x2 : Int32) (σ : St) (z : Int32 × St) (h : fX11_pay x1 x2 σ = some z) : pw_MI l D shM cI cZ ad yX11_pay cX11_pay 4 (some .int) (pw_rm 1) [.ref (ad 0), .int x1, .int x2] σ z.1 z.2 := by
  refine pw_ofI (by decide) (Nat.le_of_ble_eq_true rfl) ?_
  intro p e s m args below meth c A C hw ls hl
  obtain ⟨hx, hb, hr, hts, hown, hlk, hml, hK, hN⟩ := id C
  have hl : lv_has ls 4 [(0, .ref (ad 0)), (1, .int x1), (2, .int x2)] := hl
  unfold fX11_pay at h
  refine lv_iload_n hx hb dX11_pay_0 rfl (lv_at hl 1 rfl) ?_
  refine lv_aload_n hx hb dX11_pay_1 rfl (lv_at hl 0 rfl) ?_
  refine r_get C hw qM_0 clsX11 25 rfl (by decide) fl_X11_163 dX11_pay_2 (v := .int (σ 0 25)) rfl ?_
  obtain ⟨v9, σ8, e7, h⟩ := cal_some h
  refine r_cSI C hw (sh := shM) (ad := ad) (As := [.int x1, .int (σ 0 25)]) (rest := []) (kX11_isIn l D cI cZ ad _ _ _ _ e7) YX11_isIn ml_X11_144 (pw_rmOK (by omega) (by decide)) rfl hl.1 rfl (Nat.le_of_ble_eq_true rfl) dX11_pay_5 ⟨Nat.zero_le _, Nat.zero_le _⟩ (fun H locs hw => ?_)
  refine lv_if_eq (tgt := 31) hx hb dX11_pay_8 (by decide) (fun hc => ?_) (fun hc => ?_)
  · replace h := pw_t hc h
    refine lv_iconst (v := (-1)) hx hb dX11_pay_31 (by decide) ?_
    exact wX11_pay_b32 C  _ _ _ _ _ _ _ hw (lv_sub hl [0, 1, 2] rfl) h
  · replace h := pw_f hc h
    refine lv_iload_n hx hb dX11_pay_11 rfl (lv_at hl 2 rfl) ?_
    refine lv_iconst (v := 1) hx hb dX11_pay_12 (by decide) ?_
    refine lv_ldcw (v := 1000000) hx hb hown (hts _ ct_X11_271) dX11_pay_13 ?_
    refine lv_aload_n hx hb dX11_pay_16 rfl (lv_at hl 0 rfl) ?_
    refine r_get C hw qM_0 clsX11 51 rfl (by decide) fl_X11_135 dX11_pay_17 (v := .ref (ad 42)) rfl ?_
    refine lv_iload_n hx hb dX11_pay_20 rfl (lv_at hl 1 rfl) ?_
    refine r_iald C hw qM_42 dX11_pay_21 h (fun v10 h => ?_)
    refine va_mmin hx hb (hml.trans hl.1.symm) hown (hts _ ml_X11_272) (hts _ ls_min) (hts _ li_Math) (hts _ lc_min) (pw_fr (by omega)) (pw_lo (Nat.le_of_ble_eq_true rfl) (by omega)) (Nat.zero_le _) (Nat.zero_le _) dX11_pay_22 ?_
    obtain ⟨v13, σ12, e11, h⟩ := cal_some h
    refine r_cSI C hw (sh := shM) (ad := ad) (As := [.int x2, .int 1, .int (if v10 < 1000000 then v10 else 1000000)]) (rest := []) (kX11_wrong l D cI cZ ad _ _ _ _ _ e11) YX11_wrong ml_X11_148 (pw_rmOK (by omega) (by decide)) rfl hl.1 rfl (Nat.le_of_ble_eq_true rfl) dX11_pay_25 ⟨Nat.zero_le _, Nat.zero_le _⟩ (fun H locs hw => ?_)
    refine lv_goto (tgt := 32) hx hb dX11_pay_28 (by decide) ?_
    exact wX11_pay_b32 C  _ _ _ _ _ _ _ hw (lv_sub hl [0, 1, 2] rfl) h
set_option maxRecDepth 100000 in
set_option maxHeartbeats 4000000 in
theorem wX11_owed_b50 {p : Program} {l : Launch} {e : Env} {s : State} {m : MethodId} {args : Array Value} {below : List Frame} {meth : Method} {c : Code} {D : va_G} {cI cZ : ClassId} {ad : Nat → Nat} {A : Nat → Prop} {z : Int32 × St}  (C : pw_C p s m args meth c yX11_owed.cls cX11_owed 6 (some .int) D cI cZ) : ∀ (n : Nat) (x1 : Int32) (x2 : Int32) (x4 : Int32) (x5 : Int32) (σ : St) (H : Heap) (locs : List Loc) (ls : Array Slot), pw_H D (pw_w shM cI cZ ad σ) A s.heap H locs → lv_has ls 6 [(0, .ref (ad 0)), (1, .int x1), (2, .int x2), (4, .int x4), (5, .int x5)] → fX11_owed_b50  n x1 x2 x4 x5 σ = some z → W p l e (pw_rm 2) s m args below meth c H locs 0 0 (pw_QI below args s D (pw_w shM cI cZ ad) A z) (F0 m 50 ls []) := by
  obtain ⟨hx, hb, hr, hts, hown, hlk, hml, hK, hN⟩ := id C
  intro n
  induction n with
  | zero =>
    intro x1 x2 x4 x5 σ H locs ls hw hl h
    exact absurd h (by simp [fX11_owed_b50])
  | succ n ih =>
    intro x1 x2 x4 x5 σ H locs ls hw hl h
    rw [fX11_owed_b50] at h
    refine lv_iload hx hb dX11_owed_50 (lv_at hl 4 rfl) ?_
    refine lv_aload_n hx hb dX11_owed_52 rfl (lv_at hl 0 rfl) ?_
    refine r_get C hw qM_0 clsX11 16 rfl (by decide) fl_X11_160 dX11_owed_53 (v := .int (σ 0 16)) rfl ?_
    refine lv_iload_n hx hb dX11_owed_56 rfl (lv_at hl 2 rfl) ?_
    refine lv_iadd hx hb dX11_owed_57 ?_
    refine lv_icmp_gt (tgt := 91) hx hb dX11_owed_58 (by decide) (fun hc => ?_) (fun hc => ?_)
    · replace h := pw_t hc h
      refine lv_iload hx hb dX11_owed_91 (lv_at hl 3 rfl) ?_
      exact r_iret C hw dX11_owed_93 h
    · replace h := pw_f hc h
      refine lv_iload hx hb dX11_owed_61 (lv_at hl 4 rfl) ?_
      refine lv_aload_n hx hb dX11_owed_63 rfl (lv_at hl 0 rfl) ?_
      refine r_get C hw qM_0 clsX11 53 rfl (by decide) fl_X11_141 dX11_owed_64 (v := .ref (ad 44)) rfl ?_
      refine lv_iload_n hx hb dX11_owed_67 rfl (lv_at hl 1 rfl) ?_
      refine r_iald C hw qM_44 dX11_owed_68 h (fun v1 h => ?_)
      refine lv_isub hx hb dX11_owed_69 ?_
      refine lv_bipush (v := 30) hx hb dX11_owed_70 (by decide) ?_
      refine lv_irem hx hb dX11_owed_72 (by decide) ?_
      refine lv_if_ne (tgt := 85) hx hb dX11_owed_73 (by decide) (fun hc => ?_) (fun hc => ?_)
      · replace h := pw_f hc h
        refine lv_iinc (v := (x5 + 1)) (lv' := [(5, .int (x5 + 1)), (0, .ref (ad 0)), (1, .int x1), (2, .int x2), (4, .int x4)]) hx hb dX11_owed_85 hl (k := 4) rfl rfl (by decide) rfl (fun ls hl => ?_)
        refine lv_goto (tgt := 50) hx hb dX11_owed_88 (by decide) ?_
        exact ih _ _ _ _ _ _ _ _ hw (lv_sub hl [1, 2, 3, 4, 0] rfl) h
      · replace h := pw_t hc h
        refine lv_aload_n hx hb dX11_owed_76 rfl (lv_at hl 0 rfl) ?_
        refine lv_iload_n hx hb dX11_owed_77 rfl (lv_at hl 1 rfl) ?_
        refine lv_iload hx hb dX11_owed_78 (lv_at hl 3 rfl) ?_
        obtain ⟨v4, σ3, e2, h⟩ := cal_some h
        refine r_cVI C hw (As := [.int x1, .int x4]) (rest := []) (kX11_grown l D cI cZ ad _ _ _ _ e2) YX11_grown ml_X11_166 qM_0 clsX11 (pw_rmOK (by omega) (by decide)) rfl hl.1 rfl (Nat.le_of_ble_eq_true rfl) dX11_owed_80 ⟨Nat.zero_le _, Nat.zero_le _⟩ (fun H locs hw => ?_)
        refine lv_istore (lv' := [(4, .int v4), (0, .ref (ad 0)), (1, .int x1), (2, .int x2), (5, .int x5)]) hx hb dX11_owed_83 hl (by decide) rfl (fun ls hl => ?_)
        refine lv_iinc (v := (x5 + 1)) (lv' := [(5, .int (x5 + 1)), (4, .int v4), (0, .ref (ad 0)), (1, .int x1), (2, .int x2)]) hx hb dX11_owed_85 hl (k := 4) rfl rfl (by decide) rfl (fun ls hl => ?_)
        refine lv_goto (tgt := 50) hx hb dX11_owed_88 (by decide) ?_
        exact ih _ _ _ _ _ _ _ _ hw (lv_sub hl [2, 3, 4, 1, 0] rfl) h
set_option maxRecDepth 100000 in
set_option maxHeartbeats 4000000 in
theorem wX11_owed_b23 {p : Program} {l : Launch} {e : Env} {s : State} {m : MethodId} {args : Array Value} {below : List Frame} {meth : Method} {c : Code} {D : va_G} {cI cZ : ClassId} {ad : Nat → Nat} {A : Nat → Prop} {z : Int32 × St}  (C : pw_C p s m args meth c yX11_owed.cls cX11_owed 6 (some .int) D cI cZ) : ∀ (x1 : Int32) (x2 : Int32) (s0 : Int32) (σ : St) (H : Heap) (locs : List Loc) (ls : Array Slot), pw_H D (pw_w shM cI cZ ad σ) A s.heap H locs → lv_has ls 6 [(0, .ref (ad 0)), (1, .int x1), (2, .int x2)] → fX11_owed_b23  x1 x2 s0 σ = some z → W p l e (pw_rm 2) s m args below meth c H locs 0 0 (pw_QI below args s D (pw_w shM cI cZ ad) A z) (F0 m 23 ls [.int s0]) := by
  obtain ⟨hx, hb, hr, hts, hown, hlk, hml, hK, hN⟩ := id C
  intro x1 x2 s0 σ H locs ls hw hl h
  unfold fX11_owed_b23 at h
  refine lv_istore_n (lv' := [(3, .int s0), (0, .ref (ad 0)), (1, .int x1), (2, .int x2)]) hx hb dX11_owed_23 rfl hl (by decide) rfl (fun ls hl => ?_)
  refine lv_iload_n hx hb dX11_owed_24 rfl (lv_at hl 0 rfl) ?_
  refine lv_if_eq (tgt := 34) hx hb dX11_owed_25 (by decide) (fun hc => ?_) (fun hc => ?_)
  · replace h := pw_t hc h
    refine lv_aload_n hx hb dX11_owed_34 rfl (lv_at hl 1 rfl) ?_
    refine r_get C hw qM_0 clsX11 51 rfl (by decide) fl_X11_135 dX11_owed_35 (v := .ref (ad 42)) rfl ?_
    refine lv_iload_n hx hb dX11_owed_38 rfl (lv_at hl 2 rfl) ?_
    refine r_iald C hw qM_42 dX11_owed_39 h (fun v5 h => ?_)
    refine lv_istore (lv' := [(4, .int v5), (3, .int s0), (0, .ref (ad 0)), (1, .int x1), (2, .int x2)]) hx hb dX11_owed_40 hl (by decide) rfl (fun ls hl => ?_)
    refine lv_aload_n hx hb dX11_owed_42 rfl (lv_at hl 2 rfl) ?_
    refine r_get C hw qM_0 clsX11 16 rfl (by decide) fl_X11_160 dX11_owed_43 (v := .int (σ 0 16)) rfl ?_
    refine lv_iconst (v := 1) hx hb dX11_owed_46 (by decide) ?_
    refine lv_iadd hx hb dX11_owed_47 ?_
    refine lv_istore (lv' := [(5, .int ((σ 0 16) + 1)), (4, .int v5), (3, .int s0), (0, .ref (ad 0)), (1, .int x1), (2, .int x2)]) hx hb dX11_owed_48 hl (by decide) rfl (fun ls hl => ?_)
    exact wX11_owed_b50 C  _ _ _ _ _ _ _ _ _ hw (lv_sub hl [3, 4, 5, 1, 0] rfl) h
  · replace h := pw_f hc h
    refine lv_aload_n hx hb dX11_owed_28 rfl (lv_at hl 1 rfl) ?_
    refine lv_iload_n hx hb dX11_owed_29 rfl (lv_at hl 0 rfl) ?_
    obtain ⟨v8, σ7, e6, h⟩ := cal_some h
    refine r_cVI C hw (As := [.int s0]) (rest := []) (kX11_refuse l D cI cZ ad _ _ _ e6) YX11_refuse ml_X11_152 qM_0 clsX11 (pw_rmOK (by omega) (by decide)) rfl hl.1 rfl (Nat.le_of_ble_eq_true rfl) dX11_owed_30 ⟨Nat.zero_le _, Nat.zero_le _⟩ (fun H locs hw => ?_)
    exact r_iret C hw dX11_owed_33 h
set_option maxRecDepth 100000 in
set_option maxHeartbeats 4000000 in
theorem kX11_owed (l : Launch) (D : va_G) (cI cZ : ClassId) (ad : Nat → Nat) (x1 : Int32) (x2 : Int32) (σ : St) (z : Int32 × St) (h : fX11_owed x1 x2 σ = some z) : pw_MI l D shM cI cZ ad yX11_owed cX11_owed 6 (some .int) (pw_rm 2) [.ref (ad 0), .int x1, .int x2] σ z.1 z.2 := by
  refine pw_ofI (by decide) (Nat.le_of_ble_eq_true rfl) ?_
  intro p e s m args below meth c A C hw ls hl
  obtain ⟨hx, hb, hr, hts, hown, hlk, hml, hK, hN⟩ := id C
  have hl : lv_has ls 6 [(0, .ref (ad 0)), (1, .int x1), (2, .int x2)] := hl
  unfold fX11_owed at h
  refine lv_iload_n hx hb dX11_owed_0 rfl (lv_at hl 1 rfl) ?_
  refine lv_aload_n hx hb dX11_owed_1 rfl (lv_at hl 0 rfl) ?_
  refine r_get C hw qM_0 clsX11 25 rfl (by decide) fl_X11_163 dX11_owed_2 (v := .int (σ 0 25)) rfl ?_
  obtain ⟨v11, σ10, e9, h⟩ := cal_some h
  refine r_cSI C hw (sh := shM) (ad := ad) (As := [.int x1, .int (σ 0 25)]) (rest := []) (kX11_isIn l D cI cZ ad _ _ _ _ e9) YX11_isIn ml_X11_144 (pw_rmOK (by omega) (by decide)) rfl hl.1 rfl (Nat.le_of_ble_eq_true rfl) dX11_owed_5 ⟨Nat.zero_le _, Nat.zero_le _⟩ (fun H locs hw => ?_)
  refine lv_if_eq (tgt := 22) hx hb dX11_owed_8 (by decide) (fun hc => ?_) (fun hc => ?_)
  · replace h := pw_t hc h
    refine lv_iconst (v := (-1)) hx hb dX11_owed_22 (by decide) ?_
    exact wX11_owed_b23 C  _ _ _ _ _ _ _ hw (lv_sub hl [0, 1, 2] rfl) h
  · replace h := pw_f hc h
    refine lv_iload_n hx hb dX11_owed_11 rfl (lv_at hl 2 rfl) ?_
    refine lv_iconst (v := 0) hx hb dX11_owed_12 (by decide) ?_
    refine lv_sipush (v := 4000) hx hb dX11_owed_13 (by decide) ?_
    obtain ⟨v14, σ13, e12, h⟩ := cal_some h
    refine r_cSI C hw (sh := shM) (ad := ad) (As := [.int x2, .int 0, .int 4000]) (rest := []) (kX11_wrong l D cI cZ ad _ _ _ _ _ e12) YX11_wrong ml_X11_148 (pw_rmOK (by omega) (by decide)) rfl hl.1 rfl (Nat.le_of_ble_eq_true rfl) dX11_owed_16 ⟨Nat.zero_le _, Nat.zero_le _⟩ (fun H locs hw => ?_)
    refine lv_goto (tgt := 23) hx hb dX11_owed_19 (by decide) ?_
    exact wX11_owed_b23 C  _ _ _ _ _ _ _ hw (lv_sub hl [0, 1, 2] rfl) h
set_option maxRecDepth 100000 in
set_option maxHeartbeats 4000000 in
theorem kX11_pieceOf (l : Launch) (D : va_G) (cI cZ : ClassId) (ad : Nat → Nat) (x1 : Int32) (x2 : Int32) (σ : St) (z : Int32 × St) (h : fX11_pieceOf x1 x2 σ = some z) : pw_MI l D shM cI cZ ad yX11_pieceOf cX11_pieceOf 3 (some .int) (pw_rm 2) [.ref (ad 0), .int x1, .int x2] σ z.1 z.2 := by
  refine pw_ofI (by decide) (Nat.le_of_ble_eq_true rfl) ?_
  intro p e s m args below meth c A C hw ls hl
  obtain ⟨hx, hb, hr, hts, hown, hlk, hml, hK, hN⟩ := id C
  have hl : lv_has ls 3 [(0, .ref (ad 0)), (1, .int x1), (2, .int x2)] := hl
  unfold fX11_pieceOf at h
  refine lv_aload_n hx hb dX11_pieceOf_0 rfl (lv_at hl 0 rfl) ?_
  refine lv_iload_n hx hb dX11_pieceOf_1 rfl (lv_at hl 1 rfl) ?_
  obtain ⟨v3, σ2, e1, h⟩ := cal_some h
  refine r_cVI C hw (As := [.int x1]) (rest := []) (kX11_isPiece l D cI cZ ad _ _ _ e1) YX11_isPiece ml_X11_190 qM_0 clsX11 (pw_rmOK (by omega) (by decide)) rfl hl.1 rfl (Nat.le_of_ble_eq_true rfl) dX11_pieceOf_2 ⟨Nat.zero_le _, Nat.zero_le _⟩ (fun H locs hw => ?_)
  refine lv_if_ne (tgt := 14) hx hb dX11_pieceOf_5 (by decide) (fun hc => ?_) (fun hc => ?_)
  · replace h := pw_f hc h
    refine lv_iload_n hx hb dX11_pieceOf_14 rfl (lv_at hl 2 rfl) ?_
    by_cases hc0 : x2 = 0
    · replace h := pw_t hc0 h
      refine lv_tableIn (off := 41) (tgt := 56) hx hb dX11_pieceOf_15 (by rw [hc0]; decide) (by rw [hc0]; decide) (by rw [hc0]; rfl) (by decide) ?_
      refine lv_aload_n hx hb dX11_pieceOf_56 rfl (lv_at hl 0 rfl) ?_
      refine r_get C hw qM_0 clsX11 8 rfl (by decide) fl_X11_34 dX11_pieceOf_57 (v := .ref (ad 9)) rfl ?_
      refine lv_iload_n hx hb dX11_pieceOf_60 rfl (lv_at hl 1 rfl) ?_
      refine r_iald C hw qM_9 dX11_pieceOf_61 h (fun v4 h => ?_)
      exact r_iret C hw dX11_pieceOf_62 h
    replace h := pw_f hc0 h
    by_cases hc1 : x2 = 1
    · replace h := pw_t hc1 h
      refine lv_tableIn (off := 48) (tgt := 63) hx hb dX11_pieceOf_15 (by rw [hc1]; decide) (by rw [hc1]; decide) (by rw [hc1]; rfl) (by decide) ?_
      refine lv_aload_n hx hb dX11_pieceOf_63 rfl (lv_at hl 0 rfl) ?_
      refine r_get C hw qM_0 clsX11 6 rfl (by decide) fl_X11_28 dX11_pieceOf_64 (v := .ref (ad 7)) rfl ?_
      refine lv_iload_n hx hb dX11_pieceOf_67 rfl (lv_at hl 1 rfl) ?_
      refine r_iald C hw qM_7 dX11_pieceOf_68 h (fun v5 h => ?_)
      exact r_iret C hw dX11_pieceOf_69 h
    replace h := pw_f hc1 h
    by_cases hc2 : x2 = 2
    · replace h := pw_t hc2 h
      refine lv_tableIn (off := 55) (tgt := 70) hx hb dX11_pieceOf_15 (by rw [hc2]; decide) (by rw [hc2]; decide) (by rw [hc2]; rfl) (by decide) ?_
      refine lv_aload_n hx hb dX11_pieceOf_70 rfl (lv_at hl 0 rfl) ?_
      refine r_get C hw qM_0 clsX11 7 rfl (by decide) fl_X11_31 dX11_pieceOf_71 (v := .ref (ad 8)) rfl ?_
      refine lv_iload_n hx hb dX11_pieceOf_74 rfl (lv_at hl 1 rfl) ?_
      refine r_iald C hw qM_8 dX11_pieceOf_75 h (fun v6 h => ?_)
      exact r_iret C hw dX11_pieceOf_76 h
    replace h := pw_f hc2 h
    by_cases hc3 : x2 = 3
    · replace h := pw_t hc3 h
      refine lv_tableIn (off := 62) (tgt := 77) hx hb dX11_pieceOf_15 (by rw [hc3]; decide) (by rw [hc3]; decide) (by rw [hc3]; rfl) (by decide) ?_
      refine lv_aload_n hx hb dX11_pieceOf_77 rfl (lv_at hl 0 rfl) ?_
      refine r_get C hw qM_0 clsX11 2 rfl (by decide) fl_X11_16 dX11_pieceOf_78 (v := .ref (ad 3)) rfl ?_
      refine lv_aload_n hx hb dX11_pieceOf_81 rfl (lv_at hl 0 rfl) ?_
      refine r_get C hw qM_0 clsX11 5 rfl (by decide) fl_X11_25 dX11_pieceOf_82 (v := .ref (ad 6)) rfl ?_
      refine lv_iload_n hx hb dX11_pieceOf_85 rfl (lv_at hl 1 rfl) ?_
      refine r_iald C hw qM_6 dX11_pieceOf_86 h (fun v7 h => ?_)
      refine r_iald C hw qM_3 dX11_pieceOf_87 h (fun v8 h => ?_)
      exact r_iret C hw dX11_pieceOf_88 h
    replace h := pw_f hc3 h
    by_cases hc4 : x2 = 4
    · replace h := pw_t hc4 h
      refine lv_tableIn (off := 74) (tgt := 89) hx hb dX11_pieceOf_15 (by rw [hc4]; decide) (by rw [hc4]; decide) (by rw [hc4]; rfl) (by decide) ?_
      refine lv_aload_n hx hb dX11_pieceOf_89 rfl (lv_at hl 0 rfl) ?_
      refine r_get C hw qM_0 clsX11 9 rfl (by decide) fl_X11_37 dX11_pieceOf_90 (v := .ref (ad 10)) rfl ?_
      refine lv_iload_n hx hb dX11_pieceOf_93 rfl (lv_at hl 1 rfl) ?_
      refine r_iald C hw qM_10 dX11_pieceOf_94 h (fun v9 h => ?_)
      exact r_iret C hw dX11_pieceOf_95 h
    replace h := pw_f hc4 h
    by_cases hc5 : x2 = 5
    · replace h := pw_t hc5 h
      refine lv_tableIn (off := 81) (tgt := 96) hx hb dX11_pieceOf_15 (by rw [hc5]; decide) (by rw [hc5]; decide) (by rw [hc5]; rfl) (by decide) ?_
      refine lv_aload_n hx hb dX11_pieceOf_96 rfl (lv_at hl 0 rfl) ?_
      refine r_get C hw qM_0 clsX11 10 rfl (by decide) fl_X11_40 dX11_pieceOf_97 (v := .ref (ad 11)) rfl ?_
      refine lv_iload_n hx hb dX11_pieceOf_100 rfl (lv_at hl 1 rfl) ?_
      refine r_iald C hw qM_11 dX11_pieceOf_101 h (fun v10 h => ?_)
      exact r_iret C hw dX11_pieceOf_102 h
    replace h := pw_f hc5 h
    by_cases hc6 : x2 = 6
    · replace h := pw_t hc6 h
      refine lv_tableIn (off := 88) (tgt := 103) hx hb dX11_pieceOf_15 (by rw [hc6]; decide) (by rw [hc6]; decide) (by rw [hc6]; rfl) (by decide) ?_
      refine lv_aload_n hx hb dX11_pieceOf_103 rfl (lv_at hl 0 rfl) ?_
      refine r_get C hw qM_0 clsX11 11 rfl (by decide) fl_X11_43 dX11_pieceOf_104 (v := .ref (ad 12)) rfl ?_
      refine lv_iload_n hx hb dX11_pieceOf_107 rfl (lv_at hl 1 rfl) ?_
      refine r_iald C hw qM_12 dX11_pieceOf_108 h (fun v11 h => ?_)
      exact r_iret C hw dX11_pieceOf_109 h
    replace h := pw_f hc6 h
    refine lv_tableOut (tgt := 110) hx hb dX11_pieceOf_15 (pw_out6 hc0 hc1 hc2 hc3 hc4 hc5 hc6) (by decide) ?_
    refine lv_aload_n hx hb dX11_pieceOf_110 rfl (lv_at hl 0 rfl) ?_
    refine lv_bipush (v := (-2)) hx hb dX11_pieceOf_111 (by decide) ?_
    obtain ⟨v14, σ13, e12, h⟩ := cal_some h
    refine r_cVI C hw (As := [.int (-2)]) (rest := []) (kX11_refuse l D cI cZ ad _ _ _ e12) YX11_refuse ml_X11_152 qM_0 clsX11 (pw_rmOK (by omega) (by decide)) rfl hl.1 rfl (Nat.le_of_ble_eq_true rfl) dX11_pieceOf_113 ⟨Nat.zero_le _, Nat.zero_le _⟩ (fun H locs hw => ?_)
    exact r_iret C hw dX11_pieceOf_116 h
  · replace h := pw_t hc h
    refine lv_aload_n hx hb dX11_pieceOf_8 rfl (lv_at hl 0 rfl) ?_
    refine lv_iconst (v := (-1)) hx hb dX11_pieceOf_9 (by decide) ?_
    obtain ⟨v17, σ16, e15, h⟩ := cal_some h
    refine r_cVI C hw (As := [.int (-1)]) (rest := []) (kX11_refuse l D cI cZ ad _ _ _ e15) YX11_refuse ml_X11_152 qM_0 clsX11 (pw_rmOK (by omega) (by decide)) rfl hl.1 rfl (Nat.le_of_ble_eq_true rfl) dX11_pieceOf_10 ⟨Nat.zero_le _, Nat.zero_le _⟩ (fun H locs hw => ?_)
    exact r_iret C hw dX11_pieceOf_13 h
set_option maxRecDepth 100000 in
set_option maxHeartbeats 4000000 in
theorem wX11_count_b125 {p : Program} {l : Launch} {e : Env} {s : State} {m : MethodId} {args : Array Value} {below : List Frame} {meth : Method} {c : Code} {D : va_G} {cI cZ : ClassId} {ad : Nat → Nat} {A : Nat → Prop} {z : Int32 × St}  (C : pw_C p s m args meth c yX11_count.cls cX11_count 4 (some .int) D cI cZ) : ∀ (n : Nat) (x1 : Int32) (x2 : Int32) (x3 : Int32) (σ : St) (H : Heap) (locs : List Loc) (ls : Array Slot), pw_H D (pw_w shM cI cZ ad σ) A s.heap H locs → lv_has ls 4 [(0, .ref (ad 0)), (1, .int x1), (2, .int x2), (3, .int x3)] → fX11_count_b125  n x1 x2 x3 σ = some z → W p l e (pw_rm 1) s m args below meth c H locs 0 0 (pw_QI below args s D (pw_w shM cI cZ ad) A z) (F0 m 125 ls []) := by
  obtain ⟨hx, hb, hr, hts, hown, hlk, hml, hK, hN⟩ := id C
  intro n
  induction n with
  | zero =>
    intro x1 x2 x3 σ H locs ls hw hl h
    exact absurd h (by simp [fX11_count_b125])
  | succ n ih =>
    intro x1 x2 x3 σ H locs ls hw hl h
    rw [fX11_count_b125] at h
    refine lv_iload_n hx hb dX11_count_125 rfl (lv_at hl 3 rfl) ?_
    refine lv_aload_n hx hb dX11_count_126 rfl (lv_at hl 0 rfl) ?_
    refine r_get C hw qM_0 clsX11 18 rfl (by decide) fl_X11_174 dX11_count_127 (v := .int (σ 0 18)) rfl ?_
    refine lv_icmp_ge (tgt := 159) hx hb dX11_count_130 (by decide) (fun hc => ?_) (fun hc => ?_)
    · replace h := pw_t hc h
      refine lv_iload_n hx hb dX11_count_159 rfl (lv_at hl 2 rfl) ?_
      exact r_iret C hw dX11_count_160 h
    · replace h := pw_f hc h
      refine lv_iload_n hx hb dX11_count_133 rfl (lv_at hl 2 rfl) ?_
      refine lv_aload_n hx hb dX11_count_134 rfl (lv_at hl 0 rfl) ?_
      refine r_get C hw qM_0 clsX11 8 rfl (by decide) fl_X11_34 dX11_count_135 (v := .ref (ad 9)) rfl ?_
      refine lv_iload_n hx hb dX11_count_138 rfl (lv_at hl 3 rfl) ?_
      refine r_iald C hw qM_9 dX11_count_139 h (fun v1 h => ?_)
      refine lv_iload_n hx hb dX11_count_140 rfl (lv_at hl 1 rfl) ?_
      refine lv_iconst (v := 3) hx hb dX11_count_141 (by decide) ?_
      refine lv_isub hx hb dX11_count_142 ?_
      refine lv_icmp_ne (tgt := 150) hx hb dX11_count_143 (by decide) (fun hc => ?_) (fun hc => ?_)
      · replace h := pw_f hc h
        refine lv_iconst (v := 0) hx hb dX11_count_150 (by decide) ?_
        refine lv_iadd hx hb dX11_count_151 ?_
        refine lv_istore_n (lv' := [(2, .int (x2 + 0)), (0, .ref (ad 0)), (1, .int x1), (3, .int x3)]) hx hb dX11_count_152 rfl hl (by decide) rfl (fun ls hl => ?_)
        refine lv_iinc (v := (x3 + 1)) (lv' := [(3, .int (x3 + 1)), (2, .int (x2 + 0)), (0, .ref (ad 0)), (1, .int x1)]) hx hb dX11_count_153 hl (k := 3) rfl rfl (by decide) rfl (fun ls hl => ?_)
        refine lv_goto (tgt := 125) hx hb dX11_count_156 (by decide) ?_
        exact ih _ _ _ _ _ _ _ hw (lv_sub hl [2, 3, 1, 0] rfl) h
      · replace h := pw_t hc h
        refine lv_iconst (v := 1) hx hb dX11_count_146 (by decide) ?_
        refine lv_goto (tgt := 151) hx hb dX11_count_147 (by decide) ?_
        refine lv_iadd hx hb dX11_count_151 ?_
        refine lv_istore_n (lv' := [(2, .int (x2 + 1)), (0, .ref (ad 0)), (1, .int x1), (3, .int x3)]) hx hb dX11_count_152 rfl hl (by decide) rfl (fun ls hl => ?_)
        refine lv_iinc (v := (x3 + 1)) (lv' := [(3, .int (x3 + 1)), (2, .int (x2 + 1)), (0, .ref (ad 0)), (1, .int x1)]) hx hb dX11_count_153 hl (k := 3) rfl rfl (by decide) rfl (fun ls hl => ?_)
        refine lv_goto (tgt := 125) hx hb dX11_count_156 (by decide) ?_
        exact ih _ _ _ _ _ _ _ hw (lv_sub hl [2, 3, 1, 0] rfl) h
set_option maxRecDepth 100000 in
set_option maxHeartbeats 4000000 in
theorem wX11_count_b22 {p : Program} {l : Launch} {e : Env} {s : State} {m : MethodId} {args : Array Value} {below : List Frame} {meth : Method} {c : Code} {D : va_G} {cI cZ : ClassId} {ad : Nat → Nat} {A : Nat → Prop} {z : Int32 × St}  (C : pw_C p s m args meth c yX11_count.cls cX11_count 4 (some .int) D cI cZ) : ∀ (x1 : Int32) (σ : St) (H : Heap) (locs : List Loc) (ls : Array Slot), pw_H D (pw_w shM cI cZ ad σ) A s.heap H locs → lv_has ls 4 [(0, .ref (ad 0)), (1, .int x1)] → fX11_count_b22  x1 σ = some z → W p l e (pw_rm 1) s m args below meth c H locs 0 0 (pw_QI below args s D (pw_w shM cI cZ ad) A z) (F0 m 22 ls []) := by
  obtain ⟨hx, hb, hr, hts, hown, hlk, hml, hK, hN⟩ := id C
  intro x1 σ H locs ls hw hl h
  unfold fX11_count_b22 at h
  refine lv_iload_n hx hb dX11_count_22 rfl (lv_at hl 1 rfl) ?_
  refine lv_bipush (v := 20) hx hb dX11_count_23 (by decide) ?_
  refine lv_isub hx hb dX11_count_25 ?_
  refine lv_aload_n hx hb dX11_count_26 rfl (lv_at hl 0 rfl) ?_
  refine r_get C hw qM_0 clsX11 17 rfl (by decide) fl_X11_156 dX11_count_27 (v := .int (σ 0 17)) rfl ?_
  obtain ⟨v4, σ3, e2, h⟩ := cal_some h
  refine r_cSI C hw (sh := shM) (ad := ad) (As := [.int (x1 - 20), .int (σ 0 17)]) (rest := []) (kX11_isIn l D cI cZ ad _ _ _ _ e2) YX11_isIn ml_X11_144 (pw_rmOK (by omega) (by decide)) rfl hl.1 rfl (Nat.le_of_ble_eq_true rfl) dX11_count_30 ⟨Nat.zero_le _, Nat.zero_le _⟩ (fun H locs hw => ?_)
  refine lv_if_eq (tgt := 46) hx hb dX11_count_33 (by decide) (fun hc => ?_) (fun hc => ?_)
  · replace h := pw_t hc h
    refine lv_iconst (v := 0) hx hb dX11_count_46 (by decide) ?_
    refine lv_istore_n (lv' := [(2, .int 0), (0, .ref (ad 0)), (1, .int x1)]) hx hb dX11_count_47 rfl hl (by decide) rfl (fun ls hl => ?_)
    refine lv_iload_n hx hb dX11_count_48 rfl (lv_at hl 2 rfl) ?_
    by_cases hc0 : x1 = 0
    · replace h := pw_t hc0 h
      refine lv_tableIn (off := 59) (tgt := 108) hx hb dX11_count_49 (by rw [hc0]; decide) (by rw [hc0]; decide) (by rw [hc0]; rfl) (by decide) ?_
      refine lv_aload_n hx hb dX11_count_108 rfl (lv_at hl 1 rfl) ?_
      refine r_get C hw qM_0 clsX11 16 rfl (by decide) fl_X11_160 dX11_count_109 (v := .int (σ3 0 16)) rfl ?_
      exact r_iret C hw dX11_count_112 h
    replace h := pw_f hc0 h
    by_cases hc1 : x1 = 1
    · replace h := pw_t hc1 h
      refine lv_tableIn (off := 64) (tgt := 113) hx hb dX11_count_49 (by rw [hc1]; decide) (by rw [hc1]; decide) (by rw [hc1]; rfl) (by decide) ?_
      refine lv_aload_n hx hb dX11_count_113 rfl (lv_at hl 1 rfl) ?_
      refine r_get C hw qM_0 clsX11 17 rfl (by decide) fl_X11_156 dX11_count_114 (v := .int (σ3 0 17)) rfl ?_
      exact r_iret C hw dX11_count_117 h
    replace h := pw_f hc1 h
    by_cases hc2 : x1 = 2
    · replace h := pw_t hc2 h
      refine lv_tableIn (off := 69) (tgt := 118) hx hb dX11_count_49 (by rw [hc2]; decide) (by rw [hc2]; decide) (by rw [hc2]; rfl) (by decide) ?_
      refine lv_aload_n hx hb dX11_count_118 rfl (lv_at hl 1 rfl) ?_
      refine r_get C hw qM_0 clsX11 18 rfl (by decide) fl_X11_174 dX11_count_119 (v := .int (σ3 0 18)) rfl ?_
      exact r_iret C hw dX11_count_122 h
    replace h := pw_f hc2 h
    by_cases hc3 : x1 = 3
    · replace h := pw_t hc3 h
      refine lv_tableIn (off := 74) (tgt := 123) hx hb dX11_count_49 (by rw [hc3]; decide) (by rw [hc3]; decide) (by rw [hc3]; rfl) (by decide) ?_
      refine lv_iconst (v := 0) hx hb dX11_count_123 (by decide) ?_
      refine lv_istore_n (lv' := [(3, .int 0), (2, .int 0), (0, .ref (ad 0)), (1, .int x1)]) hx hb dX11_count_124 rfl hl (by decide) rfl (fun ls hl => ?_)
      exact wX11_count_b125 C  _ _ _ _ _ _ _ _ hw (lv_sub hl [2, 3, 1, 0] rfl) h
    replace h := pw_f hc3 h
    by_cases hc4 : x1 = 4
    · replace h := pw_t hc4 h
      refine lv_tableIn (off := 74) (tgt := 123) hx hb dX11_count_49 (by rw [hc4]; decide) (by rw [hc4]; decide) (by rw [hc4]; rfl) (by decide) ?_
      refine lv_iconst (v := 0) hx hb dX11_count_123 (by decide) ?_
      refine lv_istore_n (lv' := [(3, .int 0), (2, .int 0), (0, .ref (ad 0)), (1, .int x1)]) hx hb dX11_count_124 rfl hl (by decide) rfl (fun ls hl => ?_)
      exact wX11_count_b125 C  _ _ _ _ _ _ _ _ hw (lv_sub hl [2, 3, 1, 0] rfl) h
    replace h := pw_f hc4 h
    by_cases hc5 : x1 = 5
    · replace h := pw_t hc5 h
      refine lv_tableIn (off := 74) (tgt := 123) hx hb dX11_count_49 (by rw [hc5]; decide) (by rw [hc5]; decide) (by rw [hc5]; rfl) (by decide) ?_
      refine lv_iconst (v := 0) hx hb dX11_count_123 (by decide) ?_
      refine lv_istore_n (lv' := [(3, .int 0), (2, .int 0), (0, .ref (ad 0)), (1, .int x1)]) hx hb dX11_count_124 rfl hl (by decide) rfl (fun ls hl => ?_)
      exact wX11_count_b125 C  _ _ _ _ _ _ _ _ hw (lv_sub hl [2, 3, 1, 0] rfl) h
    replace h := pw_f hc5 h
    by_cases hc6 : x1 = 6
    · replace h := pw_t hc6 h
      refine lv_tableIn (off := 74) (tgt := 123) hx hb dX11_count_49 (by rw [hc6]; decide) (by rw [hc6]; decide) (by rw [hc6]; rfl) (by decide) ?_
      refine lv_iconst (v := 0) hx hb dX11_count_123 (by decide) ?_
      refine lv_istore_n (lv' := [(3, .int 0), (2, .int 0), (0, .ref (ad 0)), (1, .int x1)]) hx hb dX11_count_124 rfl hl (by decide) rfl (fun ls hl => ?_)
      exact wX11_count_b125 C  _ _ _ _ _ _ _ _ hw (lv_sub hl [2, 3, 1, 0] rfl) h
    replace h := pw_f hc6 h
    by_cases hc7 : x1 = 7
    · replace h := pw_t hc7 h
      refine lv_tableIn (off := 74) (tgt := 123) hx hb dX11_count_49 (by rw [hc7]; decide) (by rw [hc7]; decide) (by rw [hc7]; rfl) (by decide) ?_
      refine lv_iconst (v := 0) hx hb dX11_count_123 (by decide) ?_
      refine lv_istore_n (lv' := [(3, .int 0), (2, .int 0), (0, .ref (ad 0)), (1, .int x1)]) hx hb dX11_count_124 rfl hl (by decide) rfl (fun ls hl => ?_)
      exact wX11_count_b125 C  _ _ _ _ _ _ _ _ hw (lv_sub hl [2, 3, 1, 0] rfl) h
    replace h := pw_f hc7 h
    by_cases hc8 : x1 = 8
    · replace h := pw_t hc8 h
      refine lv_tableIn (off := 112) (tgt := 161) hx hb dX11_count_49 (by rw [hc8]; decide) (by rw [hc8]; decide) (by rw [hc8]; rfl) (by decide) ?_
      refine lv_aload_n hx hb dX11_count_161 rfl (lv_at hl 1 rfl) ?_
      refine r_get C hw qM_0 clsX11 19 rfl (by decide) fl_X11_177 dX11_count_162 (v := .int (σ3 0 19)) rfl ?_
      exact r_iret C hw dX11_count_165 h
    replace h := pw_f hc8 h
    by_cases hc9 : x1 = 9
    · replace h := pw_t hc9 h
      refine lv_tableIn (off := 117) (tgt := 166) hx hb dX11_count_49 (by rw [hc9]; decide) (by rw [hc9]; decide) (by rw [hc9]; rfl) (by decide) ?_
      refine lv_aload_n hx hb dX11_count_166 rfl (lv_at hl 1 rfl) ?_
      refine r_get C hw qM_0 clsX11 20 rfl (by decide) fl_X11_209 dX11_count_167 (v := .int (σ3 0 20)) rfl ?_
      exact r_iret C hw dX11_count_170 h
    replace h := pw_f hc9 h
    by_cases hc10 : x1 = 10
    · replace h := pw_t hc10 h
      refine lv_tableIn (off := 122) (tgt := 171) hx hb dX11_count_49 (by rw [hc10]; decide) (by rw [hc10]; decide) (by rw [hc10]; rfl) (by decide) ?_
      refine lv_aload_n hx hb dX11_count_171 rfl (lv_at hl 1 rfl) ?_
      refine r_get C hw qM_0 clsX11 23 rfl (by decide) fl_X11_256 dX11_count_172 (v := .int (σ3 0 23)) rfl ?_
      exact r_iret C hw dX11_count_175 h
    replace h := pw_f hc10 h
    refine lv_tableOut (tgt := 176) hx hb dX11_count_49 (pw_out10 hc0 hc1 hc2 hc3 hc4 hc5 hc6 hc7 hc8 hc9 hc10) (by decide) ?_
    refine lv_bipush (v := (-9)) hx hb dX11_count_176 (by decide) ?_
    exact r_iret C hw dX11_count_178 h
  · replace h := pw_f hc h
    refine lv_aload_n hx hb dX11_count_36 rfl (lv_at hl 0 rfl) ?_
    refine r_get C hw qM_0 clsX11 3 rfl (by decide) fl_X11_19 dX11_count_37 (v := .ref (ad 4)) rfl ?_
    refine lv_iload_n hx hb dX11_count_40 rfl (lv_at hl 1 rfl) ?_
    refine lv_bipush (v := 20) hx hb dX11_count_41 (by decide) ?_
    refine lv_isub hx hb dX11_count_43 ?_
    refine r_iald C hw qM_4 dX11_count_44 h (fun v5 h => ?_)
    exact r_iret C hw dX11_count_45 h
set_option maxRecDepth 100000 in
set_option maxHeartbeats 4000000 in
theorem kX11_count (l : Launch) (D : va_G) (cI cZ : ClassId) (ad : Nat → Nat) (x1 : Int32) (σ : St) (z : Int32 × St) (h : fX11_count x1 σ = some z) : pw_MI l D shM cI cZ ad yX11_count cX11_count 4 (some .int) (pw_rm 1) [.ref (ad 0), .int x1] σ z.1 z.2 := by
  refine pw_ofI (by decide) (Nat.le_of_ble_eq_true rfl) ?_
  intro p e s m args below meth c A C hw ls hl
  obtain ⟨hx, hb, hr, hts, hown, hlk, hml, hK, hN⟩ := id C
  have hl : lv_has ls 4 [(0, .ref (ad 0)), (1, .int x1)] := hl
  unfold fX11_count at h
  refine lv_iload_n hx hb dX11_count_0 rfl (lv_at hl 1 rfl) ?_
  refine lv_bipush (v := 10) hx hb dX11_count_1 (by decide) ?_
  refine lv_icmp_le (tgt := 22) hx hb dX11_count_3 (by decide) (fun hc => ?_) (fun hc => ?_)
  · replace h := pw_t hc h
    exact wX11_count_b22 C  _ _ _ _ _ hw (lv_sub hl [0, 1] rfl) h
  · replace h := pw_f hc h
    refine lv_iload_n hx hb dX11_count_6 rfl (lv_at hl 1 rfl) ?_
    refine lv_bipush (v := 17) hx hb dX11_count_7 (by decide) ?_
    refine lv_icmp_ge (tgt := 22) hx hb dX11_count_9 (by decide) (fun hc => ?_) (fun hc => ?_)
    · replace h := pw_t hc h
      exact wX11_count_b22 C  _ _ _ _ _ hw (lv_sub hl [0, 1] rfl) h
    · replace h := pw_f hc h
      refine lv_aload_n hx hb dX11_count_12 rfl (lv_at hl 0 rfl) ?_
      refine r_get C hw qM_0 clsX11 0 rfl (by decide) fl_X11_7 dX11_count_13 (v := .ref (ad 1)) rfl ?_
      refine lv_iload_n hx hb dX11_count_16 rfl (lv_at hl 1 rfl) ?_
      refine lv_bipush (v := 10) hx hb dX11_count_17 (by decide) ?_
      refine lv_isub hx hb dX11_count_19 ?_
      refine r_iald C hw qM_1 dX11_count_20 h (fun v6 h => ?_)
      exact r_iret C hw dX11_count_21 h
