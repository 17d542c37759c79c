theorem pw_Xof {s : State} {args : Array Value} (hts : ∀ w ∈ lw_tbl, w.before args s = true) (hgv : (Jvm.Cond.and given_1 narrow_1).before args s = true) : pw_X (fun q : Nat => s.heap.size ≤ q) s := by
  have hs := flat_of_before _ hgv
  have hini : (Cond.initialized "PorcelainWorks").before args s = true := hts _ (List.mem_append_right _ (List.mem_of_getElem? (i := 1) (by decide +kernel)))
  have hA : ∀ a : Nat, a < s.heap.size → ¬ (fun q : Nat => s.heap.size ≤ q) a := fun a h => Nat.not_le.mpr h
  obtain ⟨t0, ht0, hT0⟩ := va_Tof (tm := (.static "PorcelainWorks" "GREATEST_TRAITS" "[I")) (ty := .int) (N := 4) (f := fun j => .int (pw_GT j)) (A := fun q : Nat => s.heap.size ≤ q) (by decide) (hs (.arrayOf (.static "PorcelainWorks" "GREATEST_TRAITS" "[I") .int) (by decide +kernel)) (va_eqt (hs (.eq (.length (.static "PorcelainWorks" "GREATEST_TRAITS" "[I")) (.int 4)) (by decide +kernel))) (fun j hj => by
    rcases (show j = 0 ∨ j = 1 ∨ j = 2 ∨ j = 3 by omega) with rfl | rfl | rfl | rfl
    · exact va_eqt (hs (.eq (.elem (.static "PorcelainWorks" "GREATEST_TRAITS" "[I") (.int 0)) (.int 200)) (by decide +kernel))
    · exact va_eqt (hs (.eq (.elem (.static "PorcelainWorks" "GREATEST_TRAITS" "[I") (.int 1)) (.int 300)) (by decide +kernel))
    · exact va_eqt (hs (.eq (.elem (.static "PorcelainWorks" "GREATEST_TRAITS" "[I") (.int 2)) (.int 2000)) (by decide +kernel))
    · exact va_eqt (hs (.eq (.elem (.static "PorcelainWorks" "GREATEST_TRAITS" "[I") (.int 3)) (.int 2000)) (by decide +kernel))) hA
  have hZ0 := va_Zof (A := fun q : Nat => s.heap.size ≤ q) (hts _ lst_GREATEST_TRAITS) hini ht0 hA
  obtain ⟨t1, ht1, hT1⟩ := va_Tof (tm := (.static "PorcelainWorks" "LEAST_PLACE_TRAITS" "[I")) (ty := .int) (N := 2) (f := fun j => .int (pw_LP j)) (A := fun q : Nat => s.heap.size ≤ q) (by decide) (hs (.arrayOf (.static "PorcelainWorks" "LEAST_PLACE_TRAITS" "[I") .int) (by decide +kernel)) (va_eqt (hs (.eq (.length (.static "PorcelainWorks" "LEAST_PLACE_TRAITS" "[I")) (.int 2)) (by decide +kernel))) (fun j hj => by
    rcases (show j = 0 ∨ j = 1 by omega) with rfl | rfl
    · exact va_eqt (hs (.eq (.elem (.static "PorcelainWorks" "LEAST_PLACE_TRAITS" "[I") (.int 0)) (.int 1)) (by decide +kernel))
    · exact va_eqt (hs (.eq (.elem (.static "PorcelainWorks" "LEAST_PLACE_TRAITS" "[I") (.int 1)) (.int 0)) (by decide +kernel))) hA
  have hZ1 := va_Zof (A := fun q : Nat => s.heap.size ≤ q) (hts _ lst_LEAST_PLACE_TRAITS) hini ht1 hA
  obtain ⟨t2, ht2, hT2⟩ := va_Tof (tm := (.static "PorcelainWorks" "GREATEST_PLACE_TRAITS" "[I")) (ty := .int) (N := 2) (f := fun j => .int (pw_GP j)) (A := fun q : Nat => s.heap.size ≤ q) (by decide) (hs (.arrayOf (.static "PorcelainWorks" "GREATEST_PLACE_TRAITS" "[I") .int) (by decide +kernel)) (va_eqt (hs (.eq (.length (.static "PorcelainWorks" "GREATEST_PLACE_TRAITS" "[I")) (.int 2)) (by decide +kernel))) (fun j hj => by
    rcases (show j = 0 ∨ j = 1 by omega) with rfl | rfl
    · exact va_eqt (hs (.eq (.elem (.static "PorcelainWorks" "GREATEST_PLACE_TRAITS" "[I") (.int 0)) (.int 40)) (by decide +kernel))
    · exact va_eqt (hs (.eq (.elem (.static "PorcelainWorks" "GREATEST_PLACE_TRAITS" "[I") (.int 1)) (.int 200)) (by decide +kernel))) hA
  have hZ2 := va_Zof (A := fun q : Nat => s.heap.size ≤ q) (hts _ lst_GREATEST_PLACE_TRAITS) hini ht2 hA
  obtain ⟨t3, ht3, hT3⟩ := va_Tof (tm := (.static "PorcelainWorks" "FIRST_TRAITS" "[I")) (ty := .int) (N := 4) (f := fun j => .int (pw_FT j)) (A := fun q : Nat => s.heap.size ≤ q) (by decide) (hs (.arrayOf (.static "PorcelainWorks" "FIRST_TRAITS" "[I") .int) (by decide +kernel)) (va_eqt (hs (.eq (.length (.static "PorcelainWorks" "FIRST_TRAITS" "[I")) (.int 4)) (by decide +kernel))) (fun j hj => by
    rcases (show j = 0 ∨ j = 1 ∨ j = 2 ∨ j = 3 by omega) with rfl | rfl | rfl | rfl
    · exact va_eqt (hs (.eq (.elem (.static "PorcelainWorks" "FIRST_TRAITS" "[I") (.int 0)) (.int 30)) (by decide +kernel))
    · exact va_eqt (hs (.eq (.elem (.static "PorcelainWorks" "FIRST_TRAITS" "[I") (.int 1)) (.int 120)) (by decide +kernel))
    · exact va_eqt (hs (.eq (.elem (.static "PorcelainWorks" "FIRST_TRAITS" "[I") (.int 2)) (.int 1200)) (by decide +kernel))
    · exact va_eqt (hs (.eq (.elem (.static "PorcelainWorks" "FIRST_TRAITS" "[I") (.int 3)) (.int 1400)) (by decide +kernel))) hA
  have hZ3 := va_Zof (A := fun q : Nat => s.heap.size ≤ q) (hts _ lst_FIRST_TRAITS) hini ht3 hA
  obtain ⟨t4, ht4, hT4⟩ := va_Tof (tm := (.static "PorcelainWorks" "FIRST_PLACE_TRAITS" "[I")) (ty := .int) (N := 2) (f := fun j => .int (pw_FP j)) (A := fun q : Nat => s.heap.size ≤ q) (by decide) (hs (.arrayOf (.static "PorcelainWorks" "FIRST_PLACE_TRAITS" "[I") .int) (by decide +kernel)) (va_eqt (hs (.eq (.length (.static "PorcelainWorks" "FIRST_PLACE_TRAITS" "[I")) (.int 2)) (by decide +kernel))) (fun j hj => by
    rcases (show j = 0 ∨ j = 1 by omega) with rfl | rfl
    · exact va_eqt (hs (.eq (.elem (.static "PorcelainWorks" "FIRST_PLACE_TRAITS" "[I") (.int 0)) (.int 10)) (by decide +kernel))
    · exact va_eqt (hs (.eq (.elem (.static "PorcelainWorks" "FIRST_PLACE_TRAITS" "[I") (.int 1)) (.int 20)) (by decide +kernel))) hA
  have hZ4 := va_Zof (A := fun q : Nat => s.heap.size ≤ q) (hts _ lst_FIRST_PLACE_TRAITS) hini ht4 hA
  refine ⟨fun i => match i with
    | 0 => t0
    | 1 => t1
    | 2 => t2
    | 3 => t3
    | _ => t4, fun i hi => ?_⟩
  rcases (show i = 0 ∨ i = 1 ∨ i = 2 ∨ i = 3 ∨ i = 4 by omega) with rfl | rfl | rfl | rfl | rfl
  · exact ⟨hZ0, hT0⟩
  · exact ⟨hZ1, hT1⟩
  · exact ⟨hZ2, hT2⟩
  · exact ⟨hZ3, hT3⟩
  · exact ⟨hZ4, hT4⟩
theorem pw_arr {s : State} {args : Array Value} {ty : FieldType} (h : (Cond.arrayClass ty).before args s = true) (hty : ∀ C, ty ≠ .object C) : ∃ cA : ClassId, ArrOfT s cA ty ∧ va_RA s cA ty := by
  obtain ⟨cA, kA, comp, h1, h2, h3⟩ := Cond.arrayClass_spec h
  refine ⟨cA, fun n z => ⟨fun k h => (by cases h), kA, h2, comp, h3⟩, ?_⟩
  cases ty with
  | object C => exact absurd rfl (hty C)
  | _ => exact h1
set_option maxHeartbeats 4000000 in
set_option maxRecDepth 100000 in
/-- the law, from its entry -/
theorem whole_start {p : Program} {e : Env} {s : State} {m : MethodId} {below : List Frame} {meth : Method} {c : Code} (l : Launch) {b L : Nat} {xs : Nat → Int32} (hL : L ≤ 2560) (C0 : lw_At p s m meth c b L xs) : W p l e room_1 s m #[Value.ref b] below meth c s.heap [] 0 0 (lw_Z below #[Value.ref b] s) (entryFrame m ([Value.ref b] : List Value).toArray 4) := by
  obtain ⟨hx, hb, hr, hml, hown, hts, hScr, hbl, hlocks, hgv⟩ := id C0
  have htg : ∀ w ∈ gT, w.before #[Value.ref b] s = true := fun w hw => hts w (List.mem_filter.mp hw).1
  obtain ⟨c0, i0, hKn0⟩ := u_known (C := RX0) (T := TX0) (N := 5) (n := 5) htg clsX0.2.1 (htg _ kn_X0)
  obtain ⟨c1, i1, hKn1⟩ := u_known (C := RX1) (T := TX1) (N := 8) (n := 8) htg clsX1.2.1 (htg _ kn_X1)
  obtain ⟨c2, i2, hKn2⟩ := u_known (C := RX2) (T := TX2) (N := 4) (n := 4) htg clsX2.2.1 (htg _ kn_X2)
  obtain ⟨c3, i3, hKn3⟩ := u_known (C := RX3) (T := TX3) (N := 6) (n := 6) htg clsX3.2.1 (htg _ kn_X3)
  obtain ⟨c4, i4, hKn4⟩ := u_known (C := RX4) (T := TX4) (N := 1) (n := 1) htg clsX4.2.1 (htg _ kn_X4)
  obtain ⟨c5, i5, hKn5⟩ := u_known (C := RX5) (T := TX5) (N := 3) (n := 3) htg clsX5.2.1 (htg _ kn_X5)
  obtain ⟨c6, i6, hKn6⟩ := u_known (C := RX6) (T := TX6) (N := 8) (n := 8) htg clsX6.2.1 (htg _ kn_X6)
  obtain ⟨c7, i7, hKn7⟩ := u_known (C := RX7) (T := TX7) (N := 11) (n := 11) htg clsX7.2.1 (htg _ kn_X7)
  obtain ⟨c8, i8, hKn8⟩ := u_known (C := RX8) (T := TX8) (N := 9) (n := 9) htg clsX8.2.1 (htg _ kn_X8)
  obtain ⟨c9, i9, hKn9⟩ := u_known (C := RX9) (T := TX9) (N := 8) (n := 8) htg clsX9.2.1 (htg _ kn_X9)
  obtain ⟨c10, i10, hKn10⟩ := u_known (C := RX10) (T := TX10) (N := 12) (n := 12) htg clsX10.2.1 (htg _ kn_X10)
  obtain ⟨c11, i11, hKn11⟩ := u_known (C := RX11) (T := TX11) (N := 54) (n := 54) htg clsX11.2.1 (htg _ kn_X11)
  obtain ⟨dC, dI, hKc⟩ : ∃ (dC : Nat → ClassId) (dI : Nat → Nat → Nat), ∀ (k : Nat) (q : vw_C), vwCl[k]? = some q → u_Kn s q.1 q.2.1 q.2.2 (dC k) (dI k) := by
    refine ⟨fun k => match k with
      | 0 => c0
      | 1 => c1
      | 2 => c2
      | 3 => c3
      | 4 => c4
      | 5 => c5
      | 6 => c6
      | 7 => c7
      | 8 => c8
      | 9 => c9
      | 10 => c10
      | _ => c11, fun k => match k with
      | 0 => i0
      | 1 => i1
      | 2 => i2
      | 3 => i3
      | 4 => i4
      | 5 => i5
      | 6 => i6
      | 7 => i7
      | 8 => i8
      | 9 => i9
      | 10 => i10
      | _ => i11, ?_⟩
    intro k q hq
    match k, hq with
    | 0, hq => cases hq; exact hKn0
    | 1, hq => cases hq; exact hKn1
    | 2, hq => cases hq; exact hKn2
    | 3, hq => cases hq; exact hKn3
    | 4, hq => cases hq; exact hKn4
    | 5, hq => cases hq; exact hKn5
    | 6, hq => cases hq; exact hKn6
    | 7, hq => cases hq; exact hKn7
    | 8, hq => cases hq; exact hKn8
    | 9, hq => cases hq; exact hKn9
    | 10, hq => cases hq; exact hKn10
    | 11, hq => cases hq; exact hKn11
    | k + 12, hq => simp [vwCl] at hq
  obtain ⟨cI, aI, rI⟩ := pw_arr (htg _ ka_int) (fun C h => by cases h)
  obtain ⟨cZ, aZ, rZ⟩ := pw_arr (htg _ ka_boolean) (fun C h => by cases h)
  have hK : va_K (dC, dI) vwCl (pw_ty cI cZ) s := ⟨hKc, fun k q h => by
    match k, h with
    | 0, h => cases h; exact ⟨aI, rI⟩
    | 1, h => cases h; exact ⟨aZ, rZ⟩
    | k + 2, h => simp at h⟩
  have hN : pw_N s := by
    intro w hw
    have h1 := hts w (List.mem_append_right _ (List.mem_filter.mp hw).1)
    rcases pw_isn_cases (List.mem_filter.mp hw).2 with ⟨a, i, b', n, d, q, rfl⟩ | ⟨a, i, x, q, rfl⟩
    · exact va_Nw.of rfl h1
    · exact va_Nw.of rfl h1
  have hX := pw_Xof hts hgv
  have C : pw_C p s m #[Value.ref b] meth c RL cL_law 4 (some .boolean) (dC, dI) cI cZ := ⟨hx, hb, hr, htg, hown, hlocks, hml, hK, hN⟩
  have hl := lv_entry ([.ref b]) (n := 4) (Nat.le_of_ble_eq_true rfl)
  rw [lg_entry_eq]
  generalize (lg_sl ([.ref b]) ++ List.replicate (4 - (lg_sl ([.ref b])).length) Slot.unset).toArray = ls at hl ⊢
  have hl : lv_has ls 4 [(0, .ref b)] := hl
  have hw : pw_H (dC, dI) [] (fun q : Nat => s.heap.size ≤ q) s.heap s.heap [] := ⟨fun k q h => by simp at h, ⟨fun i j p q h => by simp at h, fun k q h => by simp at h⟩, va_S.rf, fun q h => h⟩
  obtain ⟨zX0, zX6, zX1, zX8, zX5, zX9, zX3, zX4, zX7, zX2, z, zM, hX0, hX6, hX1, hX8, hX5, hX9, hX3, hX4, hX7, hX2, hz, hzM, hI⟩ := sim_init
  refine r_newL C hX hw (kX10_init l (dC, dI) cI cZ zX0 hX0 zX6 hX6 zX1 hX1 zX8 hX8 zX5 hX5 zX9 hX9 zX3 hX3 zX4 hX4 zX7 hX7 zX2 hX2 z hz) clsX10 YX10_init kc_L_7 kn_X10 (by decide +kernel) ml_L_9 ⟨rfl, rfl, by decide, by decide⟩ hl.1 (by decide) (by decide) dL_law_0 dL_law_3 dL_law_4 (fun adC H locs hw => ?_)
  replace hw := hw.of (List.nil_append _)
  refine W.widen (k := 60) (n := 1654) (by decide) (by decide) ?_
  refine lv_astore_n (lv' := [(1, .ref (adC 0)), (0, .ref b)]) hx hb dL_law_7 rfl hl (by decide) rfl (fun ls hl => ?_)
  refine r_newL C hX hw (kX11_init l (dC, dI) cI cZ zM hzM) clsX11 YX11_init kc_L_10 kn_X11 (by decide +kernel) ml_L_12 ⟨rfl, rfl, by decide, by decide⟩ hl.1 (by decide) (by decide) dL_law_8 dL_law_11 dL_law_12 (fun adM H locs hw => ?_)
  refine W.widen (k := 105) (n := 40113) (by decide) (by decide) ?_
  refine lv_astore_n (lv' := [(2, .ref (adM 0)), (1, .ref (adC 0)), (0, .ref b)]) hx hb dL_law_15 rfl hl (by decide) rfl (fun ls hl => ?_)
  refine lv_iconst (v := 0) hx hb dL_law_16 (by decide) ?_
  refine lv_istore_n (lv' := [(3, .int 0), (2, .ref (adM 0)), (1, .ref (adC 0)), (0, .ref b)]) hx hb dL_law_17 rfl hl (by decide) rfl (fun ls hl => ?_)
  obtain ⟨hC, hM, hap⟩ := pw_split hw
  exact law_loop hL C hX hScr hbl (pw_off.of hap) hr (L + 6) 0 0 z.2 zM.2 _ _ ls nI_0.symm (by omega) (by omega) hI hC hM (lv_sub hl [3, 2, 1, 0] rfl)
