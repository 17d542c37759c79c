def fX10_within (x0 : Int32) (x1 : Int32) (σ : St) : Option (Int32 × St) := if x0 < 0 then (zr 0 σ) else (if x1 ≤ x0 then (zr 0 σ) else (zr 1 σ))
def fX10_refuse (x1 : Int32) (σ : St) : Option (Int32 × St) := cal (fX10_within ((-1) - x1) 6 σ) (fun v3 σ2 => if v3 = 0 then (some (x1, σ2)) else (rd σ2 1 6 ((-1) - x1) (fun v4 => wr σ2 1 6 ((-1) - x1) (v4 + 1) (fun σ5 => some (x1, σ5)))))
def fX0_trait (x1 : Int32) (x2 : Int32) (σ : St) : Option (Int32 × St) := rd σ 3 24 ((x1 * 4) + x2) (fun v1 => some (v1, σ))
def fX0_changeTrait (x1 : Int32) (x2 : Int32) (x3 : Int32) (σ : St) : Option (Int32 × St) := cal (fX0_trait x1 x2 σ) (fun v3 σ2 => wr σ2 3 24 ((x1 * 4) + x2) x3 (fun σ4 => some (v3, σ4)))
def fX10_paste (x1 : Int32) (x2 : Int32) (x3 : Int32) (σ : St) : Option (Int32 × St) := cal (fX10_within x1 6 σ) (fun v3 σ2 => if v3 = 0 then (cal (fX10_refuse (-1) σ2) (fun v22 σ21 => some (v22, σ21))) else (cal (fX10_within x2 4 σ2) (fun v6 σ5 => if v6 = 0 then (cal (fX10_refuse (-2) σ5) (fun v19 σ18 => some (v19, σ18))) else (if (0 : Int32) ≤ x3 then (tb pw_GT 4 x2 (fun v7 => if x3 ≤ v7 then (cal (fX0_changeTrait x1 x2 x3 σ5) (fun v10 σ9 => some (v10, σ9))) else (cal (fX10_refuse (-6) σ5) (fun v13 σ12 => some (v13, σ12))))) else (cal (fX10_refuse (-4) σ5) (fun v16 σ15 => some (v16, σ15)))))))
def fX0_mix (x1 : Int32) (x2 : Int32) (x3 : Int32) (σ : St) : Option (Int32 × St) := wr σ 4 20 (σ 2 4) x1 (fun σ1 => wr σ1 5 20 (σ1 2 4) x2 (fun σ2 => wr σ2 6 20 (σ2 2 4) x3 (fun σ3 => pf σ3 2 4 ((σ3 2 4) + 1) (fun σ4 => some (((σ4 2 4) - 1), σ4)))))
def fX10_batch (x1 : Int32) (x2 : Int32) (σ : St) : Option (Int32 × St) := cal (fX10_within x1 6 σ) (fun v3 σ2 => if v3 = 0 then (cal (fX10_refuse (-1) σ2) (fun v18 σ17 => some (v18, σ17))) else (if (1 : Int32) ≤ x2 then (if (1000 : Int32) < x2 then (cal (fX10_refuse (-6) σ2) (fun v6 σ5 => some (v6, σ5))) else (if (σ2 2 4) < 20 then (cal (fX0_mix x1 x2 (σ2 0 11) σ2) (fun v9 σ8 => some (v9, σ8))) else (cal (fX10_refuse (-6) σ2) (fun v12 σ11 => some (v12, σ11))))) else (cal (fX10_refuse (-4) σ2) (fun v15 σ14 => some (v15, σ14)))))
def fX2_sumAfter_b37  : Nat → Int32 → Int32 → Int64 → Int32 → St → Option (Int32 × St)
  | 0, _, _, _, _, _ => none
  | n + 1, x1, x5, x6, x8, σ => if x5 ≤ x8 then (some ((x6).toInt32, σ)) else (rd σ 58 6 x1 (fun v1 => lt ((if (x6 + ((x6 * (v1).toInt64) / 1000)) < 2000000000 then (x6 + ((x6 * (v1).toInt64) / 1000)) else 2000000000) : Int64) (fun v2 => fX2_sumAfter_b37  n x1 x5 v2 (x8 + 1) σ)))
def fX2_sumAfter (x1 : Int32) (x2 : Int32) (x3 : Int32) (σ : St) : Option (Int32 × St) := rd σ 59 6 x1 (fun v3 => lt ((((x2 - v3) + x3) / 30) - ((x2 - v3) / 30)) (fun v4 => rd σ 57 6 x1 (fun v5 => fX2_sumAfter_b37  FU x1 v4 (v5).toInt64 0 σ)))
def fX2_pass_b2  : Nat → Int32 → Int32 → Int32 → St → Option (Int32 × St)
  | 0, _, _, _, _ => none
  | n + 1, x1, x2, x3, σ => if (σ 56 3) ≤ x3 then (some (0, σ)) else (cal (fX2_sumAfter x3 x1 x2 σ) (fun v3 σ2 => wr σ2 57 6 x3 v3 (fun σ4 => fX2_pass_b2  n x1 x2 (x3 + 1) σ4)))
def fX2_pass (x1 : Int32) (x2 : Int32) (σ : St) : Option (Int32 × St) := fX2_pass_b2  FU x1 x2 0 σ
def fX10_pass (x1 : Int32) (σ : St) : Option (Int32 × St) := cal (fX2_pass (σ 0 11) x1 σ) (fun _ σ2 => pf σ2 0 11 ((σ2 0 11) + x1) (fun σ4 => some (0, σ4)))
def fX10_days (x1 : Int32) (σ : St) : Option (Int32 × St) := if (1 : Int32) ≤ x1 then (if x1 ≤ (4000 - (σ 0 11)) then (cal (fX10_pass x1 σ) (fun _ σ2 => some ((σ2 0 11), σ2))) else (cal (fX10_refuse (-6) σ) (fun v6 σ5 => some (v6, σ5)))) else (cal (fX10_refuse (-4) σ) (fun v9 σ8 => some (v9, σ8)))
def fX0_isRipe (x1 : Int32) (x2 : Int32) (σ : St) : Option (Int32 × St) := rd σ 6 20 x1 (fun v1 => rd σ 4 20 x1 (fun v2 => cal (fX0_trait v2 0 σ) (fun v5 σ4 => if (x2 - v1) < v5 then (zr 0 σ4) else (zr 1 σ4))))
def fX6_shape (x1 : Int32) (x2 : Int32) (x3 : Int32) (σ : St) : Option (Int32 × St) := wr σ 8 80 (σ 7 7) x1 (fun σ1 => wr σ1 9 80 (σ1 7 7) x2 (fun σ2 => wr σ2 10 80 (σ2 7 7) x3 (fun σ3 => wr σ3 11 80 (σ3 7 7) 0 (fun σ4 => wr σ4 12 80 (σ4 7 7) (-9) (fun σ5 => wr σ5 13 80 (σ5 7 7) (-9) (fun σ6 => wr σ6 14 80 (σ6 7 7) (-9) (fun σ7 => pf σ7 7 7 ((σ7 7 7) + 1) (fun σ8 => some (((σ8 7 7) - 1), σ8)))))))))
def fX10_piece_b109   (σ : St) : Option (Int32 × St) := cal (fX10_refuse (-6) σ) (fun v3 σ2 => some (v3, σ2))
def fX10_piece (x1 : Int32) (x2 : Int32) (x3 : Int32) (x4 : Int32) (σ : St) : Option (Int32 × St) := cal (fX10_within x1 (σ 2 4) σ) (fun v6 σ5 => if v6 = 0 then (cal (fX10_refuse (-1) σ5) (fun v9 σ8 => some (v9, σ8))) else (cal (fX10_within x2 10 σ5) (fun v12 σ11 => if v12 = 0 then (cal (fX10_refuse (-1) σ11) (fun v34 σ33 => some (v34, σ33))) else (cal (fX0_isRipe x1 (σ11 0 11) σ11) (fun v15 σ14 => if v15 = 0 then (cal (fX10_refuse (-3) σ14) (fun v31 σ30 => some (v31, σ30))) else (if x3 < 1 then (cal (fX10_refuse (-4) σ14) (fun v18 σ17 => some (v18, σ17))) else (if (10 : Int32) ≤ x4 then (if (40 : Int32) < x3 then (fX10_piece_b109   σ14) else (rd σ14 5 20 x1 (fun v19 => if v19 < x3 then (fX10_piece_b109   σ14) else (if (900 : Int32) < x4 then (fX10_piece_b109   σ14) else (if (σ14 7 7) < 80 then (rd σ14 5 20 x1 (fun v20 => wr σ14 5 20 x1 (v20 - x3) (fun σ21 => rd σ21 4 20 x1 (fun v22 => cal (fX6_shape v22 x2 x4 σ21) (fun v25 σ24 => some (v25, σ24)))))) else (fX10_piece_b109   σ14)))))) else (cal (fX10_refuse (-4) σ14) (fun v28 σ27 => some (v28, σ27))))))))))
def fX1_trait (x1 : Int32) (x2 : Int32) (σ : St) : Option (Int32 × St) := rd σ 16 24 ((x1 * 2) + x2) (fun v1 => some (v1, σ))
def fX1_changeTrait (x1 : Int32) (x2 : Int32) (x3 : Int32) (σ : St) : Option (Int32 × St) := cal (fX1_trait x1 x2 σ) (fun v3 σ2 => wr σ2 16 24 ((x1 * 2) + x2) x3 (fun σ4 => some (v3, σ4)))
def fX10_place (x1 : Int32) (x2 : Int32) (x3 : Int32) (σ : St) : Option (Int32 × St) := cal (fX10_within x1 12 σ) (fun v3 σ2 => if v3 = 0 then (cal (fX10_refuse (-1) σ2) (fun v23 σ22 => some (v23, σ22))) else (cal (fX10_within x2 2 σ2) (fun v6 σ5 => if v6 = 0 then (cal (fX10_refuse (-2) σ5) (fun v20 σ19 => some (v20, σ19))) else (tb pw_LP 2 x2 (fun v7 => if v7 ≤ x3 then (tb pw_GP 2 x2 (fun v8 => if x3 ≤ v8 then (cal (fX1_changeTrait x1 x2 x3 σ5) (fun v11 σ10 => some (v11, σ10))) else (cal (fX10_refuse (-6) σ5) (fun v14 σ13 => some (v14, σ13))))) else (cal (fX10_refuse (-4) σ5) (fun v17 σ16 => some (v17, σ16))))))))
def fX1_tellHour (x1 : Int32) (σ : St) : Option (Int32 × St) := wr σ 21 48 (σ 15 6) x1 (fun σ1 => pf σ1 15 6 ((σ1 15 6) + 1) (fun σ2 => some ((σ2 15 6), σ2)))
def fX10_wood (x1 : Int32) (σ : St) : Option (Int32 × St) := if (0 : Int32) ≤ x1 then (if (50 : Int32) < x1 then (cal (fX10_refuse (-6) σ) (fun v3 σ2 => some (v3, σ2))) else (if (σ 15 6) < 48 then (cal (fX1_tellHour x1 σ) (fun v6 σ5 => some (v6, σ5))) else (cal (fX10_refuse (-6) σ) (fun v9 σ8 => some (v9, σ8))))) else (cal (fX10_refuse (-4) σ) (fun v12 σ11 => some (v12, σ11)))
def fX1_forgetHours  (σ : St) : Option (Int32 × St) := pf σ 15 6 0 (fun σ1 => some ((σ 15 6), σ1))
def fX10_clear  (σ : St) : Option (Int32 × St) := cal (fX1_forgetHours  σ) (fun v3 σ2 => some (v3, σ2))
def fX1_besideAbove_b24  (x1 : Int32) (x2 : Int32) (σ : St) : Option (Int32 × St) := if (11 : Int32) ≤ x1 then (some (x2, σ)) else (rd σ 19 12 (x1 + 1) (fun v1 => rd σ 19 12 x1 (fun v2 => lt (x2 + (v1 - v2)) (fun v3 => some (v3, σ)))))
def fX1_besideAbove (x1 : Int32) (σ : St) : Option (Int32 × St) := if x1 ≤ 0 then (fX1_besideAbove_b24  x1 0 σ) else (rd σ 19 12 (x1 - 1) (fun v4 => rd σ 19 12 x1 (fun v5 => lt (0 + (v4 - v5)) (fun v6 => fX1_besideAbove_b24  x1 v6 σ))))
def fX1_heatHour_b55  : Nat → Int32 → St → Option (Int32 × St)
  | 0, _, _ => none
  | n + 1, x2, σ => if (12 : Int32) ≤ x2 then (some (0, σ)) else (rd σ 19 12 x2 (fun v1 => cal (fX1_besideAbove x2 σ) (fun v4 σ3 => wr σ3 18 12 x2 (v1 + (v4 / 10)) (fun σ5 => rd σ5 20 12 x2 (fun v6 => rd σ5 18 12 x2 (fun v7 => wr σ5 20 12 x2 (if v6 < v7 then v7 else v6) (fun σ8 => fX1_heatHour_b55  n (x2 + 1) σ8)))))))
def fX1_heatHour_b2  : Nat → Int32 → Int32 → St → Option (Int32 × St)
  | 0, _, _, _ => none
  | n + 1, x1, x2, σ => if (12 : Int32) ≤ x2 then (fX1_heatHour_b55  FU 0 σ) else (rd σ 18 12 x2 (fun v9 => cal (fX1_trait x2 0 σ) (fun v12 σ11 => rd σ11 18 12 x2 (fun v13 => cal (fX1_trait x2 1 σ11) (fun v16 σ15 => wr σ15 19 12 x2 ((v9 + (v12 * x1)) - ((v13 * v16) / 1000)) (fun σ17 => fX1_heatHour_b2  n x1 (x2 + 1) σ17))))))
def fX1_heatHour (x1 : Int32) (σ : St) : Option (Int32 × St) := fX1_heatHour_b2  FU x1 0 σ
def fX1_heatUp_b30  : Nat → Int32 → Int32 → St → Option (Int32 × St)
  | 0, _, _, _ => none
  | n + 1, x1, x2, σ => if x1 ≤ x2 then (some (0, σ)) else (rd σ 21 48 x2 (fun v1 => cal (fX1_heatHour v1 σ) (fun _ σ3 => fX1_heatUp_b30  n x1 (x2 + 1) σ3)))
def fX1_heatUp_b2  : Nat → Int32 → Int32 → St → Option (Int32 × St)
  | 0, _, _, _ => none
  | n + 1, x1, x2, σ => if (12 : Int32) ≤ x2 then (fX1_heatUp_b30  FU x1 0 σ) else (wr σ 18 12 x2 0 (fun σ5 => wr σ5 20 12 x2 0 (fun σ6 => fX1_heatUp_b2  n x1 (x2 + 1) σ6)))
def fX1_heatUp (x1 : Int32) (σ : St) : Option (Int32 × St) := fX1_heatUp_b2  FU x1 0 σ
def fX10_peak (x1 : Int32) (σ : St) : Option (Int32 × St) := cal (fX10_within x1 12 σ) (fun v3 σ2 => if v3 = 0 then (cal (fX10_refuse (-1) σ2) (fun v10 σ9 => some (v10, σ9))) else (cal (fX1_heatUp (σ2 15 6) σ2) (fun _ σ5 => rd σ5 20 12 x1 (fun v7 => some (v7, σ5)))))
def fX10_heat (x1 : Int32) (x2 : Int32) (σ : St) : Option (Int32 × St) := cal (fX10_within x1 12 σ) (fun v3 σ2 => if v3 = 0 then (cal (fX10_refuse (-1) σ2) (fun v16 σ15 => some (v16, σ15))) else (if (0 : Int32) ≤ x2 then (if x2 ≤ (σ2 15 6) then (cal (fX1_heatUp x2 σ2) (fun _ σ5 => rd σ5 18 12 x1 (fun v7 => some (v7, σ5)))) else (cal (fX10_refuse (-6) σ2) (fun v10 σ9 => some (v10, σ9)))) else (cal (fX10_refuse (-4) σ2) (fun v13 σ12 => some (v13, σ12)))))
def fX8_isTold_b2  : Nat → Int32 → Int32 → St → Option (Int32 × St)
  | 0, _, _, _ => none
  | n + 1, x1, x2, σ => if (σ 22 8) ≤ x2 then (zr 0 σ) else (rd σ 23 8 x2 (fun v1 => if v1 = x1 then (zr 1 σ) else (fX8_isTold_b2  n x1 (x2 + 1) σ)))
def fX8_isTold (x1 : Int32) (σ : St) : Option (Int32 × St) := fX8_isTold_b2  FU x1 0 σ
def fX10_isLoose (x1 : Int32) (σ : St) : Option (Int32 × St) := rd σ 11 80 x1 (fun v1 => if v1 = 0 then (rd σ 12 80 x1 (fun v2 => if v2 = (-9) then (cal (fX8_isTold x1 σ) (fun v5 σ4 => if v5 = 0 then (zr 1 σ4) else (zr 0 σ4))) else (zr 0 σ))) else (zr 0 σ))
def fX10_putIn (x1 : Int32) (x2 : Int32) (σ : St) : Option (Int32 × St) := wr σ 17 12 x2 x1 (fun σ1 => wr σ1 12 80 x1 x2 (fun σ2 => some (0, σ2)))
def fX10_stack (x1 : Int32) (x2 : Int32) (σ : St) : Option (Int32 × St) := cal (fX10_within x1 (σ 7 7) σ) (fun v3 σ2 => if v3 = 0 then (cal (fX10_refuse (-1) σ2) (fun v6 σ5 => some (v6, σ5))) else (cal (fX10_within x2 12 σ2) (fun v9 σ8 => if v9 = 0 then (cal (fX10_refuse (-1) σ8) (fun v25 σ24 => some (v25, σ24))) else (cal (fX10_isLoose x1 σ8) (fun v12 σ11 => if v12 = 0 then (cal (fX10_refuse (-3) σ11) (fun v15 σ14 => some (v15, σ14))) else (rd σ11 17 12 x2 (fun v16 => if v16 = (-9) then (cal (fX10_putIn x1 x2 σ11) (fun _ σ18 => some (1, σ18))) else (cal (fX10_refuse (-3) σ11) (fun v22 σ21 => some (v22, σ21))))))))))
def fX10_takeOut (x1 : Int32) (x2 : Int32) (σ : St) : Option (Int32 × St) := wr σ 17 12 x2 (-9) (fun σ1 => wr σ1 12 80 x1 (-9) (fun σ2 => some (0, σ2)))
def fX10_unstack (x1 : Int32) (σ : St) : Option (Int32 × St) := cal (fX10_within x1 12 σ) (fun v3 σ2 => if v3 = 0 then (cal (fX10_refuse (-1) σ2) (fun v16 σ15 => some (v16, σ15))) else (rd σ2 17 12 x1 (fun v4 => cal (fX10_within v4 (σ2 7 7) σ2) (fun v7 σ6 => if v7 = 0 then (cal (fX10_refuse (-3) σ6) (fun v13 σ12 => some (v13, σ12))) else (cal (fX10_takeOut v4 x1 σ6) (fun _ σ9 => some (v4, σ9)))))))
def fX1_burnHours_b2  : Nat → Int32 → St → Option (Int32 × St)
  | 0, _, _ => none
  | n + 1, x1, σ => if (σ 15 6) ≤ x1 then (pf σ 15 6 0 (fun σ1 => some (0, σ1))) else (rd σ 21 48 x1 (fun v2 => pf σ 15 7 ((σ 15 7) + v2) (fun σ3 => fX1_burnHours_b2  n (x1 + 1) σ3)))
def fX1_burnHours  (σ : St) : Option (Int32 × St) := fX1_burnHours_b2  FU 0 σ
def fX0_bears (x1 : Int32) (x2 : Int32) (σ : St) : Option (Int32 × St) := cal (fX0_trait x1 2 σ) (fun v3 σ2 => if x2 < v3 then (zr 0 σ2) else (cal (fX0_trait x1 3 σ2) (fun v6 σ5 => if v6 < x2 then (zr 0 σ5) else (zr 1 σ5))))
def fX0_shrunk (x1 : Int32) (x2 : Int32) (σ : St) : Option (Int32 × St) := cal (fX0_trait x1 1 σ) (fun v3 σ2 => some ((x2 - ((x2 * v3) / 1000)), σ2))
def fX0_whiteAt (x1 : Int32) (x2 : Int32) (σ : St) : Option (Int32 × St) := cal (fX0_trait x1 2 σ) (fun v3 σ2 => cal (fX0_trait x1 3 σ2) (fun v6 σ5 => lt ((v3 + v6) / 2) (fun v7 => some ((if 0 < (100 - ((if 0 ≤ (x2 - v7) then (x2 - v7) else 0 - (x2 - v7)) / 5)) then (100 - ((if 0 ≤ (x2 - v7) then (x2 - v7) else 0 - (x2 - v7)) / 5)) else 0), σ5))))
def fX6_endure (x1 : Int32) (x2 : Int32) (σ : St) : Option (Int32 × St) := wr σ 13 80 x1 x2 (fun σ1 => rd σ1 8 80 x1 (fun v2 => cal (fX0_bears v2 x2 σ1) (fun v5 σ4 => if v5 = 0 then (wr σ4 11 80 x1 3 (fun σ18 => zr 0 σ18)) else (wr σ4 11 80 x1 1 (fun σ6 => rd σ6 8 80 x1 (fun v7 => rd σ6 10 80 x1 (fun v8 => cal (fX0_shrunk v7 v8 σ6) (fun v11 σ10 => wr σ10 10 80 x1 v11 (fun σ12 => rd σ12 8 80 x1 (fun v13 => cal (fX0_whiteAt v13 x2 σ12) (fun v16 σ15 => wr σ15 14 80 x1 v16 (fun σ17 => zr 1 σ17))))))))))))
def fX10_fire_b52  : Nat → Int32 → Int32 → St → Option (Int32 × St)
  | 0, _, _, _ => none
  | n + 1, x1, x2, σ => if (12 : Int32) ≤ x2 then (cal (fX1_burnHours  σ) (fun _ σ2 => cal (fX10_pass 2 σ2) (fun _ σ5 => some (x1, σ5)))) else (rd σ 17 12 x2 (fun v7 => cal (fX10_within v7 (σ 7 7) σ) (fun v10 σ9 => if v10 = 0 then (fX10_fire_b52  n x1 (x2 + 1) σ9) else (cal (fX10_takeOut v7 x2 σ9) (fun _ σ12 => rd σ12 20 12 x2 (fun v14 => cal (fX6_endure v7 v14 σ12) (fun v17 σ16 => if v17 = 0 then (fX10_fire_b52  n (x1 + 0) (x2 + 1) σ16) else (fX10_fire_b52  n (x1 + 1) (x2 + 1) σ16))))))))
def fX10_fire  (σ : St) : Option (Int32 × St) := if (σ 15 6) = 0 then (cal (fX10_refuse (-3) σ) (fun v26 σ25 => some (v26, σ25))) else (if (σ 0 11) ≤ 3998 then (cal (fX1_heatUp (σ 15 6) σ) (fun _ σ19 => fX10_fire_b52  FU 0 0 σ19)) else (cal (fX10_refuse (-6) σ) (fun v23 σ22 => some (v23, σ22))))
def fX8_tell_b66  (x3 : Int32) (σ : St) : Option (Int32 × St) := wr σ 27 8 x3 (σ 22 8) (fun σ1 => pf σ1 22 8 ((σ1 22 8) + 1) (fun σ2 => some ((σ2 22 8), σ2)))
def fX8_tell_b25  : Nat → Int32 → Int32 → St → Option (Int32 × St)
  | 0, _, _, _ => none
  | n + 1, x2, x3, σ => if x3 ≤ 0 then (fX8_tell_b66  x3 σ) else (rd σ 27 8 (x3 - 1) (fun v3 => rd σ 24 8 v3 (fun v4 => if x2 ≤ v4 then (fX8_tell_b66  x3 σ) else (rd σ 27 8 (x3 - 1) (fun v5 => wr σ 27 8 x3 v5 (fun σ6 => fX8_tell_b25  n x2 (x3 + (-1)) σ6))))))
def fX8_tell (x1 : Int32) (x2 : Int32) (σ : St) : Option (Int32 × St) := wr σ 23 8 (σ 22 8) x1 (fun σ7 => wr σ7 24 8 (σ7 22 8) x2 (fun σ8 => fX8_tell_b25  FU x2 (σ8 22 8) σ8))
def fX10_want (x1 : Int32) (x2 : Int32) (σ : St) : Option (Int32 × St) := cal (fX10_within x1 (σ 7 7) σ) (fun v3 σ2 => if v3 = 0 then (cal (fX10_refuse (-1) σ2) (fun v24 σ23 => some (v24, σ23))) else (cal (fX10_isLoose x1 σ2) (fun v6 σ5 => if v6 = 0 then (cal (fX10_refuse (-3) σ5) (fun v21 σ20 => some (v21, σ20))) else (if (1 : Int32) ≤ x2 then (if (999 : Int32) < x2 then (cal (fX10_refuse (-6) σ5) (fun v9 σ8 => some (v9, σ8))) else (if (σ5 22 8) < 8 then (cal (fX8_tell x1 x2 σ5) (fun v12 σ11 => some (v12, σ11))) else (cal (fX10_refuse (-6) σ5) (fun v15 σ14 => some (v15, σ14))))) else (cal (fX10_refuse (-4) σ5) (fun v18 σ17 => some (v18, σ17)))))))
def fX10_placesThatFire_b4  : Nat → Int32 → Int32 → Int32 → St → Option (Int32 × St)
  | 0, _, _, _, _ => none
  | n + 1, x1, x2, x3, σ => if (12 : Int32) ≤ x3 then (some (x2, σ)) else (rd σ 17 12 x3 (fun v1 => if v1 = (-9) then (rd σ 20 12 x3 (fun v2 => cal (fX0_bears x1 v2 σ) (fun v5 σ4 => if v5 = 0 then (fX10_placesThatFire_b4  n x1 x2 (x3 + 1) σ4) else (lt (x2 ||| ((1 : Int32) <<< (x3 &&& 31))) (fun v6 => fX10_placesThatFire_b4  n x1 v6 (x3 + 1) σ4))))) else (fX10_placesThatFire_b4  n x1 x2 (x3 + 1) σ)))
def fX10_placesThatFire (x1 : Int32) (σ : St) : Option (Int32 × St) := fX10_placesThatFire_b4  FU x1 0 0 σ
def fX10_learnFits_b16  : Nat → Int32 → St → Option (Int32 × St)
  | 0, _, _ => none
  | n + 1, x1, σ => if (σ 22 8) ≤ x1 then (some (0, σ)) else (rd σ 23 8 x1 (fun v1 => rd σ 8 80 v1 (fun v2 => cal (fX10_placesThatFire v2 σ) (fun v5 σ4 => wr σ4 25 8 x1 v5 (fun σ6 => fX10_learnFits_b16  n (x1 + 1) σ6)))))
def fX10_learnFits  (σ : St) : Option (Int32 × St) := cal (fX1_heatUp (σ 15 6) σ) (fun _ σ8 => fX10_learnFits_b16  FU 0 σ8)
def fX8_moveAlong_b4  : Nat → Int32 → Int32 → St → Option (Int32 × St)
  | 0, _, _, _ => none
  | n + 1, x2, x3, σ => if (12 : Int32) ≤ x3 then (some (0, σ)) else (if x2 = (-9) then (some (0, σ)) else (rd σ 30 12 x2 (fun v1 => rd σ 28 8 v1 (fun v2 => wr σ 28 8 v1 x2 (fun σ3 => wr σ3 29 12 x2 v1 (fun σ4 => fX8_moveAlong_b4  n v2 (x3 + 1) σ4))))))
def fX8_moveAlong (x1 : Int32) (σ : St) : Option (Int32 × St) := fX8_moveAlong_b4  FU x1 0 σ
def fX8_noteMover_b2  : Nat → Int32 → Int32 → Int32 → St → Option (Int32 × St)
  | 0, _, _, _, _ => none
  | n + 1, x1, x2, x3, σ => if (12 : Int32) ≤ x3 then (some (0, σ)) else (if (x1 &&& ((1 : Int32) <<< (x3 &&& 31))) = 0 then (fX8_noteMover_b2  n x1 x2 (x3 + 1) σ) else (wr σ 30 12 x3 x2 (fun σ1 => fX8_noteMover_b2  n x1 x2 (x3 + 1) σ1)))
def fX8_noteMover (x1 : Int32) (x2 : Int32) (σ : St) : Option (Int32 × St) := fX8_noteMover_b2  FU x1 x2 0 σ
def fJ6_numberOfTrailingZeros_0f7a4_b62  (x0 : Int32) (x1 : Int32) (σ : St) : Option (Int32 × St) := if x0 ≤ 4 then (some ((x1 + (x0.toUInt32 >>> ((1 : Int32).toUInt32 &&& Int32.toUInt32 31)).toInt32), σ)) else (lt (x0.toUInt32 >>> ((2 : Int32).toUInt32 &&& Int32.toUInt32 31)).toInt32 (fun v1 => some (((x1 + 2) + (v1.toUInt32 >>> ((1 : Int32).toUInt32 &&& Int32.toUInt32 31)).toInt32), σ)))
def fJ6_numberOfTrailingZeros_0f7a4_b34  (x0 : Int32) (x1 : Int32) (σ : St) : Option (Int32 × St) := if x0 ≤ 256 then (if x0 ≤ 16 then (fJ6_numberOfTrailingZeros_0f7a4_b62  x0 x1 σ) else (lt (x0.toUInt32 >>> ((4 : Int32).toUInt32 &&& Int32.toUInt32 31)).toInt32 (fun v2 => fJ6_numberOfTrailingZeros_0f7a4_b62  v2 (x1 + 4) σ))) else (lt (x0.toUInt32 >>> ((8 : Int32).toUInt32 &&& Int32.toUInt32 31)).toInt32 (fun v3 => if v3 ≤ 16 then (fJ6_numberOfTrailingZeros_0f7a4_b62  v3 (x1 + 8) σ) else (lt (v3.toUInt32 >>> ((4 : Int32).toUInt32 &&& Int32.toUInt32 31)).toInt32 (fun v4 => fJ6_numberOfTrailingZeros_0f7a4_b62  v4 ((x1 + 8) + 4) σ))))
def fJ6_numberOfTrailingZeros_0f7a4 (x0 : Int32) (σ : St) : Option (Int32 × St) := lt ((x0 ^^^ (-1)) &&& (x0 - 1)) (fun v5 => if (0 : Int32) < v5 then (if v5 ≤ 65536 then (fJ6_numberOfTrailingZeros_0f7a4_b34  v5 1 σ) else (lt (v5.toUInt32 >>> ((16 : Int32).toUInt32 &&& Int32.toUInt32 31)).toInt32 (fun v6 => fJ6_numberOfTrailingZeros_0f7a4_b34  v6 (1 + 16) σ))) else (some ((v5 &&& 32), σ)))
def fX8_findSeat_b21  : Nat → Int32 → Int32 → Int32 → Int32 → St → Option (Int32 × St)
  | 0, _, _, _, _, _ => none
  | n + 1, x2, x3, x4, x5, σ => if (12 : Int32) ≤ x5 then (zr 0 σ) else (if x4 = 0 then (zr 0 σ) else (cal (fJ6_numberOfTrailingZeros_0f7a4 x4 σ) (fun v3 σ2 => lt (x4 &&& (x4 - 1)) (fun v4 => rd σ2 29 12 v3 (fun v5 => if v5 = (-9) then (cal (fX8_moveAlong v3 σ2) (fun _ σ12 => zr 1 σ12)) else (rd σ2 25 8 v5 (fun v6 => lt ((v6 &&& x2) &&& (x3 ^^^ (-1))) (fun v7 => cal (fX8_noteMover v7 v5 σ2) (fun _ σ9 => fX8_findSeat_b21  n x2 (x3 ||| v7) (v4 ||| v7) (x5 + 1) σ9)))))))))
def fX8_findSeat (x1 : Int32) (x2 : Int32) (σ : St) : Option (Int32 × St) := rd σ 25 8 x1 (fun v14 => cal (fX8_noteMover (v14 &&& x2) x1 σ) (fun _ σ16 => fX8_findSeat_b21  FU x2 (v14 &&& x2) (v14 &&& x2) 0 σ16))
def fX8_worthFrom_b51  : Nat → Int32 → Int32 → Int32 → Int32 → St → Option (Int32 × St)
  | 0, _, _, _, _, _ => none
  | n + 1, x1, x2, x3, x4, σ => if (σ 22 8) ≤ x4 then (some (x3, σ)) else (rd σ 27 8 x4 (fun v1 => if v1 < x1 then (fX8_worthFrom_b51  n x1 x2 x3 (x4 + 1) σ) else (cal (fX8_findSeat v1 x2 σ) (fun v4 σ3 => if v4 = 0 then (fX8_worthFrom_b51  n x1 x2 x3 (x4 + 1) σ3) else (rd σ3 24 8 v1 (fun v5 => fX8_worthFrom_b51  n x1 x2 (x3 + v5) (x4 + 1) σ3))))))
def fX8_worthFrom_b26  : Nat → Int32 → Int32 → Int32 → St → Option (Int32 × St)
  | 0, _, _, _, _ => none
  | n + 1, x1, x2, x3, σ => if (12 : Int32) ≤ x3 then (fX8_worthFrom_b51  FU x1 x2 0 0 σ) else (wr σ 29 12 x3 (-9) (fun σ6 => fX8_worthFrom_b26  n x1 x2 (x3 + 1) σ6))
def fX8_worthFrom_b2  : Nat → Int32 → Int32 → Int32 → St → Option (Int32 × St)
  | 0, _, _, _, _ => none
  | n + 1, x1, x2, x3, σ => if (σ 22 8) ≤ x3 then (fX8_worthFrom_b26  FU x1 x2 0 σ) else (wr σ 28 8 x3 (-9) (fun σ7 => fX8_worthFrom_b2  n x1 x2 (x3 + 1) σ7))
def fX8_worthFrom (x1 : Int32) (x2 : Int32) (σ : St) : Option (Int32 × St) := fX8_worthFrom_b2  FU x1 x2 0 σ
def fX8_greatestWorth  (σ : St) : Option (Int32 × St) := cal (fX8_worthFrom 0 4095 σ) (fun v3 σ2 => some (v3, σ2))
def fX10_best  (σ : St) : Option (Int32 × St) := cal (fX10_learnFits  σ) (fun _ σ2 => cal (fX8_greatestWorth  σ2) (fun v6 σ5 => some (v6, σ5)))
def fX8_leastSpot_b3  : Nat → Int32 → Int32 → Int32 → Int32 → St → Option (Int32 × St)
  | 0, _, _, _, _, _ => none
  | n + 1, x1, x2, x3, x4, σ => if (12 : Int32) ≤ x4 then (some ((-9), σ)) else (lt ((1 : Int32) <<< (x4 &&& 31)) (fun v1 => rd σ 25 8 x1 (fun v2 => if ((v2 &&& x2) &&& v1) = 0 then (fX8_leastSpot_b3  n x1 x2 x3 (x4 + 1) σ) else (rd σ 24 8 x1 (fun v3 => cal (fX8_worthFrom (x1 + 1) (x2 &&& (v1 ^^^ (-1))) σ) (fun v6 σ5 => if (v3 + v6) = x3 then (some (x4, σ5)) else (fX8_leastSpot_b3  n x1 x2 x3 (x4 + 1) σ5)))))))
def fX8_leastSpot (x1 : Int32) (x2 : Int32) (x3 : Int32) (σ : St) : Option (Int32 × St) := fX8_leastSpot_b3  FU x1 x2 x3 0 σ
def fX8_choose_b11  : Nat → Int32 → Int32 → Int32 → St → Option (Int32 × St)
  | 0, _, _, _, _ => none
  | n + 1, x1, x2, x3, σ => if (σ 22 8) ≤ x3 then (some (0, σ)) else (cal (fX8_leastSpot x3 x1 x2 σ) (fun v3 σ2 => wr σ2 26 8 x3 v3 (fun σ4 => if v3 = (-9) then (fX8_choose_b11  n x1 x2 (x3 + 1) σ4) else (lt (x1 &&& (((1 : Int32) <<< (v3 &&& 31)) ^^^ (-1))) (fun v5 => rd σ4 24 8 x3 (fun v6 => fX8_choose_b11  n v5 (x2 - v6) (x3 + 1) σ4))))))
def fX8_choose  (σ : St) : Option (Int32 × St) := cal (fX8_greatestWorth  σ) (fun v9 σ8 => fX8_choose_b11  FU 4095 v9 0 σ8)
def fX10_bestPlace (x1 : Int32) (σ : St) : Option (Int32 × St) := cal (fX10_within x1 (σ 22 8) σ) (fun v3 σ2 => if v3 = 0 then (cal (fX10_refuse (-1) σ2) (fun v13 σ12 => some (v13, σ12))) else (cal (fX10_learnFits  σ2) (fun _ σ5 => cal (fX8_choose  σ5) (fun _ σ8 => rd σ8 26 8 x1 (fun v10 => some (v10, σ8))))))
def fX8_forget  (σ : St) : Option (Int32 × St) := pf σ 22 8 0 (fun σ1 => some (0, σ1))
def fX10_lay_b15  : Nat → Int32 → Int32 → St → Option (Int32 × St)
  | 0, _, _, _ => none
  | n + 1, x1, x2, σ => if (σ 22 8) ≤ x2 then (cal (fX8_forget  σ) (fun _ σ2 => some (x1, σ2))) else (rd σ 26 8 x2 (fun v4 => cal (fX10_within v4 12 σ) (fun v7 σ6 => if v7 = 0 then (fX10_lay_b15  n x1 (x2 + 1) σ6) else (rd σ6 23 8 x2 (fun v8 => cal (fX10_putIn v8 v4 σ6) (fun _ σ10 => fX10_lay_b15  n (x1 + 1) (x2 + 1) σ10))))))
def fX10_lay  (σ : St) : Option (Int32 × St) := cal (fX10_learnFits  σ) (fun _ σ13 => cal (fX8_choose  σ13) (fun _ σ16 => fX10_lay_b15  FU 0 0 σ16))
def fX10_colour (x1 : Int32) (x2 : Int32) (x3 : Int32) (σ : St) : Option (Int32 × St) := cal (fX10_within x1 12 σ) (fun v3 σ2 => if v3 = 0 then (cal (fX10_refuse (-1) σ2) (fun v17 σ16 => some (v17, σ16))) else (if x2 < 0 then (cal (fX10_refuse (-4) σ2) (fun v6 σ5 => some (v6, σ5))) else (if x2 ≤ x3 then (if x3 ≤ 1000 then (wr σ2 32 12 x1 x2 (fun σ7 => wr σ7 33 12 x1 x3 (fun σ8 => some (1, σ8)))) else (cal (fX10_refuse (-6) σ2) (fun v11 σ10 => some (v11, σ10)))) else (cal (fX10_refuse (-4) σ2) (fun v14 σ13 => some (v14, σ13))))))
def fX10_isColourSet (x0 : Int32) (σ : St) : Option (Int32 × St) := if (x0 &&& (-4096)) = 0 then (zr 1 σ) else (zr 0 σ)
def fX5_greatestFrom_b4  : Nat → Int32 → Int32 → Int32 → St → Option (Int32 × St)
  | 0, _, _, _, _ => none
  | n + 1, x1, x2, x3, σ => if (12 : Int32) ≤ x3 then (some (x2, σ)) else (if (x1 &&& ((1 : Int32) <<< (x3 &&& 31))) = 0 then (fX5_greatestFrom_b4  n x1 x2 (x3 + 1) σ) else (rd σ 32 12 x3 (fun v1 => lt (if x2 < v1 then v1 else x2) (fun v2 => fX5_greatestFrom_b4  n x1 v2 (x3 + 1) σ))))
def fX5_greatestFrom (x1 : Int32) (σ : St) : Option (Int32 × St) := fX5_greatestFrom_b4  FU x1 0 0 σ
def fX5_stillUnfixed_b5  : Nat → Int32 → Int32 → Int32 → St → Option (Int32 × St)
  | 0, _, _, _, _ => none
  | n + 1, x2, x3, x4, σ => if (12 : Int32) ≤ x4 then (some (x3, σ)) else (rd σ 32 12 x4 (fun v1 => if x2 < v1 then (fX5_stillUnfixed_b5  n x2 x3 (x4 + 1) σ) else (rd σ 33 12 x4 (fun v2 => if v2 < x2 then (fX5_stillUnfixed_b5  n x2 x3 (x4 + 1) σ) else (lt (x3 &&& (((1 : Int32) <<< (x4 &&& 31)) ^^^ (-1))) (fun v3 => fX5_stillUnfixed_b5  n x2 v3 (x4 + 1) σ))))))
def fX5_stillUnfixed (x1 : Int32) (x2 : Int32) (σ : St) : Option (Int32 × St) := fX5_stillUnfixed_b5  FU x2 x1 0 σ
def fX5_plan_b7  : Nat → Int32 → Int32 → Int32 → St → Option (Int32 × St)
  | 0, _, _, _, _ => none
  | n + 1, x2, x3, x4, σ => if (12 : Int32) ≤ x4 then (some (x3, σ)) else (if x2 = 0 then (some (x3, σ)) else (cal (fX5_greatestFrom x2 σ) (fun v3 σ2 => wr σ2 34 12 x3 v3 (fun σ4 => cal (fX5_stillUnfixed x2 v3 σ4) (fun v7 σ6 => fX5_plan_b7  n v7 (x3 + 1) (x4 + 1) σ6)))))
def fX5_plan (x1 : Int32) (σ : St) : Option (Int32 × St) := fX5_plan_b7  FU x1 0 0 σ
def fX10_fires (x1 : Int32) (σ : St) : Option (Int32 × St) := cal (fX10_isColourSet x1 σ) (fun v3 σ2 => if v3 = 0 then (cal (fX10_refuse (-1) σ2) (fun v9 σ8 => some (v9, σ8))) else (cal (fX5_plan x1 σ2) (fun v6 σ5 => some (v6, σ5))))
def fX10_fireHeat (x1 : Int32) (x2 : Int32) (σ : St) : Option (Int32 × St) := cal (fX10_isColourSet x1 σ) (fun v3 σ2 => if v3 = 0 then (cal (fX10_refuse (-1) σ2) (fun v6 σ5 => some (v6, σ5))) else (cal (fX5_plan x1 σ2) (fun v9 σ8 => cal (fX10_within x2 v9 σ8) (fun v12 σ11 => if v12 = 0 then (cal (fX10_refuse (-1) σ11) (fun v16 σ15 => some (v16, σ15))) else (rd σ11 34 12 x2 (fun v13 => some (v13, σ11)))))))
def fX9_changeSkill (x1 : Int32) (x2 : Int32) (σ : St) : Option (Int32 × St) := rd σ 36 3 x1 (fun v1 => wr σ 36 3 x1 x2 (fun σ2 => pf σ2 35 7 0 (fun σ3 => some (v1, σ3))))
def fX10_skill (x1 : Int32) (x2 : Int32) (σ : St) : Option (Int32 × St) := cal (fX10_within x1 3 σ) (fun v3 σ2 => if v3 = 0 then (cal (fX10_refuse (-1) σ2) (fun v15 σ14 => some (v15, σ14))) else (if (1 : Int32) ≤ x2 then (if x2 ≤ 20 then (cal (fX9_changeSkill x1 x2 σ2) (fun v6 σ5 => some (v6, σ5))) else (cal (fX10_refuse (-6) σ2) (fun v9 σ8 => some (v9, σ8)))) else (cal (fX10_refuse (-4) σ2) (fun v12 σ11 => some (v12, σ11)))))
def fX9_addJob (x1 : Int32) (σ : St) : Option (Int32 × St) := wr σ 37 8 (σ 35 5) x1 (fun σ1 => pf σ1 35 5 ((σ1 35 5) + 1) (fun σ2 => pf σ2 35 7 0 (fun σ3 => some (((σ3 35 5) - 1), σ3))))
def fX10_job (x1 : Int32) (σ : St) : Option (Int32 × St) := if (1 : Int32) ≤ x1 then (if (500 : Int32) < x1 then (cal (fX10_refuse (-6) σ) (fun v3 σ2 => some (v3, σ2))) else (if (σ 35 5) < 8 then (cal (fX9_addJob x1 σ) (fun v6 σ5 => some (v6, σ5))) else (cal (fX10_refuse (-6) σ) (fun v9 σ8 => some (v9, σ8))))) else (cal (fX10_refuse (-4) σ) (fun v12 σ11 => some (v12, σ11)))
def fX9_daysFor (x1 : Int32) (x2 : Int32) (σ : St) : Option (Int32 × St) := rd σ 36 3 x2 (fun v1 => lt (if 1 < v1 then v1 else 1) (fun v2 => rd σ 37 8 x1 (fun v3 => nz v2 (some ((((v3 + v2) - 1) / v2), σ)))))
def fX9_keepTrial_b7  : Nat → Int32 → St → Option (Int32 × St)
  | 0, _, _ => none
  | n + 1, x2, σ => if (σ 35 5) ≤ x2 then (some (0, σ)) else (rd σ 38 8 x2 (fun v1 => wr σ 39 8 x2 v1 (fun σ2 => fX9_keepTrial_b7  n (x2 + 1) σ2)))
def fX9_keepTrial (x1 : Int32) (σ : St) : Option (Int32 × St) := pf σ 35 6 x1 (fun σ3 => fX9_keepTrial_b7  FU 0 σ3)
def fX9_shareFrom_b31 (rec : Int32 → Int32 → St → Option (Int32 × St))  : Nat → Int32 → Int32 → Int32 → St → Option (Int32 × St)
  | 0, _, _, _, _ => none
  | n + 1, x1, x2, x3, σ => if (3 : Int32) ≤ x3 then (some (0, σ)) else (cal (fX9_daysFor x1 x3 σ) (fun v3 σ2 => wr σ2 38 8 x1 x3 (fun σ4 => rd σ4 40 3 x3 (fun v5 => wr σ4 40 3 x3 (v5 + v3) (fun σ6 => rd σ6 40 3 x3 (fun v7 => cal (rec (x1 + 1) (if x2 < v7 then v7 else x2) σ6) (fun _ σ9 => rd σ9 40 3 x3 (fun v11 => wr σ9 40 3 x3 (v11 - v3) (fun σ12 => fX9_shareFrom_b31 rec n x1 x2 (x3 + 1) σ12)))))))))
def fX9_shareFrom_e (rec : Int32 → Int32 → St → Option (Int32 × St)) (x1 : Int32) (x2 : Int32) (σ : St) : Option (Int32 × St) := if x2 < (σ 35 6) then (if (σ 35 5) ≤ x1 then (cal (fX9_keepTrial x2 σ) (fun _ σ14 => some (0, σ14))) else (if x1 < 8 then (fX9_shareFrom_b31 rec FU x1 x2 0 σ) else (cal (fX9_keepTrial x2 σ) (fun _ σ17 => some (0, σ17))))) else (some (0, σ))
def fX9_shareFrom : Nat → Int32 → Int32 → St → Option (Int32 × St)
  | 0, _, _, _ => none
  | n + 1, x1, x2, σ => fX9_shareFrom_e (fun a b u => fX9_shareFrom n a b u) x1 x2 σ
def fX9_share_b10  : Nat → Int32 → St → Option (Int32 × St)
  | 0, _, _ => none
  | n + 1, x1, σ => if (3 : Int32) ≤ x1 then (pf σ 35 6 4001 (fun σ1 => cal (fX9_shareFrom 12 0 0 σ1) (fun _ σ3 => pf σ3 35 7 1 (fun σ5 => some (0, σ5))))) else (wr σ 40 3 x1 0 (fun σ6 => fX9_share_b10  n (x1 + 1) σ6))
def fX9_share  (σ : St) : Option (Int32 × St) := if (σ 35 7) = 0 then (fX9_share_b10  FU 0 σ) else (some (0, σ))
def fX10_least  (σ : St) : Option (Int32 × St) := cal (fX9_share  σ) (fun _ σ2 => some ((σ2 35 6), σ2))
def fX10_painter (x1 : Int32) (σ : St) : Option (Int32 × St) := cal (fX10_within x1 (σ 35 5) σ) (fun v3 σ2 => if v3 = 0 then (some ((-9), σ2)) else (cal (fX9_share  σ2) (fun _ σ5 => rd σ5 39 8 x1 (fun v7 => some (v7, σ5)))))
def fX10_paint (x1 : Int32) (σ : St) : Option (Int32 × St) := cal (fX10_within x1 (σ 7 7) σ) (fun v3 σ2 => if v3 = 0 then (cal (fX10_refuse (-1) σ2) (fun v11 σ10 => some (v11, σ10))) else (rd σ2 11 80 x1 (fun v4 => if v4 = 1 then (wr σ2 11 80 x1 2 (fun σ5 => some (1, σ5))) else (cal (fX10_refuse (-3) σ2) (fun v8 σ7 => some (v8, σ7))))))
def fX10_serviceRefusal (x0 : Int32) (x1 : Int32) (x2 : Int32) (σ : St) : Option (Int32 × St) := cal (fX10_within x0 10 σ) (fun v3 σ2 => if v3 = 0 then (some ((-1), σ2)) else (if x1 < 1 then (some ((-4), σ2)) else (if (0 : Int32) ≤ x2 then (if (12 : Int32) < x1 then (some ((-6), σ2)) else (if x2 ≤ 100 then (some (0, σ2)) else (some ((-6), σ2)))) else (some ((-4), σ2)))))
def fX3_insert_b55  (x1 : Int32) (x2 : Int32) (x3 : Int32) (σ : St) : Option (Int32 × St) := wr σ 42 80 x3 x1 (fun σ1 => wr σ1 43 80 x3 x2 (fun σ2 => pf σ2 41 3 ((σ2 41 3) + 1) (fun σ3 => some (0, σ3))))
def fX3_insert_b5  : Nat → Int32 → Int32 → Int32 → St → Option (Int32 × St)
  | 0, _, _, _, _ => none
  | n + 1, x1, x2, x3, σ => if x3 ≤ 0 then (fX3_insert_b55  x1 x2 x3 σ) else (rd σ 43 80 (x3 - 1) (fun v4 => if x2 ≤ v4 then (fX3_insert_b55  x1 x2 x3 σ) else (rd σ 42 80 (x3 - 1) (fun v5 => wr σ 42 80 x3 v5 (fun σ6 => rd σ6 43 80 (x3 - 1) (fun v7 => wr σ6 43 80 x3 v7 (fun σ8 => fX3_insert_b5  n x1 x2 (x3 + (-1)) σ8)))))))
def fX3_insert (x1 : Int32) (x2 : Int32) (σ : St) : Option (Int32 × St) := fX3_insert_b5  FU x1 x2 (σ 41 3) σ
def fX6_isForSale (x1 : Int32) (σ : St) : Option (Int32 × St) := rd σ 11 80 x1 (fun v1 => if v1 = 1 then (zr 1 σ) else (rd σ 11 80 x1 (fun v2 => if v2 = 2 then (zr 1 σ) else (zr 0 σ))))
def fX3_gather_b7  : Nat → Int32 → Int32 → St → Option (Int32 × St)
  | 0, _, _, _ => none
  | n + 1, x1, x3, σ => if (σ 7 7) ≤ x3 then (some (0, σ)) else (rd σ 9 80 x3 (fun v1 => if v1 = x1 then (cal (fX6_isForSale x3 σ) (fun v4 σ3 => if v4 = 0 then (fX3_gather_b7  n x1 (x3 + 1) σ3) else (rd σ3 14 80 x3 (fun v5 => cal (fX3_insert x3 v5 σ3) (fun _ σ7 => fX3_gather_b7  n x1 (x3 + 1) σ7))))) else (fX3_gather_b7  n x1 (x3 + 1) σ)))
def fX3_gather (x1 : Int32) (σ : St) : Option (Int32 × St) := pf σ 41 3 0 (fun σ9 => fX3_gather_b7  FU x1 0 σ9)
def fX3_take_b2  : Nat → Int32 → Int32 → St → Option (Int32 × St)
  | 0, _, _, _ => none
  | n + 1, x1, x2, σ => if x1 ≤ x2 then (pf σ 41 5 x1 (fun σ1 => some (0, σ1))) else (rd σ 42 80 ((σ 41 4) + x2) (fun v2 => wr σ 44 12 x2 v2 (fun σ3 => fX3_take_b2  n x1 (x2 + 1) σ3)))
def fX3_take (x1 : Int32) (σ : St) : Option (Int32 × St) := fX3_take_b2  FU x1 0 σ
def fX3_find_b15  : Nat → Int32 → Int32 → Int32 → St → Option (Int32 × St)
  | 0, _, _, _, _ => none
  | n + 1, x2, x3, x5, σ => if (σ 41 3) < (x5 + x2) then (zr 0 σ) else (rd σ 43 80 x5 (fun v1 => rd σ 43 80 ((x5 + x2) - 1) (fun v2 => if x3 < (v1 - v2) then (fX3_find_b15  n x2 x3 (x5 + 1) σ) else (pf σ 41 4 x5 (fun σ3 => cal (fX3_take x2 σ3) (fun _ σ5 => zr 1 σ5))))))
def fX3_find (x1 : Int32) (x2 : Int32) (x3 : Int32) (σ : St) : Option (Int32 × St) := cal (fX3_gather x1 σ) (fun _ σ8 => pf σ8 41 5 0 (fun σ10 => fX3_find_b15  FU x2 x3 0 σ10))
def fX3_lacking_b4  : Nat → Int32 → Int32 → St → Option (Int32 × St)
  | 0, _, _, _ => none
  | n + 1, x1, x2, σ => if (σ 41 5) ≤ x2 then (some (x1, σ)) else (rd σ 43 80 ((σ 41 4) + x2) (fun v1 => lt (x1 + (100 - v1)) (fun v2 => fX3_lacking_b4  n v2 (x2 + 1) σ)))
def fX3_lacking  (σ : St) : Option (Int32 × St) := fX3_lacking_b4  FU 0 0 σ
def fX10_service (x1 : Int32) (x2 : Int32) (x3 : Int32) (σ : St) : Option (Int32 × St) := cal (fX10_serviceRefusal x1 x2 x3 σ) (fun v3 σ2 => if v3 = 0 then (cal (fX3_find x1 x2 x3 σ2) (fun v6 σ5 => if v6 = 0 then (some ((-9), σ5)) else (cal (fX3_lacking  σ5) (fun v9 σ8 => some (v9, σ8))))) else (cal (fX10_refuse v3 σ2) (fun v12 σ11 => some (v12, σ11))))
def fX3_sortByNumber_b19 (k2 : Int32 → St → Option (Int32 × St)) : Nat → Int32 → Int32 → Int32 → St → Option (Int32 × St)
  | 0, _, _, _, _ => none
  | n + 1, x1, x2, x3, σ => if x3 ≤ 0 then (wr σ 44 12 x3 x2 (fun σ1 => k2 (x1 + 1) σ1)) else (rd σ 44 12 (x3 - 1) (fun v2 => if v2 ≤ x2 then (wr σ 44 12 x3 x2 (fun σ3 => k2 (x1 + 1) σ3)) else (rd σ 44 12 (x3 - 1) (fun v4 => wr σ 44 12 x3 v4 (fun σ5 => fX3_sortByNumber_b19 k2 n x1 x2 (x3 + (-1)) σ5)))))
def fX3_sortByNumber_b2  : Nat → Int32 → St → Option (Int32 × St)
  | 0, _, _ => none
  | n + 1, x1, σ => if (σ 41 5) ≤ x1 then (some (0, σ)) else (rd σ 44 12 x1 (fun v6 => fX3_sortByNumber_b19 (fun a0 u => fX3_sortByNumber_b2  n a0 u) FU x1 v6 x1 σ))
def fX3_sortByNumber  (σ : St) : Option (Int32 × St) := fX3_sortByNumber_b2  FU 1 σ
def fX10_matched (x1 : Int32) (x2 : Int32) (x3 : Int32) (x4 : Int32) (σ : St) : Option (Int32 × St) := cal (fX10_serviceRefusal x1 x2 x3 σ) (fun v3 σ2 => if v3 = 0 then (cal (fX3_find x1 x2 x3 σ2) (fun v6 σ5 => if v6 = 0 then (some ((-9), σ5)) else (cal (fX10_within x4 (σ5 41 5) σ5) (fun v9 σ8 => if v9 = 0 then (some ((-9), σ8)) else (cal (fX3_sortByNumber  σ8) (fun _ σ11 => rd σ11 44 12 x4 (fun v13 => some (v13, σ11)))))))) else (cal (fX10_refuse v3 σ2) (fun v16 σ15 => some (v16, σ15))))
def fX10_sell_b47  : Nat → Int32 → Int32 → St → Option (Int32 × St)
  | 0, _, _, _ => none
  | n + 1, x2, x5, σ => if (σ 41 5) ≤ x5 then (some (x2, σ)) else (rd σ 44 12 x5 (fun v1 => wr σ 11 80 v1 4 (fun σ2 => fX10_sell_b47  n x2 (x5 + 1) σ2)))
def fX10_sell (x1 : Int32) (x2 : Int32) (x3 : Int32) (σ : St) : Option (Int32 × St) := cal (fX10_serviceRefusal x1 x2 x3 σ) (fun v5 σ4 => if v5 = 0 then (cal (fX3_find x1 x2 x3 σ4) (fun v8 σ7 => if v8 = 0 then (cal (fX10_refuse (-3) σ7) (fun v11 σ10 => some (v11, σ10))) else (fX10_sell_b47  FU x2 0 σ7))) else (cal (fX10_refuse v5 σ4) (fun v14 σ13 => some (v14, σ13))))
def fX4_begin_b2  : Nat → Int32 → St → Option (Int32 × St)
  | 0, _, _ => none
  | n + 1, x1, σ => if (200 : Int32) < x1 then (wr σ 46 201 0 1048576 (fun σ1 => some (0, σ1))) else (wr σ 46 201 x1 0 (fun σ2 => fX4_begin_b2  n (x1 + 1) σ2))
def fX4_begin  (σ : St) : Option (Int32 × St) := fX4_begin_b2  FU 0 σ
def fX4_makeOneMore_b9  : Nat → Int32 → Int32 → Int32 → St → Option (Int32 × St)
  | 0, _, _, _, _ => none
  | n + 1, x2, x3, x4, σ => if x4 < 1 then (rd σ 46 201 0 (fun v1 => wr σ 46 201 0 ((v1 * x3) / 1024) (fun σ2 => some (0, σ2)))) else (rd σ 46 201 x4 (fun v3 => rd σ 46 201 (x4 - 1) (fun v4 => wr σ 46 201 x4 (((v3 * x3) + (v4 * x2)) / 1024) (fun σ5 => fX4_makeOneMore_b9  n x2 x3 (x4 + (-1)) σ5))))
def fX4_makeOneMore (x1 : Int32) (x2 : Int32) (σ : St) : Option (Int32 × St) := fX4_makeOneMore_b9  FU x2 (1024 - x2) x1 σ
def fX4_orMore_b5  : Nat → Int32 → Int32 → Int32 → St → Option (Int32 × St)
  | 0, _, _, _, _ => none
  | n + 1, x2, x3, x4, σ => if x2 < x4 then (some (x3, σ)) else (rd σ 46 201 x4 (fun v1 => fX4_orMore_b5  n x2 (x3 + v1) (x4 + 1) σ))
def fX4_orMore (x1 : Int32) (x2 : Int32) (σ : St) : Option (Int32 × St) := fX4_orMore_b5  FU x2 0 x1 σ
def fX4_ofWhole_b7  : Nat → Int32 → Int32 → Int32 → Int32 → St → Option (Int32 × St)
  | 0, _, _, _, _, _ => none
  | n + 1, x1, x2, x3, x4, σ => if x1 < x4 then (cal (fX4_orMore x2 x1 σ) (fun v3 σ2 => some (v3, σ2))) else (cal (fX4_makeOneMore x4 x3 σ) (fun _ σ5 => fX4_ofWhole_b7  n x1 x2 x3 (x4 + 1) σ5))
def fX4_ofWhole (x1 : Int32) (x2 : Int32) (x3 : Int32) (σ : St) : Option (Int32 × St) := cal (fX4_begin  σ) (fun _ σ8 => fX4_ofWhole_b7  FU x1 x2 x3 1 σ8)
def fX10_chance_b40   (σ : St) : Option (Int32 × St) := cal (fX10_refuse (-6) σ) (fun v3 σ2 => some (v3, σ2))
def fX10_chance_b12   (σ : St) : Option (Int32 × St) := cal (fX10_refuse (-4) σ) (fun v6 σ5 => some (v6, σ5))
def fX10_chance (x1 : Int32) (x2 : Int32) (x3 : Int32) (σ : St) : Option (Int32 × St) := if x1 < 0 then (fX10_chance_b12   σ) else (if x2 < 0 then (fX10_chance_b12   σ) else (if (0 : Int32) ≤ x3 then (if (200 : Int32) < x1 then (fX10_chance_b40   σ) else (if (200 : Int32) < x2 then (fX10_chance_b40   σ) else (if x3 ≤ 1024 then (cal (fX4_ofWhole x1 x2 x3 σ) (fun v9 σ8 => some (v9, σ8))) else (fX10_chance_b40   σ)))) else (fX10_chance_b12   σ)))
def fX4_fewestFor_b19  : Nat → Int32 → Int32 → Int32 → Int32 → St → Option (Int32 × St)
  | 0, _, _, _, _, _ => none
  | n + 1, x1, x2, x3, x4, σ => if (200 : Int32) < x4 then (some ((-9), σ)) else (cal (fX4_makeOneMore x4 x2 σ) (fun _ σ2 => cal (fX4_orMore x1 x4 σ2) (fun v6 σ5 => if v6 < x3 then (fX4_fewestFor_b19  n x1 x2 x3 (x4 + 1) σ5) else (some (x4, σ5)))))
def fX4_fewestFor (x1 : Int32) (x2 : Int32) (x3 : Int32) (σ : St) : Option (Int32 × St) := cal (fX4_begin  σ) (fun _ σ8 => cal (fX4_orMore x1 0 σ8) (fun v12 σ11 => if v12 < x3 then (fX4_fewestFor_b19  FU x1 x2 x3 1 σ11) else (some (0, σ11))))
def fX10_make_b40   (σ : St) : Option (Int32 × St) := cal (fX10_refuse (-6) σ) (fun v3 σ2 => some (v3, σ2))
def fX10_make_b12   (σ : St) : Option (Int32 × St) := cal (fX10_refuse (-4) σ) (fun v6 σ5 => some (v6, σ5))
def fX10_make (x1 : Int32) (x2 : Int32) (x3 : Int32) (σ : St) : Option (Int32 × St) := if x1 < 0 then (fX10_make_b12   σ) else (if x2 < 0 then (fX10_make_b12   σ) else (if (0 : Int32) ≤ x3 then (if (200 : Int32) < x1 then (fX10_make_b40   σ) else (if (1024 : Int32) < x2 then (fX10_make_b40   σ) else (if x3 ≤ 1048576 then (cal (fX4_fewestFor x1 x2 x3 σ) (fun v9 σ8 => some (v9, σ8))) else (fX10_make_b40   σ)))) else (fX10_make_b12   σ)))
def fX7_tellSight_b3  : Nat → Int32 → Int32 → Int32 → Int32 → St → Option (Int32 × St)
  | 0, _, _, _, _, _ => none
  | n + 1, x1, x2, x3, x4, σ => if (σ 47 8) ≤ x4 then (if (σ 47 8) < 32 then (wr σ 48 32 (σ 47 8) x1 (fun σ1 => wr σ1 49 32 (σ1 47 8) x2 (fun σ2 => wr σ2 50 32 (σ2 47 8) x3 (fun σ3 => pf σ3 47 8 ((σ3 47 8) + 1) (fun σ4 => zr 1 σ4))))) else (zr 0 σ)) else (rd σ 48 32 x4 (fun v5 => if v5 = x1 then (rd σ 49 32 x4 (fun v6 => if v6 = x2 then (zr 0 σ) else (fX7_tellSight_b3  n x1 x2 x3 (x4 + 1) σ))) else (fX7_tellSight_b3  n x1 x2 x3 (x4 + 1) σ)))
def fX7_tellSight (x1 : Int32) (x2 : Int32) (x3 : Int32) (σ : St) : Option (Int32 × St) := fX7_tellSight_b3  FU x1 x2 x3 0 σ
def fX10_see (x1 : Int32) (x2 : Int32) (σ : St) : Option (Int32 × St) := cal (fX10_within x1 16 σ) (fun v3 σ2 => if v3 = 0 then (cal (fX10_refuse (-1) σ2) (fun v6 σ5 => some (v6, σ5))) else (cal (fX10_within x2 2 σ2) (fun v9 σ8 => if v9 = 0 then (cal (fX10_refuse (-1) σ8) (fun v15 σ14 => some (v15, σ14))) else (cal (fX7_tellSight x1 x2 (σ8 0 11) σ8) (fun v12 σ11 => if v12 = 0 then (some (0, σ11)) else (some (1, σ11)))))))
def fX7_talkedOn_b68 (k3 : Int32 → Int32 → Int32 → Int32 → St → Option (Int32 × St)) (x1 : Int32) (x2 : Int32) (x3 : Int32) (x4 : Int32) (x5 : Int32) (s0 : Int32) (σ : St) : Option (Int32 × St) := rd σ 53 60 x4 (fun v1 => if v1 = x3 then (if x5 = 0 then (if s0 = 0 then (k3 x1 x2 x3 (x4 + 1) σ) else (zr 1 σ)) else (zr 1 σ)) else (k3 x1 x2 x3 (x4 + 1) σ))
def fX7_talkedOn_b39 (k3 : Int32 → Int32 → Int32 → Int32 → St → Option (Int32 × St)) (x1 : Int32) (x2 : Int32) (x3 : Int32) (x4 : Int32) (s0 : Int32) (σ : St) : Option (Int32 × St) := rd σ 51 60 x4 (fun v2 => if v2 = x2 then (rd σ 52 60 x4 (fun v3 => if v3 = x1 then (fX7_talkedOn_b68 k3 x1 x2 x3 x4 s0 1 σ) else (fX7_talkedOn_b68 k3 x1 x2 x3 x4 s0 0 σ))) else (fX7_talkedOn_b68 k3 x1 x2 x3 x4 s0 0 σ))
def fX7_talkedOn_b3  : Nat → Int32 → Int32 → Int32 → Int32 → St → Option (Int32 × St)
  | 0, _, _, _, _, _ => none
  | n + 1, x1, x2, x3, x4, σ => if (σ 47 9) ≤ x4 then (zr 0 σ) else (rd σ 51 60 x4 (fun v4 => if v4 = x1 then (rd σ 52 60 x4 (fun v5 => if v5 = x2 then (fX7_talkedOn_b39 (fun a0 a1 a2 a3 u => fX7_talkedOn_b3  n a0 a1 a2 a3 u) x1 x2 x3 x4 1 σ) else (fX7_talkedOn_b39 (fun a0 a1 a2 a3 u => fX7_talkedOn_b3  n a0 a1 a2 a3 u) x1 x2 x3 x4 0 σ))) else (fX7_talkedOn_b39 (fun a0 a1 a2 a3 u => fX7_talkedOn_b3  n a0 a1 a2 a3 u) x1 x2 x3 x4 0 σ)))
def fX7_talkedOn (x1 : Int32) (x2 : Int32) (x3 : Int32) (σ : St) : Option (Int32 × St) := fX7_talkedOn_b3  FU x1 x2 x3 0 σ
def fX7_tellTalk (x1 : Int32) (x2 : Int32) (x3 : Int32) (σ : St) : Option (Int32 × St) := wr σ 51 60 (σ 47 9) x1 (fun σ1 => wr σ1 52 60 (σ1 47 9) x2 (fun σ2 => wr σ2 53 60 (σ2 47 9) x3 (fun σ3 => pf σ3 47 9 ((σ3 47 9) + 1) (fun σ4 => some (0, σ4)))))
def fX10_talk_b23   (σ : St) : Option (Int32 × St) := cal (fX10_refuse (-1) σ) (fun v3 σ2 => some (v3, σ2))
def fX10_talk (x1 : Int32) (x2 : Int32) (σ : St) : Option (Int32 × St) := cal (fX10_within x1 16 σ) (fun v6 σ5 => if v6 = 0 then (fX10_talk_b23   σ5) else (cal (fX10_within x2 16 σ5) (fun v9 σ8 => if v9 = 0 then (fX10_talk_b23   σ8) else (if x1 = x2 then (fX10_talk_b23   σ8) else (cal (fX7_talkedOn x1 x2 (σ8 0 11) σ8) (fun v12 σ11 => if v12 = 0 then (if (σ11 47 9) < 60 then (cal (fX7_tellTalk x1 x2 (σ11 0 11) σ11) (fun _ σ14 => some (1, σ14))) else (cal (fX10_refuse (-6) σ11) (fun v18 σ17 => some (v18, σ17)))) else (some (0, σ11))))))))
def fX7_knownBy (x1 : Int32) (σ : St) : Option (Int32 × St) := rd σ 54 2 0 (fun v1 => rd σ 54 2 1 (fun v2 => some ((((v1 >>> (x1 &&& 31)) &&& 1) + (2 * ((v2 >>> (x1 &&& 31)) &&& 1))), σ)))
def fX7_noteJoined (x1 : Int32) (σ : St) : Option (Int32 × St) := if (σ 47 10) = (-9) then (rd σ 54 2 0 (fun v1 => rd σ 54 2 1 (fun v2 => if (v1 &&& v2) = 0 then (some (0, σ)) else (pf σ 47 10 x1 (fun σ3 => some (0, σ3)))))) else (some (0, σ))
def fX7_seeTill_b2  : Nat → Int32 → Int32 → St → Option (Int32 × St)
  | 0, _, _, _ => none
  | n + 1, x2, x3, σ => if (σ 47 8) ≤ x3 then (some (x3, σ)) else (rd σ 50 32 x3 (fun v1 => if x2 < v1 then (some (x3, σ)) else (rd σ 49 32 x3 (fun v2 => rd σ 54 2 v2 (fun v3 => rd σ 48 32 x3 (fun v4 => wr σ 54 2 v2 (v3 ||| ((1 : Int32) <<< (v4 &&& 31))) (fun σ5 => rd σ5 50 32 x3 (fun v6 => cal (fX7_noteJoined v6 σ5) (fun _ σ8 => fX7_seeTill_b2  n x2 (x3 + 1) σ8)))))))))
def fX7_seeTill (x1 : Int32) (x2 : Int32) (σ : St) : Option (Int32 × St) := fX7_seeTill_b2  FU x2 x1 σ
def fX7_exchange_b11  : Nat → Int32 → Int32 → St → Option (Int32 × St)
  | 0, _, _, _ => none
  | n + 1, x3, x4, σ => if (2 : Int32) ≤ x4 then (some (0, σ)) else (rd σ 55 2 x4 (fun v1 => if (v1 &&& x3) = 0 then (fX7_exchange_b11  n x3 (x4 + 1) σ) else (rd σ 54 2 x4 (fun v2 => wr σ 54 2 x4 (v2 ||| x3) (fun σ3 => fX7_exchange_b11  n x3 (x4 + 1) σ3)))))
def fX7_exchange (x1 : Int32) (x2 : Int32) (σ : St) : Option (Int32 × St) := lt (((1 : Int32) <<< (x1 &&& 31)) ||| ((1 : Int32) <<< (x2 &&& 31))) (fun v4 => fX7_exchange_b11  FU v4 0 σ)
def fX7_talkAllDay_b34  : Nat → Int32 → Int32 → Int32 → St → Option (Int32 × St)
  | 0, _, _, _, _ => none
  | n + 1, x2, x3, x4, σ => if (σ 47 9) ≤ x4 then (cal (fX7_noteJoined x3 σ) (fun _ σ2 => some (x4, σ2))) else (rd σ 53 60 x4 (fun v4 => if v4 = x3 then (if x4 = x2 then (fX7_talkAllDay_b34  n x2 x3 (x4 + 1) σ) else (rd σ 51 60 x4 (fun v8 => rd σ 52 60 x4 (fun v9 => cal (fX7_exchange v8 v9 σ) (fun _ σ11 => fX7_talkAllDay_b34  n x2 x3 (x4 + 1) σ11))))) else (cal (fX7_noteJoined x3 σ) (fun _ σ6 => some (x4, σ6)))))
def fX7_talkAllDay (x1 : Int32) (x2 : Int32) (σ : St) : Option (Int32 × St) := rd σ 53 60 x1 (fun v13 => rd σ 54 2 0 (fun v14 => wr σ 55 2 0 v14 (fun σ15 => rd σ15 54 2 1 (fun v16 => wr σ15 55 2 1 v16 (fun σ17 => fX7_talkAllDay_b34  FU x2 v13 x1 σ17)))))
def fX7_retell_b27  : Nat → Int32 → Int32 → Int32 → Int32 → St → Option (Int32 × St)
  | 0, _, _, _, _, _ => none
  | n + 1, x1, x2, x3, x4, σ => if (60 : Int32) ≤ x4 then (cal (fX7_seeTill x2 4000 σ) (fun v3 σ2 => some (0, σ2))) else (if (σ 47 9) ≤ x3 then (cal (fX7_seeTill x2 4000 σ) (fun v6 σ5 => some (0, σ5))) else (rd σ 53 60 x3 (fun v7 => cal (fX7_seeTill x2 v7 σ) (fun v10 σ9 => cal (fX7_talkAllDay x3 x1 σ9) (fun v13 σ12 => fX7_retell_b27  n x1 v10 v13 (x4 + 1) σ12)))))
def fX7_retell (x1 : Int32) (σ : St) : Option (Int32 × St) := wr σ 54 2 0 0 (fun σ14 => wr σ14 54 2 1 0 (fun σ15 => pf σ15 47 10 (-9) (fun σ16 => fX7_retell_b27  FU x1 0 0 0 σ16)))
def fX10_knows (x1 : Int32) (σ : St) : Option (Int32 × St) := cal (fX10_within x1 16 σ) (fun v3 σ2 => if v3 = 0 then (cal (fX10_refuse (-1) σ2) (fun v12 σ11 => some (v12, σ11))) else (cal (fX7_retell (-9) σ2) (fun _ σ5 => cal (fX7_knownBy x1 σ5) (fun v9 σ8 => some (v9, σ8)))))
def fX10_joined  (σ : St) : Option (Int32 × St) := cal (fX7_retell (-9) σ) (fun _ σ2 => some ((σ2 47 10), σ2))
def fX7_firstLeak_b20  : Nat → Int32 → St → Option (Int32 × St)
  | 0, _, _ => none
  | n + 1, x1, σ => if (σ 47 9) ≤ x1 then (some ((-9), σ)) else (cal (fX7_retell x1 σ) (fun _ σ2 => if (σ2 47 10) = (-9) then (some (x1, σ2)) else (fX7_firstLeak_b20  n (x1 + 1) σ2)))
def fX7_firstLeak  (σ : St) : Option (Int32 × St) := cal (fX7_retell (-9) σ) (fun _ σ5 => if (σ5 47 10) = (-9) then (some ((-9), σ5)) else (fX7_firstLeak_b20  FU 0 σ5))
def fX10_leak  (σ : St) : Option (Int32 × St) := cal (fX7_firstLeak  σ) (fun v3 σ2 => some (v3, σ2))
def fX2_lend (x1 : Int32) (x2 : Int32) (x3 : Int32) (σ : St) : Option (Int32 × St) := wr σ 57 6 (σ 56 3) x1 (fun σ1 => wr σ1 58 6 (σ1 56 3) x2 (fun σ2 => wr σ2 59 6 (σ2 56 3) x3 (fun σ3 => pf σ3 56 3 ((σ3 56 3) + 1) (fun σ4 => some (((σ4 56 3) - 1), σ4)))))
def fX10_debt_b41   (σ : St) : Option (Int32 × St) := cal (fX10_refuse (-6) σ) (fun v3 σ2 => some (v3, σ2))
def fX10_debt (x1 : Int32) (x2 : Int32) (σ : St) : Option (Int32 × St) := if x1 < 0 then (cal (fX10_refuse (-4) σ) (fun v6 σ5 => some (v6, σ5))) else (if (0 : Int32) ≤ x2 then (if (1000000 : Int32) < x1 then (fX10_debt_b41   σ) else (if (500 : Int32) < x2 then (fX10_debt_b41   σ) else (if (σ 56 3) < 6 then (cal (fX2_lend x1 x2 (σ 0 11) σ) (fun v9 σ8 => some (v9, σ8))) else (fX10_debt_b41   σ)))) else (cal (fX10_refuse (-4) σ) (fun v12 σ11 => some (v12, σ11))))
def fX10_pay (x1 : Int32) (x2 : Int32) (σ : St) : Option (Int32 × St) := cal (fX10_within x1 (σ 56 3) σ) (fun v3 σ2 => if v3 = 0 then (cal (fX10_refuse (-1) σ2) (fun v19 σ18 => some (v19, σ18))) else (if (1 : Int32) ≤ x2 then (if (1000000 : Int32) < x2 then (cal (fX10_refuse (-6) σ2) (fun v6 σ5 => some (v6, σ5))) else (rd σ2 57 6 x1 (fun v7 => if x2 ≤ v7 then (rd σ2 57 6 x1 (fun v8 => wr σ2 57 6 x1 (v8 - x2) (fun σ9 => rd σ9 57 6 x1 (fun v10 => some (v10, σ9))))) else (cal (fX10_refuse (-6) σ2) (fun v13 σ12 => some (v13, σ12)))))) else (cal (fX10_refuse (-4) σ2) (fun v16 σ15 => some (v16, σ15)))))
def fX10_owed (x1 : Int32) (x2 : Int32) (σ : St) : Option (Int32 × St) := cal (fX10_within x1 (σ 56 3) σ) (fun v3 σ2 => if v3 = 0 then (cal (fX10_refuse (-1) σ2) (fun v15 σ14 => some (v15, σ14))) else (if (0 : Int32) ≤ x2 then (if x2 ≤ 4000 then (cal (fX2_sumAfter x1 (σ2 0 11) x2 σ2) (fun v6 σ5 => some (v6, σ5))) else (cal (fX10_refuse (-6) σ2) (fun v9 σ8 => some (v9, σ8)))) else (cal (fX10_refuse (-4) σ2) (fun v12 σ11 => some (v12, σ11)))))
def fX10_pieceOf (x1 : Int32) (x2 : Int32) (σ : St) : Option (Int32 × St) := cal (fX10_within x1 (σ 7 7) σ) (fun v3 σ2 => if v3 = 0 then (cal (fX10_refuse (-1) σ2) (fun v16 σ15 => some (v16, σ15))) else (if x2 = 0 then (rd σ2 11 80 x1 (fun v4 => some (v4, σ2))) else (if x2 = 1 then (rd σ2 9 80 x1 (fun v5 => some (v5, σ2))) else (if x2 = 2 then (rd σ2 10 80 x1 (fun v6 => some (v6, σ2))) else (if x2 = 3 then (rd σ2 8 80 x1 (fun v7 => some (v7, σ2))) else (if x2 = 4 then (rd σ2 12 80 x1 (fun v8 => some (v8, σ2))) else (if x2 = 5 then (rd σ2 13 80 x1 (fun v9 => some (v9, σ2))) else (if x2 = 6 then (rd σ2 14 80 x1 (fun v10 => some (v10, σ2))) else (cal (fX10_refuse (-2) σ2) (fun v13 σ12 => some (v13, σ12)))))))))))
def fX6_inState_b4  : Nat → Int32 → Int32 → Int32 → St → Option (Int32 × St)
  | 0, _, _, _, _ => none
  | n + 1, x1, x2, x3, σ => if (σ 7 7) ≤ x3 then (some (x2, σ)) else (rd σ 11 80 x3 (fun v1 => if v1 = x1 then (fX6_inState_b4  n x1 (x2 + 1) (x3 + 1) σ) else (fX6_inState_b4  n x1 x2 (x3 + 1) σ)))
def fX6_inState (x1 : Int32) (σ : St) : Option (Int32 × St) := fX6_inState_b4  FU x1 0 0 σ
def fX10_count_b44  (x1 : Int32) (σ : St) : Option (Int32 × St) := if x1 < 20 then (if x1 = 0 then (some ((σ 0 11), σ)) else (if x1 = 1 then (some ((σ 2 4), σ)) else (if x1 = 2 then (some ((σ 7 7), σ)) else (if x1 = 3 then (some ((-9), σ)) else (if x1 = 4 then (some ((-9), σ)) else (if x1 = 5 then (some ((-9), σ)) else (if x1 = 6 then (some ((-9), σ)) else (if x1 = 7 then (some ((-9), σ)) else (if x1 = 8 then (some ((σ 15 6), σ)) else (if x1 = 9 then (some ((σ 15 7), σ)) else (if x1 = 10 then (some ((σ 47 9), σ)) else (some ((-9), σ))))))))))))) else (cal (fX10_within (x1 - 20) (σ 2 4) σ) (fun v3 σ2 => if v3 = 0 then (some ((-9), σ2)) else (rd σ2 5 20 (x1 - 20) (fun v4 => some (v4, σ2)))))
def fX10_count_b22  (x1 : Int32) (σ : St) : Option (Int32 × St) := if x1 < 11 then (fX10_count_b44  x1 σ) else (if (16 : Int32) < x1 then (fX10_count_b44  x1 σ) else (rd σ 1 6 (x1 - 11) (fun v5 => some (v5, σ))))
def fX10_count (x1 : Int32) (σ : St) : Option (Int32 × St) := if x1 < 3 then (fX10_count_b22  x1 σ) else (if (7 : Int32) < x1 then (fX10_count_b22  x1 σ) else (cal (fX6_inState (x1 - 3) σ) (fun v8 σ7 => some (v8, σ7))))
