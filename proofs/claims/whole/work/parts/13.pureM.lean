def fX11_refuse (x1 : Int32) (σ : St) : Option (Int32 × St) := rd σ 1 7 (-x1) (fun v1 => wr σ 1 7 (-x1) (v1 + 1) (fun σ2 => some (x1, σ2)))
def fX11_isIn (x0 : Int32) (x1 : Int32) (σ : St) : Option (Int32 × St) := if x0 < 0 then (zr 0 σ) else (if x1 ≤ x0 then (zr 0 σ) else (zr 1 σ))
def fX11_wrong (x0 : Int32) (x1 : Int32) (x2 : Int32) (σ : St) : Option (Int32 × St) := if x1 ≤ x0 then (if x0 ≤ x2 then (some (0, σ)) else (some ((-6), σ))) else (some ((-4), σ))
def fX11_paste_b55  (x1 : Int32) (x2 : Int32) (x3 : Int32) (s0 : Int32) (σ : St) : Option (Int32 × St) := if s0 = 0 then (rd σ 2 24 ((4 * x1) + x2) (fun v1 => wr σ 2 24 ((4 * x1) + x2) x3 (fun σ2 => some (v1, σ2)))) else (cal (fX11_refuse s0 σ) (fun v5 σ4 => some (v5, σ4)))
def fX11_paste (x1 : Int32) (x2 : Int32) (x3 : Int32) (σ : St) : Option (Int32 × St) := cal (fX11_isIn x1 6 σ) (fun v8 σ7 => if v8 = 0 then (fX11_paste_b55  x1 x2 x3 (-1) σ7) else (cal (fX11_isIn x2 4 σ7) (fun v11 σ10 => if v11 = 0 then (fX11_paste_b55  x1 x2 x3 (-2) σ10) else (if x2 = 0 then (cal (fX11_wrong x3 0 200 σ10) (fun v20 σ19 => fX11_paste_b55  x1 x2 x3 v20 σ19)) else (if x2 = 1 then (cal (fX11_wrong x3 0 300 σ10) (fun v17 σ16 => fX11_paste_b55  x1 x2 x3 v17 σ16)) else (cal (fX11_wrong x3 0 2000 σ10) (fun v14 σ13 => fX11_paste_b55  x1 x2 x3 v14 σ13)))))))
def fX11_batch (x1 : Int32) (x2 : Int32) (σ : St) : Option (Int32 × St) := cal (fX11_isIn x1 6 σ) (fun v3 σ2 => if v3 = 0 then (cal (fX11_refuse (-1) σ2) (fun v19 σ18 => some (v19, σ18))) else (if (1 : Int32) ≤ x2 then (if (1000 : Int32) < x2 then (cal (fX11_refuse (-6) σ2) (fun v6 σ5 => some (v6, σ5))) else (if (σ2 0 17) = 20 then (cal (fX11_refuse (-6) σ2) (fun v13 σ12 => some (v13, σ12))) else (wr σ2 3 20 (σ2 0 17) x1 (fun σ7 => wr σ7 4 20 (σ7 0 17) x2 (fun σ8 => wr σ8 5 20 (σ8 0 17) (σ8 0 16) (fun σ9 => pf σ9 0 17 ((σ9 0 17) + 1) (fun σ10 => some (((σ10 0 17) - 1), σ10)))))))) else (cal (fX11_refuse (-4) σ2) (fun v16 σ15 => some (v16, σ15)))))
def fX11_grown (x1 : Int32) (x2 : Int32) (σ : St) : Option (Int32 × St) := rd σ 43 6 x1 (fun v1 => some ((if ((x2).toInt64 + (((x2).toInt64 * (v1).toInt64) / 1000)) < 2000000000 then ((x2).toInt64 + (((x2).toInt64 * (v1).toInt64) / 1000)) else 2000000000).toInt32, σ))
def fX11_goes_b19 (k2 : Int32 → Int32 → St → Option (Int32 × St)) : Nat → Int32 → Int32 → Int32 → St → Option (Int32 × St)
  | 0, _, _, _, _ => none
  | n + 1, x1, x2, x3, σ => if (σ 0 25) ≤ x3 then (k2 x1 (x2 + 1) σ) else (rd σ 44 6 x3 (fun v1 => if (((σ 0 16) - v1) - ((σ 0 16) - v1) / 30 * 30) = 0 then (rd σ 42 6 x3 (fun v2 => cal (fX11_grown x3 v2 σ) (fun v5 σ4 => wr σ4 42 6 x3 v5 (fun σ6 => fX11_goes_b19 k2 n x1 x2 (x3 + 1) σ6)))) else (fX11_goes_b19 k2 n x1 x2 (x3 + 1) σ)))
def fX11_goes_b2  : Nat → Int32 → Int32 → St → Option (Int32 × St)
  | 0, _, _, _ => none
  | n + 1, x1, x2, σ => if x1 ≤ x2 then (some (0, σ)) else (pf σ 0 16 ((σ 0 16) + 1) (fun σ7 => fX11_goes_b19 (fun a0 a1 u => fX11_goes_b2  n a0 a1 u) FU x1 x2 0 σ7))
def fX11_goes (x1 : Int32) (σ : St) : Option (Int32 × St) := fX11_goes_b2  FU x1 0 σ
def fX11_days (x1 : Int32) (σ : St) : Option (Int32 × St) := cal (fX11_wrong x1 1 (4000 - (σ 0 16)) σ) (fun v3 σ2 => if v3 = 0 then (cal (fX11_goes x1 σ2) (fun _ σ5 => some ((σ5 0 16), σ5))) else (cal (fX11_refuse v3 σ2) (fun v9 σ8 => some (v9, σ8))))
def fX11_piece_b112   (σ : St) : Option (Int32 × St) := cal (fX11_refuse (-6) σ) (fun v3 σ2 => some (v3, σ2))
def fX11_piece (x1 : Int32) (x2 : Int32) (x3 : Int32) (x4 : Int32) (σ : St) : Option (Int32 × St) := cal (fX11_isIn x1 (σ 0 17) σ) (fun v6 σ5 => if v6 = 0 then (cal (fX11_refuse (-1) σ5) (fun v9 σ8 => some (v9, σ8))) else (cal (fX11_isIn x2 10 σ5) (fun v12 σ11 => if v12 = 0 then (cal (fX11_refuse (-1) σ11) (fun v37 σ36 => some (v37, σ36))) else (rd σ11 5 20 x1 (fun v13 => rd σ11 3 20 x1 (fun v14 => rd σ11 2 24 (4 * v14) (fun v15 => if v15 ≤ ((σ11 0 16) - v13) then (if x3 < 1 then (cal (fX11_refuse (-4) σ11) (fun v18 σ17 => some (v18, σ17))) else (if (10 : Int32) ≤ x4 then (if (40 : Int32) < x3 then (fX11_piece_b112   σ11) else (rd σ11 4 20 x1 (fun v19 => if v19 < x3 then (fX11_piece_b112   σ11) else (if (900 : Int32) < x4 then (fX11_piece_b112   σ11) else (if (σ11 0 18) = 80 then (fX11_piece_b112   σ11) else (rd σ11 4 20 x1 (fun v20 => wr σ11 4 20 x1 (v20 - x3) (fun σ21 => wr σ21 6 80 (σ21 0 18) x1 (fun σ22 => wr σ22 7 80 (σ22 0 18) x2 (fun σ23 => wr σ23 8 80 (σ23 0 18) x4 (fun σ24 => wr σ24 10 80 (σ24 0 18) (-9) (fun σ25 => wr σ25 11 80 (σ25 0 18) (-9) (fun σ26 => wr σ26 12 80 (σ26 0 18) (-9) (fun σ27 => pf σ27 0 18 ((σ27 0 18) + 1) (fun σ28 => some (((σ28 0 18) - 1), σ28)))))))))))))))) else (cal (fX11_refuse (-4) σ11) (fun v31 σ30 => some (v31, σ30))))) else (cal (fX11_refuse (-3) σ11) (fun v34 σ33 => some (v34, σ33))))))))))
def fX11_place_b84  (x1 : Int32) (x2 : Int32) (x3 : Int32) (s0 : Int32) (σ : St) : Option (Int32 × St) := if x2 = 0 then (wr σ 13 12 x1 x3 (fun σ2 => some (s0, σ2))) else (wr σ 14 12 x1 x3 (fun σ1 => some (s0, σ1)))
def fX11_place_b51  (x1 : Int32) (x2 : Int32) (x3 : Int32) (s0 : Int32) (σ : St) : Option (Int32 × St) := if s0 = 0 then (if x2 = 0 then (rd σ 13 12 x1 (fun v4 => fX11_place_b84  x1 x2 x3 v4 σ)) else (rd σ 14 12 x1 (fun v3 => fX11_place_b84  x1 x2 x3 v3 σ))) else (cal (fX11_refuse s0 σ) (fun v7 σ6 => some (v7, σ6)))
def fX11_place (x1 : Int32) (x2 : Int32) (x3 : Int32) (σ : St) : Option (Int32 × St) := cal (fX11_isIn x1 12 σ) (fun v10 σ9 => if v10 = 0 then (fX11_place_b51  x1 x2 x3 (-1) σ9) else (cal (fX11_isIn x2 2 σ9) (fun v13 σ12 => if v13 = 0 then (fX11_place_b51  x1 x2 x3 (-2) σ12) else (if x2 = 0 then (if x2 = 0 then (cal (fX11_wrong x3 1 40 σ12) (fun v25 σ24 => fX11_place_b51  x1 x2 x3 v25 σ24)) else (cal (fX11_wrong x3 1 200 σ12) (fun v22 σ21 => fX11_place_b51  x1 x2 x3 v22 σ21))) else (if x2 = 0 then (cal (fX11_wrong x3 0 40 σ12) (fun v19 σ18 => fX11_place_b51  x1 x2 x3 v19 σ18)) else (cal (fX11_wrong x3 0 200 σ12) (fun v16 σ15 => fX11_place_b51  x1 x2 x3 v16 σ15)))))))
def fX11_wood_b24  (x1 : Int32) (x2 : Int32) (σ : St) : Option (Int32 × St) := if x2 = 0 then (wr σ 16 48 (σ 0 19) x1 (fun σ1 => pf σ1 0 19 ((σ1 0 19) + 1) (fun σ2 => some ((σ2 0 19), σ2)))) else (cal (fX11_refuse x2 σ) (fun v5 σ4 => some (v5, σ4)))
def fX11_wood (x1 : Int32) (σ : St) : Option (Int32 × St) := cal (fX11_wrong x1 0 50 σ) (fun v8 σ7 => if v8 = 0 then (if (σ7 0 19) = 48 then (fX11_wood_b24  x1 (-6) σ7) else (fX11_wood_b24  x1 v8 σ7)) else (fX11_wood_b24  x1 v8 σ7))
def fX11_clear  (σ : St) : Option (Int32 × St) := pf σ 0 19 0 (fun σ1 => some ((σ 0 19), σ1))
def fX11_burns_b154 (k30 : Int32 → Int32 → St → Option (Int32 × St)) (k98 : Int32 → Int32 → Int32 → St → Option (Int32 × St)) (x1 : Int32) (x2 : Int32) (x3 : Int32) (s0 : Int32) (s1 : Int32) (σ : St) : Option (Int32 × St) := rd σ 18 12 x3 (fun v1 => wr σ 17 12 x3 (v1 + ((s0 + s1) / 10)) (fun σ2 => if x2 = 0 then (rd σ2 17 12 x3 (fun v6 => wr σ2 19 12 x3 v6 (fun σ7 => k98 x1 x2 (x3 + 1) σ7))) else (rd σ2 19 12 x3 (fun v3 => rd σ2 17 12 x3 (fun v4 => wr σ2 19 12 x3 (if v3 < v4 then v4 else v3) (fun σ5 => k98 x1 x2 (x3 + 1) σ5))))))
def fX11_burns_b127 (k30 : Int32 → Int32 → St → Option (Int32 × St)) (k98 : Int32 → Int32 → Int32 → St → Option (Int32 × St)) (x1 : Int32) (x2 : Int32) (x3 : Int32) (s0 : Int32) (σ : St) : Option (Int32 × St) := if (12 : Int32) ≤ (x3 + 1) then (fX11_burns_b154 k30 k98 x1 x2 x3 s0 0 σ) else (rd σ 18 12 (x3 + 1) (fun v8 => rd σ 18 12 x3 (fun v9 => fX11_burns_b154 k30 k98 x1 x2 x3 s0 (v8 - v9) σ)))
def fX11_burns_b98 (k30 : Int32 → Int32 → St → Option (Int32 × St)) : Nat → Int32 → Int32 → Int32 → St → Option (Int32 × St)
  | 0, _, _, _, _ => none
  | n + 1, x1, x2, x3, σ => if (12 : Int32) ≤ x3 then (k30 x1 (x2 + 1) σ) else (if x3 ≤ 0 then (fX11_burns_b127 k30 (fun a0 a1 a2 u => fX11_burns_b98 k30 n a0 a1 a2 u) x1 x2 x3 0 σ) else (rd σ 18 12 (x3 - 1) (fun v10 => rd σ 18 12 x3 (fun v11 => fX11_burns_b127 k30 (fun a0 a1 a2 u => fX11_burns_b98 k30 n a0 a1 a2 u) x1 x2 x3 (v10 - v11) σ))))
def fX11_burns_b37 (k30 : Int32 → Int32 → St → Option (Int32 × St)) : Nat → Int32 → Int32 → Int32 → St → Option (Int32 × St)
  | 0, _, _, _, _ => none
  | n + 1, x1, x2, x3, σ => if (12 : Int32) ≤ x3 then (fX11_burns_b98 k30 FU x1 x2 0 σ) else (rd σ 17 12 x3 (fun v12 => rd σ 13 12 x3 (fun v13 => rd σ 16 48 x2 (fun v14 => rd σ 17 12 x3 (fun v15 => rd σ 14 12 x3 (fun v16 => wr σ 18 12 x3 ((v12 + (v13 * v14)) - (((v15).toInt64 * (v16).toInt64) / 1000).toInt32) (fun σ17 => fX11_burns_b37 k30 n x1 x2 (x3 + 1) σ17)))))))
def fX11_burns_b30  : Nat → Int32 → Int32 → St → Option (Int32 × St)
  | 0, _, _, _ => none
  | n + 1, x1, x2, σ => if x1 ≤ x2 then (some (0, σ)) else (fX11_burns_b37 (fun a0 a1 u => fX11_burns_b30  n a0 a1 u) FU x1 x2 0 σ)
def fX11_burns_b2  : Nat → Int32 → Int32 → St → Option (Int32 × St)
  | 0, _, _, _ => none
  | n + 1, x1, x2, σ => if (12 : Int32) ≤ x2 then (fX11_burns_b30  FU x1 0 σ) else (wr σ 17 12 x2 0 (fun σ18 => wr σ18 19 12 x2 0 (fun σ19 => fX11_burns_b2  n x1 (x2 + 1) σ19)))
def fX11_burns (x1 : Int32) (σ : St) : Option (Int32 × St) := fX11_burns_b2  FU x1 0 σ
def fX11_peak (x1 : Int32) (σ : St) : Option (Int32 × St) := cal (fX11_isIn x1 12 σ) (fun v3 σ2 => if v3 = 0 then (cal (fX11_refuse (-1) σ2) (fun v10 σ9 => some (v10, σ9))) else (cal (fX11_burns (σ2 0 19) σ2) (fun _ σ5 => rd σ5 19 12 x1 (fun v7 => some (v7, σ5)))))
def fX11_heat_b22  (x1 : Int32) (x2 : Int32) (s0 : Int32) (σ : St) : Option (Int32 × St) := if s0 = 0 then (cal (fX11_burns x2 σ) (fun _ σ2 => rd σ2 17 12 x1 (fun v4 => some (v4, σ2)))) else (cal (fX11_refuse s0 σ) (fun v7 σ6 => some (v7, σ6)))
def fX11_heat (x1 : Int32) (x2 : Int32) (σ : St) : Option (Int32 × St) := cal (fX11_isIn x1 12 σ) (fun v10 σ9 => if v10 = 0 then (fX11_heat_b22  x1 x2 (-1) σ9) else (cal (fX11_wrong x2 0 (σ9 0 19) σ9) (fun v13 σ12 => fX11_heat_b22  x1 x2 v13 σ12)))
def fX11_isPiece (x1 : Int32) (σ : St) : Option (Int32 × St) := cal (fX11_isIn x1 (σ 0 18) σ) (fun v3 σ2 => zr v3 σ2)
def fX11_isWanted_b4  : Nat → Int32 → Int32 → Int32 → St → Option (Int32 × St)
  | 0, _, _, _, _ => none
  | n + 1, x1, x2, x3, σ => if (σ 0 21) ≤ x3 then (zr x2 σ) else (if x2 = 0 then (rd σ 20 8 x3 (fun v1 => if v1 = x1 then (fX11_isWanted_b4  n x1 1 (x3 + 1) σ) else (fX11_isWanted_b4  n x1 0 (x3 + 1) σ))) else (fX11_isWanted_b4  n x1 1 (x3 + 1) σ))
def fX11_isWanted (x1 : Int32) (σ : St) : Option (Int32 × St) := fX11_isWanted_b4  FU x1 0 0 σ
def fX11_stack_b58   (σ : St) : Option (Int32 × St) := cal (fX11_refuse (-3) σ) (fun v3 σ2 => some (v3, σ2))
def fX11_stack (x1 : Int32) (x2 : Int32) (σ : St) : Option (Int32 × St) := cal (fX11_isPiece x1 σ) (fun v6 σ5 => if v6 = 0 then (cal (fX11_refuse (-1) σ5) (fun v9 σ8 => some (v9, σ8))) else (cal (fX11_isIn x2 12 σ5) (fun v12 σ11 => if v12 = 0 then (cal (fX11_refuse (-1) σ11) (fun v23 σ22 => some (v23, σ22))) else (rd σ11 9 80 x1 (fun v13 => if v13 = 0 then (rd σ11 10 80 x1 (fun v14 => if (0 : Int32) ≤ v14 then (fX11_stack_b58   σ11) else (cal (fX11_isWanted x1 σ11) (fun v17 σ16 => if v17 = 0 then (rd σ16 15 12 x2 (fun v18 => if v18 < 0 then (wr σ16 15 12 x2 x1 (fun σ19 => wr σ19 10 80 x1 x2 (fun σ20 => some (1, σ20)))) else (fX11_stack_b58   σ16))) else (fX11_stack_b58   σ16))))) else (fX11_stack_b58   σ11))))))
def fX11_takes (x1 : Int32) (σ : St) : Option (Int32 × St) := rd σ 15 12 x1 (fun v1 => wr σ 15 12 x1 (-9) (fun σ2 => wr σ2 10 80 v1 (-9) (fun σ3 => some (v1, σ3))))
def fX11_unstack (x1 : Int32) (σ : St) : Option (Int32 × St) := cal (fX11_isIn x1 12 σ) (fun v3 σ2 => if v3 = 0 then (cal (fX11_refuse (-1) σ2) (fun v13 σ12 => some (v13, σ12))) else (rd σ2 15 12 x1 (fun v4 => if (0 : Int32) ≤ v4 then (cal (fX11_takes x1 σ2) (fun v7 σ6 => some (v7, σ6))) else (cal (fX11_refuse (-3) σ2) (fun v10 σ9 => some (v10, σ9))))))
def fX11_pasteOf (x1 : Int32) (x2 : Int32) (σ : St) : Option (Int32 × St) := rd σ 6 80 x1 (fun v1 => rd σ 3 20 v1 (fun v2 => rd σ 2 24 ((4 * v2) + x2) (fun v3 => some (v3, σ))))
def fX11_bears (x1 : Int32) (x2 : Int32) (σ : St) : Option (Int32 × St) := rd σ 19 12 x2 (fun v1 => cal (fX11_pasteOf x1 2 σ) (fun v4 σ3 => if v1 < v4 then (zr 0 σ3) else (rd σ3 19 12 x2 (fun v5 => cal (fX11_pasteOf x1 3 σ3) (fun v8 σ7 => if v8 < v5 then (zr 0 σ7) else (zr 1 σ7))))))
def fX11_fire_b184  : Nat → Int32 → Int32 → St → Option (Int32 × St)
  | 0, _, _, _ => none
  | n + 1, x1, x2, σ => if (σ 0 19) ≤ x2 then (pf σ 0 19 0 (fun σ1 => cal (fX11_goes 2 σ1) (fun _ σ3 => some (x1, σ3)))) else (rd σ 16 48 x2 (fun v5 => pf σ 0 20 ((σ 0 20) + v5) (fun σ6 => fX11_fire_b184  n x1 (x2 + 1) σ6)))
def fX11_fire_b45  : Nat → Int32 → Int32 → St → Option (Int32 × St)
  | 0, _, _, _ => none
  | n + 1, x1, x2, σ => if (12 : Int32) ≤ x2 then (fX11_fire_b184  FU x1 0 σ) else (rd σ 15 12 x2 (fun v7 => if (0 : Int32) ≤ v7 then (cal (fX11_takes x2 σ) (fun v10 σ9 => rd σ9 19 12 x2 (fun v11 => wr σ9 11 80 v10 v11 (fun σ12 => cal (fX11_bears v10 x2 σ12) (fun v15 σ14 => if v15 = 0 then (wr σ14 9 80 v10 3 (fun σ31 => fX11_fire_b45  n x1 (x2 + 1) σ31)) else (wr σ14 9 80 v10 1 (fun σ16 => rd σ16 8 80 v10 (fun v17 => rd σ16 8 80 v10 (fun v18 => cal (fX11_pasteOf v10 1 σ16) (fun v21 σ20 => wr σ20 8 80 v10 (v17 - ((v18 * v21) / 1000)) (fun σ22 => rd σ22 19 12 x2 (fun v23 => cal (fX11_pasteOf v10 2 σ22) (fun v26 σ25 => cal (fX11_pasteOf v10 3 σ25) (fun v29 σ28 => wr σ28 12 80 v10 (if 0 < (100 - ((if 0 ≤ (v23 - ((v26 + v29) / 2)) then (v23 - ((v26 + v29) / 2)) else 0 - (v23 - ((v26 + v29) / 2))) / 5)) then (100 - ((if 0 ≤ (v23 - ((v26 + v29) / 2)) then (v23 - ((v26 + v29) / 2)) else 0 - (v23 - ((v26 + v29) / 2))) / 5)) else 0) (fun σ30 => fX11_fire_b45  n (x1 + 1) (x2 + 1) σ30))))))))))))))) else (fX11_fire_b45  n x1 (x2 + 1) σ)))
def fX11_fire  (σ : St) : Option (Int32 × St) := if (σ 0 19) = 0 then (cal (fX11_refuse (-3) σ) (fun v40 σ39 => some (v40, σ39))) else (if ((σ 0 16) + 2) ≤ 4000 then (cal (fX11_burns (σ 0 19) σ) (fun _ σ33 => fX11_fire_b45  FU 0 0 σ33)) else (cal (fX11_refuse (-6) σ) (fun v37 σ36 => some (v37, σ36))))
def fX11_want_b72  (x1 : Int32) (x2 : Int32) (x3 : Int32) (σ : St) : Option (Int32 × St) := if x3 = 0 then (wr σ 20 8 (σ 0 21) x1 (fun σ1 => wr σ1 21 8 (σ1 0 21) x2 (fun σ2 => pf σ2 0 21 ((σ2 0 21) + 1) (fun σ3 => some ((σ3 0 21), σ3))))) else (cal (fX11_refuse x3 σ) (fun v6 σ5 => some (v6, σ5)))
def fX11_want_b40   (σ : St) : Option (Int32 × St) := cal (fX11_refuse (-3) σ) (fun v9 σ8 => some (v9, σ8))
def fX11_want (x1 : Int32) (x2 : Int32) (σ : St) : Option (Int32 × St) := cal (fX11_isPiece x1 σ) (fun v12 σ11 => if v12 = 0 then (cal (fX11_refuse (-1) σ11) (fun v23 σ22 => some (v23, σ22))) else (rd σ11 9 80 x1 (fun v13 => if v13 = 0 then (rd σ11 10 80 x1 (fun v14 => if (0 : Int32) ≤ v14 then (fX11_want_b40   σ11) else (cal (fX11_isWanted x1 σ11) (fun v17 σ16 => if v17 = 0 then (cal (fX11_wrong x2 1 999 σ16) (fun v20 σ19 => if v20 = 0 then (if (σ19 0 21) = 8 then (fX11_want_b72  x1 x2 (-6) σ19) else (fX11_want_b72  x1 x2 v20 σ19)) else (fX11_want_b72  x1 x2 v20 σ19))) else (fX11_want_b40   σ16))))) else (fX11_want_b40   σ11))))
def fX11_mayLie (x1 : Int32) (x2 : Int32) (x3 : Int32) (σ : St) : Option (Int32 × St) := if ((x3 >>> (x2 &&& 31)) &&& 1) = 0 then (rd σ 15 12 x2 (fun v1 => if (0 : Int32) ≤ v1 then (zr 0 σ) else (rd σ 20 8 x1 (fun v2 => cal (fX11_bears v2 x2 σ) (fun v5 σ4 => if v5 = 0 then (zr 0 σ4) else (zr 1 σ4)))))) else (zr 0 σ)
def fX11_finds_b254 (k157 : Int32 → Int32 → Int32 → St → Option (Int32 × St)) (x1 : Int32) (x2 : Int32) (x3 : Int32) (σ : St) : Option (Int32 × St) := rd σ 23 8 x3 (fun v1 => if v1 < 0 then (k157 x1 x2 (x3 + 1) σ) else (rd σ 23 8 x3 (fun v2 => lt (x2 ||| ((1 : Int32) <<< (v2 &&& 31))) (fun v3 => k157 x1 v3 (x3 + 1) σ))))
def fX11_finds_b176 (k157 : Int32 → Int32 → Int32 → St → Option (Int32 × St)) : Nat → Int32 → Int32 → Int32 → Int32 → St → Option (Int32 × St)
  | 0, _, _, _, _, _ => none
  | n + 1, x1, x2, x3, x4, σ => if (12 : Int32) ≤ x4 then (fX11_finds_b254 k157 x1 x2 x3 σ) else (rd σ 23 8 x3 (fun v4 => if (0 : Int32) ≤ v4 then (fX11_finds_b254 k157 x1 x2 x3 σ) else (cal (fX11_mayLie x3 x4 x2 σ) (fun v7 σ6 => if v7 = 0 then (fX11_finds_b176 k157 n x1 x2 x3 (x4 + 1) σ6) else (rd σ6 21 8 x3 (fun v8 => rd σ6 22 36864 ((x1 * (x3 + 1)) + (x2 ||| ((1 : Int32) <<< (x4 &&& 31)))) (fun v9 => rd σ6 22 36864 ((x1 * x3) + x2) (fun v10 => if (v8 + v9) = v10 then (wr σ6 23 8 x3 x4 (fun σ11 => fX11_finds_b176 k157 n x1 x2 x3 (x4 + 1) σ11)) else (fX11_finds_b176 k157 n x1 x2 x3 (x4 + 1) σ6)))))))))
def fX11_finds_b157  : Nat → Int32 → Int32 → Int32 → St → Option (Int32 × St)
  | 0, _, _, _, _ => none
  | n + 1, x1, x2, x3, σ => if (σ 0 21) ≤ x3 then (rd σ 22 36864 0 (fun v12 => some (v12, σ))) else (wr σ 23 8 x3 (-9) (fun σ13 => fX11_finds_b176 (fun a0 a1 a2 u => fX11_finds_b157  n a0 a1 a2 u) FU x1 x2 x3 0 σ13))
def fX11_finds_b74 (k46 : Int32 → Int32 → St → Option (Int32 × St)) (k52 : Int32 → Int32 → Int32 → St → Option (Int32 × St)) : Nat → Int32 → Int32 → Int32 → Int32 → Int32 → St → Option (Int32 × St)
  | 0, _, _, _, _, _, _ => none
  | n + 1, x1, x2, x3, x4, x5, σ => if (12 : Int32) ≤ x5 then (wr σ 22 36864 ((x1 * x2) + x3) x4 (fun σ14 => k52 x1 x2 (x3 + 1) σ14)) else (cal (fX11_mayLie x2 x5 x3 σ) (fun v17 σ16 => if v17 = 0 then (fX11_finds_b74 k46 k52 n x1 x2 x3 x4 (x5 + 1) σ16) else (rd σ16 21 8 x2 (fun v18 => rd σ16 22 36864 ((x1 * (x2 + 1)) + (x3 ||| ((1 : Int32) <<< (x5 &&& 31)))) (fun v19 => lt (if x4 < (v18 + v19) then (v18 + v19) else x4) (fun v20 => fX11_finds_b74 k46 k52 n x1 x2 x3 v20 (x5 + 1) σ16))))))
def fX11_finds_b52 (k46 : Int32 → Int32 → St → Option (Int32 × St)) : Nat → Int32 → Int32 → Int32 → St → Option (Int32 × St)
  | 0, _, _, _, _ => none
  | n + 1, x1, x2, x3, σ => if x1 ≤ x3 then (k46 x1 (x2 + (-1)) σ) else (rd σ 22 36864 ((x1 * (x2 + 1)) + x3) (fun v21 => fX11_finds_b74 k46 (fun a0 a1 a2 u => fX11_finds_b52 k46 n a0 a1 a2 u) FU x1 x2 x3 v21 0 σ))
def fX11_finds_b46  : Nat → Int32 → Int32 → St → Option (Int32 × St)
  | 0, _, _, _ => none
  | n + 1, x1, x2, σ => if x2 < 0 then (fX11_finds_b157  FU x1 0 0 σ) else (fX11_finds_b52 (fun a0 a1 u => fX11_finds_b46  n a0 a1 u) FU x1 x2 0 σ)
def fX11_finds_b14  : Nat → Int32 → Int32 → St → Option (Int32 × St)
  | 0, _, _, _ => none
  | n + 1, x1, x2, σ => if x1 ≤ x2 then (fX11_finds_b46  FU x1 ((σ 0 21) - 1) σ) else (wr σ 22 36864 ((x1 * (σ 0 21)) + x2) 0 (fun σ22 => fX11_finds_b14  n x1 (x2 + 1) σ22))
def fX11_finds  (σ : St) : Option (Int32 × St) := cal (fX11_burns (σ 0 19) σ) (fun _ σ24 => fX11_finds_b14  FU 4096 0 σ24)
def fX11_best  (σ : St) : Option (Int32 × St) := cal (fX11_finds  σ) (fun v3 σ2 => some (v3, σ2))
def fX11_bestPlace (x1 : Int32) (σ : St) : Option (Int32 × St) := cal (fX11_isIn x1 (σ 0 21) σ) (fun v3 σ2 => if v3 = 0 then (cal (fX11_refuse (-1) σ2) (fun v10 σ9 => some (v10, σ9))) else (cal (fX11_finds  σ2) (fun v6 σ5 => rd σ5 23 8 x1 (fun v7 => some (v7, σ5)))))
def fX11_lay_b9  : Nat → Int32 → Int32 → St → Option (Int32 × St)
  | 0, _, _, _ => none
  | n + 1, x2, x3, σ => if (σ 0 21) ≤ x3 then (pf σ 0 21 0 (fun σ1 => some (x2, σ1))) else (rd σ 23 8 x3 (fun v2 => if (0 : Int32) ≤ v2 then (rd σ 23 8 x3 (fun v3 => rd σ 20 8 x3 (fun v4 => wr σ 15 12 v3 v4 (fun σ5 => rd σ5 20 8 x3 (fun v6 => rd σ5 23 8 x3 (fun v7 => wr σ5 10 80 v6 v7 (fun σ8 => fX11_lay_b9  n (x2 + 1) (x3 + 1) σ8))))))) else (fX11_lay_b9  n x2 (x3 + 1) σ)))
def fX11_lay  (σ : St) : Option (Int32 × St) := cal (fX11_finds  σ) (fun v11 σ10 => fX11_lay_b9  FU 0 0 σ10)
def fX11_colour (x1 : Int32) (x2 : Int32) (x3 : Int32) (σ : St) : Option (Int32 × St) := cal (fX11_isIn x1 12 σ) (fun v3 σ2 => if v3 = 0 then (cal (fX11_refuse (-1) σ2) (fun v17 σ16 => some (v17, σ16))) else (if x2 < 0 then (cal (fX11_refuse (-4) σ2) (fun v6 σ5 => some (v6, σ5))) else (if x2 ≤ x3 then (if x3 ≤ 1000 then (wr σ2 24 12 x1 x2 (fun σ7 => wr σ7 25 12 x1 x3 (fun σ8 => some (1, σ8)))) else (cal (fX11_refuse (-6) σ2) (fun v11 σ10 => some (v11, σ10)))) else (cal (fX11_refuse (-4) σ2) (fun v14 σ13 => some (v14, σ13))))))
def fX11_firesOf_b54 (k4 : Int32 → Int32 → St → Option (Int32 × St)) : Nat → Int32 → Int32 → Int32 → Int32 → St → Option (Int32 × St)
  | 0, _, _, _, _, _ => none
  | n + 1, x2, x3, x4, x5, σ => if (12 : Int32) ≤ x5 then (wr σ 26 12 x3 x4 (fun σ1 => k4 x2 (x3 + 1) σ1)) else (if ((x2 >>> (x5 &&& 31)) &&& 1) = 1 then (rd σ 25 12 x5 (fun v2 => if v2 < x4 then (fX11_firesOf_b54 k4 n x2 x3 x4 (x5 + 1) σ) else (lt (x2 &&& (((1 : Int32) <<< (x5 &&& 31)) ^^^ (-1))) (fun v3 => fX11_firesOf_b54 k4 n v3 x3 x4 (x5 + 1) σ)))) else (fX11_firesOf_b54 k4 n x2 x3 x4 (x5 + 1) σ))
def fX11_firesOf_b14 (k4 : Int32 → Int32 → St → Option (Int32 × St)) : Nat → Int32 → Int32 → Int32 → Int32 → St → Option (Int32 × St)
  | 0, _, _, _, _, _ => none
  | n + 1, x2, x3, x4, x5, σ => if (12 : Int32) ≤ x5 then (fX11_firesOf_b54 k4 FU x2 x3 x4 0 σ) else (if ((x2 >>> (x5 &&& 31)) &&& 1) = 1 then (rd σ 24 12 x5 (fun v4 => lt (if x4 < v4 then v4 else x4) (fun v5 => fX11_firesOf_b14 k4 n x2 x3 v5 (x5 + 1) σ))) else (fX11_firesOf_b14 k4 n x2 x3 x4 (x5 + 1) σ))
def fX11_firesOf_b4  : Nat → Int32 → Int32 → St → Option (Int32 × St)
  | 0, _, _, _ => none
  | n + 1, x2, x3, σ => if x2 = 0 then (some (x3, σ)) else (fX11_firesOf_b14 (fun a0 a1 u => fX11_firesOf_b4  n a0 a1 u) FU x2 x3 (-1) 0 σ)
def fX11_firesOf (x1 : Int32) (σ : St) : Option (Int32 × St) := fX11_firesOf_b4  FU x1 0 σ
def fX11_fires (x1 : Int32) (σ : St) : Option (Int32 × St) := if x1 < 0 then (cal (fX11_refuse (-1) σ) (fun v3 σ2 => some (v3, σ2))) else (if x1 < 4096 then (cal (fX11_firesOf x1 σ) (fun v6 σ5 => some (v6, σ5))) else (cal (fX11_refuse (-1) σ) (fun v9 σ8 => some (v9, σ8))))
def fX11_fireHeat_b23   (σ : St) : Option (Int32 × St) := cal (fX11_refuse (-1) σ) (fun v3 σ2 => some (v3, σ2))
def fX11_fireHeat (x1 : Int32) (x2 : Int32) (σ : St) : Option (Int32 × St) := if x1 < 0 then (fX11_fireHeat_b23   σ) else (if (4096 : Int32) ≤ x1 then (fX11_fireHeat_b23   σ) else (cal (fX11_firesOf x1 σ) (fun v6 σ5 => cal (fX11_isIn x2 v6 σ5) (fun v9 σ8 => if v9 = 0 then (fX11_fireHeat_b23   σ8) else (rd σ8 26 12 x2 (fun v10 => some (v10, σ8)))))))
def fX11_skill_b19  (x1 : Int32) (x2 : Int32) (s0 : Int32) (σ : St) : Option (Int32 × St) := if s0 = 0 then (rd σ 27 3 x1 (fun v1 => wr σ 27 3 x1 x2 (fun σ2 => some (v1, σ2)))) else (cal (fX11_refuse s0 σ) (fun v5 σ4 => some (v5, σ4)))
def fX11_skill (x1 : Int32) (x2 : Int32) (σ : St) : Option (Int32 × St) := cal (fX11_isIn x1 3 σ) (fun v8 σ7 => if v8 = 0 then (fX11_skill_b19  x1 x2 (-1) σ7) else (cal (fX11_wrong x2 1 20 σ7) (fun v11 σ10 => fX11_skill_b19  x1 x2 v11 σ10)))
def fX11_job_b25  (x1 : Int32) (x2 : Int32) (σ : St) : Option (Int32 × St) := if x2 = 0 then (wr σ 28 8 (σ 0 22) x1 (fun σ1 => pf σ1 0 22 ((σ1 0 22) + 1) (fun σ2 => some (((σ2 0 22) - 1), σ2)))) else (cal (fX11_refuse x2 σ) (fun v5 σ4 => some (v5, σ4)))
def fX11_job (x1 : Int32) (σ : St) : Option (Int32 × St) := cal (fX11_wrong x1 1 500 σ) (fun v8 σ7 => if v8 = 0 then (if (σ7 0 22) = 8 then (fX11_job_b25  x1 (-6) σ7) else (fX11_job_b25  x1 v8 σ7)) else (fX11_job_b25  x1 v8 σ7))
def fX11_leastOf_b172 (k26 : Int32 → Int32 → Int32 → St → Option (Int32 × St)) : Nat → Int32 → Int32 → Int32 → Int32 → Int32 → St → Option (Int32 × St)
  | 0, _, _, _, _, _, _ => none
  | n + 1, x1, x2, x3, x4, x6, σ => if (σ 0 22) ≤ x6 then (k26 x1 x2 (x3 + 1) σ) else (nz (x4 / 3) (wr σ 29 8 x6 ((x3 / (x4 / 3)) - (x3 / (x4 / 3)) / 3 * 3) (fun σ1 => fX11_leastOf_b172 k26 n x1 x2 x3 (x4 / 3) (x6 + 1) σ1)))
def fX11_leastOf_b60 (k26 : Int32 → Int32 → Int32 → St → Option (Int32 × St)) : Nat → Int32 → Int32 → Int32 → Int32 → Int32 → St → Option (Int32 × St)
  | 0, _, _, _, _, _, _ => none
  | n + 1, x1, x2, x3, x4, x5, σ => if (σ 0 22) ≤ x5 then (rd σ 30 3 0 (fun v2 => rd σ 30 3 1 (fun v3 => rd σ 30 3 2 (fun v4 => lt (if v2 < (if v3 < v4 then v4 else v3) then (if v3 < v4 then v4 else v3) else v2) (fun v5 => if x2 < 0 then (fX11_leastOf_b172 k26 FU x1 v5 x3 x1 0 σ) else (if v5 < x2 then (fX11_leastOf_b172 k26 FU x1 v5 x3 x1 0 σ) else (k26 x1 x2 (x3 + 1) σ))))))) else (nz (x4 / 3) (lt ((x3 / (x4 / 3)) - (x3 / (x4 / 3)) / 3 * 3) (fun v6 => rd σ 30 3 v6 (fun v7 => rd σ 28 8 x5 (fun v8 => rd σ 27 3 v6 (fun v9 => rd σ 27 3 v6 (fun v10 => nz v10 (wr σ 30 3 v6 (v7 + (((v8 + v9) - 1) / v10)) (fun σ11 => fX11_leastOf_b60 k26 n x1 x2 x3 (x4 / 3) (x5 + 1) σ11)))))))))
def fX11_leastOf_b34 (k26 : Int32 → Int32 → Int32 → St → Option (Int32 × St)) : Nat → Int32 → Int32 → Int32 → Int32 → St → Option (Int32 × St)
  | 0, _, _, _, _, _ => none
  | n + 1, x1, x2, x3, x4, σ => if (3 : Int32) ≤ x4 then (fX11_leastOf_b60 k26 FU x1 x2 x3 x1 0 σ) else (wr σ 30 3 x4 0 (fun σ12 => fX11_leastOf_b34 k26 n x1 x2 x3 (x4 + 1) σ12))
def fX11_leastOf_b26  : Nat → Int32 → Int32 → Int32 → St → Option (Int32 × St)
  | 0, _, _, _, _ => none
  | n + 1, x1, x2, x3, σ => if x1 ≤ x3 then (some (x2, σ)) else (fX11_leastOf_b34 (fun a0 a1 a2 u => fX11_leastOf_b26  n a0 a1 a2 u) FU x1 x2 x3 0 σ)
def fX11_leastOf_b4  : Nat → Int32 → Int32 → St → Option (Int32 × St)
  | 0, _, _, _ => none
  | n + 1, x1, x2, σ => if (σ 0 22) ≤ x2 then (fX11_leastOf_b26  FU x1 (-1) 0 σ) else (fX11_leastOf_b4  n (x1 * 3) (x2 + 1) σ)
def fX11_leastOf  (σ : St) : Option (Int32 × St) := fX11_leastOf_b4  FU 1 0 σ
def fX11_least  (σ : St) : Option (Int32 × St) := cal (fX11_leastOf  σ) (fun v3 σ2 => some (v3, σ2))
def fX11_painter (x1 : Int32) (σ : St) : Option (Int32 × St) := cal (fX11_isIn x1 (σ 0 22) σ) (fun v3 σ2 => if v3 = 0 then (some ((-9), σ2)) else (cal (fX11_leastOf  σ2) (fun v6 σ5 => rd σ5 29 8 x1 (fun v7 => some (v7, σ5)))))
def fX11_paint (x1 : Int32) (σ : St) : Option (Int32 × St) := cal (fX11_isPiece x1 σ) (fun v3 σ2 => if v3 = 0 then (cal (fX11_refuse (-1) σ2) (fun v11 σ10 => some (v11, σ10))) else (rd σ2 9 80 x1 (fun v4 => if v4 = 1 then (wr σ2 9 80 x1 2 (fun σ5 => some (1, σ5))) else (cal (fX11_refuse (-3) σ2) (fun v8 σ7 => some (v8, σ7))))))
def fX11_wrongService (x1 : Int32) (x2 : Int32) (x3 : Int32) (σ : St) : Option (Int32 × St) := cal (fX11_isIn x1 10 σ) (fun v3 σ2 => if v3 = 0 then (some ((-1), σ2)) else (if x2 < 1 then (some ((-4), σ2)) else (if (0 : Int32) ≤ x3 then (if (12 : Int32) < x2 then (some ((-6), σ2)) else (if x3 ≤ 100 then (some (0, σ2)) else (some ((-6), σ2)))) else (some ((-4), σ2)))))
def fX11_isWhole (x1 : Int32) (x2 : Int32) (σ : St) : Option (Int32 × St) := rd σ 7 80 x1 (fun v1 => if v1 = x2 then (rd σ 9 80 x1 (fun v2 => if v2 = 1 then (zr 1 σ) else (rd σ 9 80 x1 (fun v3 => if v3 = 2 then (zr 1 σ) else (zr 0 σ))))) else (zr 0 σ))
def fX11_matches_b196 (k7 : Int32 → Int32 → Int32 → Int32 → Int32 → St → Option (Int32 × St)) : Nat → Int32 → Int32 → Int32 → Int32 → Int32 → Int32 → St → Option (Int32 × St)
  | 0, _, _, _, _, _, _, _ => none
  | n + 1, x1, x2, x3, x4, x5, x9, σ => if (σ 0 18) ≤ x9 then (k7 x1 x2 x3 x4 (x5 + 1) σ) else (rd σ 32 80 x9 (fun v1 => wb σ 31 80 x9 v1 (fun σ2 => fX11_matches_b196 k7 n x1 x2 x3 x4 x5 (x9 + 1) σ2)))
def fX11_matches_b163 (k7 : Int32 → Int32 → Int32 → Int32 → Int32 → St → Option (Int32 × St)) (x1 : Int32) (x2 : Int32) (x3 : Int32) (x4 : Int32) (x5 : Int32) (x6 : Int32) (x7 : Int32) (x8 : Int32) (σ : St) : Option (Int32 × St) := if x7 < x2 then (k7 x1 x2 x3 x4 (x5 + 1) σ) else (if x8 = 0 then (k7 x1 x2 x3 x4 (x5 + 1) σ) else (if x4 < 0 then (fX11_matches_b196 k7 FU x1 x2 x3 x6 x5 0 σ) else (if x6 < x4 then (fX11_matches_b196 k7 FU x1 x2 x3 x6 x5 0 σ) else (k7 x1 x2 x3 x4 (x5 + 1) σ))))
def fX11_matches_b71 (k7 : Int32 → Int32 → Int32 → Int32 → Int32 → St → Option (Int32 × St)) (k53 : Int32 → Int32 → Int32 → Int32 → Int32 → Int32 → Int32 → Int32 → Int32 → St → Option (Int32 × St)) : Nat → Int32 → Int32 → Int32 → Int32 → Int32 → Int32 → Int32 → Int32 → Int32 → Int32 → St → Option (Int32 × St)
  | 0, _, _, _, _, _, _, _, _, _, _, _ => none
  | n + 1, x1, x2, x3, x4, x5, x6, x7, x8, x9, x10, σ => if (σ 0 18) ≤ x10 then (k53 x1 x2 x3 x4 x5 x6 x7 x8 (x9 + (-1)) σ) else (if x2 ≤ x7 then (k53 x1 x2 x3 x4 x5 x6 x7 x8 (x9 + (-1)) σ) else (cal (fX11_isWhole x10 x1 σ) (fun v5 σ4 => if v5 = 0 then (fX11_matches_b71 k7 k53 n x1 x2 x3 x4 x5 x6 x7 x8 x9 (x10 + 1) σ4) else (rd σ4 12 80 x10 (fun v6 => if v6 = x9 then (wb σ4 32 80 x10 1 (fun σ7 => lt (x6 + (100 - x9)) (fun v8 => if x8 = 0 then (if x9 = x5 then (fX11_matches_b71 k7 k53 n x1 x2 x3 x4 x5 v8 (x7 + 1) 1 x9 (x10 + 1) σ7) else (fX11_matches_b71 k7 k53 n x1 x2 x3 x4 x5 v8 (x7 + 1) 0 x9 (x10 + 1) σ7)) else (fX11_matches_b71 k7 k53 n x1 x2 x3 x4 x5 v8 (x7 + 1) 1 x9 (x10 + 1) σ7)))) else (fX11_matches_b71 k7 k53 n x1 x2 x3 x4 x5 x6 x7 x8 x9 (x10 + 1) σ4))))))
def fX11_matches_b53 (k7 : Int32 → Int32 → Int32 → Int32 → Int32 → St → Option (Int32 × St)) : Nat → Int32 → Int32 → Int32 → Int32 → Int32 → Int32 → Int32 → Int32 → Int32 → St → Option (Int32 × St)
  | 0, _, _, _, _, _, _, _, _, _, _ => none
  | n + 1, x1, x2, x3, x4, x5, x6, x7, x8, x9, σ => if x9 < (x5 - x3) then (fX11_matches_b163 k7 x1 x2 x3 x4 x5 x6 x7 x8 σ) else (if x2 ≤ x7 then (fX11_matches_b163 k7 x1 x2 x3 x4 x5 x6 x7 x8 σ) else (fX11_matches_b71 k7 (fun a0 a1 a2 a3 a4 a5 a6 a7 a8 u => fX11_matches_b53 k7 n a0 a1 a2 a3 a4 a5 a6 a7 a8 u) FU x1 x2 x3 x4 x5 x6 x7 x8 x9 0 σ))
def fX11_matches_b26 (k7 : Int32 → Int32 → Int32 → Int32 → Int32 → St → Option (Int32 × St)) : Nat → Int32 → Int32 → Int32 → Int32 → Int32 → Int32 → Int32 → Int32 → Int32 → St → Option (Int32 × St)
  | 0, _, _, _, _, _, _, _, _, _, _ => none
  | n + 1, x1, x2, x3, x4, x5, x6, x7, x8, x9, σ => if (σ 0 18) ≤ x9 then (fX11_matches_b53 k7 FU x1 x2 x3 x4 x5 x6 x7 x8 x5 σ) else (wb σ 32 80 x9 0 (fun σ9 => fX11_matches_b26 k7 n x1 x2 x3 x4 x5 x6 x7 x8 (x9 + 1) σ9))
def fX11_matches_b7  : Nat → Int32 → Int32 → Int32 → Int32 → Int32 → St → Option (Int32 × St)
  | 0, _, _, _, _, _, _ => none
  | n + 1, x1, x2, x3, x4, x5, σ => if (100 : Int32) < x5 then (some (x4, σ)) else (fX11_matches_b26 (fun a0 a1 a2 a3 a4 u => fX11_matches_b7  n a0 a1 a2 a3 a4 u) FU x1 x2 x3 x4 x5 0 0 0 0 σ)
def fX11_matches (x1 : Int32) (x2 : Int32) (x3 : Int32) (σ : St) : Option (Int32 × St) := fX11_matches_b7  FU x1 x2 x3 (-9) 0 σ
def fX11_service (x1 : Int32) (x2 : Int32) (x3 : Int32) (σ : St) : Option (Int32 × St) := cal (fX11_wrongService x1 x2 x3 σ) (fun v3 σ2 => if v3 = 0 then (cal (fX11_matches x1 x2 x3 σ2) (fun v6 σ5 => some (v6, σ5))) else (cal (fX11_refuse v3 σ2) (fun v9 σ8 => some (v9, σ8))))
def fX11_matched_b45  : Nat → Int32 → Int32 → Int32 → St → Option (Int32 × St)
  | 0, _, _, _, _ => none
  | n + 1, x4, x6, x7, σ => if (σ 0 18) ≤ x7 then (some ((-9), σ)) else (rd σ 31 80 x7 (fun v1 => if v1 = 0 then (fX11_matched_b45  n x4 x6 (x7 + 1) σ) else (if x6 = x4 then (some (x7, σ)) else (fX11_matched_b45  n x4 (x6 + 1) (x7 + 1) σ))))
def fX11_matched (x1 : Int32) (x2 : Int32) (x3 : Int32) (x4 : Int32) (σ : St) : Option (Int32 × St) := cal (fX11_wrongService x1 x2 x3 σ) (fun v4 σ3 => if v4 = 0 then (cal (fX11_matches x1 x2 x3 σ3) (fun v7 σ6 => if v7 < 0 then (some ((-9), σ6)) else (if (0 : Int32) ≤ x4 then (fX11_matched_b45  FU x4 0 0 σ6) else (some ((-9), σ6))))) else (cal (fX11_refuse v4 σ3) (fun v10 σ9 => some (v10, σ9))))
def fX11_sell_b43  : Nat → Int32 → Int32 → St → Option (Int32 × St)
  | 0, _, _, _ => none
  | n + 1, x2, x5, σ => if (σ 0 18) ≤ x5 then (some (x2, σ)) else (rd σ 31 80 x5 (fun v1 => if v1 = 0 then (fX11_sell_b43  n x2 (x5 + 1) σ) else (wr σ 9 80 x5 4 (fun σ2 => fX11_sell_b43  n x2 (x5 + 1) σ2))))
def fX11_sell_b28  (x2 : Int32) (x4 : Int32) (σ : St) : Option (Int32 × St) := if x4 = 0 then (fX11_sell_b43  FU x2 0 σ) else (cal (fX11_refuse x4 σ) (fun v5 σ4 => some (v5, σ4)))
def fX11_sell (x1 : Int32) (x2 : Int32) (x3 : Int32) (σ : St) : Option (Int32 × St) := cal (fX11_wrongService x1 x2 x3 σ) (fun v8 σ7 => if v8 = 0 then (cal (fX11_matches x1 x2 x3 σ7) (fun v11 σ10 => if (0 : Int32) ≤ v11 then (fX11_sell_b28  x2 v8 σ10) else (fX11_sell_b28  x2 (-3) σ10))) else (fX11_sell_b28  x2 v8 σ7))
def fX11_begins_b2  : Nat → Int32 → St → Option (Int32 × St)
  | 0, _, _ => none
  | n + 1, x1, σ => if (202 : Int32) ≤ x1 then (wr σ 33 202 0 1048576 (fun σ1 => some (0, σ1))) else (wr σ 33 202 x1 0 (fun σ2 => fX11_begins_b2  n (x1 + 1) σ2))
def fX11_begins  (σ : St) : Option (Int32 × St) := fX11_begins_b2  FU 0 σ
def fX11_oneMore_b42 (k4 : Int32 → Int32 → St → Option (Int32 × St)) (x1 : Int32) (x2 : Int32) (s0 : Int64) (s1 : Int64) (σ : St) : Option (Int32 × St) := wr σ 33 202 x2 ((s0 + s1) / 1024).toInt32 (fun σ1 => k4 x1 (x2 + (-1)) σ1)
def fX11_oneMore_b4  : Nat → Int32 → Int32 → St → Option (Int32 × St)
  | 0, _, _, _ => none
  | n + 1, x1, x2, σ => if x2 < 0 then (some (0, σ)) else (rd σ 33 202 x2 (fun v2 => if x2 ≤ 0 then (fX11_oneMore_b42 (fun a0 a1 u => fX11_oneMore_b4  n a0 a1 u) x1 x2 ((v2).toInt64 * (1024 - x1).toInt64) 0 σ) else (rd σ 33 202 (x2 - 1) (fun v3 => fX11_oneMore_b42 (fun a0 a1 u => fX11_oneMore_b4  n a0 a1 u) x1 x2 ((v2).toInt64 * (1024 - x1).toInt64) ((v3).toInt64 * (x1).toInt64) σ))))
def fX11_oneMore (x1 : Int32) (σ : St) : Option (Int32 × St) := fX11_oneMore_b4  FU x1 201 σ
def fX11_orMore_b4  : Nat → Int32 → Int32 → St → Option (Int32 × St)
  | 0, _, _, _ => none
  | n + 1, x2, x3, σ => if (202 : Int32) ≤ x3 then (some (x2, σ)) else (rd σ 33 202 x3 (fun v1 => fX11_orMore_b4  n (x2 + v1) (x3 + 1) σ))
def fX11_orMore (x1 : Int32) (σ : St) : Option (Int32 × St) := fX11_orMore_b4  FU 0 x1 σ
def fX11_chance_b54  : Nat → Int32 → Int32 → Int32 → Int32 → St → Option (Int32 × St)
  | 0, _, _, _, _, _ => none
  | n + 1, x1, x2, x3, x4, σ => if x1 ≤ x4 then (cal (fX11_orMore x2 σ) (fun v3 σ2 => some (v3, σ2))) else (cal (fX11_oneMore x3 σ) (fun _ σ5 => fX11_chance_b54  n x1 x2 x3 (x4 + 1) σ5))
def fX11_chance_b40   (σ : St) : Option (Int32 × St) := cal (fX11_refuse (-6) σ) (fun v9 σ8 => some (v9, σ8))
def fX11_chance_b12   (σ : St) : Option (Int32 × St) := cal (fX11_refuse (-4) σ) (fun v12 σ11 => some (v12, σ11))
def fX11_chance (x1 : Int32) (x2 : Int32) (x3 : Int32) (σ : St) : Option (Int32 × St) := if x1 < 0 then (fX11_chance_b12   σ) else (if x2 < 0 then (fX11_chance_b12   σ) else (if (0 : Int32) ≤ x3 then (if (200 : Int32) < x1 then (fX11_chance_b40   σ) else (if (200 : Int32) < x2 then (fX11_chance_b40   σ) else (if x3 ≤ 1024 then (cal (fX11_begins  σ) (fun _ σ14 => fX11_chance_b54  FU x1 x2 x3 0 σ14)) else (fX11_chance_b40   σ)))) else (fX11_chance_b12   σ)))
def fX11_make_b53  : Nat → Int32 → Int32 → Int32 → Int32 → St → Option (Int32 × St)
  | 0, _, _, _, _, _ => none
  | n + 1, x1, x2, x3, x4, σ => if (200 : Int32) < x4 then (some ((-9), σ)) else (cal (fX11_orMore x1 σ) (fun v3 σ2 => if v3 < x3 then (cal (fX11_oneMore x2 σ2) (fun _ σ5 => fX11_make_b53  n x1 x2 x3 (x4 + 1) σ5)) else (some (x4, σ2))))
def fX11_make_b39   (σ : St) : Option (Int32 × St) := cal (fX11_refuse (-6) σ) (fun v9 σ8 => some (v9, σ8))
def fX11_make_b12   (σ : St) : Option (Int32 × St) := cal (fX11_refuse (-4) σ) (fun v12 σ11 => some (v12, σ11))
def fX11_make (x1 : Int32) (x2 : Int32) (x3 : Int32) (σ : St) : Option (Int32 × St) := if x1 < 0 then (fX11_make_b12   σ) else (if x2 < 0 then (fX11_make_b12   σ) else (if (0 : Int32) ≤ x3 then (if (200 : Int32) < x1 then (fX11_make_b39   σ) else (if (1024 : Int32) < x2 then (fX11_make_b39   σ) else (if x3 ≤ 1048576 then (cal (fX11_begins  σ) (fun _ σ14 => fX11_make_b53  FU x1 x2 x3 0 σ14)) else (fX11_make_b39   σ)))) else (fX11_make_b12   σ)))
def fX11_see_b25  : Nat → Int32 → Int32 → Int32 → St → Option (Int32 × St)
  | 0, _, _, _, _ => none
  | n + 1, x1, x2, x3, σ => if (σ 0 24) ≤ x3 then (wr σ 34 32 (σ 0 24) x1 (fun σ1 => wr σ1 35 32 (σ1 0 24) x2 (fun σ2 => wr σ2 36 32 (σ2 0 24) (σ2 0 16) (fun σ3 => pf σ3 0 24 ((σ3 0 24) + 1) (fun σ4 => some (1, σ4)))))) else (rd σ 34 32 x3 (fun v5 => if v5 = x1 then (rd σ 35 32 x3 (fun v6 => if v6 = x2 then (some (0, σ)) else (fX11_see_b25  n x1 x2 (x3 + 1) σ))) else (fX11_see_b25  n x1 x2 (x3 + 1) σ)))
def fX11_see (x1 : Int32) (x2 : Int32) (σ : St) : Option (Int32 × St) := cal (fX11_isIn x1 16 σ) (fun v9 σ8 => if v9 = 0 then (cal (fX11_refuse (-1) σ8) (fun v12 σ11 => some (v12, σ11))) else (cal (fX11_isIn x2 2 σ8) (fun v15 σ14 => if v15 = 0 then (cal (fX11_refuse (-1) σ14) (fun v18 σ17 => some (v18, σ17))) else (fX11_see_b25  FU x1 x2 0 σ14))))
def fX11_talk_b72 (k31 : Int32 → Int32 → Int32 → St → Option (Int32 × St)) (x1 : Int32) (x2 : Int32) (x3 : Int32) (σ : St) : Option (Int32 × St) := rd σ 37 60 x3 (fun v1 => if v1 = x2 then (rd σ 38 60 x3 (fun v2 => if v2 = x1 then (some (0, σ)) else (k31 x1 x2 (x3 + 1) σ))) else (k31 x1 x2 (x3 + 1) σ))
def fX11_talk_b31  : Nat → Int32 → Int32 → Int32 → St → Option (Int32 × St)
  | 0, _, _, _, _ => none
  | n + 1, x1, x2, x3, σ => if (σ 0 23) ≤ x3 then (if (σ 0 23) = 60 then (cal (fX11_refuse (-6) σ) (fun v9 σ8 => some (v9, σ8))) else (wr σ 37 60 (σ 0 23) x1 (fun σ3 => wr σ3 38 60 (σ3 0 23) x2 (fun σ4 => wr σ4 39 60 (σ4 0 23) (σ4 0 16) (fun σ5 => pf σ5 0 23 ((σ5 0 23) + 1) (fun σ6 => some (1, σ6))))))) else (rd σ 39 60 x3 (fun v10 => if v10 = (σ 0 16) then (rd σ 37 60 x3 (fun v11 => if v11 = x1 then (rd σ 38 60 x3 (fun v12 => if v12 = x2 then (some (0, σ)) else (fX11_talk_b72 (fun a0 a1 a2 u => fX11_talk_b31  n a0 a1 a2 u) x1 x2 x3 σ))) else (fX11_talk_b72 (fun a0 a1 a2 u => fX11_talk_b31  n a0 a1 a2 u) x1 x2 x3 σ))) else (fX11_talk_b31  n x1 x2 (x3 + 1) σ)))
def fX11_talk_b23   (σ : St) : Option (Int32 × St) := cal (fX11_refuse (-1) σ) (fun v15 σ14 => some (v15, σ14))
def fX11_talk (x1 : Int32) (x2 : Int32) (σ : St) : Option (Int32 × St) := cal (fX11_isIn x1 16 σ) (fun v18 σ17 => if v18 = 0 then (fX11_talk_b23   σ17) else (cal (fX11_isIn x2 16 σ17) (fun v21 σ20 => if v21 = 0 then (fX11_talk_b23   σ20) else (if x1 = x2 then (fX11_talk_b23   σ20) else (fX11_talk_b31  FU x1 x2 0 σ20)))))
def fX11_nextDay_b51  : Nat → Int32 → Int32 → Int32 → St → Option (Int32 × St)
  | 0, _, _, _, _ => none
  | n + 1, x1, x2, x3, σ => if (σ 0 23) ≤ x3 then (some (x2, σ)) else (rd σ 39 60 x3 (fun v1 => if v1 ≤ x1 then (fX11_nextDay_b51  n x1 x2 (x3 + 1) σ) else (if x2 < 0 then (rd σ 39 60 x3 (fun v2 => fX11_nextDay_b51  n x1 v2 (x3 + 1) σ)) else (rd σ 39 60 x3 (fun v3 => if x2 ≤ v3 then (fX11_nextDay_b51  n x1 x2 (x3 + 1) σ) else (rd σ 39 60 x3 (fun v4 => fX11_nextDay_b51  n x1 v4 (x3 + 1) σ)))))))
def fX11_nextDay_b4  : Nat → Int32 → Int32 → Int32 → St → Option (Int32 × St)
  | 0, _, _, _, _ => none
  | n + 1, x1, x2, x3, σ => if (σ 0 24) ≤ x3 then (fX11_nextDay_b51  FU x1 x2 0 σ) else (rd σ 36 32 x3 (fun v5 => if v5 ≤ x1 then (fX11_nextDay_b4  n x1 x2 (x3 + 1) σ) else (if x2 < 0 then (rd σ 36 32 x3 (fun v6 => fX11_nextDay_b4  n x1 v6 (x3 + 1) σ)) else (rd σ 36 32 x3 (fun v7 => if x2 ≤ v7 then (fX11_nextDay_b4  n x1 x2 (x3 + 1) σ) else (rd σ 36 32 x3 (fun v8 => fX11_nextDay_b4  n x1 v8 (x3 + 1) σ)))))))
def fX11_nextDay (x1 : Int32) (σ : St) : Option (Int32 × St) := fX11_nextDay_b4  FU x1 (-1) 0 σ
def fX11_tells_b219 (k33 : Int32 → Int32 → Int32 → St → Option (Int32 × St)) : Nat → Int32 → Int32 → Int32 → Int32 → St → Option (Int32 × St)
  | 0, _, _, _, _, _ => none
  | n + 1, x1, x2, x3, x5, σ => if (16 : Int32) ≤ x5 then (cal (fX11_nextDay x3 σ) (fun v3 σ2 => k33 x1 x2 v3 σ2)) else (rd σ 40 16 x5 (fun v4 => if v4 = 3 then (if (0 : Int32) ≤ x2 then (fX11_tells_b219 k33 n x1 x2 x3 (x5 + 1) σ) else (fX11_tells_b219 k33 n x1 x3 x3 (x5 + 1) σ)) else (fX11_tells_b219 k33 n x1 x2 x3 (x5 + 1) σ)))
def fX11_tells_b127 (k33 : Int32 → Int32 → Int32 → St → Option (Int32 × St)) : Nat → Int32 → Int32 → Int32 → Int32 → St → Option (Int32 × St)
  | 0, _, _, _, _, _ => none
  | n + 1, x1, x2, x3, x5, σ => if (σ 0 23) ≤ x5 then (fX11_tells_b219 k33 FU x1 x2 x3 0 σ) else (rd σ 39 60 x5 (fun v5 => if v5 = x3 then (if x5 = x1 then (fX11_tells_b127 k33 n x1 x2 x3 (x5 + 1) σ) else (rd σ 37 60 x5 (fun v6 => rd σ 40 16 v6 (fun v7 => rd σ 38 60 x5 (fun v8 => rd σ 41 16 v8 (fun v9 => wr σ 40 16 v6 (v7 ||| v9) (fun σ10 => rd σ10 38 60 x5 (fun v11 => rd σ10 40 16 v11 (fun v12 => rd σ10 37 60 x5 (fun v13 => rd σ10 41 16 v13 (fun v14 => wr σ10 40 16 v11 (v12 ||| v14) (fun σ15 => fX11_tells_b127 k33 n x1 x2 x3 (x5 + 1) σ15)))))))))))) else (fX11_tells_b127 k33 n x1 x2 x3 (x5 + 1) σ)))
def fX11_tells_b97 (k33 : Int32 → Int32 → Int32 → St → Option (Int32 × St)) : Nat → Int32 → Int32 → Int32 → Int32 → St → Option (Int32 × St)
  | 0, _, _, _, _, _ => none
  | n + 1, x1, x2, x3, x5, σ => if (16 : Int32) ≤ x5 then (fX11_tells_b127 k33 FU x1 x2 x3 0 σ) else (rd σ 40 16 x5 (fun v16 => wr σ 41 16 x5 v16 (fun σ17 => fX11_tells_b97 k33 n x1 x2 x3 (x5 + 1) σ17)))
def fX11_tells_b44 (k33 : Int32 → Int32 → Int32 → St → Option (Int32 × St)) : Nat → Int32 → Int32 → Int32 → Int32 → St → Option (Int32 × St)
  | 0, _, _, _, _, _ => none
  | n + 1, x1, x2, x3, x5, σ => if (σ 0 24) ≤ x5 then (fX11_tells_b97 k33 FU x1 x2 x3 0 σ) else (rd σ 36 32 x5 (fun v18 => if v18 = x3 then (rd σ 34 32 x5 (fun v19 => rd σ 40 16 v19 (fun v20 => rd σ 35 32 x5 (fun v21 => wr σ 40 16 v19 (v20 ||| ((1 : Int32) <<< (v21 &&& 31))) (fun σ22 => fX11_tells_b44 k33 n x1 x2 x3 (x5 + 1) σ22))))) else (fX11_tells_b44 k33 n x1 x2 x3 (x5 + 1) σ)))
def fX11_tells_b33  : Nat → Int32 → Int32 → Int32 → St → Option (Int32 × St)
  | 0, _, _, _, _ => none
  | n + 1, x1, x2, x4, σ => if x4 < 0 then (some (x2, σ)) else (fX11_tells_b44 (fun a0 a1 a2 u => fX11_tells_b33  n a0 a1 a2 u) FU x1 x2 x4 0 σ)
def fX11_tells_b5  : Nat → Int32 → Int32 → Int32 → St → Option (Int32 × St)
  | 0, _, _, _, _ => none
  | n + 1, x1, x2, x3, σ => if (16 : Int32) ≤ x3 then (cal (fX11_nextDay (-1) σ) (fun v25 σ24 => fX11_tells_b33  FU x1 x2 v25 σ24)) else (wr σ 40 16 x3 0 (fun σ26 => fX11_tells_b5  n x1 x2 (x3 + 1) σ26))
def fX11_tells (x1 : Int32) (σ : St) : Option (Int32 × St) := fX11_tells_b5  FU x1 (-9) 0 σ
def fX11_knows (x1 : Int32) (σ : St) : Option (Int32 × St) := cal (fX11_isIn x1 16 σ) (fun v3 σ2 => if v3 = 0 then (cal (fX11_refuse (-1) σ2) (fun v10 σ9 => some (v10, σ9))) else (cal (fX11_tells (-1) σ2) (fun v6 σ5 => rd σ5 40 16 x1 (fun v7 => some (v7, σ5)))))
def fX11_joined  (σ : St) : Option (Int32 × St) := cal (fX11_tells (-1) σ) (fun v3 σ2 => some (v3, σ2))
def fX11_leak_b13  : Nat → Int32 → St → Option (Int32 × St)
  | 0, _, _ => none
  | n + 1, x1, σ => if (σ 0 23) ≤ x1 then (some ((-9), σ)) else (cal (fX11_tells x1 σ) (fun v3 σ2 => if (0 : Int32) ≤ v3 then (fX11_leak_b13  n (x1 + 1) σ2) else (some (x1, σ2))))
def fX11_leak  (σ : St) : Option (Int32 × St) := cal (fX11_tells (-1) σ) (fun v6 σ5 => if (0 : Int32) ≤ v6 then (fX11_leak_b13  FU 0 σ5) else (some ((-9), σ5)))
def fX11_debt_b38   (σ : St) : Option (Int32 × St) := cal (fX11_refuse (-6) σ) (fun v3 σ2 => some (v3, σ2))
def fX11_debt (x1 : Int32) (x2 : Int32) (σ : St) : Option (Int32 × St) := if x1 < 0 then (cal (fX11_refuse (-4) σ) (fun v6 σ5 => some (v6, σ5))) else (if (0 : Int32) ≤ x2 then (if (1000000 : Int32) < x1 then (fX11_debt_b38   σ) else (if (500 : Int32) < x2 then (fX11_debt_b38   σ) else (if (σ 0 25) = 6 then (fX11_debt_b38   σ) else (wr σ 42 6 (σ 0 25) x1 (fun σ7 => wr σ7 43 6 (σ7 0 25) x2 (fun σ8 => wr σ8 44 6 (σ8 0 25) (σ8 0 16) (fun σ9 => pf σ9 0 25 ((σ9 0 25) + 1) (fun σ10 => some (((σ10 0 25) - 1), σ10))))))))) else (cal (fX11_refuse (-4) σ) (fun v13 σ12 => some (v13, σ12))))
def fX11_pay_b32  (x1 : Int32) (x2 : Int32) (s0 : Int32) (σ : St) : Option (Int32 × St) := if s0 = 0 then (rd σ 42 6 x1 (fun v1 => wr σ 42 6 x1 (v1 - x2) (fun σ2 => rd σ2 42 6 x1 (fun v3 => some (v3, σ2))))) else (cal (fX11_refuse s0 σ) (fun v6 σ5 => some (v6, σ5)))
def fX11_pay (x1 : Int32) (x2 : Int32) (σ : St) : Option (Int32 × St) := cal (fX11_isIn x1 (σ 0 25) σ) (fun v9 σ8 => if v9 = 0 then (fX11_pay_b32  x1 x2 (-1) σ8) else (rd σ8 42 6 x1 (fun v10 => cal (fX11_wrong x2 1 (if v10 < 1000000 then v10 else 1000000) σ8) (fun v13 σ12 => fX11_pay_b32  x1 x2 v13 σ12))))
def fX11_owed_b50  : Nat → Int32 → Int32 → Int32 → Int32 → St → Option (Int32 × St)
  | 0, _, _, _, _, _ => none
  | n + 1, x1, x2, x4, x5, σ => if ((σ 0 16) + x2) < x5 then (some (x4, σ)) else (rd σ 44 6 x1 (fun v1 => if ((x5 - v1) - (x5 - v1) / 30 * 30) = 0 then (cal (fX11_grown x1 x4 σ) (fun v4 σ3 => fX11_owed_b50  n x1 x2 v4 (x5 + 1) σ3)) else (fX11_owed_b50  n x1 x2 x4 (x5 + 1) σ)))
def fX11_owed_b23  (x1 : Int32) (x2 : Int32) (s0 : Int32) (σ : St) : Option (Int32 × St) := if s0 = 0 then (rd σ 42 6 x1 (fun v5 => fX11_owed_b50  FU x1 x2 v5 ((σ 0 16) + 1) σ)) else (cal (fX11_refuse s0 σ) (fun v8 σ7 => some (v8, σ7)))
def fX11_owed (x1 : Int32) (x2 : Int32) (σ : St) : Option (Int32 × St) := cal (fX11_isIn x1 (σ 0 25) σ) (fun v11 σ10 => if v11 = 0 then (fX11_owed_b23  x1 x2 (-1) σ10) else (cal (fX11_wrong x2 0 4000 σ10) (fun v14 σ13 => fX11_owed_b23  x1 x2 v14 σ13)))
def fX11_pieceOf (x1 : Int32) (x2 : Int32) (σ : St) : Option (Int32 × St) := cal (fX11_isPiece x1 σ) (fun v3 σ2 => if v3 = 0 then (cal (fX11_refuse (-1) σ2) (fun v17 σ16 => some (v17, σ16))) else (if x2 = 0 then (rd σ2 9 80 x1 (fun v4 => some (v4, σ2))) else (if x2 = 1 then (rd σ2 7 80 x1 (fun v5 => some (v5, σ2))) else (if x2 = 2 then (rd σ2 8 80 x1 (fun v6 => some (v6, σ2))) else (if x2 = 3 then (rd σ2 6 80 x1 (fun v7 => rd σ2 3 20 v7 (fun v8 => some (v8, σ2)))) else (if x2 = 4 then (rd σ2 10 80 x1 (fun v9 => some (v9, σ2))) else (if x2 = 5 then (rd σ2 11 80 x1 (fun v10 => some (v10, σ2))) else (if x2 = 6 then (rd σ2 12 80 x1 (fun v11 => some (v11, σ2))) else (cal (fX11_refuse (-2) σ2) (fun v14 σ13 => some (v14, σ13)))))))))))
def fX11_count_b125  : Nat → Int32 → Int32 → Int32 → St → Option (Int32 × St)
  | 0, _, _, _, _ => none
  | n + 1, x1, x2, x3, σ => if (σ 0 18) ≤ x3 then (some (x2, σ)) else (rd σ 9 80 x3 (fun v1 => if v1 = (x1 - 3) then (fX11_count_b125  n x1 (x2 + 1) (x3 + 1) σ) else (fX11_count_b125  n x1 (x2 + 0) (x3 + 1) σ)))
def fX11_count_b22  (x1 : Int32) (σ : St) : Option (Int32 × St) := cal (fX11_isIn (x1 - 20) (σ 0 17) σ) (fun v4 σ3 => if v4 = 0 then (if x1 = 0 then (some ((σ3 0 16), σ3)) else (if x1 = 1 then (some ((σ3 0 17), σ3)) else (if x1 = 2 then (some ((σ3 0 18), σ3)) else (if x1 = 3 then (fX11_count_b125  FU x1 0 0 σ3) else (if x1 = 4 then (fX11_count_b125  FU x1 0 0 σ3) else (if x1 = 5 then (fX11_count_b125  FU x1 0 0 σ3) else (if x1 = 6 then (fX11_count_b125  FU x1 0 0 σ3) else (if x1 = 7 then (fX11_count_b125  FU x1 0 0 σ3) else (if x1 = 8 then (some ((σ3 0 19), σ3)) else (if x1 = 9 then (some ((σ3 0 20), σ3)) else (if x1 = 10 then (some ((σ3 0 23), σ3)) else (some ((-9), σ3))))))))))))) else (rd σ3 4 20 (x1 - 20) (fun v5 => some (v5, σ3))))
def fX11_count (x1 : Int32) (σ : St) : Option (Int32 × St) := if x1 ≤ 10 then (fX11_count_b22  x1 σ) else (if (17 : Int32) ≤ x1 then (fX11_count_b22  x1 σ) else (rd σ 1 7 (x1 - 10) (fun v6 => some (v6, σ))))
