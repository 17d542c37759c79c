def fX0_init_b43 : Nat → Int32 → St → Option (Int32 × St)
  | 0, _, _ => none
  | n + 1, x1, σ => if (24 : Int32) ≤ x1 then (some (0, σ)) else (tb pw_FT 4 (x1 - x1 / 4 * 4) (fun v1 => wr σ 1 24 x1 v1 (fun σ2 => fX0_init_b43  n (x1 + 1) σ2)))
def fX0_init_b36  (σ : St) : Option (Int32 × St) := pf σ 0 4 0 (fun σ3 => fX0_init_b43  FU 0 σ3)
def fX1_init_b91 : Nat → Int32 → St → Option (Int32 × St)
  | 0, _, _ => none
  | n + 1, x1, σ => if (12 : Int32) ≤ x1 then (some (0, σ)) else (wr σ 2 12 x1 (-9) (fun σ1 => fX1_init_b91  n (x1 + 1) σ1))
def fX1_init_b64 : Nat → Int32 → St → Option (Int32 × St)
  | 0, _, _ => none
  | n + 1, x1, σ => if (24 : Int32) ≤ x1 then (fX1_init_b91  FU 0 σ) else (tb pw_FP 2 (x1 - x1 / 2 * 2) (fun v2 => wr σ 1 24 x1 v2 (fun σ3 => fX1_init_b64  n (x1 + 1) σ3)))
def fX1_init_b52  (σ : St) : Option (Int32 × St) := pf σ 0 6 0 (fun σ4 => pf σ4 0 7 0 (fun σ5 => fX1_init_b64  FU 0 σ5))
def fX2_init_b28  (σ : St) : Option (Int32 × St) := pf σ 0 3 0 (fun σ1 => some (0, σ1))
def fX3_init_b28  (σ : St) : Option (Int32 × St) := pf σ 0 3 0 (fun σ1 => pf σ1 0 4 0 (fun σ2 => pf σ2 0 5 0 (fun σ3 => some (0, σ3))))
def fX4_init_b13  (σ : St) : Option (Int32 × St) := some (0, σ)
def fX5_init_b28  (σ : St) : Option (Int32 × St) := some (0, σ)
def fX6_init_b60  (σ : St) : Option (Int32 × St) := pf σ 0 7 0 (fun σ1 => some (0, σ1))
def fX7_init_b66  (σ : St) : Option (Int32 × St) := pf σ 0 8 0 (fun σ1 => pf σ1 0 9 0 (fun σ2 => pf σ2 0 10 (-9) (fun σ3 => some (0, σ3))))
def fX8_init_b68  (σ : St) : Option (Int32 × St) := pf σ 0 8 0 (fun σ1 => some (0, σ1))
def fX9_init_b59 : Nat → Int32 → St → Option (Int32 × St)
  | 0, _, _ => none
  | n + 1, x1, σ => if (3 : Int32) ≤ x1 then (some (0, σ)) else (wr σ 1 3 x1 1 (fun σ1 => fX9_init_b59  n (x1 + 1) σ1))
def fX9_init_b42  (σ : St) : Option (Int32 × St) := pf σ 0 5 0 (fun σ2 => pf σ2 0 6 0 (fun σ3 => pf σ3 0 7 1 (fun σ4 => fX9_init_b59  FU 0 σ4)))
def fX11_init_b457 : Nat → Int32 → St → Option (Int32 × St)
  | 0, _, _ => none
  | n + 1, x1, σ => if (3 : Int32) ≤ x1 then (some (0, σ)) else (wr σ 27 3 x1 1 (fun σ1 => fX11_init_b457  n (x1 + 1) σ1))
def fX11_init_b419 : Nat → Int32 → St → Option (Int32 × St)
  | 0, _, _ => none
  | n + 1, x1, σ => if (12 : Int32) ≤ x1 then (fX11_init_b457  FU 0 σ) else (wr σ 13 12 x1 10 (fun σ2 => wr σ2 14 12 x1 20 (fun σ3 => wr σ3 15 12 x1 (-9) (fun σ4 => fX11_init_b419  n (x1 + 1) σ4))))
def fX11_init_b357 : Nat → Int32 → St → Option (Int32 × St)
  | 0, _, _ => none
  | n + 1, x1, σ => if (6 : Int32) ≤ x1 then (fX11_init_b419  FU 0 σ) else (wr σ 2 24 (4 * x1) 30 (fun σ5 => wr σ5 2 24 ((4 * x1) + 1) 120 (fun σ6 => wr σ6 2 24 ((4 * x1) + 2) 1200 (fun σ7 => wr σ7 2 24 ((4 * x1) + 3) 1400 (fun σ8 => fX11_init_b357  n (x1 + 1) σ8)))))
def fX11_init_b355  (σ : St) : Option (Int32 × St) := fX11_init_b357  FU 0 σ
def fX10_init_b122  (σ : St) : Option (Int32 × St) := pf σ 0 11 0 (fun σ1 => some (0, σ1))
def pw_s0 (zX0 zX6 zX1 zX8 zX5 zX9 zX3 zX4 zX7 zX2 : Int32 × St) : St := pw_nthF [(fun _ => 0), (fun _ => 0), zX0.2 0, zX0.2 1, zX0.2 2, zX0.2 3, zX0.2 4, zX6.2 0, zX6.2 1, zX6.2 2, zX6.2 3, zX6.2 4, zX6.2 5, zX6.2 6, zX6.2 7, zX1.2 0, zX1.2 1, zX1.2 2, zX1.2 3, zX1.2 4, zX1.2 5, zX1.2 6, zX8.2 0, zX8.2 1, zX8.2 2, zX8.2 3, zX8.2 4, zX8.2 5, zX8.2 6, zX8.2 7, zX8.2 8, zX5.2 0, zX5.2 1, zX5.2 2, zX5.2 3, zX9.2 0, zX9.2 1, zX9.2 2, zX9.2 3, zX9.2 4, zX9.2 5, zX3.2 0, zX3.2 1, zX3.2 2, zX3.2 3, zX4.2 0, zX4.2 1, zX7.2 0, zX7.2 1, zX7.2 2, zX7.2 3, zX7.2 4, zX7.2 5, zX7.2 6, zX7.2 7, zX7.2 8, zX2.2 0, zX2.2 1, zX2.2 2, zX2.2 3]
