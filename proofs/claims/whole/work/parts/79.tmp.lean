def Inv (σ τ : St) : Prop := σ 0 0 = τ 0 0
theorem sim_paste {σ τ : St} (hI : Inv σ τ) (x1 x2 x3 : Int32) : ∃ (r : Int32) (σ1 τ1 : St), fX10_paste x1 x2 x3 σ = some (r, σ1) ∧ fX11_paste x1 x2 x3 τ = some (r, τ1) ∧ Inv σ1 τ1 := sorry
theorem sim_batch {σ τ : St} (hI : Inv σ τ) (x1 x2 : Int32) : ∃ (r : Int32) (σ1 τ1 : St), fX10_batch x1 x2 σ = some (r, σ1) ∧ fX11_batch x1 x2 τ = some (r, τ1) ∧ Inv σ1 τ1 := sorry
theorem sim_days {σ τ : St} (hI : Inv σ τ) (x1 : Int32) : ∃ (r : Int32) (σ1 τ1 : St), fX10_days x1 σ = some (r, σ1) ∧ fX11_days x1 τ = some (r, τ1) ∧ Inv σ1 τ1 := sorry
theorem sim_piece {σ τ : St} (hI : Inv σ τ) (x1 x2 x3 x4 : Int32) : ∃ (r : Int32) (σ1 τ1 : St), fX10_piece x1 x2 x3 x4 σ = some (r, σ1) ∧ fX11_piece x1 x2 x3 x4 τ = some (r, τ1) ∧ Inv σ1 τ1 := sorry
theorem sim_place {σ τ : St} (hI : Inv σ τ) (x1 x2 x3 : Int32) : ∃ (r : Int32) (σ1 τ1 : St), fX10_place x1 x2 x3 σ = some (r, σ1) ∧ fX11_place x1 x2 x3 τ = some (r, τ1) ∧ Inv σ1 τ1 := sorry
theorem sim_wood {σ τ : St} (hI : Inv σ τ) (x1 : Int32) : ∃ (r : Int32) (σ1 τ1 : St), fX10_wood x1 σ = some (r, σ1) ∧ fX11_wood x1 τ = some (r, τ1) ∧ Inv σ1 τ1 := sorry
theorem sim_clear {σ τ : St} (hI : Inv σ τ) : ∃ (r : Int32) (σ1 τ1 : St), fX10_clear  σ = some (r, σ1) ∧ fX11_clear  τ = some (r, τ1) ∧ Inv σ1 τ1 := sorry
theorem sim_peak {σ τ : St} (hI : Inv σ τ) (x1 : Int32) : ∃ (r : Int32) (σ1 τ1 : St), fX10_peak x1 σ = some (r, σ1) ∧ fX11_peak x1 τ = some (r, τ1) ∧ Inv σ1 τ1 := sorry
theorem sim_heat {σ τ : St} (hI : Inv σ τ) (x1 x2 : Int32) : ∃ (r : Int32) (σ1 τ1 : St), fX10_heat x1 x2 σ = some (r, σ1) ∧ fX11_heat x1 x2 τ = some (r, τ1) ∧ Inv σ1 τ1 := sorry
theorem sim_stack {σ τ : St} (hI : Inv σ τ) (x1 x2 : Int32) : ∃ (r : Int32) (σ1 τ1 : St), fX10_stack x1 x2 σ = some (r, σ1) ∧ fX11_stack x1 x2 τ = some (r, τ1) ∧ Inv σ1 τ1 := sorry
theorem sim_unstack {σ τ : St} (hI : Inv σ τ) (x1 : Int32) : ∃ (r : Int32) (σ1 τ1 : St), fX10_unstack x1 σ = some (r, σ1) ∧ fX11_unstack x1 τ = some (r, τ1) ∧ Inv σ1 τ1 := sorry
theorem sim_fire {σ τ : St} (hI : Inv σ τ) : ∃ (r : Int32) (σ1 τ1 : St), fX10_fire  σ = some (r, σ1) ∧ fX11_fire  τ = some (r, τ1) ∧ Inv σ1 τ1 := sorry
theorem sim_want {σ τ : St} (hI : Inv σ τ) (x1 x2 : Int32) : ∃ (r : Int32) (σ1 τ1 : St), fX10_want x1 x2 σ = some (r, σ1) ∧ fX11_want x1 x2 τ = some (r, τ1) ∧ Inv σ1 τ1 := sorry
theorem sim_best {σ τ : St} (hI : Inv σ τ) : ∃ (r : Int32) (σ1 τ1 : St), fX10_best  σ = some (r, σ1) ∧ fX11_best  τ = some (r, τ1) ∧ Inv σ1 τ1 := sorry
theorem sim_bestPlace {σ τ : St} (hI : Inv σ τ) (x1 : Int32) : ∃ (r : Int32) (σ1 τ1 : St), fX10_bestPlace x1 σ = some (r, σ1) ∧ fX11_bestPlace x1 τ = some (r, τ1) ∧ Inv σ1 τ1 := sorry
theorem sim_lay {σ τ : St} (hI : Inv σ τ) : ∃ (r : Int32) (σ1 τ1 : St), fX10_lay  σ = some (r, σ1) ∧ fX11_lay  τ = some (r, τ1) ∧ Inv σ1 τ1 := sorry
theorem sim_colour {σ τ : St} (hI : Inv σ τ) (x1 x2 x3 : Int32) : ∃ (r : Int32) (σ1 τ1 : St), fX10_colour x1 x2 x3 σ = some (r, σ1) ∧ fX11_colour x1 x2 x3 τ = some (r, τ1) ∧ Inv σ1 τ1 := sorry
theorem sim_fires {σ τ : St} (hI : Inv σ τ) (x1 : Int32) : ∃ (r : Int32) (σ1 τ1 : St), fX10_fires x1 σ = some (r, σ1) ∧ fX11_fires x1 τ = some (r, τ1) ∧ Inv σ1 τ1 := sorry
theorem sim_fireHeat {σ τ : St} (hI : Inv σ τ) (x1 x2 : Int32) : ∃ (r : Int32) (σ1 τ1 : St), fX10_fireHeat x1 x2 σ = some (r, σ1) ∧ fX11_fireHeat x1 x2 τ = some (r, τ1) ∧ Inv σ1 τ1 := sorry
theorem sim_skill {σ τ : St} (hI : Inv σ τ) (x1 x2 : Int32) : ∃ (r : Int32) (σ1 τ1 : St), fX10_skill x1 x2 σ = some (r, σ1) ∧ fX11_skill x1 x2 τ = some (r, τ1) ∧ Inv σ1 τ1 := sorry
theorem sim_job {σ τ : St} (hI : Inv σ τ) (x1 : Int32) : ∃ (r : Int32) (σ1 τ1 : St), fX10_job x1 σ = some (r, σ1) ∧ fX11_job x1 τ = some (r, τ1) ∧ Inv σ1 τ1 := sorry
theorem sim_least {σ τ : St} (hI : Inv σ τ) : ∃ (r : Int32) (σ1 τ1 : St), fX10_least  σ = some (r, σ1) ∧ fX11_least  τ = some (r, τ1) ∧ Inv σ1 τ1 := sorry
theorem sim_painter {σ τ : St} (hI : Inv σ τ) (x1 : Int32) : ∃ (r : Int32) (σ1 τ1 : St), fX10_painter x1 σ = some (r, σ1) ∧ fX11_painter x1 τ = some (r, τ1) ∧ Inv σ1 τ1 := sorry
theorem sim_paint {σ τ : St} (hI : Inv σ τ) (x1 : Int32) : ∃ (r : Int32) (σ1 τ1 : St), fX10_paint x1 σ = some (r, σ1) ∧ fX11_paint x1 τ = some (r, τ1) ∧ Inv σ1 τ1 := sorry
theorem sim_service {σ τ : St} (hI : Inv σ τ) (x1 x2 x3 : Int32) : ∃ (r : Int32) (σ1 τ1 : St), fX10_service x1 x2 x3 σ = some (r, σ1) ∧ fX11_service x1 x2 x3 τ = some (r, τ1) ∧ Inv σ1 τ1 := sorry
theorem sim_matched {σ τ : St} (hI : Inv σ τ) (x1 x2 x3 x4 : Int32) : ∃ (r : Int32) (σ1 τ1 : St), fX10_matched x1 x2 x3 x4 σ = some (r, σ1) ∧ fX11_matched x1 x2 x3 x4 τ = some (r, τ1) ∧ Inv σ1 τ1 := sorry
theorem sim_sell {σ τ : St} (hI : Inv σ τ) (x1 x2 x3 : Int32) : ∃ (r : Int32) (σ1 τ1 : St), fX10_sell x1 x2 x3 σ = some (r, σ1) ∧ fX11_sell x1 x2 x3 τ = some (r, τ1) ∧ Inv σ1 τ1 := sorry
theorem sim_chance {σ τ : St} (hI : Inv σ τ) (x1 x2 x3 : Int32) : ∃ (r : Int32) (σ1 τ1 : St), fX10_chance x1 x2 x3 σ = some (r, σ1) ∧ fX11_chance x1 x2 x3 τ = some (r, τ1) ∧ Inv σ1 τ1 := sorry
theorem sim_make {σ τ : St} (hI : Inv σ τ) (x1 x2 x3 : Int32) : ∃ (r : Int32) (σ1 τ1 : St), fX10_make x1 x2 x3 σ = some (r, σ1) ∧ fX11_make x1 x2 x3 τ = some (r, τ1) ∧ Inv σ1 τ1 := sorry
theorem sim_see {σ τ : St} (hI : Inv σ τ) (x1 x2 : Int32) : ∃ (r : Int32) (σ1 τ1 : St), fX10_see x1 x2 σ = some (r, σ1) ∧ fX11_see x1 x2 τ = some (r, τ1) ∧ Inv σ1 τ1 := sorry
theorem sim_talk {σ τ : St} (hI : Inv σ τ) (x1 x2 : Int32) : ∃ (r : Int32) (σ1 τ1 : St), fX10_talk x1 x2 σ = some (r, σ1) ∧ fX11_talk x1 x2 τ = some (r, τ1) ∧ Inv σ1 τ1 := sorry
theorem sim_knows {σ τ : St} (hI : Inv σ τ) (x1 : Int32) : ∃ (r : Int32) (σ1 τ1 : St), fX10_knows x1 σ = some (r, σ1) ∧ fX11_knows x1 τ = some (r, τ1) ∧ Inv σ1 τ1 := sorry
theorem sim_joined {σ τ : St} (hI : Inv σ τ) : ∃ (r : Int32) (σ1 τ1 : St), fX10_joined  σ = some (r, σ1) ∧ fX11_joined  τ = some (r, τ1) ∧ Inv σ1 τ1 := sorry
theorem sim_leak {σ τ : St} (hI : Inv σ τ) : ∃ (r : Int32) (σ1 τ1 : St), fX10_leak  σ = some (r, σ1) ∧ fX11_leak  τ = some (r, τ1) ∧ Inv σ1 τ1 := sorry
theorem sim_debt {σ τ : St} (hI : Inv σ τ) (x1 x2 : Int32) : ∃ (r : Int32) (σ1 τ1 : St), fX10_debt x1 x2 σ = some (r, σ1) ∧ fX11_debt x1 x2 τ = some (r, τ1) ∧ Inv σ1 τ1 := sorry
theorem sim_pay {σ τ : St} (hI : Inv σ τ) (x1 x2 : Int32) : ∃ (r : Int32) (σ1 τ1 : St), fX10_pay x1 x2 σ = some (r, σ1) ∧ fX11_pay x1 x2 τ = some (r, τ1) ∧ Inv σ1 τ1 := sorry
theorem sim_owed {σ τ : St} (hI : Inv σ τ) (x1 x2 : Int32) : ∃ (r : Int32) (σ1 τ1 : St), fX10_owed x1 x2 σ = some (r, σ1) ∧ fX11_owed x1 x2 τ = some (r, τ1) ∧ Inv σ1 τ1 := sorry
theorem sim_pieceOf {σ τ : St} (hI : Inv σ τ) (x1 x2 : Int32) : ∃ (r : Int32) (σ1 τ1 : St), fX10_pieceOf x1 x2 σ = some (r, σ1) ∧ fX11_pieceOf x1 x2 τ = some (r, τ1) ∧ Inv σ1 τ1 := sorry
theorem sim_count {σ τ : St} (hI : Inv σ τ) (x1 : Int32) : ∃ (r : Int32) (σ1 τ1 : St), fX10_count x1 σ = some (r, σ1) ∧ fX11_count x1 τ = some (r, τ1) ∧ Inv σ1 τ1 := sorry
theorem sim_init : ∃ (zX0 zX6 zX1 zX8 zX5 zX9 zX3 zX4 zX7 zX2 z zM : Int32 × St), fX0_init_b36 (fun _ _ => 0) = some zX0 ∧ fX6_init_b60 (fun _ _ => 0) = some zX6 ∧ fX1_init_b52 (fun _ _ => 0) = some zX1 ∧ fX8_init_b68 (fun _ _ => 0) = some zX8 ∧ fX5_init_b28 (fun _ _ => 0) = some zX5 ∧ fX9_init_b42 (fun _ _ => 0) = some zX9 ∧ fX3_init_b28 (fun _ _ => 0) = some zX3 ∧ fX4_init_b13 (fun _ _ => 0) = some zX4 ∧ fX7_init_b66 (fun _ _ => 0) = some zX7 ∧ fX2_init_b28 (fun _ _ => 0) = some zX2 ∧ fX10_init_b122 (pw_s0 zX0 zX6 zX1 zX8 zX5 zX9 zX3 zX4 zX7 zX2) = some z ∧ fX11_init_b355 (fun _ _ => 0) = some zM ∧ Inv z.2 zM.2 := sorry
