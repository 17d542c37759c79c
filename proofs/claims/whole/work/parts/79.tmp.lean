theorem sim_best {σ τ : St} (hI : Inv σ τ) : ∃ (r : Int32) (σ1 τ1 : St), fX10_best  σ = some (r, σ1) ∧ fX11_best  τ = some (r, τ1) ∧ Inv σ1 τ1 := sorry
theorem sim_bestPlace {σ τ : St} (hI : Inv σ τ) (x1 : Int32) : ∃ (r : Int32) (σ1 τ1 : St), fX10_bestPlace x1 σ = some (r, σ1) ∧ fX11_bestPlace x1 τ = some (r, τ1) ∧ Inv σ1 τ1 := sorry
theorem sim_lay {σ τ : St} (hI : Inv σ τ) : ∃ (r : Int32) (σ1 τ1 : St), fX10_lay  σ = some (r, σ1) ∧ fX11_lay  τ = some (r, τ1) ∧ Inv σ1 τ1 := sorry
theorem sim_service {σ τ : St} (hI : Inv σ τ) (x1 x2 x3 : Int32) : ∃ (r : Int32) (σ1 τ1 : St), fX10_service x1 x2 x3 σ = some (r, σ1) ∧ fX11_service x1 x2 x3 τ = some (r, τ1) ∧ Inv σ1 τ1 := sorry
theorem sim_matched {σ τ : St} (hI : Inv σ τ) (x1 x2 x3 x4 : Int32) : ∃ (r : Int32) (σ1 τ1 : St), fX10_matched x1 x2 x3 x4 σ = some (r, σ1) ∧ fX11_matched x1 x2 x3 x4 τ = some (r, τ1) ∧ Inv σ1 τ1 := sorry
theorem sim_sell {σ τ : St} (hI : Inv σ τ) (x1 x2 x3 : Int32) : ∃ (r : Int32) (σ1 τ1 : St), fX10_sell x1 x2 x3 σ = some (r, σ1) ∧ fX11_sell x1 x2 x3 τ = some (r, τ1) ∧ Inv σ1 τ1 := sorry
