/-! CLASS AND MODEL SIDE BY SIDE -/
def PQ (Mm : mM) (as : List mV) : Option mV → mS → Prop := fun r τ => ∃ v, r = some (.inl v) ∧ MU Mm as τ (fun r' τ' => r' = some (.inl v) ∧ ∃ π', RR π' τ')
section
variable {π σ : mS} {N : Nat} {Mc Mm : mM} {aC aM : List mV}
theorem pair_ch (h : RR π σ) {ok : Prop} {a b : Int32} {π' : mS} (hc : MU Mc aC σ (oC ok a b π' σ)) (hm : ∀ τ, RMm π τ → MU Mm aM τ (oM ok a b π' τ)) : MU Mc aC σ (PQ Mm aM) := by
  refine hc.mono ?_
  rintro r τ (⟨k, rfl, k1, k2, k3, k4⟩ | ⟨k, rfl, rfl⟩)
  · refine ⟨a, rfl, (hm τ (h.2.1.to k4)).mono ?_⟩
    rintro r' τ' (⟨-, rfl, m1, m2, m3, m4⟩ | ⟨n, -, -⟩)
    · refine ⟨rfl, π', k1.to m4, m1, ?_, ?_⟩
      · rw [m4 2 (by omega), k2, m2]
      · unfold RTt
        rw [m4 3 (by omega), m4 23 (by omega), k3.1, k3.2.1, k3.2.2.1, m3.1, m3.2.1, m3.2.2.1]
        exact ⟨rfl, rfl, rfl, fun j hj => by rw [k3.2.2.2 j hj, m3.2.2.2 j hj]⟩
    · exact absurd k n
  · refine ⟨b, rfl, (hm τ h.2.1).mono ?_⟩
    rintro r' τ' (⟨k', -⟩ | ⟨n, rfl, rfl⟩)
    · exact absurd k' k
    · exact ⟨rfl, π, h⟩
theorem pair_q (h : RR π σ) {ok : Prop} {a b : Int32} (hc : MU Mc aC σ (qC π N ok a b σ)) (hm : ∀ τ, RMm π τ → MU Mm aM τ (qM π N ok a b τ)) : MU Mc aC σ (PQ Mm aM) := by
  refine hc.mono ?_
  rintro r τ (⟨k, rfl, k1, k2, k3, -⟩ | ⟨k, rfl, rfl⟩)
  · have mo : mod τ σ := fun i a b => k3.1 i (by omega) (by omega) (by omega) (by omega)
    refine ⟨a, rfl, (hm τ (h.2.1.to mo)).mono ?_⟩
    rintro r' τ' (⟨-, rfl, m1, m2, -⟩ | ⟨n, -, -⟩)
    · have c9 : cls9 τ' τ := fun i hi => m2.1 i (by omega)
      refine ⟨rfl, π, k1.to c9, m1, ?_, ?_⟩
      · rw [c9 2 (by omega), k2, m2.2.2]
      · have := h.2.2.2
        unfold RTt at *
        rw [c9 3 (by omega), c9 23 (by omega), k3.1 3 (by decide) (by decide) (by decide) (by decide), k3.1 23 (by decide) (by decide) (by decide) (by decide), m2.2.1 32 (by decide) (by decide), m2.2.1 37 (by decide) (by decide), m2.2.1 43 (by decide) (by decide), m2.1 58 (by omega), mo 25 (by decide) (by decide), mo 58 (by decide) (by decide)]
        exact this
    · exact absurd k n
  · refine ⟨b, rfl, (hm τ h.2.1).mono ?_⟩
    rintro r' τ' (⟨k', -⟩ | ⟨n, rfl, rfl⟩)
    · exact absurd k' k
    · exact ⟨rfl, π, h⟩
theorem pair_r (h : RR π σ) {x1 x2 : Int32} (hc : MU Mc aC σ (rC π N x1 x2 σ)) (hm : ∀ τ, RMm π τ → MU Mm aM τ (rM π N x1 x2 τ)) : MU Mc aC σ (PQ Mm aM) := by
  refine hc.mono ?_
  rintro r τ (⟨k, b, hb, rfl, k1, k2, k3, k4⟩ | ⟨k, rfl, rfl⟩)
  · refine ⟨bI b, rfl, (hm τ (h.2.1.to k4)).mono ?_⟩
    rintro r' τ' (⟨-, b', hb', rfl, m1, m2, m3, m4⟩ | ⟨n, -, -⟩)
    · have eb : b' = b := by rw [Bool.eq_iff_iff, hb, hb']
      refine ⟨by rw [eb], π, k1.to m4, m1, ?_, ?_⟩
      · rw [m4 2 (by omega), k2, m2]
      · unfold RTt
        rw [m4 3 (by omega), m4 23 (by omega), k3.1.1, k3.1.2.1, k3.1.2.2, m3.1.1, m3.1.2.1, m3.1.2.2]
        exact ⟨rfl, rfl, rfl, fun j hj => by rw [k3.2.2.2.2.2.2 j hj, m3.2.2.2.2.2.2 j hj]⟩
    · exact absurd k n
  · refine ⟨baRu x2, rfl, (hm τ h.2.1).mono ?_⟩
    rintro r' τ' (⟨k', -⟩ | ⟨n, rfl, rfl⟩)
    · exact absurd k' k
    · exact ⟨rfl, π, h⟩
theorem pair_s (h : RR π σ) {a : Int32} (hc : MR Mc aC σ (some (.inl a)) σ) (hm : MR Mm aM σ (some (.inl a)) σ) : MU Mc aC σ (PQ Mm aM) := by
  refine hc.mono ?_
  rintro r τ ⟨rfl, rfl⟩
  refine ⟨a, rfl, hm.mono ?_⟩
  rintro r' τ' ⟨rfl, rfl⟩
  exact ⟨rfl, π, h⟩
end
/-! all 18 calls -/
section
variable {σ : mS}
theorem pp_cls (h : ∃ π, RR π σ) (x1 : Int32) : MU M_O_cls [.inr (0, 0), .inl x1] σ (PQ M_M_cls [.inr (25, 0), .inl x1]) := by
  obtain ⟨π, h⟩ := h
  exact pair_ch h (c_cls h.1 x1) (fun τ ht => d_cls ht x1)
theorem pp_field (h : ∃ π, RR π σ) (x1 : Int32) : MU M_O_field [.inr (0, 0), .inl x1] σ (PQ M_M_field [.inr (25, 0), .inl x1]) := by
  obtain ⟨π, h⟩ := h
  exact pair_ch h (c_field h.1 x1) (fun τ ht => d_field ht x1)
theorem pp_method (h : ∃ π, RR π σ) (x1 x2 : Int32) : MU M_O_method [.inr (0, 0), .inl x1, .inl x2] σ (PQ M_M_method [.inr (25, 0), .inl x1, .inl x2]) := by
  obtain ⟨π, h⟩ := h
  exact pair_ch h (c_method h.1 x1 x2) (fun τ ht => d_method ht x1 x2)
theorem pp_statement (h : ∃ π, RR π σ) (x1 x2 x3 x4 x5 x6 x7 : Int32) : MU M_O_statement [.inr (0, 0), .inl x1, .inl x2, .inl x3, .inl x4, .inl x5, .inl x6, .inl x7] σ (PQ M_M_statement [.inr (25, 0), .inl x1, .inl x2, .inl x3, .inl x4, .inl x5, .inl x6, .inl x7]) := by
  obtain ⟨π, h⟩ := h
  exact pair_ch h (c_statement h.1 x1 x2 x3 x4 x5 x6 x7) (fun τ ht => d_statement ht x1 x2 x3 x4 x5 x6 x7)
theorem pp_mode (h : ∃ π, RR π σ) (x1 : Int32) : MU M_O_mode [.inr (0, 0), .inl x1] σ (PQ M_M_mode [.inr (25, 0), .inl x1]) := by
  obtain ⟨π, h⟩ := h
  exact pair_ch h (c_mode h.1 x1) (fun τ ht => d_mode ht x1)
theorem pp_clear (h : ∃ π, RR π σ) : MU M_O_clear [.inr (0, 0)] σ (PQ M_M_clear [.inr (25, 0)]) := by
  obtain ⟨π, h⟩ := h
  exact pair_ch h (c_clear h.1) (fun τ ht => d_clear ht)
theorem pp_points (h : ∃ π, RR π σ) (x1 x2 x3 : Int32) : MU M_O_points [.inr (0, 0), .inl x1, .inl x2, .inl x3] σ (PQ M_M_points [.inr (25, 0), .inl x1, .inl x2, .inl x3]) := by
  obtain ⟨π, h⟩ := h
  obtain ⟨N, hN, hL⟩ := ex_last h.1.1.1
  exact pair_q h (c_points h.1 hL x1 x2 x3) (fun τ ht => d_points ht hL x1 x2 x3)
theorem pp_inField (h : ∃ π, RR π σ) (x1 x2 : Int32) : MU M_O_inField [.inr (0, 0), .inl x1, .inl x2] σ (PQ M_M_inField [.inr (25, 0), .inl x1, .inl x2]) := by
  obtain ⟨π, h⟩ := h
  obtain ⟨N, hN, hL⟩ := ex_last h.1.1.1
  exact pair_q h (c_inField h.1 hL x1 x2) (fun τ ht => d_inField ht hL x1 x2)
theorem pp_element (h : ∃ π, RR π σ) (x1 : Int32) : MU M_O_element [.inr (0, 0), .inl x1] σ (PQ M_M_element [.inr (25, 0), .inl x1]) := by
  obtain ⟨π, h⟩ := h
  obtain ⟨N, hN, hL⟩ := ex_last h.1.1.1
  exact pair_q h (c_element h.1 hL x1) (fun τ ht => d_element ht hL x1)
theorem pp_inStatic (h : ∃ π, RR π σ) (x1 : Int32) : MU M_O_inStatic [.inr (0, 0), .inl x1] σ (PQ M_M_inStatic [.inr (25, 0), .inl x1]) := by
  obtain ⟨π, h⟩ := h
  obtain ⟨N, hN, hL⟩ := ex_last h.1.1.1
  exact pair_q h (c_inStatic h.1 hL x1) (fun τ ht => d_inStatic ht hL x1)
theorem pp_reached (h : ∃ π, RR π σ) (x1 : Int32) : MU M_O_reached [.inr (0, 0), .inl x1] σ (PQ M_M_reached [.inr (25, 0), .inl x1]) := by
  obtain ⟨π, h⟩ := h
  obtain ⟨N, hN, hL⟩ := ex_last h.1.1.1
  exact pair_q h (c_reached h.1 hL x1) (fun τ ht => d_reached ht hL x1)
theorem pp_may (h : ∃ π, RR π σ) (x1 : Int32) : MU M_O_may [.inr (0, 0), .inl x1] σ (PQ M_M_may [.inr (25, 0), .inl x1]) := by
  obtain ⟨π, h⟩ := h
  obtain ⟨N, hN, hL⟩ := ex_last h.1.1.1
  exact pair_q h (c_may h.1 hL x1) (fun τ ht => d_may ht hL x1)
theorem pp_alias (h : ∃ π, RR π σ) (x1 x2 x3 x4 : Int32) : MU M_O_alias [.inr (0, 0), .inl x1, .inl x2, .inl x3, .inl x4] σ (PQ M_M_alias [.inr (25, 0), .inl x1, .inl x2, .inl x3, .inl x4]) := by
  obtain ⟨π, h⟩ := h
  obtain ⟨N, hN, hL⟩ := ex_last h.1.1.1
  exact pair_q h (c_alias h.1 hL x1 x2 x3 x4) (fun τ ht => d_alias ht hL x1 x2 x3 x4)
theorem pp_rounds (h : ∃ π, RR π σ) : MU M_O_rounds [.inr (0, 0)] σ (PQ M_M_rounds [.inr (25, 0)]) := by
  obtain ⟨π, h⟩ := h
  obtain ⟨N, hN, hL⟩ := ex_last h.1.1.1
  exact pair_q h (c_rounds h.1 hL) (fun τ ht => d_rounds ht hL)
theorem pp_when (h : ∃ π, RR π σ) (x1 x2 x3 : Int32) : MU M_O_when [.inr (0, 0), .inl x1, .inl x2, .inl x3] σ (PQ M_M_when [.inr (25, 0), .inl x1, .inl x2, .inl x3]) := by
  obtain ⟨π, h⟩ := h
  obtain ⟨N, hN, hL⟩ := ex_last h.1.1.1
  exact pair_q h (c_when h.1 hL x1 x2 x3) (fun τ ht => d_when ht hN hL x1 x2 x3)
theorem pp_run (h : ∃ π, RR π σ) (x1 x2 : Int32) : MU M_O_run [.inr (0, 0), .inl x1, .inl x2] σ (PQ M_M_run [.inr (25, 0), .inl x1, .inl x2]) := by
  obtain ⟨π, h⟩ := h
  obtain ⟨N, hN, hL⟩ := ex_last h.1.1.1
  exact pair_r h (c_run h.1 hL x1 x2) (fun τ ht => d_run ht hL x1 x2)
theorem pp_met (h : ∃ π, RR π σ) (x1 x2 : Int32) : MU M_O_met [.inr (0, 0), .inl x1, .inl x2] σ (PQ M_M_met [.inr (25, 0), .inl x1, .inl x2]) := by
  obtain ⟨π, h⟩ := h
  exact pair_s h (c_met h.1 x1 x2) (d_met h.2.1 h.2.2.2 x1 x2)
theorem pp_ran (h : ∃ π, RR π σ) (x1 : Int32) : MU M_O_ran [.inr (0, 0), .inl x1] σ (PQ M_M_ran [.inr (25, 0), .inl x1]) := by
  obtain ⟨π, h⟩ := h
  exact pair_s h (c_ran σ x1) (d_ran h.2.2.2 x1)
end
/-- the start: nothing is told -/
theorem RR_0 {σ : mS} (hz : ∀ k, k < 59 → ∀ j, σ k j = 0) : ∃ π, RR π σ := by
  have z : ((0 : Int32)).toNatClampNeg = 0 := by decide
  have g0 : ∀ j, gN σ 25 j = 0 := fun j => by unfold gN; rw [hz 25 (by decide) j, z]
  have c0 : ∀ {c : Nat}, ¬ c < nC σ := fun {c} h => by have e : nC σ = 0 := g0 0; omega
  have f0 : ∀ {c : Nat}, ¬ c < nF σ := fun {c} h => by have e : nF σ = 0 := g0 2; omega
  have m0 : ∀ {c : Nat}, ¬ c < nM σ := fun {c} h => by have e : nM σ = 0 := g0 4; omega
  have s0 : ∀ {c : Nat}, ¬ c < nS σ := fun {c} h => by have e : nS σ = 0 := g0 7; omega
  have t0 : ∀ {c : Nat}, ¬ c < nT σ := fun {c} h => by have e : nT σ = 0 := g0 16; omega
  have hw : WM σ := by
    refine ⟨?_, ?_, ?_⟩
    · unfold WM1
      rw [hz 25 (by decide), hz 25 (by decide), hz 25 (by decide), hz 25 (by decide), hz 25 (by decide), hz 25 (by decide)]
      exact ⟨IN_0 (by decide), IN_0 (by decide), IN_0 (by decide), IN_0 (by decide), IN_0 (by decide), Or.inl rfl⟩
    · exact ⟨fun c hc => absurd hc c0, fun c hc => absurd hc f0, fun c hc => absurd hc m0, fun c hc => absurd hc t0⟩
    · intro i hi
      exact absurd hi s0
  refine ⟨σ, ⟨⟨hw, ?_, ?_, ?_⟩, Or.inl (hz 2 (by decide) 7), ?_⟩, ⟨PM.self hw, Or.inl (hz 25 (by decide) 19), ?_⟩, ?_, ?_⟩
  · unfold RC1
    rw [hz 25 (by decide), hz 25 (by decide), hz 25 (by decide), hz 25 (by decide), hz 25 (by decide), hz 25 (by decide), hz 1 (by decide), hz 1 (by decide), hz 1 (by decide), hz 1 (by decide), hz 1 (by decide), hz 2 (by decide)]
    exact ⟨rfl, rfl, rfl, rfl, rfl, rfl⟩
  · exact ⟨fun c hc => absurd hc c0, fun c hc => absurd hc c0, fun c hc => absurd hc c0, fun c hc => absurd hc c0, fun c hc => absurd hc f0, fun c hc => absurd hc t0⟩
  · exact ⟨fun c hc => absurd hc m0, fun c hc => absurd hc m0, fun c hc => absurd hc s0⟩
  · exact ⟨fun j _ => ⟨hz 13 (by decide) j, hz 14 (by decide) j⟩, fun j _ => hz 15 (by decide) j⟩
  · exact ⟨fun j _ => ⟨hz 39 (by decide) j, hz 40 (by decide) j⟩, fun j _ => ⟨hz 41 (by decide) j, hz 42 (by decide) j⟩, fun j _ => ⟨hz 43 (by decide) j, hz 44 (by decide) j⟩, fun j _ => ⟨hz 45 (by decide) j, hz 46 (by decide) j⟩, fun j _ => ⟨hz 47 (by decide) j, hz 48 (by decide) j⟩, fun j _ => hz 49 (by decide) j⟩
  · rw [hz 2 (by decide), hz 25 (by decide)]
  · unfold RTt
    rw [hz 3 (by decide), hz 3 (by decide), hz 3 (by decide), hz 25 (by decide), hz 25 (by decide), hz 25 (by decide)]
    exact ⟨rfl, rfl, rfl, fun k hk => by rw [hz 23 (by decide), hz 58 (by decide)]⟩
