/-! THE MODEL: bring, a round, know -/
theorem d_bring {π σ0 : mS} (h : PM π σ0) {S T : Nat → Int32} {i c : Nat} (hi : i < nS π) (hc : c < 21) : MR M_M_bring [.inr (25, 0), .inl (nI i), .inl (nI c)] (mSt σ0 S T) none (mSt σ0 S (orAll T (conS π S i c))) := by
  have hw := h.1
  have a1 := hw.nT20
  have a2 := hw.nM10
  have a3 := hw.nS60.2
  have o2 := hw.ow hi
  obtain ⟨p1, q1, p2, q2, q3⟩ := op_all hw hi
  have hop := hw.op hi
  have hpm : PM π (mSt σ0 S T) := mSt_pm h
  have vi := vp_in_nI (n := i) (N := 60) (by omega) (by decide)
  have vP := vp_in_nI (n := 126 * ow π i + 6 * c + pp π i) (N := 1260) (by omega) (by decide)
  have k31 : mSt σ0 S T 31 i = nI (kd π i) := by rw [hpm.2.1 31 (by decide) (by decide), (hw.kd hi).1]
  have k30 : mSt σ0 S T 30 i = nI (ow π i) := by rw [hpm.2.1 30 (by decide) (by decide), o2.1]
  have k32 : mSt σ0 S T 32 i = nI (pp π i) := by rw [hpm.2.1 32 (by decide) (by decide), p1]
  have k33 : mSt σ0 S T 33 i = nI (qq π i) := by rw [hpm.2.1 33 (by decide) (by decide), q1]
  have kn : ∀ a b, a < 10 → b < 10 → a ≠ b → ¬ nI a = nI b := fun a b ha hb hab q => hab (nI_inj (by omega) (by omega) q)
  have kd10 := (hw.kd hi).2
  -- what comes at 83
  have at83 : ∀ (x5 y0 : Int32), (kd π i ≠ 6 → x5 = S (126 * ow π i + 6 * c + pp π i)) → (kd π i ≠ 0 → kd π i ≠ 5 → y0 = S (126 * ow π i + 6 * c + qq π i)) → ∀ u3 u6, J M_M_bring (qR none (mSt σ0 S (orAll T (conS π S i c)))) 83 [some (.inr (25, 0)), some (.inl (nI i)), some (.inl (nI c)), u3, some (.inl (nI (126 * ow π i + 6 * c + pp π i))), some (.inl x5), u6] [.inl y0] (mSt σ0 S T) := by
    intro x5 y0 h5 h0 u3 u6
    refine r_M_bring_83 ?_
    rw [cl_nI (n := i) (by omega), cl_nI (n := 126 * ow π i + 6 * c + pp π i) (by omega), k31, k32, k33, cl_nI (n := pp π i) (by omega), cl_nI (n := qq π i) (by omega), mSt_up40 (by omega), mSt_up40 (by omega), mSt_up40 (by omega)]
    refine ⟨vi, fun e => ?_, fun e => ?_, fun e => ?_, fun e => ?_, fun e => ?_, fun e0 e1 e5 e6 e7 => ?_⟩
    · have k : kd π i = 0 := nI_inj (by omega) (by decide) e
      obtain ⟨-, -, s3⟩ := op_0 hop k
      have s3 : π 37 i = nI (sit π i) ∧ sit π i < nT π := s3.g (by omega)
      rw [hpm.2.1 37 (by decide) (by decide), s3.1, con_0 k, orAll_one]
      exact ⟨vP, vi, vP, rfl, rfl⟩
    · have k : kd π i = 1 := nI_inj (by omega) (by decide) e
      rw [h0 (by omega) (by omega), con_1 k, orAll_one]
      exact ⟨vP, vP, rfl, rfl⟩
    · have k : kd π i = 5 := nI_inj (by omega) (by decide) e
      have s2 : qq π i < 4 := ((op_5 hop k).2.g (by decide)).2
      rw [mSt_45, a3_at s2, con_5 k, orAll_one]
      exact ⟨vP, vi, vp_in_nI s2 (by decide), vP, rfl, rfl⟩
    · have k : kd π i = 6 := nI_inj (by omega) (by decide) e
      have s2 : pp π i < 4 := ((op_6 hop k).1.g (by decide)).2
      rw [mSt_up46 s2, h0 (by omega) (by omega), con_6 k, orAll_one]
      exact ⟨vi, vp_in_nI s2 (by decide), vp_in_nI s2 (by decide), rfl, rfl⟩
    · have k : kd π i = 7 := nI_inj (by omega) (by decide) e
      rw [h0 (by omega) (by omega), con_7 k]
      exact (d_call h hi hc k _).v ⟨rfl, rfl⟩
    · have hk : kd π i = 2 ∨ kd π i = 3 ∨ kd π i = 4 ∨ kd π i = 8 ∨ kd π i = 9 := by
        have d0 : kd π i ≠ 0 := fun q => e0 (by rw [q, nI_0])
        have d1 : kd π i ≠ 1 := fun q => e1 (by rw [q]; rfl)
        have d5 : kd π i ≠ 5 := fun q => e5 (by rw [q])
        have d6 : kd π i ≠ 6 := fun q => e6 (by rw [q])
        have d7 : kd π i ≠ 7 := fun q => e7 (by rw [q])
        omega
      refine (d_bringEach h hi (by omega) x5 y0 hk).v ⟨rfl, ?_⟩
      rw [h5 (by omega), h0 (by omega) (by omega)]
      congr 1
      rcases hk with k | k | k | k | k
      · rw [con_2 k]
        unfold fsl
        rw [flt_fm]
        congr 1
        congr 1
        funext o
        exact gE_2 k
      · rw [con_3 k]
        unfold fsl
        rw [flt_fm]
        congr 1
        congr 1
        funext o
        exact gE_3 k
      · rw [con_4 k, orAll_one, ← con4_eq hw]
        congr 1
        congr 1
        funext o
        exact gE_4 k
      · rw [con_8 k]
        unfold fsl
        rw [flt_fm]
        congr 1
        congr 1
        funext o
        exact gE_8 k
      · rw [con_9 k]
        unfold fsl
        rw [flt_fm]
        congr 1
        congr 1
        funext o
        exact gE_9 k
  have at42 : ∀ (x5 : Int32), (kd π i ≠ 6 → x5 = S (126 * ow π i + 6 * c + pp π i)) → ∀ u5 u6, J M_M_bring (qR none (mSt σ0 S (orAll T (conS π S i c)))) 42 [some (.inr (25, 0)), some (.inl (nI i)), some (.inl (nI c)), some (.inl (nI (ow π i))), some (.inl (nI (126 * ow π i + 6 * c + pp π i))), u5, u6] [.inl x5] (mSt σ0 S T) := by
    intro x5 h5 u5 u6
    refine r_M_bring_42 ?_
    rw [cl_nI (n := i) (by omega), k31, k33]
    refine ⟨vi, fun e => ?_, fun e => ⟨vi, fun e2 => ⟨vi, (d_nameAt _ _ _ _).i ?_⟩, fun e2 => ?_⟩⟩
    · have k : kd π i = 0 := nI_inj (by omega) (by decide) e
      exact at83 _ _ h5 (fun q => absurd k q) _ _
    · have d0 : kd π i ≠ 0 := fun q => e (by rw [q, nI_0])
      have := q3 d0
      rw [cl_nI (by omega), mSt_39, a0_at (by omega)]
      exact ⟨vp_in_nI (by omega) (by decide), at83 _ _ h5 (fun _ _ => rfl) _ _⟩
    · have k : kd π i = 5 := nI_inj (by omega) (by decide) e2
      exact at83 _ _ h5 (fun _ q => absurd k q) _ _
  refine MU_of rfl rfl rfl (r_M_bring_0 ?_)
  rw [cl_nI (n := i) (by omega), k30, k32]
  refine ⟨vi, ?_⟩
  rintro _ rfl
  refine ⟨vi, (d_nameAt _ _ _ _).i ⟨vi, fun e => ⟨vP, ?_⟩, fun e => ?_⟩⟩
  · rw [cl_nI (by omega), mSt_39, a0_at (by omega)]
    exact at42 _ (fun _ => rfl) _ _
  · rw [k31] at e
    have k : kd π i = 6 := nI_inj (by omega) (by decide) e
    exact at42 _ (fun q => absurd k q) _ _
/-- a round, in the model's order -/
def lI (π : mS) (B : Nat → Int32) (i : Nat) : List (Nat × Int32) := (List.range 21).flatMap (fun c => if bt (B (1444 + ow π i)) c = true then conS π B i c else [])
theorem lI_rnd {π : mS} (hw : WM π) (B : Nat → Int32) : orAll B ((List.range (nS π)).flatMap (lI π B)) = rnd π B := by
  unfold rnd
  apply orAll_same
  intro e
  rw [lM_mem hw, List.mem_flatMap]
  constructor
  · rintro ⟨i, hi, he⟩
    obtain ⟨c, hc, he⟩ := List.mem_flatMap.mp he
    split at he
    · rename_i hb
      exact ⟨i, c, List.mem_range.mp hi, List.mem_range.mp hc, hb, he⟩
    · cases he
  · rintro ⟨i, c, hi, hc, hb, he⟩
    refine ⟨i, List.mem_range.mpr hi, List.mem_flatMap.mpr ⟨c, List.mem_range.mpr hc, ?_⟩⟩
    rw [if_pos hb]
    exact he
theorem l_know44 {π σ0 : mS} (h : PM π σ0) {S T : Nat → Int32} {i : Nat} (hi : i < nS π) (Q : Option mV → mS → Prop) (u1 : Option mV)
    (hq : ∀ u3, J M_M_know Q 34 [some (.inr (25, 0)), u1, some (.inl (nI i + 1)), u3] [] (mSt σ0 S (orAll T (lI π S i)))) :
    ∀ n c, 21 - c = n → c ≤ 21 → J M_M_know Q 44 [some (.inr (25, 0)), u1, some (.inl (nI i)), some (.inl (nI c))] [] (mSt σ0 S (orAll T ((List.range c).flatMap (fun c => if bt (S (1444 + ow π i)) c = true then conS π S i c else [])))) := by
  have hw := h.1
  have a2 := hw.nM10.2
  have a3 := hw.nS60.2
  have o2 := hw.ow hi
  intro n
  induction n with
  | zero =>
    intro c h1 h2
    have : c = 21 := by omega
    subst this
    exact r_M_know_44 ⟨fun _ => hq _, fun q => absurd (nI_le (Nat.le_refl _) (by omega)) q⟩
  | succ n ih =>
    intro c h1 h2
    have key := ih (c + 1) (by omega) (by omega)
    rw [fm_succ, orAll_app, ← nI_1] at key
    have hpm : ∀ T', PM π (mSt σ0 S T') := fun T' => mSt_pm h
    refine r_M_know_44 ⟨fun q => absurd q (nI_ge (by omega) (by omega)), fun _ => ⟨vp_in_nI (by omega) (by decide), ?_⟩⟩
    rw [cl_nI (n := i) (by omega), (hpm _).2.1 30 (by decide) (by decide), o2.1, cl_nI (n := ow π i) (by omega), mSt_47, a4_at (by omega), shr1 (by omega)]
    refine ⟨vp_in_nI (by omega) (by decide), br_1 (fun e => ?_) (fun e => ?_)⟩
    · rw [if_neg (by rw [e]; decide), orAll_nil] at key
      exact key
    · rw [if_pos e] at key
      exact (d_bring h hi (by omega)).v key
theorem l_know34 {π σ0 : mS} (h : PM π σ0) {S : Nat → Int32} (Q : Option mV → mS → Prop) (u1 : Option mV)
    (hq : ∀ u3, J M_M_know Q 34 [some (.inr (25, 0)), u1, some (.inl (nI (nS π))), u3] [] (mSt σ0 S (rnd π S))) :
    ∀ n i, nS π - i = n → i ≤ nS π → ∀ u3, J M_M_know Q 34 [some (.inr (25, 0)), u1, some (.inl (nI i)), u3] [] (mSt σ0 S (orAll S ((List.range i).flatMap (lI π S)))) := by
  have hw := h.1
  have a3 := hw.nS60
  intro n
  induction n with
  | zero =>
    intro i h1 h2 u3
    have : i = nS π := by omega
    subst this
    rw [lI_rnd hw]
    exact hq u3
  | succ n ih =>
    intro i h1 h2 u3
    have key := ih (i + 1) (by omega) (by omega)
    rw [fm_succ, orAll_app, ← nI_1] at key
    have h7 : ∀ T', mSt σ0 S T' 25 7 = nI (nS π) := fun T' => by rw [mSt_o (by omega), h.2.2 7 (by decide), a3.1]
    refine r_M_know_34 ⟨fun q => absurd q (by rw [h7]; exact nI_ge (by omega) (by omega)), fun _ => ?_⟩
    exact l_know44 h (by omega) Q u1 key 21 0 rfl (by decide)
