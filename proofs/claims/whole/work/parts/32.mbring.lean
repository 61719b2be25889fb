/-! THE MODEL: what a statement brings -/
theorem bt_bI (b : Bool) (i : Nat) : bt (bI b) i = (b && decide (i = 0)) := by
  cases b with
  | false => rw [show bI false = 0 from rfl, b_0, Bool.false_and]
  | true =>
    rw [show bI true = (1 : Int32) <<< (nI 0 &&& 31) from by decide, bt_1shl (by decide), Bool.true_and]
theorem shr1 {x : Int32} {k : Nat} (hk : k < 31) : (x >>> (nI k &&& 31)) &&& (1 : Int32) = bI (bt x k) := by
  apply b_ext
  intro i hi
  rw [bt_bI, b_and]
  by_cases h0 : i = 0
  · subst h0
    rw [b_sshr k (by omega) x (by omega), if_pos (by omega), show bt (1 : Int32) 0 = true by decide]
    simp
  · have : bt (1 : Int32) i = false := (by decide +kernel : ∀ i, i < 32 → ¬ i = 0 → bt (1 : Int32) i = false) i hi h0
    rw [this, decide_eq_false h0, Bool.and_false, Bool.and_false]
theorem br_1 {b : Bool} {A B : Prop} (ha : b = false → A) (hb : b = true → B) : (¬ bI b = (1 : Int32) → A) ∧ (bI b = (1 : Int32) → B) := by
  cases b with
  | false => exact ⟨fun _ => ha rfl, fun q => absurd q (by decide)⟩
  | true => exact ⟨fun q => absurd rfl q, fun _ => hb rfl⟩
theorem flt_fm {α : Type} (p : Nat → Bool) (f : Nat → α) (l : List Nat) : (l.filter p).map f = l.flatMap (fun o => if p o = true then [f o] else []) := by
  induction l with
  | nil => rfl
  | cons a l ih =>
    rw [List.filter_cons, List.flatMap_cons, ← ih]
    by_cases h : p a = true
    · rw [if_pos h, if_pos h]; rfl
    · rw [if_neg h, if_neg h]; rfl
theorem l_each {π σ0 : mS} (h : PM π σ0) {S T : Nat → Int32} {i : Nat} (pb qb x4 : Int32) (g : Nat → List (Nat × Int32)) (Q : Option mV → mS → Prop)
    (hstep : ∀ o, o < nT π → ∀ T', (∀ u6 u7, J M_M_bringEach Q 3 [some (.inr (25, 0)), some (.inl (nI i)), some (.inl pb), some (.inl qb), some (.inl x4), some (.inl (nI o + 1)), u6, u7] [] (mSt σ0 S (orAll T' (g o)))) → ∀ u7, J M_M_bringEach Q 44 [some (.inr (25, 0)), some (.inl (nI i)), some (.inl pb), some (.inl qb), some (.inl x4), some (.inl (nI o)), some (.inl (bI (bt pb o))), u7] [.inl (bI (bt qb o))] (mSt σ0 S T'))
    (hq : Q none (mSt σ0 S (orAll T ((List.range (nT π)).flatMap g)))) : ∀ n o, nT π - o = n → o ≤ nT π → ∀ u6 u7, J M_M_bringEach Q 3 [some (.inr (25, 0)), some (.inl (nI i)), some (.inl pb), some (.inl qb), some (.inl x4), some (.inl (nI o)), u6, u7] [] (mSt σ0 S (orAll T ((List.range o).flatMap g))) := by
  have hw := h.1
  have a1 := hw.nT20
  have h16 : ∀ T', mSt σ0 S T' 25 16 = nI (nT π) := fun T' => by rw [mSt_o (by omega), h.2.2 16 (by decide), a1.1]
  intro n
  induction n with
  | zero =>
    intro o h1 h2 u6 u7
    have : o = nT π := by omega
    subst this
    exact r_M_bringEach_3 ⟨fun _ => hq, fun q => absurd (by rw [h16]; exact nI_le (Nat.le_refl _) (by omega)) q⟩
  | succ n ih =>
    intro o h1 h2 u6 u7
    have key := ih (o + 1) (by omega) (by omega)
    rw [fm_succ, orAll_app, ← nI_1] at key
    have s := hstep o (by omega) _ key
    refine r_M_bringEach_3 ⟨fun q => absurd q (by rw [h16]; exact nI_ge (by omega) (by omega)), fun _ => ?_⟩
    rw [shr1 (by omega), shr1 (by omega)]
    refine br_1 (fun e => br_1 (fun e2 => ?_) (fun e2 => ?_)) (fun e => br_1 (fun e2 => ?_) (fun e2 => ?_)) <;> (rw [e, e2] at s; exact s _)
/-- the entries of bringEach, by the kind -/
def gE (π : mS) (S : Nat → Int32) (i P : Nat) (pb qb : Int32) (o : Nat) : List (Nat × Int32) := match kd π i with
  | 2 => if (bt qb o && hasS π o (rr π i)) = true then [(P, S (1260 + 9 * o + rr π i))] else []
  | 3 => if (bt pb o && hasS π o (rr π i)) = true then [(1260 + 9 * o + rr π i, qb)] else []
  | 4 => if (bt qb o && und π (sc π o) (rr π i)) = true then [(P, (1 : Int32) <<< (nI o &&& 31))] else []
  | 8 => if (bt qb o && hasS π o 8) = true then [(P, S (1260 + 9 * o + 8))] else []
  | _ => if (bt pb o && hasS π o 8) = true then [(1260 + 9 * o + 8, qb)] else []
theorem gE_2 {π : mS} {S : Nat → Int32} {i P : Nat} {pb qb : Int32} {o : Nat} (hk : kd π i = 2) : gE π S i P pb qb o = if (bt qb o && hasS π o (rr π i)) = true then [(P, S (1260 + 9 * o + rr π i))] else [] := by unfold gE; rw [hk] <;> rfl
theorem gE_3 {π : mS} {S : Nat → Int32} {i P : Nat} {pb qb : Int32} {o : Nat} (hk : kd π i = 3) : gE π S i P pb qb o = if (bt pb o && hasS π o (rr π i)) = true then [(1260 + 9 * o + rr π i, qb)] else [] := by unfold gE; rw [hk] <;> rfl
theorem gE_4 {π : mS} {S : Nat → Int32} {i P : Nat} {pb qb : Int32} {o : Nat} (hk : kd π i = 4) : gE π S i P pb qb o = if (bt qb o && und π (sc π o) (rr π i)) = true then [(P, (1 : Int32) <<< (nI o &&& 31))] else [] := by unfold gE; rw [hk] <;> rfl
theorem gE_8 {π : mS} {S : Nat → Int32} {i P : Nat} {pb qb : Int32} {o : Nat} (hk : kd π i = 8) : gE π S i P pb qb o = if (bt qb o && hasS π o 8) = true then [(P, S (1260 + 9 * o + 8))] else [] := by unfold gE; rw [hk] <;> rfl
theorem gE_9 {π : mS} {S : Nat → Int32} {i P : Nat} {pb qb : Int32} {o : Nat} (hk : kd π i = 9) : gE π S i P pb qb o = if (bt pb o && hasS π o 8) = true then [(1260 + 9 * o + 8, qb)] else [] := by unfold gE; rw [hk] <;> rfl
theorem hasS_8 (π : mS) (o : Nat) : hasS π o 8 = true := by unfold hasS; rw [decide_eq_true rfl, Bool.true_or]
theorem hasS_f {π : mS} {o f : Nat} (h : f < 8) : hasS π o f = und π (sc π o) (fO π f) := by unfold hasS; rw [decide_eq_false (by omega), Bool.false_or]
theorem d_bringEach {π σ0 : mS} (h : PM π σ0) {S T : Nat → Int32} {i P : Nat} (hi : i < nS π) (hP : P < 1260) (pb qb : Int32) (hk : kd π i = 2 ∨ kd π i = 3 ∨ kd π i = 4 ∨ kd π i = 8 ∨ kd π i = 9) : MR M_M_bringEach [.inr (25, 0), .inl (nI i), .inl pb, .inl qb, .inl (nI P)] (mSt σ0 S T) none (mSt σ0 S (orAll T ((List.range (nT π)).flatMap (gE π S i P pb qb)))) := by
  have hw := h.1
  have a1 := hw.nT20
  have a2 := hw.nS60.2
  have a3 := hw.nF8.2
  have a4 := hw.nC8.2
  have hop := hw.op hi
  refine MU_of rfl rfl rfl (r_M_bringEach_0 (l_each h pb qb (nI P) (gE π S i P pb qb) _ ?_ ⟨rfl, rfl⟩ (nT π) 0 rfl (Nat.zero_le _) _ _))
  intro o ho T' key u7
  have hpm : PM π (mSt σ0 S T') := mSt_pm h
  have k31 : mSt σ0 S T' 31 i = nI (kd π i) := by rw [hpm.2.1 31 (by decide) (by decide), (hw.kd hi).1]
  have k34 : mSt σ0 S T' 34 i = π 34 i := by rw [hpm.2.1 34 (by decide) (by decide)]
  have k38 : mSt σ0 S T' 38 o = nI (sc π o) := by rw [hpm.2.1 38 (by decide) (by decide), (hw.sc ho).1]
  have kn : ∀ a b, a < 10 → b < 10 → a ≠ b → ¬ nI a = nI b := fun a b ha hb hab q => hab (nI_inj (by omega) (by omega) q)
  have vi := vp_in_nI (n := i) (N := 60) (by omega) (by decide)
  have vP := vp_in_nI (n := P) (N := 1260) hP (by decide)
  refine r_M_bringEach_44 ?_
  rw [cl_nI (n := i) (by omega), cl_nI (n := P) (by omega), cl_nI (n := o) (by omega), k31, k34, k38]
  rcases hk with k | k | k | k | k
  · obtain ⟨-, -, q3⟩ := op_2 hop k
    have q3 : π 34 i = nI (rr π i) ∧ rr π i < nF π := q3.g (by omega)
    rw [k, q3.1, pk_mul, nI_add, cl_nI (by omega)]
    rw [gE_2 k, hasS_f (by omega)] at key
    refine ⟨vi, fun _ => ⟨vP, br_b (fun e => ⟨vP, ?_⟩) (fun e => ⟨vi, (d_hasField hpm ho q3.2).i (br_b (fun e2 => ⟨vP, ?_⟩) (fun e2 => ?_))⟩)⟩, fun q => absurd q (kn _ _ (by decide) (by decide) (by decide)), fun q => absurd q (kn _ _ (by decide) (by decide) (by decide)), fun q => absurd q (kn _ _ (by decide) (by decide) (by decide)), fun q => absurd rfl q⟩
    · rw [mSt_up40 hP, orT_0]
      rw [e, Bool.false_and, if_neg (by decide), orAll_nil] at key
      exact key _ _
    · rw [mSt_up40 hP, orT_0]
      rw [e2, Bool.and_false, if_neg (by decide), orAll_nil] at key
      exact key _ _
    · rw [k34, q3.1, nI_add, cl_nI (by omega), mSt_41, a1_at (by omega) (by omega), mSt_up40 hP]
      rw [e, e2, Bool.and_true, if_pos rfl, orAll_one] at key
      exact ⟨vi, vp_in_nI (by omega) (by decide), vP, key _ _⟩
  · obtain ⟨-, -, q3⟩ := op_3 hop k
    have q3 : π 34 i = nI (rr π i) ∧ rr π i < nF π := q3.g (by omega)
    rw [k, q3.1, pk_mul, nI_add, cl_nI (by omega)]
    rw [gE_3 k, hasS_f (by omega)] at key
    have vf := vp_in_nI (n := 8 * o + rr π i) (N := 160) (by omega) (by decide)
    refine ⟨vi, fun q => absurd q (kn _ _ (by decide) (by decide) (by decide)), fun _ => ⟨vi, vf, br_b (fun e => ⟨vf, ?_⟩) (fun e => ⟨vi, (d_hasField hpm ho q3.2).i (br_b (fun e2 => ⟨vf, ?_⟩) (fun e2 => ⟨vf, ?_⟩))⟩)⟩, fun q => absurd q (kn _ _ (by decide) (by decide) (by decide)), fun q => absurd q (kn _ _ (by decide) (by decide) (by decide)), fun _ q => absurd rfl q⟩
    · rw [mSt_up42 (by omega) (by omega), orT_0]
      rw [e, Bool.false_and, if_neg (by decide), orAll_nil] at key
      exact key _ _
    · rw [mSt_up42 (by omega) (by omega), orT_0]
      rw [e2, Bool.and_false, if_neg (by decide), orAll_nil] at key
      exact key _ _
    · rw [mSt_up42 (by omega) (by omega)]
      rw [e, e2, Bool.and_true, if_pos rfl, orAll_one] at key
      exact key _ _
  · obtain ⟨-, -, q3⟩ := op_4 hop k
    have q3 : π 34 i = nI (rr π i) ∧ rr π i < nC π := q3.g (by omega)
    have vo := vp_in_nI (n := o) (N := 20) (by omega) (by decide)
    rw [k, q3.1]
    rw [gE_4 k] at key
    refine ⟨vi, fun q => absurd q (kn _ _ (by decide) (by decide) (by decide)), fun q => absurd q (kn _ _ (by decide) (by decide) (by decide)), fun _ => ⟨vP, br_b (fun e => ⟨vP, ?_⟩) (fun e => ⟨vo, vi, (d_isUnder hpm (hw.sc ho).2 (by omega)).i (br_b (fun e2 => ⟨vP, ?_⟩) (fun e2 => ⟨vP, ?_⟩))⟩)⟩, fun q => absurd q (kn _ _ (by decide) (by decide) (by decide)), fun _ _ q => absurd rfl q⟩
    · rw [mSt_up40 hP, orT_0]
      rw [e, Bool.false_and, if_neg (by decide), orAll_nil] at key
      exact key _ _
    · rw [mSt_up40 hP, orT_0]
      rw [e2, Bool.and_false, if_neg (by decide), orAll_nil] at key
      exact key _ _
    · rw [mSt_up40 hP]
      rw [e, e2, Bool.and_true, if_pos rfl, orAll_one] at key
      exact key _ _
  · have vo := vp_in_nI (n := o) (N := 20) (by omega) (by decide)
    rw [k]
    rw [gE_8 k, hasS_8, Bool.and_true] at key
    refine ⟨vi, fun q => absurd q (kn _ _ (by decide) (by decide) (by decide)), fun q => absurd q (kn _ _ (by decide) (by decide) (by decide)), fun q => absurd q (kn _ _ (by decide) (by decide) (by decide)), fun _ => ⟨vP, br_b (fun e => ⟨vP, ?_⟩) (fun e => ⟨vo, vP, ?_⟩)⟩, fun _ _ _ q => absurd rfl q⟩
    · rw [mSt_up40 hP, orT_0]
      rw [e, if_neg (by decide), orAll_nil] at key
      exact key _ _
    · rw [mSt_43, a2_at (by omega), mSt_up40 hP]
      rw [e, if_pos rfl, orAll_one] at key
      exact key _ _
  · have vo := vp_in_nI (n := o) (N := 20) (by omega) (by decide)
    rw [k]
    rw [gE_9 k, hasS_8, Bool.and_true] at key
    refine ⟨vi, fun q => absurd q (kn _ _ (by decide) (by decide) (by decide)), fun q => absurd q (kn _ _ (by decide) (by decide) (by decide)), fun q => absurd q (kn _ _ (by decide) (by decide) (by decide)), fun q => absurd q (kn _ _ (by decide) (by decide) (by decide)), fun _ _ _ _ => ⟨vo, br_b (fun e => ⟨vo, ?_⟩) (fun e => ⟨vo, ?_⟩)⟩⟩
    · rw [mSt_up44 (by omega), orT_0]
      rw [e, if_neg (by decide), orAll_nil] at key
      exact key _ _
    · rw [mSt_up44 (by omega)]
      rw [e, if_pos rfl, orAll_one] at key
      exact key _ _
theorem l_call {π σ0 : mS} (h : PM π σ0) {S T : Nat → Int32} {i c : Nat} (hi : i < nS π) (hc : c < 21) (hk : kd π i = 7) (qb : Int32) (Q : Option mV → mS → Prop)
    (hq : Q none (mSt σ0 S (orAll T ((List.range (nT π)).flatMap (fun o => if bt qb o = true then conC π S i c o else []))))) :
    ∀ n o, nT π - o = n → o ≤ nT π → ∀ u2 u8 u9, J M_M_call Q 49 [some (.inr (25, 0)), some (.inl (nI i)), u2, some (.inl qb), some (.inl (nI (126 * ow π i + 6 * c + pp π i))), some (.inl (S (126 * ow π i + 6 * c + ss π i))), some (.inl (S (126 * ow π i + 6 * c + tt π i))), some (.inl (nI o)), u8, u9] [] (mSt σ0 S (orAll T ((List.range o).flatMap (fun o => if bt qb o = true then conC π S i c o else [])))) := by
  have hw := h.1
  have a1 := hw.nT20
  have a2 := hw.nM10
  have a3 := hw.nS60.2
  have o2 := (hw.ow hi).2
  obtain ⟨p1, p2, p3, p4, p5⟩ := op_7 (hw.op hi) hk
  have p1 : pp π i < 6 := (p1.g (by decide)).2
  have p3 : π 34 i = nI (rr π i) ∧ rr π i < 4 := p3.g (by decide)
  have p4 : ss π i < 6 := (p4.g (by decide)).2
  have p5 : tt π i < 6 := (p5.g (by decide)).2
  have h16 : ∀ T', mSt σ0 S T' 25 16 = nI (nT π) := fun T' => by rw [mSt_o (by omega), h.2.2 16 (by decide), a1.1]
  have h18 : ∀ T', mSt σ0 S T' 25 18 = π 25 18 := fun T' => by rw [mSt_o (by omega), h.2.2 18 (by decide)]
  intro n
  induction n with
  | zero =>
    intro o h1 h2 u2 u8 u9
    have : o = nT π := by omega
    subst this
    exact r_M_call_49 ⟨fun _ => hq, fun q => absurd (by rw [h16]; exact nI_le (Nat.le_refl _) (by omega)) q⟩
  | succ n ih =>
    intro o h1 h2 u2 u8 u9
    have key := fun u2 u8 u9 => ih (o + 1) (by omega) (by omega) u2 u8 u9
    rw [fm_succ, orAll_app, ← nI_1] at key
    generalize orAll T ((List.range o).flatMap (fun o => if bt qb o = true then conC π S i c o else [])) = T1 at key ⊢
    have hpm : PM π (mSt σ0 S T1) := mSt_pm h
    have ho : o < nT π := by omega
    refine r_M_call_49 ⟨fun q => absurd q (by rw [h16]; exact nI_ge (by omega) (by omega)), fun _ => ?_⟩
    rw [shr1 (by omega)]
    refine br_1 (fun e => ⟨fun q => absurd q (by decide), fun _ => ?_⟩) (fun e => ⟨vp_in_nI (by omega) (by decide), vp_in_nI (by omega) (by decide), ?_⟩)
    · rw [if_neg (by rw [e]; decide), orAll_nil] at key
      exact key _ _ _
    · rw [if_pos e] at key
      unfold conC at key
      rw [cl_nI (by omega), cl_nI (by omega), hpm.2.1 38 (by decide) (by decide), hpm.2.1 34 (by decide) (by decide), (hw.sc ho).1, p3.1]
      refine (d_found hpm (hw.sc ho).2 _).i ?_
      rw [h18]
      rcases fnd_cases π (sc π o) (rr π i) with ef | ⟨m', hm', ef⟩
      · rw [ef]
        rw [if_pos ef] at key
        exact ⟨fun q => absurd q (by decide), fun _ => key _ _ _⟩
      · have hne : ¬ fnd π (sc π o) (rr π i) = -1 := by rw [ef]; exact nI_m1 (by omega)
        rw [if_neg hne, ef, cl_nI (by omega)] at key
        rw [ef]
        have go : ∀ u9, J M_M_call Q 114 [some (.inr (25, 0)), some (.inl (nI i)), u2, some (.inl qb), some (.inl (nI (126 * ow π i + 6 * c + pp π i))), some (.inl (S (126 * ow π i + 6 * c + ss π i))), some (.inl (S (126 * ow π i + 6 * c + tt π i))), some (.inl (nI o)), some (.inl (nI m')), u9] [.inl (nI (ctx π o))] (mSt σ0 S T1) := by
          intro u9
          have hcx := ctx_le (π := π) o
          generalize ctx π o = cx at key hcx ⊢
          refine r_M_call_114 ⟨vp_in_nI (by omega) (by decide), vp_in_nI (by omega) (by decide), ?_⟩
          rw [cl_nI (n := m') (by omega), cl_nI (n := 126 * ow π i + 6 * c + pp π i) (by omega), mSt_up48 (by omega)]
          refine (d_nameAt _ m' cx 0).i ⟨vp_in_nI (by omega) (by decide), vp_in_nI (by omega) (by decide), ?_⟩
          rw [cl_nI (by omega), mSt_up40 (by omega)]
          refine (d_nameAt _ m' cx 1).i ⟨vp_in_nI (by omega) (by decide), vp_in_nI (by omega) (by decide), ?_⟩
          rw [cl_nI (by omega), mSt_up40 (by omega)]
          refine (d_nameAt _ m' cx 2).i ⟨vp_in_nI (by omega) (by decide), vp_in_nI (by omega) (by decide), ?_⟩
          rw [cl_nI (by omega), mSt_up40 (by omega)]
          rintro _ rfl
          refine ⟨vp_in_nI (by omega) (by decide), (d_nameAt _ m' cx 5).i ⟨vp_in_nI (by omega) (by decide), vp_in_nI (by omega) (by decide), ?_⟩⟩
          rw [cl_nI (by omega), mSt_39, a0_at (by omega), mSt_up40 (by omega)]
          exact key _ _ _
        refine ⟨fun _ => ⟨fun e2 => ?_, fun e2 => ?_⟩, fun q => absurd (nI_pos' (by omega)) q⟩
        · have e3 : ctx π o = 1 + o := by unfold ctx; rw [if_neg e2]
          have := go u9
          rw [e3, show nI (1 + o) = (1 : Int32) + nI o from (nI_add 1 o).symm] at this
          exact this
        · have e3 : ctx π o = 0 := by unfold ctx; rw [if_pos e2]
          have := go u9
          rw [e3, nI_0] at this
          exact this
theorem d_call {π σ0 : mS} (h : PM π σ0) {S T : Nat → Int32} {i c : Nat} (hi : i < nS π) (hc : c < 21) (hk : kd π i = 7) (qb : Int32) : MR M_M_call [.inr (25, 0), .inl (nI i), .inl (nI c), .inl qb, .inl (nI (126 * ow π i + 6 * c + pp π i))] (mSt σ0 S T) none (mSt σ0 S (orAll T ((List.range (nT π)).flatMap (fun o => if bt qb o = true then conC π S i c o else [])))) := by
  have hw := h.1
  have a2 := hw.nM10
  have a3 := hw.nS60.2
  have o2 := hw.ow hi
  obtain ⟨p1, p2, p3, p4, p5⟩ := op_7 (hw.op hi) hk
  have p4 : π 35 i = nI (ss π i) ∧ ss π i < 6 := p4.g (by decide)
  have p5 : π 36 i = nI (tt π i) ∧ tt π i < 6 := p5.g (by decide)
  have hpm : PM π (mSt σ0 S T) := mSt_pm h
  have vi := vp_in_nI (n := i) (N := 60) (by omega) (by decide)
  refine MU_of rfl rfl rfl (r_M_call_0 ⟨vi, vi, ?_⟩)
  rw [cl_nI (n := i) (by omega), hpm.2.1 30 (by decide) (by decide), hpm.2.1 35 (by decide) (by decide), o2.1, p4.1]
  refine (d_nameAt _ _ _ _).i ⟨vp_in_nI (by omega) (by decide), vi, vi, ?_⟩
  rw [hpm.2.1 30 (by decide) (by decide), hpm.2.1 36 (by decide) (by decide), o2.1, p5.1]
  refine (d_nameAt _ _ _ _).i ⟨vp_in_nI (by omega) (by decide), ?_⟩
  rw [cl_nI (by omega), cl_nI (by omega), mSt_39, a0_at (by omega), a0_at (by omega)]
  exact l_call h hi hc hk qb _ ⟨rfl, rfl⟩ (nT π) 0 rfl (Nat.zero_le _) _ _ _
theorem con4_eq {π : mS} (hw : WM π) (T : Nat → Int32) (P c : Nat) (x : Int32) : orAll T ((List.range (nT π)).flatMap (fun o => if (bt x o && und π (sc π o) c) = true then [(P, (1 : Int32) <<< (nI o &&& 31))] else [])) = orT T P (x &&& su π c) := by
  have a1 := hw.nT20.2
  rw [← orAll_one]
  apply row_ext
  intro p b
  rw [bt_orAll, bt_orAll]
  have key : (∃ e ∈ (List.range (nT π)).flatMap (fun o => if (bt x o && und π (sc π o) c) = true then [(P, (1 : Int32) <<< (nI o &&& 31))] else []), e.1 = p ∧ bt e.2 b = true) ↔ (∃ e ∈ [(P, x &&& su π c)], e.1 = p ∧ bt e.2 b = true) := by
    constructor
    · rintro ⟨e, he, h1, h2⟩
      obtain ⟨o, ho, he⟩ := List.mem_flatMap.mp he
      have ho := List.mem_range.mp ho
      split at he
      · rename_i hb
        rw [List.mem_singleton.mp he] at h1 h2
        rw [bt_1shl (by omega)] at h2
        have : b = o := of_decide_eq_true h2
        subst this
        rw [Bool.and_eq_true] at hb
        refine ⟨_, List.mem_singleton.mpr rfl, h1, ?_⟩
        rw [b_and, bt_su hw, hb.1, hb.2, decide_eq_true ho]
        rfl
      · cases he
    · rintro ⟨e, he, h1, h2⟩
      rw [List.mem_singleton.mp he] at h1 h2
      rw [b_and, bt_su hw, Bool.and_eq_true, Bool.and_eq_true] at h2
      have ho := of_decide_eq_true h2.2.1
      refine ⟨(P, (1 : Int32) <<< (nI b &&& 31)), List.mem_flatMap.mpr ⟨b, List.mem_range.mpr ho, ?_⟩, h1, ?_⟩
      · rw [h2.1, h2.2.2, Bool.and_true, if_pos rfl]
        exact List.mem_singleton.mpr rfl
      · rw [bt_1shl (by omega)]
        exact decide_eq_true rfl
  rw [key]
theorem op_all {π : mS} (hw : WM π) {i : Nat} (hi : i < nS π) : π 32 i = nI (pp π i) ∧ π 33 i = nI (qq π i) ∧ pp π i < 6 ∧ qq π i < 8 ∧ (kd π i ≠ 0 → qq π i < 6) := by
  have hop := hw.op hi
  have a1 := hw.nC8.2
  have key : ∀ n m, IN (π 32 i) n → IN (π 33 i) m → n ≤ 6 → m ≤ 8 → π 32 i = nI (pp π i) ∧ π 33 i = nI (qq π i) ∧ pp π i < n ∧ qq π i < m := fun n m h1 h2 hn hm => ⟨(h1.g (by omega)).1, (h2.g (by omega)).1, (h1.g (by omega)).2, (h2.g (by omega)).2⟩
  rcases kd_cases hw hi with k | k | k | k | k | k | k | k | k | k
  · have := op_0 hop k
    obtain ⟨b1, b2, b3, b4⟩ := key 6 (nC π) this.1 this.2.1 (by decide) a1
    exact ⟨b1, b2, b3, by omega, fun q => absurd k q⟩
  · have := op_1 hop k
    obtain ⟨b1, b2, b3, b4⟩ := key 6 6 this.1 this.2 (by decide) (by decide)
    exact ⟨b1, b2, b3, by omega, fun _ => b4⟩
  · have := op_2 hop k
    obtain ⟨b1, b2, b3, b4⟩ := key 6 6 this.1 this.2.1 (by decide) (by decide)
    exact ⟨b1, b2, b3, by omega, fun _ => b4⟩
  · have := op_3 hop k
    obtain ⟨b1, b2, b3, b4⟩ := key 6 6 this.1 this.2.1 (by decide) (by decide)
    exact ⟨b1, b2, b3, by omega, fun _ => b4⟩
  · have := op_4 hop k
    obtain ⟨b1, b2, b3, b4⟩ := key 6 6 this.1 this.2.1 (by decide) (by decide)
    exact ⟨b1, b2, b3, by omega, fun _ => b4⟩
  · have := op_5 hop k
    obtain ⟨b1, b2, b3, b4⟩ := key 6 4 this.1 this.2 (by decide) (by decide)
    exact ⟨b1, b2, b3, by omega, fun _ => by omega⟩
  · have := op_6 hop k
    obtain ⟨b1, b2, b3, b4⟩ := key 4 6 this.1 this.2 (by decide) (by decide)
    exact ⟨b1, b2, by omega, by omega, fun _ => b4⟩
  · have := op_7 hop k
    obtain ⟨b1, b2, b3, b4⟩ := key 6 6 this.1 this.2.1 (by decide) (by decide)
    exact ⟨b1, b2, b3, by omega, fun _ => b4⟩
  · have := op_8 hop k
    obtain ⟨b1, b2, b3, b4⟩ := key 6 6 this.1 this.2 (by decide) (by decide)
    exact ⟨b1, b2, b3, by omega, fun _ => b4⟩
  · have := op_9 hop k
    obtain ⟨b1, b2, b3, b4⟩ := key 6 6 this.1 this.2 (by decide) (by decide)
    exact ⟨b1, b2, b3, by omega, fun _ => b4⟩
