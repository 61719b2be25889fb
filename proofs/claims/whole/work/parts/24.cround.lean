/-! CONTRACTS OF Sets: a statement, a round -/
theorem RCp.st {π σ : mS} (h : RCp π σ) {i : Nat} (hi : i < nS π) : σ (59 + i % 60) 0 = π 30 i ∧ σ (59 + i % 60) 2 = π 31 i ∧ σ (59 + i % 60) 3 = π 32 i ∧ σ (59 + i % 60) 4 = π 33 i ∧ σ (59 + i % 60) 5 = π 34 i ∧ σ (59 + i % 60) 6 = π 35 i ∧ σ (59 + i % 60) 7 = π 36 i ∧ (π 31 i = 0 → σ (59 + i % 60) 1 = π 37 i) := by
  have := h.1.nS60.2
  rw [Nat.mod_eq_of_lt (by omega)]
  exact h.2.2.2.2.2 i hi
theorem fm_succ {α : Type} (g : Nat → List α) (n : Nat) : (List.range (n + 1)).flatMap g = (List.range n).flatMap g ++ g n := by
  rw [List.range_succ, List.flatMap_append, List.flatMap_cons, List.flatMap_nil, List.append_nil]
theorem fm_stop {α : Type} {g : Nat → List α} {i : Nat} (h : ∀ o, i ≤ o → g o = []) : ∀ n, i ≤ n → (List.range n).flatMap g = (List.range i).flatMap g := by
  intro n hn
  induction n with
  | zero => have : i = 0 := by omega
            subst this; rfl
  | succ n ih =>
    by_cases e : i = n + 1
    · rw [e]
    · rw [fm_succ, ih (by omega), h n (by omega), List.append_nil]
theorem op_0 {π : mS} {i : Nat} (h : opOK π i) (hk : kd π i = 0) : IN (π 32 i) 6 ∧ IN (π 33 i) (nC π) ∧ IN (π 37 i) (nT π) := by unfold opOK at h; rw [hk] at h; exact h
theorem op_1 {π : mS} {i : Nat} (h : opOK π i) (hk : kd π i = 1) : IN (π 32 i) 6 ∧ IN (π 33 i) 6 := by unfold opOK at h; rw [hk] at h; exact h
theorem op_2 {π : mS} {i : Nat} (h : opOK π i) (hk : kd π i = 2) : IN (π 32 i) 6 ∧ IN (π 33 i) 6 ∧ IN (π 34 i) (nF π) := by unfold opOK at h; rw [hk] at h; exact h
theorem op_3 {π : mS} {i : Nat} (h : opOK π i) (hk : kd π i = 3) : IN (π 32 i) 6 ∧ IN (π 33 i) 6 ∧ IN (π 34 i) (nF π) := by unfold opOK at h; rw [hk] at h; exact h
theorem op_4 {π : mS} {i : Nat} (h : opOK π i) (hk : kd π i = 4) : IN (π 32 i) 6 ∧ IN (π 33 i) 6 ∧ IN (π 34 i) (nC π) := by unfold opOK at h; rw [hk] at h; exact h
theorem op_5 {π : mS} {i : Nat} (h : opOK π i) (hk : kd π i = 5) : IN (π 32 i) 6 ∧ IN (π 33 i) 4 := by unfold opOK at h; rw [hk] at h; exact h
theorem op_6 {π : mS} {i : Nat} (h : opOK π i) (hk : kd π i = 6) : IN (π 32 i) 4 ∧ IN (π 33 i) 6 := by unfold opOK at h; rw [hk] at h; exact h
theorem op_7 {π : mS} {i : Nat} (h : opOK π i) (hk : kd π i = 7) : IN (π 32 i) 6 ∧ IN (π 33 i) 6 ∧ IN (π 34 i) 4 ∧ IN (π 35 i) 6 ∧ IN (π 36 i) 6 := by unfold opOK at h; rw [hk] at h; exact h
theorem op_8 {π : mS} {i : Nat} (h : opOK π i) (hk : kd π i = 8) : IN (π 32 i) 6 ∧ IN (π 33 i) 6 := by unfold opOK at h; rw [hk] at h; exact h
theorem op_9 {π : mS} {i : Nat} (h : opOK π i) (hk : kd π i = 9) : IN (π 32 i) 6 ∧ IN (π 33 i) 6 := by unfold opOK at h; rw [hk] at h; exact h
theorem con_0 {π : mS} {T : Nat → Int32} {i c : Nat} (hk : kd π i = 0) : conS π T i c = [(126 * ow π i + 6 * c + pp π i, (1 : Int32) <<< (nI (sit π i) &&& 31))] := by unfold conS; rw [hk] <;> rfl
theorem con_1 {π : mS} {T : Nat → Int32} {i c : Nat} (hk : kd π i = 1) : conS π T i c = [(126 * ow π i + 6 * c + pp π i, T (126 * ow π i + 6 * c + qq π i))] := by unfold conS; rw [hk] <;> rfl
theorem con_2 {π : mS} {T : Nat → Int32} {i c : Nat} (hk : kd π i = 2) : conS π T i c = (fsl π (T (126 * ow π i + 6 * c + qq π i)) (rr π i)).map (fun o => (126 * ow π i + 6 * c + pp π i, T (1260 + 9 * o + rr π i))) := by unfold conS; rw [hk] <;> rfl
theorem con_3 {π : mS} {T : Nat → Int32} {i c : Nat} (hk : kd π i = 3) : conS π T i c = (fsl π (T (126 * ow π i + 6 * c + pp π i)) (rr π i)).map (fun o => (1260 + 9 * o + rr π i, T (126 * ow π i + 6 * c + qq π i))) := by unfold conS; rw [hk] <;> rfl
theorem con_4 {π : mS} {T : Nat → Int32} {i c : Nat} (hk : kd π i = 4) : conS π T i c = [(126 * ow π i + 6 * c + pp π i, T (126 * ow π i + 6 * c + qq π i) &&& su π (rr π i))] := by unfold conS; rw [hk] <;> rfl
theorem con_5 {π : mS} {T : Nat → Int32} {i c : Nat} (hk : kd π i = 5) : conS π T i c = [(126 * ow π i + 6 * c + pp π i, T (1440 + qq π i))] := by unfold conS; rw [hk] <;> rfl
theorem con_6 {π : mS} {T : Nat → Int32} {i c : Nat} (hk : kd π i = 6) : conS π T i c = [(1440 + pp π i, T (126 * ow π i + 6 * c + qq π i))] := by unfold conS; rw [hk] <;> rfl
theorem con_7 {π : mS} {T : Nat → Int32} {i c : Nat} (hk : kd π i = 7) : conS π T i c = (List.range (nT π)).flatMap (fun o => if bt (T (126 * ow π i + 6 * c + qq π i)) o = true then conC π T i c o else []) := by unfold conS; rw [hk] <;> rfl
theorem con_8 {π : mS} {T : Nat → Int32} {i c : Nat} (hk : kd π i = 8) : conS π T i c = (fsl π (T (126 * ow π i + 6 * c + qq π i)) 8).map (fun o => (126 * ow π i + 6 * c + pp π i, T (1260 + 9 * o + 8))) := by unfold conS; rw [hk] <;> rfl
theorem con_9 {π : mS} {T : Nat → Int32} {i c : Nat} (hk : kd π i = 9) : conS π T i c = (fsl π (T (126 * ow π i + 6 * c + pp π i)) 8).map (fun o => (1260 + 9 * o + 8, T (126 * ow π i + 6 * c + qq π i))) := by unfold conS; rw [hk] <;> rfl
theorem ctx_le {π : mS} (o : Nat) : ctx π o ≤ 1 + o := by unfold ctx; split <;> omega
theorem nI_z (n : Nat) : nI n + (0 : Int32) = nI n := by rw [show (0 : Int32) = nI 0 from nI_0.symm, nI_add, Nat.add_zero]
theorem l_doCall {π σ0 : mS} {T : Nat → Int32} (hR : RCp π σ0) (h : rOK σ0 T) {i c : Nat} (hi : i < nS π) (hk : kd π i = 7) (hc : c < 21) (x : Int32) (Q : Option mV → mS → Prop)
    (hq : Q none (stR σ0 (orAll T ((List.range (nT π)).flatMap (fun o => if bt x o = true then conC π (σ0 13) i c o else []))))) :
    ∀ n o, nT π - o = n → o ≤ nT π → ∀ u5 u6 u7, J M_S_doCall Q 15 [some (.inr (2, 0)), some (.inr (59, i)), some (.inl (nI (126 * ow π i + 6 * c))), some (.inl x), some (.inl (nI o)), u5, u6, u7] [] (stR σ0 (orAll T ((List.range o).flatMap (fun o => if bt x o = true then conC π (σ0 13) i c o else [])))) := by
  have hw := hR.1
  have a1 := hw.nT20
  have a2 := hw.nM10
  obtain ⟨o1, o2⟩ := hw.ow hi
  obtain ⟨p1, p2, p3, p4, p5⟩ := op_7 (hw.op hi) hk
  have p1 := p1.g (by decide)
  have p2 := p2.g (by decide)
  have p3 := p3.g (by decide)
  have p4 := p4.g (by decide)
  have p5 := p5.g (by decide)
  intro n
  induction n with
  | zero =>
    intro o h1 h2 u5 u6 u7
    have : o = nT π := by omega
    subst this
    refine r_S_doCall_15 ⟨fun _ => hq, fun a => ?_⟩
    rw [(stR_rc hR).2.1.2.2.2.2.1, a1.1] at a
    exact absurd (nI_le (Nat.le_refl _) (by omega)) a
  | succ n ih =>
    intro o h1 h2 u5 u6 u7
    have key := fun u5 u6 u7 => ih (o + 1) (by omega) (by omega) u5 u6 u7
    rw [fm_succ, orAll_app, ← nI_1] at key
    generalize hT1 : orAll T ((List.range o).flatMap (fun o => if bt x o = true then conC π (σ0 13) i c o else [])) = T1 at key ⊢
    have h1R : rOK σ0 T1 := by rw [← hT1]; exact h.all _
    have hR1 : RCp π (stR σ0 T1) := stR_rc hR
    refine r_S_doCall_15 ⟨fun a => ?_, fun _ => ⟨fun a => ?_, fun _ => ?_⟩⟩
    · rw [hR1.2.1.2.2.2.2.1, a1.1] at a
      exact absurd a (nI_ge (by omega) (by omega))
    · have e := ushr_0 (by omega) a
      rw [fm_stop (i := o) (fun k hk => by rw [if_neg (by rw [e k hk]; decide)]) (nT π) h2, hT1] at hq
      exact hq
    · rw [(hR1.st hi).2.2.2.2.1, p3.1]
      refine (c_methodFound hR1 (by omega) p3.2).i ((c_hasBit _ x (k := o) (by omega)).i (br_b (fun e => ?_) (fun e => ?_)))
      · rw [if_neg (by rw [e]; decide), orAll_nil] at key
        exact key _ _ _
      · rw [if_pos e] at key
        unfold conC at key
        rcases fnd_cases π (sc π o) (rr π i) with ef | ⟨m', hm', ef⟩
        · rw [if_pos ef] at key
          exact ⟨fun _ => key _ _ _, fun q => absurd ef q⟩
        · have hne : ¬ fnd π (sc π o) (rr π i) = -1 := by
            rw [ef]
            intro q
            exact absurd q ((by decide +kernel : ∀ m, m < 10 → ¬ nI m = (-1 : Int32)) m' (by omega))
          rw [if_neg hne, ef, cl_nI (by omega)] at key
          refine ⟨fun q => absurd q hne, fun _ => (c_contextOf hR1).i ?_⟩
          rw [ef]
          have hcx := ctx_le (π := π) o
          generalize ctx π o = cx at key hcx ⊢
          refine (c_namesOf _ m' cx).i ?_
          rw [nI_add, nI_z, nI_1, nI_add, nI_add]
          refine (c_add h1R (by omega) _).v ((c_add (h1R.or _ _) (by omega) _).v ?_)
          have hR2 := stR_rc (T := orT (orT T1 (1444 + m') ((1 : Int32) <<< (nI cx &&& 31))) (126 * m' + 6 * cx) ((1 : Int32) <<< (nI o &&& 31))) hR
          rw [(hR2.st hi).2.2.2.2.2.1, p4.1, nI_add, cl_nI (by omega), stR_13]
          refine ⟨vp_in_nI (by omega) (by decide), (c_add ((h1R.or _ _).or _ _) (by omega) _).v ?_⟩
          have hR3 := stR_rc (T := orT (orT (orT T1 (1444 + m') ((1 : Int32) <<< (nI cx &&& 31))) (126 * m' + 6 * cx) ((1 : Int32) <<< (nI o &&& 31))) (126 * m' + 6 * cx + 1) (σ0 13 (126 * ow π i + 6 * c + ss π i))) hR
          rw [(hR3.st hi).2.2.2.2.2.2.1, p5.1, nI_add, cl_nI (by omega), stR_13]
          refine ⟨vp_in_nI (by omega) (by decide), (c_add (((h1R.or _ _).or _ _).or _ _) (by omega) _).v ?_⟩
          have hR4 := stR_rc (T := orT (orT (orT (orT T1 (1444 + m') ((1 : Int32) <<< (nI cx &&& 31))) (126 * m' + 6 * cx) ((1 : Int32) <<< (nI o &&& 31))) (126 * m' + 6 * cx + 1) (σ0 13 (126 * ow π i + 6 * c + ss π i))) (126 * m' + 6 * cx + 2) (σ0 13 (126 * ow π i + 6 * c + tt π i))) hR
          rw [(hR4.st hi).2.2.1, p1.1, nI_add, cl_nI (by omega), stR_13]
          refine ⟨vp_in_nI (by omega) (by decide), (c_add ((((h1R.or _ _).or _ _).or _ _).or _ _) (by omega) _).v ?_⟩
          exact key _ _ _
theorem c_doCall {π σ0 : mS} {T : Nat → Int32} (hR : RCp π σ0) (h : rOK σ0 T) {i c : Nat} (hi : i < nS π) (hk : kd π i = 7) (hc : c < 21) : MR M_S_doCall [.inr (2, 0), .inr (59, i), .inl (nI (126 * ow π i + 6 * c))] (stR σ0 T) none (stR σ0 (orAll T (conS π (σ0 13) i c))) := by
  have hw := hR.1
  have a2 := hw.nM10
  obtain ⟨o1, o2⟩ := hw.ow hi
  obtain ⟨p1, p2, p3, p4, p5⟩ := op_7 (hw.op hi) hk
  have p2 := p2.g (by decide)
  refine MU_of rfl rfl rfl (r_S_doCall_0 ?_)
  rw [((stR_rc (T := T) hR).st hi).2.2.2.1, p2.1, nI_add, cl_nI (by omega), stR_13]
  refine ⟨vp_in_nI (by omega) (by decide), ?_⟩
  exact l_doCall hR h hi hk hc (σ0 13 (126 * ow π i + 6 * c + qq π i)) _ ⟨rfl, by rw [con_7 hk]⟩ (nT π) 0 rfl (Nat.zero_le _) none none none
theorem c_doStatement {π σ0 : mS} {T : Nat → Int32} (hR : RCp π σ0) (h : rOK σ0 T) {i c : Nat} (hi : i < nS π) (hc : c < 21) : MR M_S_doStatement [.inr (2, 0), .inr (59, i), .inl (nI (126 * ow π i + 6 * c))] (stR σ0 T) none (stR σ0 (orAll T (conS π (σ0 13) i c))) := by
  have hw := hR.1
  have a1 := hw.nT20
  have a2 := hw.nM10
  have a3 := hw.nC8
  have a4 := hw.nF8
  obtain ⟨o1, o2⟩ := hw.ow hi
  obtain ⟨k1, k2⟩ := hw.kd hi
  have hop := hw.op hi
  obtain ⟨f0, f2, f3, f4, f5, f6, f7, f1⟩ := (stR_rc (T := T) hR).st hi
  refine MU_of rfl rfl rfl (r_S_doStatement_0 ?_)
  rw [f2, f3, f4, f5, k1]
  rintro _ rfl _ rfl
  have kk : ∀ k, k < 10 → nI (kd π i) = nI k → kd π i = k := fun k hk e => nI_inj (by omega) (by omega) e
  refine ⟨fun e => ?_, fun e => ?_, fun e => ?_, fun e => ?_, fun e => ?_, fun e => ?_, fun e => ?_, fun e => ?_, fun e => ?_, fun e0 e1 e2 e3 e4 e5 e6 e7 e8 => ?_⟩
  · have e := kk 0 (by decide) e
    obtain ⟨q1, q2, q3⟩ := op_0 hop e
    have q1 := q1.g (by decide)
    have q3 := q3.g (by omega)
    rw [f1 (by rw [k1, e, nI_0]), q1.1, q3.1, nI_add, con_0 e]
    exact (c_add h (by omega) _).v ⟨rfl, rfl⟩
  · have e := kk 1 (by decide) e
    obtain ⟨q1, q2⟩ := op_1 hop e
    have q1 := q1.g (by decide)
    have q2 := q2.g (by decide)
    rw [q1.1, q2.1, nI_add, nI_add, cl_nI (by omega), con_1 e]
    exact ⟨vp_in_nI (by omega) (by decide), (c_add h (by omega) _).v ⟨rfl, rfl⟩⟩
  · have e := kk 2 (by decide) e
    obtain ⟨q1, q2, q3⟩ := op_2 hop e
    have q1 := q1.g (by decide)
    have q2 := q2.g (by decide)
    have q3 := q3.g (by omega)
    rw [q1.1, q2.1, q3.1, nI_add, nI_add, cl_nI (by omega), con_2 e]
    exact ⟨vp_in_nI (by omega) (by decide), (c_addFromSlot hR h (by omega) (Or.inl q3.2) _).v ⟨rfl, rfl⟩⟩
  · have e := kk 3 (by decide) e
    obtain ⟨q1, q2, q3⟩ := op_3 hop e
    have q1 := q1.g (by decide)
    have q2 := q2.g (by decide)
    have q3 := q3.g (by omega)
    rw [q1.1, q2.1, q3.1, nI_add, nI_add, cl_nI (by omega), cl_nI (by omega), con_3 e]
    exact ⟨vp_in_nI (by omega) (by decide), vp_in_nI (by omega) (by decide), (c_addToSlot hR h (Or.inl q3.2) _ _).v ⟨rfl, rfl⟩⟩
  · have e := kk 4 (by decide) e
    obtain ⟨q1, q2, q3⟩ := op_4 hop e
    have q1 := q1.g (by decide)
    have q2 := q2.g (by decide)
    have q3 := q3.g (by omega)
    rw [q1.1, q2.1, q3.1, nI_add, nI_add, cl_nI (by omega), cl_nI (by omega), con_4 e]
    have es : stR σ0 T 6 (rr π i) = su π (rr π i) := b_ext (fun b hb => by rw [(stR_rc hR).2.2.1.2.2.1 _ q3.2 b, bt_su hw])
    rw [es]
    exact ⟨vp_in_nI (by omega) (by decide), vp_in_nI (by omega) (by decide), (c_add h (by omega) _).v ⟨rfl, rfl⟩⟩
  · have e := kk 5 (by decide) e
    obtain ⟨q1, q2⟩ := op_5 hop e
    have q1 := q1.g (by decide)
    have q2 := q2.g (by decide)
    rw [q1.1, q2.1, nI_add, nI_add, cl_nI (by omega), con_5 e]
    exact ⟨vp_in_nI (by omega) (by decide), (c_add h (by omega) _).v ⟨rfl, rfl⟩⟩
  · have e := kk 6 (by decide) e
    obtain ⟨q1, q2⟩ := op_6 hop e
    have q1 := q1.g (by decide)
    have q2 := q2.g (by decide)
    rw [q1.1, q2.1, nI_add, nI_add, cl_nI (by omega), con_6 e]
    exact ⟨vp_in_nI (by omega) (by decide), (c_add h (by omega) _).v ⟨rfl, rfl⟩⟩
  · have e := kk 7 (by decide) e
    exact (c_doCall hR h hi e hc).v ⟨rfl, rfl⟩
  · have e := kk 8 (by decide) e
    obtain ⟨q1, q2⟩ := op_8 hop e
    have q1 := q1.g (by decide)
    have q2 := q2.g (by decide)
    rw [q1.1, q2.1, nI_add, nI_add, cl_nI (by omega), con_8 e]
    exact ⟨vp_in_nI (by omega) (by decide), (c_addFromSlot hR h (by omega) (Or.inr rfl) _).v ⟨rfl, rfl⟩⟩
  · have e : kd π i = 9 := by
      have d0 : kd π i ≠ 0 := fun q => e0 (by rw [q, nI_0])
      have d1 : kd π i ≠ 1 := fun q => e1 (by rw [q]; rfl)
      have d2 : kd π i ≠ 2 := fun q => e2 (by rw [q])
      have d3 : kd π i ≠ 3 := fun q => e3 (by rw [q])
      have d4 : kd π i ≠ 4 := fun q => e4 (by rw [q])
      have d5 : kd π i ≠ 5 := fun q => e5 (by rw [q])
      have d6 : kd π i ≠ 6 := fun q => e6 (by rw [q])
      have d7 : kd π i ≠ 7 := fun q => e7 (by rw [q])
      have d8 : kd π i ≠ 8 := fun q => e8 (by rw [q])
      omega
    obtain ⟨q1, q2⟩ := op_9 hop e
    have q1 := q1.g (by decide)
    have q2 := q2.g (by decide)
    rw [q1.1, q2.1, nI_add, nI_add, cl_nI (by omega), cl_nI (by omega), con_9 e]
    exact ⟨vp_in_nI (by omega) (by decide), vp_in_nI (by omega) (by decide), (c_addToSlot hR h (Or.inr rfl) _ _).v ⟨rfl, rfl⟩⟩
/-- a round -/
theorem take_fm (π : mS) (m : Nat) (g : Nat → List (Nat × Int32)) {t : Nat} (ht : t < cnt π m) : ((sts π m).take (t + 1)).flatMap g = ((sts π m).take t).flatMap g ++ g (sth π m t) := by
  rw [List.take_succ, List.flatMap_append, List.getElem?_eq_getElem ht]
  congr 1
  unfold sth
  rw [List.getD_eq_getElem?_getD, List.getElem?_eq_getElem ht]
  simp
theorem l_round58 {π σ0 : mS} (hR : RCp π σ0) {T : Nat → Int32} (h : rOK σ0 T) {m c : Nat} (hm : m < nM π) (hc : c < 21) (x : Int32) (Q : Option mV → mS → Prop)
    (hq : ∀ u4 u5, J M_S_doRound Q 26 [some (.inr (2, 0)), some (.inl (nI m)), some (.inl x), some (.inl (nI c + 1)), u4, u5] [] (stR σ0 (orAll T (lT π (σ0 13) m c)))) :
    ∀ n t, cnt π m - t = n → t ≤ cnt π m → J M_S_doRound Q 58 [some (.inr (2, 0)), some (.inl (nI m)), some (.inl x), some (.inl (nI c)), some (.inl (nI (cnt π m))), some (.inl (nI t))] [] (stR σ0 (orAll T (((sts π m).take t).flatMap (fun i => conS π (σ0 13) i c)))) := by
  have hw := hR.1
  have a2 := hw.nM10
  have a3 := hw.nS60
  have a4 := sts_le (π := π) m
  intro n
  induction n with
  | zero =>
    intro t h1 h2
    have : t = cnt π m := by omega
    subst this
    refine r_S_doRound_58 ⟨fun _ => ?_, fun a => absurd (nI_le (Nat.le_refl _) (by omega)) a⟩
    have e : (sts π m).take (cnt π m) = sts π m := List.take_length
    rw [e]
    exact hq _ _
  | succ n ih =>
    intro t h1 h2
    have ht : t < cnt π m := by omega
    have key := ih (t + 1) (by omega) (by omega)
    rw [take_fm π m _ ht, orAll_app, ← nI_1] at key
    obtain ⟨s1, s2⟩ := sts_lt ht
    have s3 : ow π (sth π m t) = m := by
      have := (hw.ow s1).1
      rw [s2] at this
      exact (nI_inj (by omega) (by have := (hw.ow s1).2; omega) this).symm
    refine r_S_doRound_58 ⟨fun a => absurd a (nI_ge (by omega) (by omega)), fun _ => ?_⟩
    refine (c_statementOf (stR_rc hR) hm ht).r ((c_namesOf _ m c).i ?_)
    have hd := c_doStatement hR (h.all (((sts π m).take t).flatMap (fun i => conS π (σ0 13) i c))) s1 hc
    rw [s3] at hd
    exact hd.v key
theorem l_round26 {π σ0 : mS} (hR : RCp π σ0) {T : Nat → Int32} (h : rOK σ0 T) {m : Nat} (hm : m < nM π) (Q : Option mV → mS → Prop)
    (hq : ∀ u2 u3 u4 u5, J M_S_doRound Q 2 [some (.inr (2, 0)), some (.inl (nI m + 1)), u2, u3, u4, u5] [] (stR σ0 (orAll T (lC π (σ0 13) m)))) :
    ∀ n c, 21 - c = n → c ≤ 21 → ∀ u4 u5, J M_S_doRound Q 26 [some (.inr (2, 0)), some (.inl (nI m)), some (.inl (σ0 13 (1444 + m))), some (.inl (nI c)), u4, u5] [] (stR σ0 (orAll T ((List.range c).flatMap (fun c => if bt (σ0 13 (1444 + m)) c = true then lT π (σ0 13) m c else [])))) := by
  have hw := hR.1
  have a2 := hw.nM10
  have a3 := hw.nS60
  have a4 := sts_le (π := π) m
  intro n
  induction n with
  | zero =>
    intro c h1 h2 u4 u5
    have : c = 21 := by omega
    subst this
    exact r_S_doRound_26 ⟨fun _ => hq _ _ _ _, fun a => absurd (nI_le (Nat.le_refl _) (by omega)) a⟩
  | succ n ih =>
    intro c h1 h2 u4 u5
    have key := ih (c + 1) (by omega) (by omega)
    rw [fm_succ, orAll_app, ← nI_1] at key
    refine r_S_doRound_26 ⟨fun a => absurd a (nI_ge (by omega) (by omega)), fun _ => (c_hasBit _ _ (k := c) (by omega)).i (br_b (fun e => ?_) (fun e => ?_))⟩
    · rw [if_neg (by rw [e]; decide), orAll_nil] at key
      exact r_S_doRound_58 ⟨fun _ => key _ _, fun a => absurd (by decide) a⟩
    · rw [if_pos e] at key
      rw [cl_nI (by omega), (stR_rc hR).2.2.2.1 m hm]
      exact ⟨vp_in_nI (by omega) (by decide), l_round58 hR (h.all _) hm (by omega) _ Q key (cnt π m) 0 rfl (Nat.zero_le _)⟩
theorem l_round2 {π σ0 : mS} (hR : RCp π σ0) {T : Nat → Int32} (h : rOK σ0 T) (Q : Option mV → mS → Prop) (hq : Q none (stR σ0 (orAll T (lM π (σ0 13))))) :
    ∀ n m, nM π - m = n → m ≤ nM π → ∀ u2 u3 u4 u5, J M_S_doRound Q 2 [some (.inr (2, 0)), some (.inl (nI m)), u2, u3, u4, u5] [] (stR σ0 (orAll T ((List.range m).flatMap (lC π (σ0 13))))) := by
  have hw := hR.1
  have a2 := hw.nM10
  intro n
  induction n with
  | zero =>
    intro m h1 h2 u2 u3 u4 u5
    have : m = nM π := by omega
    subst this
    refine r_S_doRound_2 ⟨fun _ => hq, fun a => ?_⟩
    rw [(stR_rc hR).2.1.2.2.1, a2.1] at a
    exact absurd (nI_le (Nat.le_refl _) (by omega)) a
  | succ n ih =>
    intro m h1 h2 u2 u3 u4 u5
    have key := ih (m + 1) (by omega) (by omega)
    rw [fm_succ, orAll_app, ← nI_1] at key
    refine r_S_doRound_2 ⟨fun a => ?_, fun _ => ?_⟩
    · rw [(stR_rc hR).2.1.2.2.1, a2.1] at a
      exact absurd a (nI_ge (by omega) (by omega))
    · rw [nI_add, cl_nI (by omega), stR_13]
      exact ⟨vp_in_nI (by omega) (by decide), l_round26 hR (h.all _) (by omega) Q key 21 0 rfl (by decide) _ _⟩
theorem c_doRound {π σ0 : mS} (hR : RCp π σ0) {T : Nat → Int32} (h : rOK σ0 T) : MR M_S_doRound [.inr (2, 0)] (stR σ0 T) none (stR σ0 (orAll T (lM π (σ0 13)))) :=
  MU_of rfl rfl rfl (r_S_doRound_0 (l_round2 hR h _ ⟨rfl, rfl⟩ (nM π) 0 rfl (Nat.zero_le _) none none none none))
