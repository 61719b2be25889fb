/-! THE CLASS'S PROGRAM represents the model's; contracts of Sets -/
def RC1 (π σ : mS) : Prop := σ 1 0 = π 25 0 ∧ σ 1 1 = π 25 2 ∧ σ 1 2 = π 25 4 ∧ σ 1 3 = π 25 7 ∧ σ 1 4 = π 25 16 ∧ σ 2 8 = π 25 18
def RC2 (π σ : mS) : Prop := (∀ c, c < nC π → σ 4 c = π 26 c) ∧ (∀ c, c < nC π → ∀ a, bt (σ 5 c) a = und π c a) ∧ (∀ c, c < nC π → ∀ o, bt (σ 6 c) o = (decide (o < nT π) && und π (sc π o) c)) ∧ (∀ c, c < nC π → ∀ s, s < 4 → σ 7 (4 * c + s) = mW π c s ∧ σ 8 (4 * c + s) = fnd π c s) ∧ (∀ f, f < nF π → σ 9 f = π 27 f) ∧ (∀ o, o < nT π → σ 10 o = π 38 o)
def RC3 (π σ : mS) : Prop := (∀ m, m < nM π → σ 11 m = nI (cnt π m)) ∧ (∀ m, m < nM π → ∀ t, t < cnt π m → σ 12 (60 * m + t) = nI (sth π m t)) ∧ (∀ i, i < nS π → σ (59 + i) 0 = π 30 i ∧ σ (59 + i) 2 = π 31 i ∧ σ (59 + i) 3 = π 32 i ∧ σ (59 + i) 4 = π 33 i ∧ σ (59 + i) 5 = π 34 i ∧ σ (59 + i) 6 = π 35 i ∧ σ (59 + i) 7 = π 36 i ∧ (π 31 i = 0 → σ (59 + i) 1 = π 37 i))
/-- the class's cells hold the program that π's model cells hold -/
def RCp (π σ : mS) : Prop := WM π ∧ RC1 π σ ∧ RC2 π σ ∧ RC3 π σ
/-- the cells that RCp speaks of -/
theorem RCp.to {π σ τ : mS} (h : RCp π σ) (h8 : τ 2 8 = σ 2 8) (hk : ∀ k, k = 1 ∨ (4 ≤ k ∧ k ≤ 12) ∨ 59 ≤ k → τ k = σ k) : RCp π τ := by
  obtain ⟨hw, h1, h2, h3⟩ := h
  refine ⟨hw, ?_, ?_, ?_⟩
  · unfold RC1 at *
    rw [hk 1 (by omega), h8]
    exact h1
  · unfold RC2 at *
    rw [hk 4 (by omega), hk 5 (by omega), hk 6 (by omega), hk 7 (by omega), hk 8 (by omega), hk 9 (by omega), hk 10 (by omega)]
    exact h2
  · unfold RC3 at *
    rw [hk 11 (by omega), hk 12 (by omega)]
    refine ⟨h3.1, h3.2.1, fun i hi => ?_⟩
    rw [hk (59 + i) (by omega)]
    exact h3.2.2 i hi
theorem c_methodFound {π σ : mS} (h : RCp π σ) {o s : Nat} (ho : o < nT π) (hs : s < 4) : MR M_P_methodFound [.inr (1, 0), .inl (nI o), .inl (nI s)] σ (some (.inl (fnd π (sc π o) s))) σ := by
  obtain ⟨hw, h1, h2, h3⟩ := h
  have h20 := hw.nT20.2
  have h8 := hw.nC8.2
  obtain ⟨e1, e2⟩ := hw.sc ho
  refine MU_of rfl rfl rfl (r_P_methodFound_0 ?_)
  have e3 : σ 10 (nI o).toNatClampNeg * nI 4 + nI s = nI (4 * sc π o + s) := by
    rw [cl_nI (by omega), h2.2.2.2.2.2 o ho, e1, pk_mul, nI_add]
    congr 1
    omega
  rw [e3, cl_nI (by omega)]
  exact ⟨vp_in_nI (by omega) (by decide), vp_in_nI (by omega) (by decide), by rw [(h2.2.2.2.1 (sc π o) e2 s hs).2], rfl⟩
theorem c_sitesWith {π σ : mS} (h : RCp π σ) {f : Nat} (hf : f < nF π ∨ f = 8) : ∃ w, MR M_P_sitesWith [.inr (1, 0), .inl (nI f)] σ (some (.inl w)) σ ∧ ∀ o, bt w o = (decide (o < nT π) && hasS π o f) := by
  obtain ⟨hw, h1, h2, h3⟩ := h
  have h20 := hw.nT20.2
  have h8 := hw.nC8.2
  have hF := hw.nF8.2
  by_cases e : f = 8
  · subst e
    refine ⟨((1 : Int32) <<< ((σ 1 4) &&& 31)) - (1 : Int32), MU_of rfl rfl rfl (r_P_sitesWith_0 ⟨fun q => absurd rfl q, fun _ => ⟨rfl, rfl⟩⟩), fun o => ?_⟩
    rw [h1.2.2.2.2.1, hw.nT20.1]
    have g : ∀ n, n < 21 → ∀ o, o < 32 → bt (((1 : Int32) <<< ((nI n) &&& 31)) - (1 : Int32)) o = decide (o < n) := by decide +kernel
    unfold hasS
    rw [decide_eq_true rfl, Bool.true_or, Bool.and_true]
    rcases Nat.lt_or_ge o 32 with q | q
    · exact g _ (by omega) o q
    · rw [b_big q, decide_eq_false (by omega)]
  · have hf : f < nF π := by omega
    obtain ⟨e1, e2⟩ := hw.fO hf
    refine ⟨σ 6 (fO π f), MU_of rfl rfl rfl (r_P_sitesWith_0 ⟨fun _ => ?_, fun q => absurd (nI_inj (by omega) (by decide) q) e⟩), fun o => ?_⟩
    · rw [cl_nI (by omega), h2.2.2.2.2.1 f hf, e1, cl_nI (by omega)]
      exact ⟨vp_in_nI (by omega) (by decide), vp_in_nI (by omega) (by decide), rfl, rfl⟩
    · unfold hasS
      rw [decide_eq_false e, Bool.false_or]
      exact h2.2.2.1 (fO π f) e2 o
theorem sts_lt {π : mS} {m t : Nat} (h : t < cnt π m) : sth π m t < nS π ∧ π 30 (sth π m t) = nI m := by
  have hm : sth π m t ∈ sts π m := by
    unfold sth
    rw [List.getD_eq_getElem?_getD, List.getElem?_eq_getElem h]
    exact List.getElem_mem h
  unfold sts at hm
  obtain ⟨a, b⟩ := List.mem_filter.mp hm
  exact ⟨List.mem_range.mp a, of_decide_eq_true b⟩
theorem sts_le {π : mS} (m : Nat) : cnt π m ≤ nS π := by
  unfold cnt sts
  have := List.length_filter_le (fun i => decide (π 30 i = nI m)) (List.range (nS π))
  rwa [List.length_range] at this
theorem c_statementOf {π σ : mS} (h : RCp π σ) {m t : Nat} (hm : m < nM π) (ht : t < cnt π m) : MR M_P_statementOf [.inr (1, 0), .inl (nI m), .inl (nI t)] σ (some (.inr (59, sth π m t))) σ := by
  obtain ⟨hw, h1, h2, h3⟩ := h
  have a1 := hw.nM10.2
  have a2 := hw.nS60.2
  have a3 := (sts_lt ht).1
  have a4 := sts_le (π := π) m
  refine MU_of rfl rfl rfl (r_P_statementOf_0 ?_)
  have e : nI m * nI 60 + nI t = nI (60 * m + t) := by
    rw [pk_mul, nI_add]
    congr 1
    omega
  rw [e, cl_nI (by omega), h3.2.1 m hm t ht, cl_nI (by omega)]
  exact ⟨vp_in_nI (by omega) (by decide), vp_in_nI (by omega) (by decide), rfl, rfl⟩
theorem c_contextOf {π σ : mS} (h : RCp π σ) {o : Nat} : MR M_S_contextOf [.inr (2, 0), .inl (nI o)] σ (some (.inl (nI (ctx π o)))) σ := by
  obtain ⟨hw, h1, h2, h3⟩ := h
  refine MU_of rfl rfl rfl (r_S_contextOf_0 ?_)
  rw [h1.2.2.2.2.2]
  unfold ctx
  refine ⟨fun e => ⟨by rw [if_pos e, nI_0], rfl⟩, fun e => ⟨?_, rfl⟩⟩
  rw [if_neg e, show (1 : Int32) + nI o = nI 1 + nI o from rfl, nI_add]
/-- the state of Sets within a round: all follows from the row T -/
noncomputable def stR (σ0 : mS) (T : Nat → Int32) : mS := fun k => if k = 14 then T else if k = 15 then wOf (σ0 15) T (σ0 2 4) else if k = 2 then upd (σ0 2) 5 (cIf (grew (σ0 13) T) 1 0) else σ0 k
theorem stR_14 {σ0 : mS} {T : Nat → Int32} : stR σ0 T 14 = T := if_pos rfl
theorem stR_15 {σ0 : mS} {T : Nat → Int32} : stR σ0 T 15 = wOf (σ0 15) T (σ0 2 4) := rfl
theorem stR_2 {σ0 : mS} {T : Nat → Int32} : stR σ0 T 2 = upd (σ0 2) 5 (cIf (grew (σ0 13) T) 1 0) := rfl
theorem stR_o {σ0 : mS} {T : Nat → Int32} {k : Nat} (h1 : k ≠ 14) (h2 : k ≠ 15) (h3 : k ≠ 2) : stR σ0 T k = σ0 k := by unfold stR; rw [if_neg h1, if_neg h2, if_neg h3]
theorem stR_rc {π σ0 : mS} {T : Nat → Int32} (h : RCp π σ0) : RCp π (stR σ0 T) := h.to (by rw [stR_2, upd_o (by decide)]) (fun k hk => stR_o (by omega) (by omega) (by omega))
theorem stR_13 {σ0 : mS} {T : Nat → Int32} : stR σ0 T 13 = σ0 13 := rfl
theorem m_up2 (σ : mS) (T : Nat → Int32) : True := trivial
/-- a round's start: the row before, the number of the round -/
def rOK (σ0 : mS) (T : Nat → Int32) : Prop := σ0 2 4 ≠ 0 ∧ subR (σ0 13) T
theorem rOK.or {σ0 : mS} {T : Nat → Int32} (h : rOK σ0 T) (p : Nat) (b : Int32) : rOK σ0 (orT T p b) := ⟨h.1, h.2.or p b⟩
theorem rOK.all {σ0 : mS} {T : Nat → Int32} (h : rOK σ0 T) (L : List (Nat × Int32)) : rOK σ0 (orAll T L) := ⟨h.1, h.2.all L⟩
theorem c_add {σ0 : mS} {T : Nat → Int32} (h : rOK σ0 T) {p : Nat} (hp : p < 1454) (b : Int32) : MR M_S_add [.inr (2, 0), .inl (nI p), .inl b] (stR σ0 T) none (stR σ0 (orT T p b)) := by
  refine MU_of rfl rfl rfl (r_S_add_0 ?_)
  rw [cl_nI (by omega), stR_14]
  refine ⟨vp_in_nI hp (by decide), ?_⟩
  intro v hv
  refine ⟨fun hne => ⟨vp_in_nI hp (by decide), vp_in_nI hp (by decide), ?_⟩, fun h0 => ?_⟩
  · intro t ht
    subst hv
    rw [orT_fresh] at ht
    -- the row grew
    have hg : grew (σ0 13) (orT T p b) := by
      refine ⟨p, hp, fun e => ?_⟩
      unfold orT at e
      rw [upd_s] at e
      apply hne
      apply b_ext
      intro i hi
      rw [b_0, b_and, b_xor, b_m1 i hi]
      have e2 : bt (T p ||| b) i = bt (σ0 13 p) i := by rw [e]
      rw [b_or] at e2
      have e3 := h.2 p hp i
      cases h4 : bt (T p) i <;> cases h5 : bt b i <;> simp_all
    have t14 : t 14 = orT T p b := by
      rw [ht, m_up_ne (by decide), m_up_s, stR_14]
      rfl
    have t15 : t 15 = wOf (σ0 15) T (σ0 2 4) := by
      rw [ht, m_up_ne (by decide), m_up_ne (by decide), stR_15]
    have t2 : t 2 = upd (σ0 2) 5 (cIf (grew (σ0 13) (orT T p b)) 1 0) := by
      rw [ht, m_up_s, m_up_ne (by decide), stR_2, cIf_t (P := grew (σ0 13) (orT T p b)) hg]
      funext j
      by_cases hj : j = 5
      · subst hj; rw [upd_s, upd_s]
      · rw [upd_o hj, upd_o hj, upd_o hj]
    have to : ∀ k, k ≠ 14 → k ≠ 15 → k ≠ 2 → t k = σ0 k := fun k h1 h2 h3 => by
      rw [ht, m_up_ne h3, m_up_ne h1, stR_o h1 h2 h3]
    refine ⟨fun hge => ⟨rfl, ?_⟩, fun hlt => ?_⟩
    · have hge : 1260 ≤ p := by
        rcases Nat.lt_or_ge p 1260 with q | q
        · exact absurd hge (nI_ge q (by decide))
        · exact q
      funext k
      by_cases h1 : k = 14
      · subst h1; rw [t14, stR_14]
      · by_cases h2 : k = 15
        · subst h2
          rw [t15, stR_15]
          funext j
          unfold wOf
          refine cIf_c ⟨fun q => ⟨q.1, q.2.1, ?_⟩, fun q => ⟨q.1, q.2.1, ?_⟩⟩
          · obtain ⟨q1, -, c, hc, q3⟩ := q
            refine ⟨c, hc, ?_⟩
            unfold orT
            rw [upd_o (by omega)]
            exact q3
          · obtain ⟨q1, -, c, hc, q3⟩ := q
            refine ⟨c, hc, ?_⟩
            unfold orT at q3
            rw [upd_o (by omega)] at q3
            exact q3
        · by_cases h3 : k = 2
          · subst h3; rw [t2, stR_2]
          · rw [to k h1 h2 h3, stR_o h1 h2 h3]
    · have hlt : p < 1260 := by
        rcases Nat.lt_or_ge p 1260 with q | q
        · exact q
        · exact absurd (nI_le q (by omega)) hlt
      obtain ⟨m, c, n, hm, hc, hn, e⟩ : ∃ m c n, m < 10 ∧ c < 21 ∧ n < 6 ∧ p = 126 * m + 6 * c + n := ⟨p / 126, p % 126 / 6, p % 6, by omega, by omega, by omega, by omega⟩
      subst e
      refine (c_note t hm hc hn _).v ⟨rfl, ?_⟩
      have e24 : t 2 4 = σ0 2 4 := by rw [t2, upd_o (by decide)]
      rw [t15, e24, wOf_name hm hc hn h.1]
      funext k
      by_cases h2 : k = 15
      · subst h2; rw [st15_15, stR_15]
      · rw [st15_o h2]
        by_cases h1 : k = 14
        · subst h1; rw [t14, stR_14]
        · by_cases h3 : k = 2
          · subst h3; rw [t2, stR_2]
          · rw [to k h1 h2 h3, stR_o h1 h2 h3]
  · subst hv
    rw [orT_same h0]
    exact ⟨rfl, rfl⟩
theorem ushr_0 {x : Int32} {i : Nat} (hi : i < 32) (h : m_ushr x (nI i) = 0) : ∀ o, i ≤ o → bt x o = false := by
  intro o ho
  have e : bt (m_ushr x (nI i)) (o - i) = false := by rw [h, b_0]
  rw [show bt (m_ushr x (nI i)) (o - i) = bt x (i + (o - i)) from b_ushr i hi x (o - i)] at e
  rwa [show i + (o - i) = o by omega] at e
theorem l_addFromSlot {σ0 : mS} {T : Nat → Int32} (h : rOK σ0 T) {p f : Nat} (hp : p < 1454) (hf : f < 9) (x : Int32) (Q : Option mV → mS → Prop) (u : Option mV)
    (hq : Q none (stR σ0 (orAll T (((List.range 20).filter (fun o => bt x o)).map (fun o => (p, σ0 13 (1260 + 9 * o + f))))))) :
    ∀ n i, 20 - i = n → i ≤ 20 → J M_S_addFromSlot Q 15 [some (.inr (2, 0)), some (.inl (nI p)), u, some (.inl (nI f)), some (.inl x), some (.inl (nI i))] [] (stR σ0 (orAll T (((List.range i).filter (fun o => bt x o)).map (fun o => (p, σ0 13 (1260 + 9 * o + f)))))) := by
  intro n
  induction n with
  | zero =>
    intro i h1 h2
    have : i = 20 := by omega
    subst this
    exact r_S_addFromSlot_15 ⟨fun _ => hq, fun a => absurd (nI_le (Nat.le_refl _) (by omega)) a⟩
  | succ n ih =>
    intro i h1 h2
    have key := ih (i + 1) (by omega) (by omega)
    rw [flt_succ, List.map_append, orAll_app, ← nI_1] at key
    refine r_S_addFromSlot_15 ⟨fun a => absurd a (nI_ge (by omega) (by omega)), fun _ => ⟨fun a => ?_, fun a => (c_hasBit _ x (k := i) (by omega)).i (br_b (fun e => ?_) (fun e => ?_))⟩⟩
    · rw [flt_stop (i := i) (ushr_0 (by omega) a) 20 h2] at hq
      exact hq
    · rw [if_neg (by rw [e]; decide)] at key
      exact key
    · rw [if_pos e] at key
      refine (c_slotPlace _ i f).i ⟨vp_in_nI (by omega) (by decide), ?_⟩
      rw [cl_nI (by omega), stR_13]
      exact (c_add (h.all _) hp _).v key
theorem l_addToSlot {σ0 : mS} {T : Nat → Int32} (h : rOK σ0 T) {f : Nat} (hf : f < 9) (x b : Int32) (Q : Option mV → mS → Prop) (u : Option mV)
    (hq : Q none (stR σ0 (orAll T (((List.range 20).filter (fun o => bt x o)).map (fun o => (1260 + 9 * o + f, b)))))) :
    ∀ n i, 20 - i = n → i ≤ 20 → J M_S_addToSlot Q 15 [some (.inr (2, 0)), u, some (.inl (nI f)), some (.inl b), some (.inl x), some (.inl (nI i))] [] (stR σ0 (orAll T (((List.range i).filter (fun o => bt x o)).map (fun o => (1260 + 9 * o + f, b))))) := by
  intro n
  induction n with
  | zero =>
    intro i h1 h2
    have : i = 20 := by omega
    subst this
    exact r_S_addToSlot_15 ⟨fun _ => hq, fun a => absurd (nI_le (Nat.le_refl _) (by omega)) a⟩
  | succ n ih =>
    intro i h1 h2
    have key := ih (i + 1) (by omega) (by omega)
    rw [flt_succ, List.map_append, orAll_app, ← nI_1] at key
    refine r_S_addToSlot_15 ⟨fun a => absurd a (nI_ge (by omega) (by omega)), fun _ => ⟨fun a => ?_, fun a => (c_hasBit _ x (k := i) (by omega)).i (br_b (fun e => ?_) (fun e => ?_))⟩⟩
    · rw [flt_stop (i := i) (ushr_0 (by omega) a) 20 h2] at hq
      exact hq
    · rw [if_neg (by rw [e]; decide)] at key
      exact key
    · rw [if_pos e] at key
      exact (c_slotPlace _ i f).i ((c_add (h.all _) (by omega) _).v key)
theorem fsl_20 {π : mS} (h : WM π) {x w : Int32} {f : Nat} (hw : ∀ o, bt w o = (decide (o < nT π) && hasS π o f)) : (List.range 20).filter (fun o => bt (x &&& w) o) = fsl π x f := by
  have e : (fun o => bt (x &&& w) o) = (fun o => decide (o < nT π) && (bt x o && hasS π o f)) := by
    funext o
    rw [b_and, hw o]
    cases bt x o <;> cases decide (o < nT π) <;> rfl
  rw [e, flt_lt 20 h.nT20.2]
  rfl
theorem c_addFromSlot {π σ0 : mS} {T : Nat → Int32} (hR : RCp π σ0) (h : rOK σ0 T) {p f : Nat} (hp : p < 1454) (hf : f < nF π ∨ f = 8) (x : Int32) : MR M_S_addFromSlot [.inr (2, 0), .inl (nI p), .inl x, .inl (nI f)] (stR σ0 T) none (stR σ0 (orAll T ((fsl π x f).map (fun o => (p, σ0 13 (1260 + 9 * o + f)))))) := by
  obtain ⟨w, h1, h2⟩ := c_sitesWith (stR_rc (T := T) hR) hf
  have hF := hR.1.nF8.2
  refine MU_of rfl rfl rfl (r_S_addFromSlot_0 (h1.i ?_))
  exact l_addFromSlot h hp (by omega) (x &&& w) _ _ ⟨rfl, by rw [fsl_20 hR.1 h2]⟩ 20 0 rfl (by decide)
theorem c_addToSlot {π σ0 : mS} {T : Nat → Int32} (hR : RCp π σ0) (h : rOK σ0 T) {f : Nat} (hf : f < nF π ∨ f = 8) (x b : Int32) : MR M_S_addToSlot [.inr (2, 0), .inl x, .inl (nI f), .inl b] (stR σ0 T) none (stR σ0 (orAll T ((fsl π x f).map (fun o => (1260 + 9 * o + f, b))))) := by
  obtain ⟨w, h1, h2⟩ := c_sitesWith (stR_rc (T := T) hR) hf
  have hF := hR.1.nF8.2
  refine MU_of rfl rfl rfl (r_S_addToSlot_0 (h1.i ?_))
  exact l_addToSlot h (by omega) (x &&& w) b _ _ ⟨rfl, by rw [fsl_20 hR.1 h2]⟩ 20 0 rfl (by decide)
