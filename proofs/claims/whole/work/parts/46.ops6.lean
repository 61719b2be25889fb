/-! CALLS THAT CHANGE THE PROGRAM: statement, class and model -/
def asS (σ : mS) (n q i : Nat) : mS := fun k => if k = 6 then (fun c => if c < i ∧ bt (σ 5 q) c = true then σ 6 c ||| ((1 : Int32) <<< (nI n &&& 31)) else σ 6 c) else if k = 1 then upd (σ 1) 4 (nI (n + 1)) else if k = 10 then upd (σ 10) n (nI q) else σ k
theorem asS_6 {σ : mS} {n q i : Nat} : asS σ n q i 6 = fun c => if c < i ∧ bt (σ 5 q) c = true then σ 6 c ||| ((1 : Int32) <<< (nI n &&& 31)) else σ 6 c := rfl
theorem asS_6c {σ : mS} {n q i c : Nat} : asS σ n q i 6 c = if c < i ∧ bt (σ 5 q) c = true then σ 6 c ||| ((1 : Int32) <<< (nI n &&& 31)) else σ 6 c := rfl
theorem asS_1 {σ : mS} {n q i : Nat} : asS σ n q i 1 = upd (σ 1) 4 (nI (n + 1)) := rfl
theorem asS_10 {σ : mS} {n q i : Nat} : asS σ n q i 10 = upd (σ 10) n (nI q) := rfl
theorem asS_o {σ : mS} {n q i k : Nat} (h1 : k ≠ 6) (h2 : k ≠ 1) (h3 : k ≠ 10) : asS σ n q i k = σ k := by unfold asS; rw [if_neg h1, if_neg h2, if_neg h3]
theorem l_addSite {σ : mS} {n q : Nat} (hq : q < 8) (Q : Option mV → mS → Prop) (hQ : Q (some (.inl (nI n))) (asS σ n q (q + 1))) :
    ∀ d i, q + 1 - i = d → i ≤ q + 1 → J M_P_addSite Q 21 [some (.inr (1, 0)), some (.inl (nI q)), some (.inl (nI n)), some (.inl (nI i))] [] (asS σ n q i) := by
  intro d
  induction d with
  | zero =>
    intro i h1 h2
    have : i = q + 1 := by omega
    subst this
    exact r_P_addSite_21 ⟨fun _ => hQ, fun e => absurd (nI_lt (by omega) (by omega)) e⟩
  | succ d ih =>
    intro i h1 h2
    have key := ih (i + 1) (by omega) (by omega)
    rw [← nI_1] at key
    refine r_P_addSite_21 ⟨fun e => absurd e (nI_nlt (by omega) (by omega)), fun _ => ⟨vp_in_nI hq (by decide), (c_hasBit _ _ (k := i) (by omega)).i ?_⟩⟩
    rw [cl_nI (by omega), asS_o (k := 5) (by decide) (by decide) (by decide)]
    refine br_b (fun e => ?_) (fun e => ⟨vp_in_nI (by omega) (by decide), vp_in_nI (by omega) (by decide), ?_⟩)
    · have es : asS σ n q (i + 1) = asS σ n q i := by
        funext k
        by_cases k6 : k = 6
        · subst k6
          rw [asS_6, asS_6]
          funext c
          by_cases hc : c = i
          · subst hc; rw [e]; simp
          · by_cases h3 : c < i ∧ bt (σ 5 q) c = true
            · rw [if_pos h3, if_pos ⟨by omega, h3.2⟩]
            · rw [if_neg h3, if_neg (fun w => h3 ⟨by omega, w.2⟩)]
        · unfold asS; rw [if_neg k6, if_neg k6]
      rw [es] at key
      exact key
    · have es : m_up (asS σ n q i) 6 i (asS σ n q i 6 i ||| (1 : Int32) <<< (nI n &&& 31)) = asS σ n q (i + 1) := by
        funext k
        by_cases k6 : k = 6
        · subst k6
          rw [m_up_s]
          funext c
          by_cases hc : c = i
          · subst hc; rw [upd_s, asS_6c, asS_6c, if_pos (⟨Nat.lt_succ_self _, e⟩ : c < c + 1 ∧ bt (σ 5 q) c = true), if_neg (fun (w : c < c ∧ bt (σ 5 q) c = true) => Nat.lt_irrefl _ w.1)]
          · rw [upd_o hc, asS_6c, asS_6c]
            by_cases h3 : c < i ∧ bt (σ 5 q) c = true
            · rw [if_pos h3, if_pos ⟨by omega, h3.2⟩]
            · rw [if_neg h3, if_neg (fun w => h3 ⟨by omega, w.2⟩)]
        · rw [m_up_ne k6]; unfold asS; rw [if_neg k6, if_neg k6]
      rw [cl_nI (by omega), es]
      exact key
theorem c_addSite {σ : mS} {n q : Nat} (hq : q < 8) (hn : n < 20) (h4 : σ 1 4 = nI n) : MR M_P_addSite [.inr (1, 0), .inl (nI q)] σ (some (.inl (nI n))) (asS σ n q (q + 1)) := by
  refine MU_of rfl rfl rfl (r_P_addSite_0 ?_)
  rw [h4]
  rintro _ rfl
  refine ⟨vp_in_nI hn (by decide), ?_⟩
  have e : m_up (m_up σ 1 4 (nI n + 1)) 10 (nI n).toNatClampNeg (nI q) = asS σ n q 0 := by
    rw [nI_1, cl_nI (by omega)]
    funext k
    by_cases k6 : k = 6
    · subst k6
      rw [m_up_ne (by decide), m_up_ne (by decide), asS_6]
      funext c
      rw [if_neg (fun w => Nat.not_lt_zero _ w.1)]
    · by_cases k1 : k = 1
      · subst k1; rw [m_up_ne (by decide), m_up_s, asS_1]
      · by_cases k10 : k = 10
        · subst k10; rw [m_up_s, m_up_ne (by decide), asS_10]
        · rw [m_up_ne k10, m_up_ne k1, asS_o k6 k1 k10]
  rw [e, ← nI_0]
  exact l_addSite hq _ ⟨rfl, rfl⟩ (q + 1) 0 rfl (Nat.zero_le _)
section
variable {π σ : mS} {x1 x2 x3 x4 x5 x6 x7 : Int32}
theorem c_addStatement (h : RCp π σ) {m : Nat} (hm : m < nM π) (hO : okO π x2 x3 x4 x5 x6 x7) : MU M_P_addStatement [.inr (1, 0), .inl (nI m)] (m_up (m_up (m_up (m_up (m_up (m_up σ (59 + nS π) 2 x2) (59 + nS π) 3 x3) (59 + nS π) 4 x4) (59 + nS π) 5 x5) (59 + nS π) 6 x6) (59 + nS π) 7 x7) (fun r τ => r = some (.inl (nI (nS π))) ∧ RCp (stN π (nI m) x2 x3 x4 x5 x6 x7) τ ∧ ∀ k, k = 2 ∨ k = 3 ∨ k = 13 ∨ k = 14 ∨ k = 15 ∨ k = 23 ∨ (25 ≤ k ∧ k ≤ 58) → τ k = σ k) := by
  have hR := h
  obtain ⟨hw, h1, h2, h3⟩ := h
  have aM := hw.nM10.2
  have aS := hw.nS60
  have aT := hw.nT20
  have aC := hw.nC8.2
  have hS := hO.2.2.2.1
  have le := sts_le (π := π) m
  generalize hσ1 : m_up (m_up (m_up (m_up (m_up (m_up σ (59 + nS π) 2 x2) (59 + nS π) 3 x3) (59 + nS π) 4 x4) (59 + nS π) 5 x5) (59 + nS π) 6 x6) (59 + nS π) 7 x7 = s1
  have so : ∀ k, k ≠ 59 + nS π → s1 k = σ k := fun k hk => by rw [← hσ1, m_up_ne hk, m_up_ne hk, m_up_ne hk, m_up_ne hk, m_up_ne hk, m_up_ne hk]
  have sN : s1 (59 + nS π) = upd (upd (upd (upd (upd (upd (σ (59 + nS π)) 2 x2) 3 x3) 4 x4) 5 x5) 6 x6) 7 x7 := by rw [← hσ1, m_up_s, m_up_s, m_up_s, m_up_s, m_up_s, m_up_s]
  have e3 : s1 1 3 = nI (nS π) := by rw [so 1 (by omega), h1.2.2.2.1, aS.1]
  refine MU_of rfl rfl rfl (r_P_addStatement_0 ?_)
  rw [e3]
  rintro _ rfl
  refine ⟨vp_in_nI hS (by decide), ?_⟩
  rw [cl_nI (by omega), Nat.mod_eq_of_lt hS, nI_1]
  intro t3 ht3
  have t3_11 : t3 11 = σ 11 := by rw [ht3, m_up_ne (by omega), m_up_ne (by decide), so 11 (by omega)]
  have eL : t3 11 (nI m).toNatClampNeg = nI (cnt π m) := by rw [cl_nI (by omega), t3_11]; exact h3.1 m hm
  have ex : nI m * nI 60 + nI (cnt π m) = nI (60 * m + cnt π m) := by rw [pk_mul, nI_add]; congr 1; omega
  rw [eL, ex]
  refine ⟨vp_in_nI (by omega) (by decide), vp_in_nI (by omega) (by decide), ?_⟩
  rw [cl_nI (n := 60 * m + cnt π m) (by omega)]
  intro t4 ht4
  refine ⟨vp_in_nI (by omega) (by decide), vp_in_nI (by omega) (by decide), ?_⟩
  have eL4 : t4 11 (nI m).toNatClampNeg = nI (cnt π m) := by rw [ht4, m_up_ne (by decide), eL]
  rw [eL4, nI_1, cl_nI (n := m) (by omega)]
  intro t5 ht5
  have q1 : t5 1 = upd (σ 1) 3 (nI (nS π + 1)) := by rw [ht5, m_up_ne (by decide), ht4, m_up_ne (by decide), ht3, m_up_ne (by omega), m_up_s, so 1 (by omega)]
  have q11 : t5 11 = upd (σ 11) m (nI (cnt π m + 1)) := by rw [ht5, m_up_s, ht4, m_up_ne (by decide), t3_11]
  have q12 : t5 12 = upd (σ 12) (60 * m + cnt π m) (nI (nS π)) := by rw [ht5, m_up_ne (by decide), ht4, m_up_s, ht3, m_up_ne (by omega), m_up_ne (by decide), so 12 (by omega)]
  have qN : t5 (59 + nS π) = upd (s1 (59 + nS π)) 0 (nI m) := by rw [ht5, m_up_ne (by omega), ht4, m_up_ne (by omega), ht3, m_up_s, m_up_ne (by omega)]
  have qo : ∀ k, k ≠ 1 → k ≠ 11 → k ≠ 12 → k ≠ 59 + nS π → t5 k = σ k := fun k a b c d => by rw [ht5, m_up_ne b, ht4, m_up_ne c, ht3, m_up_ne d, m_up_ne a, so k d]
  have n0 : t5 (59 + nS π) 0 = nI m := by rw [qN, upd_s]
  have n2 : t5 (59 + nS π) 2 = x2 := by rw [qN, upd_o (by decide), sN, upd_o (by decide), upd_o (by decide), upd_o (by decide), upd_o (by decide), upd_o (by decide), upd_s]
  have n3 : t5 (59 + nS π) 3 = x3 := by rw [qN, upd_o (by decide), sN, upd_o (by decide), upd_o (by decide), upd_o (by decide), upd_o (by decide), upd_s]
  have n4 : t5 (59 + nS π) 4 = x4 := by rw [qN, upd_o (by decide), sN, upd_o (by decide), upd_o (by decide), upd_o (by decide), upd_s]
  have n5 : t5 (59 + nS π) 5 = x5 := by rw [qN, upd_o (by decide), sN, upd_o (by decide), upd_o (by decide), upd_s]
  have n6 : t5 (59 + nS π) 6 = x6 := by rw [qN, upd_o (by decide), sN, upd_o (by decide), upd_s]
  have n7 : t5 (59 + nS π) 7 = x7 := by rw [qN, upd_o (by decide), sN, upd_s]
  rw [n2, n4]
  refine ⟨fun hne => ⟨rfl, ?_, fun k hk => qo k (by omega) (by omega) (by omega) (by omega)⟩, fun he => ?_⟩
  · refine sn_rc hR hm hO (by rw [q1, upd_s]) (by rw [q1, upd_o (by decide), if_neg hne, h1.2.2.2.2.1, aT.1]) (fun j hj => by rw [q1, upd_o (by omega)]) (by rw [qo 2 (by decide) (by decide) (by decide) (by omega)]) (fun k hk => qo k (by omega) (by omega) (by omega) (by omega)) (fun c hc o => by rw [qo 6 (by decide) (by decide) (by decide) (by omega), decide_eq_false hne, Bool.false_and, Bool.or_false]) (by rw [if_neg hne, qo 10 (by decide) (by decide) (by decide) (by omega)]) q11 q12 (fun i hi => qo _ (by omega) (by omega) (by omega) (by omega)) ⟨n0, n2, n3, n4, n5, n6, n7, fun q => absurd q hne⟩
  · obtain ⟨q, hq, rfl⟩ := okO_q hw hO he
    have hT := hO.2.2.2.2 he
    refine (c_addSite (by omega) hT (by rw [q1, upd_o (by decide), h1.2.2.2.2.1, aT.1])).i ⟨rfl, ?_, fun k hk => ?_⟩
    · have zo : ∀ k, k ≠ 6 → k ≠ 1 → k ≠ 10 → k ≠ 59 + nS π → m_up (asS t5 (nT π) q (q + 1)) (59 + nS π) 1 (nI (nT π)) k = t5 k := fun k a b c d => by rw [m_up_ne d, asS_o a b c]
      have zN : ∀ j, j ≠ 1 → m_up (asS t5 (nT π) q (q + 1)) (59 + nS π) 1 (nI (nT π)) (59 + nS π) j = t5 (59 + nS π) j := fun j hj => by rw [m_up_s, upd_o hj, asS_o (by omega) (by omega) (by omega)]
      refine sn_rc hR hm hO ?_ ?_ (fun j hj => ?_) ?_ (fun k hk => ?_) (fun c hc o => ?_) ?_ ?_ ?_ (fun i hi => ?_) ⟨?_, ?_, ?_, ?_, ?_, ?_, ?_, fun _ => ?_⟩
      · rw [m_up_ne (by omega), asS_1, upd_o (by decide), q1, upd_s]
      · rw [m_up_ne (by omega), asS_1, upd_s, if_pos he]
      · rw [m_up_ne (by omega), asS_1, upd_o (by omega), q1, upd_o (by omega)]
      · rw [zo 2 (by decide) (by decide) (by decide) (by omega), qo 2 (by decide) (by decide) (by decide) (by omega)]
      · rw [zo k (by omega) (by omega) (by omega) (by omega), qo k (by omega) (by omega) (by omega) (by omega)]
      · rw [m_up_ne (by omega), asS_6c, qo 5 (by decide) (by decide) (by decide) (by omega), qo 6 (by decide) (by decide) (by decide) (by omega), h2.2.1 q hq c, decide_eq_true he, Bool.true_and, cl_nI (by omega)]
        by_cases e : c < q + 1 ∧ und π q c = true
        · rw [if_pos e, b_or, bt_1shl (by omega), e.2, Bool.and_true]
        · have : und π q c = false := by
            rw [← Bool.not_eq_true]
            intro w
            exact e ⟨by have := und_le hw q hq w; omega, w⟩
          rw [if_neg e, this, Bool.and_false, Bool.or_false]
      · rw [m_up_ne (by omega), asS_10, if_pos he, qo 10 (by decide) (by decide) (by decide) (by omega)]
      · rw [zo 11 (by decide) (by decide) (by decide) (by omega), q11]
      · rw [zo 12 (by decide) (by decide) (by decide) (by omega), q12]
      · rw [zo _ (by omega) (by omega) (by omega) (by omega), qo _ (by omega) (by omega) (by omega) (by omega)]
      · rw [zN 0 (by decide), n0]
      · rw [zN 2 (by decide), n2]
      · rw [zN 3 (by decide), n3]
      · rw [zN 4 (by decide), n4]
      · rw [zN 5 (by decide), n5]
      · rw [zN 6 (by decide), n6]
      · rw [zN 7 (by decide), n7]
      · rw [m_up_s, upd_s]
    · rw [m_up_ne (by omega), asS_o (by omega) (by omega) (by omega), qo k (by omega) (by omega) (by omega) (by omega)]
def okS (π : mS) (x1 x2 x3 x4 x5 x6 x7 : Int32) : Prop := rg x1 (π 25 4) = true ∧ (¬ x2 < 0 ∧ x2 ≤ nI 9) ∧ hop (π 25 0) (π 25 2) x2 x3 x4 x5 x6 x7 = true ∧ (x2 = nI 7 → rg x5 (nI 4) = true) ∧ nS π < 60 ∧ (x2 = 0 → nT π < 20)
def badS (π : mS) (x1 x2 x3 x4 x5 x6 x7 : Int32) : Int32 := if rg x1 (π 25 4) = true then (if ¬ x2 < 0 ∧ x2 ≤ nI 9 then (if hop (π 25 0) (π 25 2) x2 x3 x4 x5 x6 x7 = true then (if x2 = nI 7 ∧ ¬ rg x5 (nI 4) = true then -nI 2 else -nI 4) else -1) else -nI 2) else -1
theorem okS.O (h : okS π x1 x2 x3 x4 x5 x6 x7) : okO π x2 x3 x4 x5 x6 x7 := by
  obtain ⟨h1, ⟨h2, h3⟩, h4, h5, h6, h7⟩ := h
  refine ⟨?_, h4, h5, h6, h7⟩
  obtain ⟨j, hj, rfl⟩ := nI_of h2
  refine ⟨j, ?_, rfl⟩
  rcases Nat.lt_or_ge 9 j with a | a
  · exact absurd h3 (nI_ge a hj)
  · omega
theorem c_hasRoomFor (h : RCp π σ) (x : Int32) : MR M_P_hasRoomFor [.inr (1, 0), .inl x] σ (some (.inl (bI (decide (nS π < 60 ∧ (x = 0 → nT π < 20)))))) σ := by
  have aS := h.1.nS60
  have aT := h.1.nT20
  have e3 : σ 1 3 = nI (nS π) := by rw [h.2.1.2.2.2.1, aS.1]
  have e4 : σ 1 4 = nI (nT π) := by rw [h.2.1.2.2.2.2.1, aT.1]
  refine MU_of rfl rfl rfl (r_P_hasRoomFor_0 ?_)
  rw [e3, e4]
  refine ⟨fun q => ⟨?_, rfl⟩, fun q => ⟨fun q2 => ⟨?_, rfl⟩, fun q2 => ⟨fun q3 => ⟨?_, rfl⟩, fun q3 => ⟨?_, rfl⟩⟩⟩⟩
  · rw [decide_eq_false (fun w => absurd q (nI_ge w.1 (by omega)))]; rfl
  · have : nS π < 60 := by
      rcases Nat.lt_or_ge (nS π) 60 with a | a
      · exact a
      · exact absurd (nI_le a (by omega)) q
    rw [decide_eq_true ⟨this, fun w => absurd w q2⟩]; rfl
  · rw [decide_eq_false (fun w => absurd q3 (nI_ge (w.2 q2) (by omega)))]; rfl
  · have : nS π < 60 := by
      rcases Nat.lt_or_ge (nS π) 60 with a | a
      · exact a
      · exact absurd (nI_le a (by omega)) q
    have : nT π < 20 := by
      rcases Nat.lt_or_ge (nT π) 20 with a | a
      · exact a
      · exact absurd (nI_le a (by omega)) q3
    rw [decide_eq_true ⟨by assumption, fun w => by assumption⟩]; rfl
theorem c_statement (h : RC π σ) (x1 x2 x3 x4 x5 x6 x7 : Int32) : MU M_O_statement [.inr (0, 0), .inl x1, .inl x2, .inl x3, .inl x4, .inl x5, .inl x6, .inl x7] σ (oC (okS π x1 x2 x3 x4 x5 x6 x7) (π 25 7) (badS π x1 x2 x3 x4 x5 x6 x7) (stN π x1 x2 x3 x4 x5 x6 x7) σ) := by
  have hw := h.1.1
  have aM := hw.nM10
  have aS := hw.nS60
  have e0 : σ 1 0 = π 25 0 := h.1.2.1.1
  have e1 : σ 1 1 = π 25 2 := h.1.2.1.2.1
  have e2 : σ 1 2 = π 25 4 := h.1.2.1.2.2.1
  refine MU_of rfl rfl rfl (r_O_statement_0 ((c_hasMethod σ x1).i ?_))
  rw [e2]
  refine br_b' (fun q => Or.inr ⟨(fun k => by rw [k.1] at q; cases q), (by unfold badS; rw [if_neg (by rw [q]; decide)]), rfl⟩) (fun q => ⟨fun q2 => Or.inr ⟨fun k => k.2.1.1 q2, (by unfold badS; rw [if_pos q, if_neg (fun k => k.1 q2)]), rfl⟩, fun q2 => ⟨fun q3 => (c_hasOperands σ x2 x3 x4 x5 x6 x7).i ?_, fun q3 => Or.inr ⟨fun k => q3 k.2.1.2, (by unfold badS; rw [if_pos q, if_neg (fun k => q3 k.2)]), rfl⟩⟩⟩)
  rw [e0, e1]
  refine br_b' (fun q4 => Or.inr ⟨(fun k => by rw [k.2.2.1] at q4; cases q4), (by unfold badS; rw [if_pos q, if_pos ⟨q2, q3⟩, if_neg (by rw [q4]; decide)]), rfl⟩) (fun q4 => ?_)
  have tail : (x2 = nI 7 → rg x5 (nI 4) = true) → J M_O_statement (oC (okS π x1 x2 x3 x4 x5 x6 x7) (π 25 7) (badS π x1 x2 x3 x4 x5 x6 x7) (stN π x1 x2 x3 x4 x5 x6 x7) σ) 65 [some (.inr (0, 0)), some (.inl x1), some (.inl x2), some (.inl x3), some (.inl x4), some (.inl x5), some (.inl x6), some (.inl x7)] [] σ := by
    intro q5
    refine r_O_statement_65 ((c_hasRoomFor h.1 x2).i (br_b' (fun q6 => Or.inr ⟨fun k => ?_, ?_, rfl⟩) (fun q6 => ?_)))
    · rw [decide_eq_true ⟨k.2.2.2.2.1, k.2.2.2.2.2⟩] at q6; cases q6
    · unfold badS; rw [if_pos q, if_pos ⟨q2, q3⟩, if_pos q4, if_neg (fun k => k.2 (q5 k.1))]
    · have q6 := of_decide_eq_true q6
      have ok : okS π x1 x2 x3 x4 x5 x6 x7 := ⟨q, ⟨q2, q3⟩, q4, q5, q6.1, q6.2⟩
      obtain ⟨f1, f2, f3, f4⟩ := fA_rc h
      obtain ⟨m, hm, rfl⟩ := rg_n (n := nM π) (by rw [← aM.1]; exact q)
      refine (c_forgetAnswers σ).v ?_
      have e3 : fA σ 1 3 = nI (nS π) := by rw [f1.1.2.1.2.2.2.1, aS.1]
      have nx : MR M_P_nextStatement [.inr (1, 0)] (fA σ) (some (.inr (59, nS π))) (fA σ) := MU_of rfl rfl rfl (r_P_nextStatement_0 (by rw [e3, cl_nI (by omega)]; exact ⟨vp_in_nI q6.1 (by decide), rfl, rfl⟩))
      refine nx.r ?_
      have te : MR M_G_tell [.inr (59, nS π), .inl x2, .inl x3, .inl x4, .inl x5, .inl x6, .inl x7] (fA σ) none (m_up (m_up (m_up (m_up (m_up (m_up (fA σ) (59 + nS π) 2 x2) (59 + nS π) 3 x3) (59 + nS π) 4 x4) (59 + nS π) 5 x5) (59 + nS π) 6 x6) (59 + nS π) 7 x7) := MU_of rfl rfl rfl (r_G_tell_0 (by rw [Nat.mod_eq_of_lt q6.1]; exact ⟨rfl, rfl⟩))
      refine te.v ((c_addStatement f1.1 hm ok.O).mono ?_)
      rintro r τ ⟨rfl, k1, k2⟩
      exact ⟨_, rfl, Or.inl ⟨ok, by rw [aS.1], pC_of k1 k2 h.2.2⟩⟩
  refine ⟨fun q5 => tail (fun k => absurd k q5), fun q5 => (c_isSignature σ x5).i (br_b' (fun q6 => Or.inr ⟨(fun k => by rw [k.2.2.2.1 q5] at q6; cases q6), (by unfold badS; rw [if_pos q, if_pos ⟨q2, q3⟩, if_pos q4, if_pos ⟨q5, by rw [q6]; decide⟩]), rfl⟩) (fun q6 => tail (fun _ => q6)))⟩
theorem d_statement (h : RMm π σ) (x1 x2 x3 x4 x5 x6 x7 : Int32) : MU M_M_statement [.inr (25, 0), .inl x1, .inl x2, .inl x3, .inl x4, .inl x5, .inl x6, .inl x7] σ (oM (okS π x1 x2 x3 x4 x5 x6 x7) (π 25 7) (badS π x1 x2 x3 x4 x5 x6 x7) (stN π x1 x2 x3 x4 x5 x6 x7) σ) := by
  have hw := h.1.1
  have aM := hw.nM10
  have aS := hw.nS60
  have aT := hw.nT20
  have e0 : σ 25 0 = π 25 0 := h.1.2.2 0 (by decide)
  have e2 : σ 25 2 = π 25 2 := h.1.2.2 2 (by decide)
  have e4 : σ 25 4 = π 25 4 := h.1.2.2 4 (by decide)
  have e7 : σ 25 7 = nI (nS π) := by rw [h.1.2.2 7 (by decide), aS.1]
  have e16 : σ 25 16 = nI (nT π) := by rw [h.1.2.2 16 (by decide), aT.1]
  have r4 := rg_4 (y := x5)
  refine MU_of rfl rfl rfl (r_M_statement_0 ((d_isMethod σ x1).i ?_))
  rw [e4]
  refine br_b' (fun q => Or.inr ⟨(fun k => by rw [k.1] at q; cases q), (by unfold badS; rw [if_neg (by rw [q]; decide)]), rfl⟩) (fun q => ⟨fun q2 => Or.inr ⟨fun k => k.2.1.1 q2, (by unfold badS; rw [if_pos q, if_neg (fun k => k.1 q2)]), rfl⟩, fun q2 => ⟨fun q3 => (d_isGood σ x2 x3 x4 x5 x6 x7).i ?_, fun q3 => Or.inr ⟨fun k => q3 k.2.1.2, (by unfold badS; rw [if_pos q, if_neg (fun k => q3 k.2)]), rfl⟩⟩⟩)
  rw [e0, e2]
  refine br_b' (fun q4 => Or.inr ⟨(fun k => by rw [k.2.2.1] at q4; cases q4), (by unfold badS; rw [if_pos q, if_pos ⟨q2, q3⟩, if_neg (by rw [q4]; decide)]), rfl⟩) (fun q4 => ?_)
  have tail : (x2 = nI 7 → rg x5 (nI 4) = true) → J M_M_statement (oM (okS π x1 x2 x3 x4 x5 x6 x7) (π 25 7) (badS π x1 x2 x3 x4 x5 x6 x7) (stN π x1 x2 x3 x4 x5 x6 x7) σ) 62 [some (.inr (25, 0)), some (.inl x1), some (.inl x2), some (.inl x3), some (.inl x4), some (.inl x5), some (.inl x6), some (.inl x7), none] [] σ := by
    intro q5
    have bad : badS π x1 x2 x3 x4 x5 x6 x7 = -nI 4 := by unfold badS; rw [if_pos q, if_pos ⟨q2, q3⟩, if_pos q4, if_neg (fun k => k.2 (q5 k.1))]
    have good : nS π < 60 → (x2 = 0 → nT π < 20) → J M_M_statement (oM (okS π x1 x2 x3 x4 x5 x6 x7) (π 25 7) (badS π x1 x2 x3 x4 x5 x6 x7) (stN π x1 x2 x3 x4 x5 x6 x7) σ) 87 [some (.inr (25, 0)), some (.inl x1), some (.inl x2), some (.inl x3), some (.inl x4), some (.inl x5), some (.inl x6), some (.inl x7), none] [] σ := by
      intro hS hT
      have ok : okS π x1 x2 x3 x4 x5 x6 x7 := ⟨q, ⟨q2, q3⟩, q4, q5, hS, hT⟩
      have hm : IN x1 (nM π) := rg_in (by rw [← aM.1]; exact q)
      have hw' := sn_wm hw hm ok.O
      refine r_M_statement_87 ?_
      rw [e7]
      rintro _ rfl
      have v := vp_in_nI (n := nS π) (N := 60) hS (by decide)
      rw [cl_nI (by omega)]
      refine ⟨v, v, v, v, v, v, v, v, ?_⟩
      intro t ht
      have t25 : t 25 = σ 25 := by rw [ht, m_up_ne (by decide), m_up_ne (by decide), m_up_ne (by decide), m_up_ne (by decide), m_up_ne (by decide), m_up_ne (by decide), m_up_ne (by decide), m_up_ne (by decide)]
      have t30 : t 30 = upd (π 30) (nS π) x1 := by rw [ht, m_up_ne (by decide), m_up_ne (by decide), m_up_ne (by decide), m_up_ne (by decide), m_up_ne (by decide), m_up_ne (by decide), m_up_ne (by decide), m_up_s, h.1.2.1 30 (by decide) (by decide)]
      have t31 : t 31 = upd (π 31) (nS π) x2 := by rw [ht, m_up_ne (by decide), m_up_ne (by decide), m_up_ne (by decide), m_up_ne (by decide), m_up_ne (by decide), m_up_ne (by decide), m_up_s, m_up_ne (by decide), h.1.2.1 31 (by decide) (by decide)]
      have t32 : t 32 = upd (π 32) (nS π) x3 := by rw [ht, m_up_ne (by decide), m_up_ne (by decide), m_up_ne (by decide), m_up_ne (by decide), m_up_ne (by decide), m_up_s, m_up_ne (by decide), m_up_ne (by decide), h.1.2.1 32 (by decide) (by decide)]
      have t33 : t 33 = upd (π 33) (nS π) x4 := by rw [ht, m_up_ne (by decide), m_up_ne (by decide), m_up_ne (by decide), m_up_ne (by decide), m_up_s, m_up_ne (by decide), m_up_ne (by decide), m_up_ne (by decide), h.1.2.1 33 (by decide) (by decide)]
      have t34 : t 34 = upd (π 34) (nS π) x5 := by rw [ht, m_up_ne (by decide), m_up_ne (by decide), m_up_ne (by decide), m_up_s, m_up_ne (by decide), m_up_ne (by decide), m_up_ne (by decide), m_up_ne (by decide), h.1.2.1 34 (by decide) (by decide)]
      have t35 : t 35 = upd (π 35) (nS π) x6 := by rw [ht, m_up_ne (by decide), m_up_ne (by decide), m_up_s, m_up_ne (by decide), m_up_ne (by decide), m_up_ne (by decide), m_up_ne (by decide), m_up_ne (by decide), h.1.2.1 35 (by decide) (by decide)]
      have t36 : t 36 = upd (π 36) (nS π) x7 := by rw [ht, m_up_ne (by decide), m_up_s, m_up_ne (by decide), m_up_ne (by decide), m_up_ne (by decide), m_up_ne (by decide), m_up_ne (by decide), m_up_ne (by decide), h.1.2.1 36 (by decide) (by decide)]
      have t37 : t 37 = upd (π 37) (nS π) (-1) := by rw [ht, m_up_s, m_up_ne (by decide), m_up_ne (by decide), m_up_ne (by decide), m_up_ne (by decide), m_up_ne (by decide), m_up_ne (by decide), m_up_ne (by decide), h.1.2.1 37 (by decide) (by decide)]
      have to : ∀ k, k < 30 ∨ 37 < k → t k = σ k := fun k hk => by rw [ht, m_up_ne (by omega), m_up_ne (by omega), m_up_ne (by omega), m_up_ne (by omega), m_up_ne (by omega), m_up_ne (by omega), m_up_ne (by omega), m_up_ne (by omega)]
      have cells : ∀ τ : mS, (∀ k, k < 25 ∨ 25 < k ∧ k < 37 ∨ 38 < k → τ k = t k) → τ 37 = stN π x1 x2 x3 x4 x5 x6 x7 37 → τ 38 = stN π x1 x2 x3 x4 x5 x6 x7 38 → (∀ j, j ≤ 18 → τ 25 j = stN π x1 x2 x3 x4 x5 x6 x7 25 j) → pM (stN π x1 x2 x3 x4 x5 x6 x7) σ (cH τ) := by
        intro τ z1 z37 z38 z25
        refine pM_of hw' (fun k a b => ?_) z25 (ZM_25 h.2.2 (fun k a b => by rw [z1 k (by omega), to k (by omega)])) (fun k hk => by rw [z1 k (by omega), to k (by omega)])
        rcases (show k < 30 ∨ k = 30 ∨ k = 31 ∨ k = 32 ∨ k = 33 ∨ k = 34 ∨ k = 35 ∨ k = 36 ∨ k = 37 ∨ k = 38 by omega) with e | rfl | rfl | rfl | rfl | rfl | rfl | rfl | rfl | rfl
        · rw [z1 k (by omega), to k (by omega), h.1.2.1 k a b]
          unfold stN
          rw [if_neg (by omega), if_neg (by omega), if_neg (by omega), if_neg (by omega), if_neg (by omega), if_neg (by omega), if_neg (by omega), if_neg (by omega), if_neg (by omega), if_neg (by omega)]
        · rw [z1 30 (by omega), t30]; rfl
        · rw [z1 31 (by omega), t31]; rfl
        · rw [z1 32 (by omega), t32]; rfl
        · rw [z1 33 (by omega), t33]; rfl
        · rw [z1 34 (by omega), t34]; rfl
        · rw [z1 35 (by omega), t35]; rfl
        · rw [z1 36 (by omega), t36]; rfl
        · exact z37
        · exact z38
      rw [t25, e7, e16]
      refine ⟨fun hne => (d_change _).v (Or.inl ⟨ok, by rw [aS.1], ?_⟩), fun he => ⟨v, ?_⟩⟩
      · rw [nI_1]
        refine cells _ (fun k hk => m_up_ne (by omega)) ?_ ?_ (fun j hj => ?_)
        · rw [m_up_ne (by decide), t37, sn_37, if_neg hne]
        · rw [m_up_ne (by decide), to 38 (by omega), h.1.2.1 38 (by decide) (by decide), sn_38, if_neg hne]
        · rw [m_up_s, t25, sn_25, if_neg hne]
          by_cases e : j = 7
          · subst e; rw [upd_s, upd_s]
          · rw [upd_o e, upd_o e, h.1.2.2 j hj]
      · rintro t29 rfl
        have u25 : m_up t 37 (nS π) (nI (nT π)) 25 = σ 25 := by rw [m_up_ne (by decide), t25]
        rw [u25, e16, cl_nI (by omega)]
        refine ⟨vp_in_nI (hT he) (by decide), ?_⟩
        rintro t30' rfl
        have u25' : m_up (m_up t 37 (nS π) (nI (nT π))) 38 (nT π) x4 25 = σ 25 := by rw [m_up_ne (by decide), u25]
        rw [u25', e16, nI_1]
        rintro t31' rfl
        rw [m_up_s, u25', upd_o (show 7 ≠ 16 by decide), e7, nI_1]
        refine (d_change _).v (Or.inl ⟨ok, by rw [aS.1], ?_⟩)
        refine cells _ (fun k hk => ?_) ?_ ?_ (fun j hj => ?_)
        · rw [m_up_ne (by omega), m_up_ne (by omega), m_up_ne (by omega), m_up_ne (by omega)]
        · rw [m_up_ne (by decide), m_up_ne (by decide), m_up_ne (by decide), m_up_s, t37, sn_37, if_pos he]
          funext j
          by_cases e : j = nS π
          · subst e; rw [upd_s, upd_s]
          · rw [upd_o e, upd_o e, upd_o e]
        · rw [m_up_ne (by decide), m_up_ne (by decide), m_up_s, m_up_ne (by decide), to 38 (by omega), h.1.2.1 38 (by decide) (by decide), sn_38, if_pos he]
        · rw [m_up_s, m_up_s, u25', sn_25, if_pos he]
          by_cases e : j = 7
          · subst e; rw [upd_s, upd_s]
          · rw [upd_o e, upd_o e]
            by_cases e2 : j = 16
            · subst e2; rw [upd_s, upd_s]
            · rw [upd_o e2, upd_o e2, h.1.2.2 j hj]
    refine r_M_statement_62 ?_
    rw [e7, e16]
    refine ⟨fun q6 => Or.inr ⟨fun k => ?_, by rw [bad], rfl⟩, fun q6 => ?_⟩
    · have := nI_inj (by omega) (by decide) q6
      have := k.2.2.2.2.1
      omega
    · have hS : nS π < 60 := by
        rcases Nat.lt_or_ge (nS π) 60 with a | a
        · exact a
        · exact absurd (by rw [show nS π = 60 by omega]) q6
      refine ⟨fun q7 => good hS (fun k => absurd k q7), fun q7 => ⟨fun q8 => good hS (fun _ => ?_), fun q8 => Or.inr ⟨fun k => ?_, by rw [bad], rfl⟩⟩⟩
      · rcases Nat.lt_or_ge (nT π) 20 with a | a
        · exact a
        · exact absurd (by rw [show nT π = 20 by omega]) q8
      · have := nI_inj (by omega) (by decide) q8
        have := k.2.2.2.2.2 q7
        omega
  refine ⟨fun q5 => tail (fun k => absurd k q5), fun q5 => ⟨fun q6 => Or.inr ⟨fun k => (r4.mp (k.2.2.2.1 q5)).1 q6, ?_, rfl⟩, fun q6 => ⟨fun q7 => tail (fun _ => r4.mpr ⟨q6, q7⟩), fun q7 => Or.inr ⟨fun k => q7 (r4.mp (k.2.2.2.1 q5)).2, ?_, rfl⟩⟩⟩⟩
  · unfold badS; rw [if_pos q, if_pos ⟨q2, q3⟩, if_pos q4, if_pos ⟨q5, fun k => (r4.mp k).1 q6⟩]
  · unfold badS; rw [if_pos q, if_pos ⟨q2, q3⟩, if_pos q4, if_pos ⟨q5, fun k => q7 (r4.mp k).2⟩]
end
