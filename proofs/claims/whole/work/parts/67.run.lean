/-! RUNS: run, met, ran -/
section
variable {π σ0 σ τ0 τ : mS} {N : Nat}
theorem zS_s (seed : Int32) (k : Nat) : zS' seed (k + 1) = zS' seed k * nI 1664525 + nI 1013904223 := by rw [zS']
theorem zS_0 (seed : Int32) : zS' seed 0 = seed := by rw [zS']
theorem l_holdsFor (hB : BB π N σ0) (hM : 0 < nM π) (seed : Int32) {n : Nat} (hn : n ≤ 300) (Q : Option mV → mS → Prop) (hQ : ∀ τ (h : Bool), (h = true ↔ gP π N seed n) → CC σ0 τ (rN π seed n) h → Q (some (.inl (bI h))) τ) (u1 : Option mV) :
    ∀ d k, n - k = d → k ≤ n → ∀ τ (h : Bool), (h = true ↔ gP π N seed k) → CC σ0 τ (rN π seed k) h → J M_T_holdsFor Q 29 [some (.inr (3, 0)), u1, some (.inl (nI n)), some (.inl (zS' seed k)), some (.inl (nI k))] [] τ := by
  have hw := hB.1.1
  intro d
  induction d with
  | zero =>
    intro k h1 h2 τ h hh c
    have : k = n := by omega
    subst this
    refine r_T_holdsFor_29 ⟨fun _ => ?_, fun q => absurd (nI_le (Nat.le_refl _) (by omega)) q⟩
    rw [c.2.2]
    exact ⟨bI_01 _, hQ τ h hh c⟩
  | succ d ih =>
    intro k h1 h2 τ h hh c
    have key := ih (k + 1) (by omega) (by omega)
    have w := rN_wr hw hM seed k
    refine r_T_holdsFor_29 ⟨fun q => absurd q (nI_ge (by omega) (by omega)), fun _ => ?_⟩
    rw [← zS_s, nI_1]
    intro v8 hv8
    rw [hv8]
    refine (c_doStep hB w c (zS' seed (k + 1))).mono ?_
    rintro r τ1 ⟨rfl, c1⟩
    refine ⟨rfl, (c_lookAtNames hB (wr_pre hw w _) c1).mono ?_⟩
    rintro r τ2 ⟨rfl, h', hh', c2⟩
    refine ⟨rfl, key τ2 h' ?_ (by rw [rN_s]; exact c2)⟩
    rw [hh', Bool.and_eq_true, hh, gP_s]
    constructor
    · rintro ⟨⟨a, b⟩, d⟩
      exact ⟨a, d, (sok_pre hw w (rN_ok seed k a) _).mpr b⟩
    · rintro ⟨a, b, d⟩
      exact ⟨⟨a, (sok_pre hw w (rN_ok seed k a) _).mp d⟩, b⟩
theorem CC_0 (σ0 : mS) : CC σ0 (m_up (pF (m_fl (tF σ0) 18 0 4 (-1)) 0 0 0 (-1)) 3 10 1) r0 true := by
  have t3 := tF_3 (σ := σ0)
  have t23 := tF_0 σ0
  unfold pF
  refine ⟨fun k a b => ?_, ⟨⟨?_, ?_, ?_⟩, fun o ho => ?_, fun j hj => ?_, fun s hs => ?_, fun j hj => ?_, fun k hk => ?_, fun k hk => ?_⟩, ?_⟩
  · rw [m_up_ne a, m_up_ne a, m_up_ne (by omega), m_up_ne (by omega), m_up_ne (by omega), m_fl_o (by omega), m_fl_o (by omega), tF_o (by omega) a]
  · rw [m_up_s, upd_o (by decide), m_up_s, upd_o (by decide), m_up_ne (by decide), m_up_ne (by decide), m_up_ne (by decide), m_fl_o (by decide), m_fl_o (by decide), t23.1]; exact nI_0.symm
  · rw [m_up_s, upd_o (by decide), m_up_s, upd_s]; rfl
  · rw [m_up_s, upd_o (by decide), m_up_s, upd_o (by decide), m_up_ne (by decide), m_up_ne (by decide), m_up_ne (by decide), m_fl_o (by decide), m_fl_o (by decide), t23.2.2.1]; rfl
  · have ho : o < 0 := ho
    omega
  · have hj : j < 0 := hj
    omega
  · rw [m_up_ne (by decide), m_up_ne (by decide), m_up_ne (by decide), m_up_ne (by decide), m_up_ne (by decide), m_fl_o (by decide), m_fl_s]
    show (if 0 ≤ s ∧ s < 4 then (-1 : Int32) else _) = -1
    rw [if_pos ⟨Nat.zero_le _, hs⟩]
  · have hj : j < 6 := hj
    rw [m_up_ne (by decide), m_up_ne (by decide), m_up_ne (by decide), m_up_ne (by decide), m_up_ne (by decide), m_fl_s]
    show (if 6 * 0 ≤ j ∧ j < 6 * 0 + 6 then (-1 : Int32) else _) = -1
    rw [if_pos (by omega)]
  · have hk : k < 1 := hk
    have : k = 0 := by omega
    subst this
    refine ⟨?_, ?_, fun q => absurd q (Nat.lt_irrefl _)⟩
    · rw [m_up_ne (by decide), m_up_ne (by decide), m_up_ne (by decide), m_up_ne (by decide), m_up_s, upd_s]; rfl
    · rw [m_up_ne (by decide), m_up_ne (by decide), m_up_ne (by decide), m_up_s, upd_s]; rfl
  · rw [m_up_ne (by decide), m_up_ne (by decide), m_up_ne (by decide), m_up_ne (by decide), m_up_ne (by decide), m_fl_o (by decide), m_fl_o (by decide), t23.2.2.2 k hk]; rfl
  · rw [m_up_s, upd_s]; rfl
theorem c_holdsFor (hB : BB π N σ0) (hM : 0 < nM π) (seed : Int32) {n : Nat} (hn : n ≤ 300) : MU M_T_holdsFor [.inr (3, 0), .inl seed, .inl (nI n)] σ0 (fun r τ => ∃ h : Bool, r = some (.inl (bI h)) ∧ (h = true ↔ gP π N seed n) ∧ CC σ0 τ (rN π seed n) h) := by
  refine MU_of rfl rfl rfl (r_T_holdsFor_0 ((c_forget σ0).v ((c_fill _ 18 (-1) (by decide) (by decide)).v ?_)))
  have e1 : m_fl (tF σ0) (m_cl (18, 0)) 0 (a_n (m_cl (18, 0))) (-1) = m_fl (tF σ0) 18 0 4 (-1) := rfl
  rw [e1]
  have e2 : m_fl (tF σ0) 18 0 4 (-1) 3 12 = nI 0 := by rw [m_fl_o (by decide), (tF_0 σ0).2.1]; exact nI_0.symm
  refine (c_pushFrame e2 (by decide) 0 0 (-1)).v ?_
  have := l_holdsFor hB hM seed hn (fun r τ => ∃ h : Bool, r = some (.inl (bI h)) ∧ (h = true ↔ gP π N seed n) ∧ CC σ0 τ (rN π seed n) h) (fun τ h a b => ⟨h, rfl, a, b⟩) (some (.inl seed)) n 0 rfl (Nat.zero_le _) _ true ⟨fun _ j hj => by omega, fun _ => rfl⟩ (by rw [rN_0]; exact CC_0 σ0)
  rw [zS_0, nI_0] at this
  exact this
theorem l_run (hB : BM π N τ0) (hM : 0 < nM π) (seed : Int32) {n : Nat} (hn : n ≤ 300) (Q : Option mV → mS → Prop) (hQ : ∀ τ (h : Bool), (h = true ↔ gP π N seed n) → DD τ0 τ (rN π seed n) → Q (some (.inl (bI h))) τ) (u1 : Option mV) :
    ∀ d k, n - k = d → k ≤ n → ∀ τ (h : Bool) u6 u7 u8 u9, (h = true ↔ gP π N seed k) → DD τ0 τ (rN π seed k) → J M_M_run Q 67 [some (.inr (25, 0)), u1, some (.inl (nI n)), some (.inl (zS' seed k)), some (.inl (bI h)), some (.inl (nI k)), u6, u7, u8, u9] [] τ := by
  have hw := hB.1.1
  have aS := hw.nS60.2
  have aM := hw.nM10.2
  intro d
  induction d with
  | zero =>
    intro k h1 h2 τ h u6 u7 u8 u9 hh c
    have : k = n := by omega
    subst this
    refine r_M_run_67 ⟨fun _ => br_b (fun q => ?_) (fun q => ?_), fun q => absurd (nI_le (Nat.le_refl _) (by omega)) q⟩
    · have := hQ τ h hh c; rw [q] at this; exact this
    · have := hQ τ h hh c; rw [q] at this; exact this
  | succ d ih =>
    intro k h1 h2 τ h u6 u7 u8 u9 hh c
    have key := ih (k + 1) (by omega) (by omega)
    have w := rN_wr hw hM seed k
    have hp := c.1.pm hB.1
    generalize hρ : rN π seed k = ρ at c w
    have fr := w.2.1
    obtain ⟨t1, t2, t3, t4⟩ := wr_top hw w
    have le := sts_le (π := π) (toM ρ)
    obtain ⟨g, hg⟩ : ∃ g, ρ.fr = g + 1 := ⟨ρ.fr - 1, by omega⟩
    have e1 : nI ρ.fr - (1 : Int32) = nI (ρ.fr - 1) := by rw [hg, nI_pred]; rfl
    -- behind the step
    have back : ∀ τ1 u6 u7 u8 u9, DD τ0 τ1 (preF π (zS' seed (k + 1)) ρ) → J M_M_run Q 138 [some (.inr (25, 0)), u1, some (.inl (nI n)), some (.inl (zS' seed (k + 1))), some (.inl (bI h)), some (.inl (nI k)), u6, u7, u8, u9] [] τ1 := by
      intro τ1 u6 u7 u8 u9 c1
      refine r_M_run_138 ((d_holds hB (wr_pre hw w _) c1).mono ?_)
      rintro r τ2 ⟨b, rfl, hb, c2⟩
      have c3 : DD τ0 τ2 (rN π seed (k + 1)) := by rw [rN_s, hρ]; exact c2
      rw [nI_1]
      refine ⟨_, rfl, br_b (fun q => ?_) (fun q => br_b (fun q2 => ?_) (fun q2 => ?_))⟩
      · refine key τ2 false _ _ _ _ ⟨fun e => (by cases e), fun e => ?_⟩ c3
        have := hh.mpr (gP_s.mp e).1
        rw [q] at this; exact this
      · refine key τ2 false _ _ _ _ ⟨fun e => (by cases e), fun e => ?_⟩ c3
        have e := (gP_s.mp e).2
        rw [hρ] at e
        have := hb.mpr e
        rw [q2] at this; exact this
      · refine key τ2 true _ _ _ _ ⟨fun e => gP_s.mpr ⟨hh.mp q, by rw [hρ]; exact hb.mp q2⟩, fun e => rfl⟩ c3
    refine r_M_run_67 ⟨fun q => absurd q (nI_ge (by omega) (by omega)), fun _ => ?_⟩
    rw [← zS_s]
    intro v13 hv13
    rw [hv13, c.2.1.2.1, e1, cl_nI (n := ρ.fr - 1) (by omega), (c.2.2.2.2.2.2.1 (ρ.fr - 1) (by omega)).1, t1]
    refine ⟨vp_in_nI (by omega) (by decide), ?_⟩
    rintro _ rfl
    refine (d_many hp (toM ρ)).i ⟨by rw [nI_1]; exact nI_ne0 (by omega) (by omega), ?_⟩
    intro v18 hv18
    have hv18 : v18 = tD π (zS' seed (k + 1)) ρ := hv18
    obtain ⟨t, ht, et⟩ := tD_eq (π := π) (ρ := ρ) (zS' seed (k + 1)) (by omega)
    rw [hv18]
    refine ⟨fun q => (d_leave w c).mono ?_, fun q => ?_⟩
    · rintro r τ1 ⟨rfl, c1⟩
      exact ⟨rfl, back τ1 _ _ _ _ (by unfold preF; rw [if_pos q]; exact c1)⟩
    · have htl : t < cnt π (toM ρ) := by
        rcases Nat.lt_or_ge t (cnt π (toM ρ)) with a | a
        · exact a
        · exact absurd (by rw [et]; exact nI_le a (by omega)) q
      have ep : preF π (zS' seed (k + 1)) ρ = actF π ρ (sth π (toM ρ) t) := by unfold preF; rw [if_neg q, et, cl_nI (by omega)]
      rw [et]
      refine (d_statementOf hp htl).i ((d_act hB w c (sts_lt htl).1).mono ?_)
      rintro r τ1 ⟨rfl, c1⟩
      exact ⟨rfl, back τ1 _ _ _ _ (by rw [ep]; exact c1)⟩
theorem DD_0 (τ0 : mS) : DD τ0 (oF (m_fl (rF τ0) 53 0 4 (-1)) 0 0 0 0) r0 := by
  have t25 := rF_25 (σ := τ0)
  have t0 := rF_0 τ0
  unfold oF
  refine ⟨⟨fun k a b => ?_, fun k a => ?_, fun j a b d => ?_⟩, ⟨⟨?_, ?_, ?_⟩, fun o ho => ?_, fun o ho => ?_, fun s hs => ?_, fun j hj => ?_, fun k hk => ?_, fun k hk => ?_⟩⟩
  · rw [m_up_ne b, m_fl_o (by omega), m_up_ne (by omega), m_up_ne (by omega), m_up_ne (by omega), m_fl_o (by omega), rF_o (by omega) b]
  · rw [m_up_ne (by omega), m_fl_o (by omega), m_up_ne (by omega), m_up_ne (by omega), m_up_ne (by omega), m_fl_o (by omega), rF_o (by omega) (by omega)]
  · rw [m_up_s, upd_o b, m_fl_o (by omega), m_up_ne (by omega), m_up_ne (by omega), m_up_ne (by omega), m_fl_o (by omega), t25, upd_o d, upd_o b, upd_o a]
  · rw [m_up_s, upd_o (by decide), m_fl_o (by decide), m_up_ne (by decide), m_up_ne (by decide), m_up_ne (by decide), m_fl_o (by decide), t0.1]; exact nI_0.symm
  · rw [m_up_s, upd_s]; rfl
  · rw [m_up_s, upd_o (by decide), m_fl_o (by decide), m_up_ne (by decide), m_up_ne (by decide), m_up_ne (by decide), m_fl_o (by decide), t0.2.2.1]; rfl
  · have ho : o < 0 := ho
    omega
  · have ho : o < 0 := ho
    omega
  · rw [m_up_ne (by decide), m_fl_o (by decide), m_up_ne (by decide), m_up_ne (by decide), m_up_ne (by decide), m_fl_s]
    show (if 0 ≤ s ∧ s < 4 then (-1 : Int32) else _) = -1
    rw [if_pos ⟨Nat.zero_le _, hs⟩]
  · have hj : j < 6 := hj
    rw [m_up_ne (by decide), m_fl_s]
    show (if 6 * 0 ≤ j ∧ j < 6 * 0 + 6 then (-1 : Int32) else _) = -1
    rw [if_pos (by omega)]
  · have hk : k < 1 := hk
    have : k = 0 := by omega
    subst this
    refine ⟨?_, ?_, ?_⟩
    · rw [m_up_ne (by decide), m_fl_o (by decide), m_up_ne (by decide), m_up_ne (by decide), m_up_s, upd_s]; rfl
    · rw [m_up_ne (by decide), m_fl_o (by decide), m_up_ne (by decide), m_up_s, upd_s]; rfl
    · rw [m_up_ne (by decide), m_fl_o (by decide), m_up_s, upd_s]; rfl
  · rw [m_up_ne (by decide), m_fl_o (by decide), m_up_ne (by decide), m_up_ne (by decide), m_up_ne (by decide), m_fl_o (by decide), t0.2.2.2 k hk]; rfl
theorem l_run34 (hB : BM π N τ0) (hM : 0 < nM π) (seed : Int32) {n : Nat} (hn : n ≤ 300) (Q : Option mV → mS → Prop) (hQ : ∀ τ (h : Bool), (h = true ↔ gP π N seed n) → DD τ0 τ (rN π seed n) → Q (some (.inl (bI h))) τ) :
    ∀ d s, 4 - s = d → s ≤ 4 → ∀ u4 u5 u6 u7 u8 u9, J M_M_run Q 34 [some (.inr (25, 0)), some (.inl seed), some (.inl (nI n)), some (.inl (nI s)), u4, u5, u6, u7, u8, u9] [] (m_fl (rF τ0) 53 0 s (-1)) := by
  intro d
  induction d with
  | zero =>
    intro s h1 h2 u4 u5 u6 u7 u8 u9
    have : s = 4 := by omega
    subst this
    refine r_M_run_34 ⟨fun _ => ?_, fun q => absurd (nI_le (Nat.le_refl _) (by decide)) q⟩
    have e2 : m_fl (rF τ0) 53 0 4 (-1) 25 37 = nI 0 := by rw [m_fl_o (by decide), (rF_0 τ0).2.1]; exact nI_0.symm
    refine (d_open e2 (by decide) 0 0 0).v ?_
    have := l_run hB hM seed hn Q hQ (some (.inl seed)) n 0 rfl (Nat.zero_le _) _ true u6 u7 u8 u9 ⟨fun _ j hj => by omega, fun _ => rfl⟩ (by rw [rN_0]; exact DD_0 τ0)
    rw [zS_0, nI_0] at this
    exact this
  | succ d ih =>
    intro s h1 h2 u4 u5 u6 u7 u8 u9
    refine r_M_run_34 ⟨fun q => absurd q (nI_ge (by omega) (by decide)), fun _ => ⟨vp_in_nI (by omega) (by decide), ?_⟩⟩
    rw [cl_nI (by omega), m_fl_up _ _ _ _ _ (Nat.zero_le _), nI_1]
    exact ih (s + 1) (by omega) (by omega) _ _ _ _ _ _
def okRu (π : mS) (x2 : Int32) : Prop := (¬ x2 < 0 ∧ x2 ≤ nI 300) ∧ ¬ π 25 4 = 0
def baRu (x2 : Int32) : Int32 := if ¬ x2 < 0 ∧ x2 ≤ nI 300 then -nI 3 else -nI 2
def rC (π : mS) (N : Nat) (x1 x2 : Int32) (σ : mS) : Option mV → mS → Prop := fun r τ => (okRu π x2 ∧ ∃ h : Bool, (h = true ↔ gP π N x1 x2.toNatClampNeg) ∧ r = some (.inl (bI h)) ∧ RC π τ ∧ τ 2 7 = 1 ∧ Rc τ (rN π x1 x2.toNatClampNeg) ∧ mod τ σ) ∨ (¬ okRu π x2 ∧ r = some (.inl (baRu x2)) ∧ τ = σ)
def rM (π : mS) (N : Nat) (x1 x2 : Int32) (σ : mS) : Option mV → mS → Prop := fun r τ => (okRu π x2 ∧ ∃ h : Bool, (h = true ↔ gP π N x1 x2.toNatClampNeg) ∧ r = some (.inl (bI h)) ∧ RMm π τ ∧ τ 25 19 = 1 ∧ Rm τ (rN π x1 x2.toNatClampNeg) ∧ cls9 τ σ) ∨ (¬ okRu π x2 ∧ r = some (.inl (baRu x2)) ∧ τ = σ)
theorem ru_n {x2 : Int32} (h : ¬ x2 < 0 ∧ x2 ≤ nI 300) : ∃ n, n ≤ 300 ∧ x2 = nI n := by
  obtain ⟨j, hj, rfl⟩ := nI_of h.1
  refine ⟨j, ?_, rfl⟩
  rcases Nat.lt_or_ge 300 j with a | a
  · exact absurd h.2 (nI_ge a hj)
  · exact a
theorem ru_M (hw : WM π) (h : ¬ π 25 4 = 0) : 0 < nM π := by
  rcases Nat.eq_zero_or_pos (nM π) with q | q
  · exact absurd (by rw [hw.nM10.1, q]; exact nI_0) h
  · exact q
theorem c_run (h : RC π σ) (hL : isLast π N) (x1 x2 : Int32) : MU M_O_run [.inr (0, 0), .inl x1, .inl x2] σ (rC π N x1 x2 σ) := by
  have hw := h.1.1
  refine MU_of rfl rfl rfl (r_O_run_0 ?_)
  rw [h.1.2.1.2.2.1]
  refine ⟨fun q => Or.inr ⟨fun k => k.1.1 q, by unfold baRu; rw [if_neg (fun k => k.1 q)], rfl⟩, fun q => ⟨fun q2 => ⟨fun q3 => c_set h hL (fun τ hs => ?_), fun q3 => Or.inr ⟨fun k => k.2 q3, by unfold baRu; rw [if_pos ⟨q, q2⟩], rfl⟩⟩, fun q2 => Or.inr ⟨fun k => q2 k.1.2, by unfold baRu; rw [if_neg (fun k => q2 k.2)], rfl⟩⟩⟩
  have ok : okRu π x2 := ⟨⟨q, q2⟩, q3⟩
  obtain ⟨n, hn, rfl⟩ := ru_n ⟨q, q2⟩
  have cn : (nI n).toNatClampNeg = n := cl_nI (by omega)
  refine (c_holdsFor (π := π) (N := N) ⟨hs.1.1, hs.2.2.2.2.1⟩ (ru_M hw q3) x1 hn).mono ?_
  rintro r τ' ⟨b, rfl, hb, c⟩
  have hR := c.1.rc hs.1.1
  have fin : rC π N x1 (nI n) σ (some (.inl (bI b))) τ' := by
    refine Or.inl ⟨ok, b, by rw [cn]; exact hb, rfl, ⟨hR, ?_⟩, ?_, by rw [cn]; exact c.2.1, fun k a b => ?_⟩
    · have := hs.1.2
      unfold RCs ZC setOK at *
      rw [c.1 2 (by decide) (by omega), c.1 13 (by decide) (by omega), c.1 14 (by decide) (by omega), c.1 15 (by decide) (by omega)]
      exact this
    · rw [c.1 2 (by decide) (by omega)]; exact hs.2.1
    · rw [c.1 k (by omega) (by omega)]; exact hs.2.2.1.1 k (by omega) (by omega) (by omega) (by omega)
  refine ⟨_, rfl, br_b (fun e => ?_) (fun e => ?_)⟩
  · rw [e] at fin; exact fin
  · rw [e] at fin; exact fin
theorem d_run (h : RMm π σ) (hL : isLast π N) (x1 x2 : Int32) : MU M_M_run [.inr (25, 0), .inl x1, .inl x2] σ (rM π N x1 x2 σ) := by
  have hw := h.1.1
  refine MU_of rfl rfl rfl (r_M_run_0 ?_)
  rw [h.1.2.2 4 (by decide)]
  refine ⟨fun q => Or.inr ⟨fun k => k.1.1 q, by unfold baRu; rw [if_neg (fun k => k.1 q)], rfl⟩, fun q => ⟨fun q2 => ⟨fun q3 => d_set h hL (fun τ hs => (d_forgetRun τ).v ?_), fun q3 => Or.inr ⟨fun k => k.2 q3, by unfold baRu; rw [if_pos ⟨q, q2⟩], rfl⟩⟩, fun q2 => Or.inr ⟨fun k => q2 k.1.2, by unfold baRu; rw [if_neg (fun k => q2 k.2)], rfl⟩⟩⟩
  have ok : okRu π x2 := ⟨⟨q, q2⟩, q3⟩
  obtain ⟨n, hn, rfl⟩ := ru_n ⟨q, q2⟩
  have cn : (nI n).toNatClampNeg = n := cl_nI (by omega)
  have := l_run34 (π := π) (N := N) (τ0 := τ) ⟨hs.1.1, hs.2.2.2.1⟩ (ru_M hw q3) x1 hn (rM π N x1 (nI n) σ) (fun τ' b hb c => ?_) 4 0 rfl (by decide) none none none none none none
  · rw [m_fl_0, nI_0] at this
    exact this
  · refine Or.inl ⟨ok, b, by rw [cn]; exact hb, rfl, ⟨c.1.pm hs.1.1, ?_⟩, ?_, by rw [cn]; exact c.2, fun k a => ?_⟩
    · have := hs.1.2
      unfold RMs ZM mSets kNow at *
      rw [c.1.2.2 19 (by decide) (by decide) (by decide), c.1.2.2 31 (by decide) (by decide) (by decide), c.1.1 39 (by decide) (by decide), c.1.1 40 (by decide) (by decide), c.1.1 41 (by decide) (by decide), c.1.1 42 (by decide) (by decide), c.1.1 43 (by decide) (by decide), c.1.1 44 (by decide) (by decide), c.1.1 45 (by decide) (by decide), c.1.1 46 (by decide) (by decide), c.1.1 47 (by decide) (by decide), c.1.1 48 (by decide) (by decide), c.1.1 49 (by decide) (by decide)]
      exact this
    · rw [c.1.2.2 19 (by decide) (by decide) (by decide)]; exact hs.2.1.2.2
    · rcases a with a | a
      · rw [c.1.1 k (by omega) (by omega)]; exact hs.2.1.1 k (by omega)
      · rw [c.1.2.1 k (by omega)]; exact hs.2.1.1 k (by omega)
def anMe (σ : mS) (π : mS) (x1 x2 : Int32) : Int32 := if (rg x1 (π 25 4) && rg x2 (nI 6)) = true then σ 23 (6 * x1.toNatClampNeg + x2.toNatClampNeg) else -1
theorem c_met (h : RC π σ) (x1 x2 : Int32) : MR M_O_met [.inr (0, 0), .inl x1, .inl x2] σ (some (.inl (anMe σ π x1 x2))) σ := by
  have hw := h.1.1
  have aM := hw.nM10.2
  refine MU_of rfl rfl rfl (r_O_met_0 ((c_hasName σ x1 x2).i ?_))
  rw [h.1.2.1.2.2.1]
  unfold anMe
  refine br_b' (fun q => ⟨by rw [if_neg (by rw [q]; decide)], rfl⟩) (fun q => ?_)
  rw [if_pos q]
  rw [Bool.and_eq_true] at q
  obtain ⟨m, hm, rfl⟩ := rg_M hw q.1
  obtain ⟨n, hn, rfl⟩ := rg_n q.2
  rw [pk_mul, nI_add, show m * 6 + n = 6 * m + n by omega, cl_nI (n := 6 * m + n) (by omega), cl_nI (n := m) (by omega), cl_nI (n := n) (by omega)]
  exact ⟨vp_in_nI (by omega) (by decide), rfl, rfl⟩
theorem d_met (h : RMm π σ) (ht : RTt σ) (x1 x2 : Int32) : MR M_M_met [.inr (25, 0), .inl x1, .inl x2] σ (some (.inl (anMe σ π x1 x2))) σ := by
  have hw := h.1.1
  have aM := hw.nM10.2
  refine MU_of rfl rfl rfl (r_M_met_0 ((d_isMethod σ x1).i ?_))
  rw [h.1.2.2 4 (by decide)]
  unfold anMe
  refine br_b (fun q => ⟨by rw [q, Bool.false_and, if_neg (by decide)], rfl⟩) (fun q => (d_isName σ x2).i (br_b (fun q2 => ⟨by rw [q, q2, if_neg (by decide)], rfl⟩) (fun q2 => ?_)))
  rw [if_pos (by rw [q, q2]; rfl)]
  obtain ⟨m, hm, rfl⟩ := rg_M hw q
  obtain ⟨n, hn, rfl⟩ := rg_n q2
  rw [pk_mul, nI_add, cl_nI (n := 6 * m + n) (by omega), cl_nI (n := m) (by omega), cl_nI (n := n) (by omega), ht.2.2.2 (6 * m + n) (by omega)]
  exact ⟨vp_in_nI (by omega) (by decide), rfl, rfl⟩
def anRa (σ : mS) (x1 : Int32) : Int32 := if x1 = 0 then σ 3 11 else if x1 = 1 then σ 3 12 else if x1 = nI 2 then σ 3 13 else -nI 2
theorem c_ran (σ : mS) (x1 : Int32) : MR M_O_ran [.inr (0, 0), .inl x1] σ (some (.inl (anRa σ x1))) σ := by
  refine MU_of rfl rfl rfl (r_O_ran_0 ⟨fun e => ?_, fun e => ?_, fun e => ?_, fun e0 e1 e2 => ?_⟩)
  · unfold anRa; rw [if_pos e]; exact ⟨rfl, rfl⟩
  · unfold anRa; rw [if_neg (by rw [e]; decide), if_pos e]; exact ⟨rfl, rfl⟩
  · unfold anRa; rw [if_neg (by rw [e]; decide), if_neg (by rw [e]; decide), if_pos e]; exact ⟨rfl, rfl⟩
  · unfold anRa; rw [if_neg e0, if_neg e1, if_neg e2]; exact ⟨rfl, rfl⟩
theorem d_ran (ht : RTt σ) (x1 : Int32) : MR M_M_ran [.inr (25, 0), .inl x1] σ (some (.inl (anRa σ x1))) σ := by
  unfold anRa
  rw [ht.1, ht.2.1, ht.2.2.1]
  refine MU_of rfl rfl rfl (r_M_ran_0 ⟨fun e0 => ⟨fun e1 => ⟨fun e2 => ?_, fun e2 => ?_⟩, fun e1 => ?_⟩, fun e0 => ?_⟩)
  · rw [if_neg e0, if_neg e1, if_neg e2]; exact ⟨rfl, rfl⟩
  · rw [if_neg e0, if_neg e1, if_pos e2]; exact ⟨rfl, rfl⟩
  · rw [if_neg e0, if_pos e1]; exact ⟨rfl, rfl⟩
  · rw [if_pos e0]; exact ⟨rfl, rfl⟩
end
