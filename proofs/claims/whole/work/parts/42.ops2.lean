/-! CALLS THAT CHANGE THE PROGRAM: field, cls -/
theorem gN_s {π : mS} {k j : Nat} {x : Int32} : gN (m_up π k j x) k j = x.toNatClampNeg := by unfold gN; rw [m_up_s, upd_s]
theorem gN_j {π : mS} {k j i : Nat} {x : Int32} (h : i ≠ j) : gN (m_up π k j x) k i = gN π k i := by unfold gN; rw [m_up_s, upd_o h]
theorem gN_k {π : mS} {k j k' i : Nat} {x : Int32} (h : k' ≠ k) : gN (m_up π k j x) k' i = gN π k' i := by unfold gN; rw [m_up_ne h]
/-- field -/
def fiN (π : mS) (x : Int32) : mS := m_up (m_up π 27 (nF π) x) 25 2 (nI (nF π + 1))
theorem fi_k {π : mS} {x : Int32} {k : Nat} (h1 : k ≠ 25) (h2 : k ≠ 27) : fiN π x k = π k := by unfold fiN; rw [m_up_ne h1, m_up_ne h2]
theorem fi_27 {π : mS} {x : Int32} : fiN π x 27 = upd (π 27) (nF π) x := by unfold fiN; rw [m_up_ne (by decide), m_up_s]
theorem fi_25 {π : mS} {x : Int32} : fiN π x 25 = upd (π 25) 2 (nI (nF π + 1)) := by unfold fiN; rw [m_up_s, m_up_ne (by decide)]
theorem fi_g {π : mS} {x : Int32} {j : Nat} (h : j ≠ 2) : gN (fiN π x) 25 j = gN π 25 j := by unfold gN; rw [fi_25, upd_o h]
theorem fi_n {π : mS} {x : Int32} (h : nF π < 8) : nF (fiN π x) = nF π + 1 := by
  show (fiN π x 25 2).toNatClampNeg = _
  rw [fi_25, upd_s, cl_nI (by omega)]
theorem fi_gk {π : mS} {x : Int32} {k j : Nat} (h1 : k ≠ 25) (h2 : k ≠ 27) : gN (fiN π x) k j = gN π k j := by unfold gN; rw [fi_k h1 h2]
theorem fi_wm {π : mS} (h : WM π) {x : Int32} (hx : IN x (nC π)) (hn : nF π < 8) : WM (fiN π x) := by
  obtain ⟨h1, h2, h3⟩ := h
  have eC : nC (fiN π x) = nC π := fi_g (by decide)
  have eM : nM (fiN π x) = nM π := fi_g (by decide)
  have eT : nT (fiN π x) = nT π := fi_g (by decide)
  have eS : nS (fiN π x) = nS π := fi_g (by decide)
  refine ⟨?_, ?_, ?_⟩
  · unfold WM1 at *
    rw [fi_25, upd_o (by decide), upd_s, upd_o (by decide), upd_o (by decide), upd_o (by decide), upd_o (by decide)]
    exact ⟨h1.1, ⟨nF π + 1, by omega, rfl⟩, h1.2.2⟩
  · unfold WM2
    rw [eC, eM, eT, fi_n hn, fi_k (k := 26) (by decide) (by decide), fi_k (k := 28) (by decide) (by decide), fi_k (k := 29) (by decide) (by decide), fi_k (k := 38) (by decide) (by decide), fi_27]
    refine ⟨h2.1, fun f hf => ?_, h2.2.2.1, h2.2.2.2⟩
    by_cases e : f = nF π
    · subst e; rw [upd_s]; exact hx
    · rw [upd_o e]; exact h2.2.1 f (by omega)
  · unfold WM3
    rw [eS, eM, fi_k (by decide) (by decide), fi_k (by decide) (by decide)]
    exact fun i hi => ⟨(h3 i hi).1, (h3 i hi).2.1, opOK_c (fi_k (by decide) (by decide)) (fi_k (by decide) (by decide)) (fi_k (by decide) (by decide)) (fi_k (by decide) (by decide)) (fi_k (by decide) (by decide)) (fi_k (by decide) (by decide)) (fi_k (by decide) (by decide)) (Nat.le_of_eq eC.symm) (by rw [fi_n hn]; omega) (Nat.le_of_eq eT.symm) (h3 i hi).2.2⟩
theorem c_addField {σ : mS} {n : Nat} (h : σ 1 1 = nI n) (hn : n < 8) (x : Int32) : MR M_P_addField [.inr (1, 0), .inl x] σ (some (.inl (nI n))) (m_up (m_up σ 1 1 (nI (n + 1))) 9 n x) := by
  refine MU_of rfl rfl rfl (r_P_addField_0 ?_)
  rw [h, nI_1]
  rintro _ rfl
  rw [cl_nI (by omega)]
  exact ⟨vp_in_nI hn (by decide), rfl, rfl⟩
theorem fi_rc {π σ : mS} (h : RCp π σ) {x : Int32} (hx : IN x (nC π)) (hn : nF π < 8) : RCp (fiN π x) (m_up (m_up σ 1 1 (nI (nF π + 1))) 9 (nF π) x) := by
  obtain ⟨hw, h1, h2, h3⟩ := h
  generalize hτ : m_up (m_up σ 1 1 (nI (nF π + 1))) 9 (nF π) x = τ
  have t1 : τ 1 = upd (σ 1) 1 (nI (nF π + 1)) := by rw [← hτ, m_up_ne (by decide), m_up_s]
  have t9 : τ 9 = upd (σ 9) (nF π) x := by rw [← hτ, m_up_s, m_up_ne (by decide)]
  have to : ∀ k, k ≠ 1 → k ≠ 9 → τ k = σ k := fun k a b => by rw [← hτ, m_up_ne b, m_up_ne a]
  have eC : nC (fiN π x) = nC π := fi_g (by decide)
  have eM : nM (fiN π x) = nM π := fi_g (by decide)
  have eT : nT (fiN π x) = nT π := fi_g (by decide)
  have eS : nS (fiN π x) = nS π := fi_g (by decide)
  refine ⟨fi_wm hw hx hn, ?_, ?_, ?_⟩
  · unfold RC1 at *
    rw [t1, to 2 (by decide) (by decide), fi_25, upd_o (by decide), upd_o (by decide), upd_s, upd_s, upd_o (by decide), upd_o (by decide), upd_o (by decide), upd_o (by decide), upd_o (by decide), upd_o (by decide), upd_o (by decide)]
    exact ⟨h1.1, rfl, h1.2.2⟩
  · unfold RC2
    rw [eC, eT, fi_n hn, fi_k (k := 26) (by decide) (by decide), fi_k (k := 38) (by decide) (by decide), to 4 (by decide) (by decide), to 5 (by decide) (by decide), to 6 (by decide) (by decide), to 7 (by decide) (by decide), to 8 (by decide) (by decide), to 10 (by decide) (by decide), t9, fi_27]
    refine ⟨h2.1, fun c hc a => ?_, fun c hc o => ?_, fun c hc s hs => ?_, fun f hf => ?_, h2.2.2.2.2.2⟩
    · rw [und_c (fi_k (by decide) (by decide))]; exact h2.2.1 c hc a
    · rw [und_c (fi_k (by decide) (by decide)), show sc (fiN π x) o = sc π o from fi_gk (by decide) (by decide)]; exact h2.2.2.1 c hc o
    · rw [mW_c (fi_k (by decide) (by decide)) (fi_k (by decide) (by decide)) eM, fnd_c (fi_k (by decide) (by decide)) (fi_k (by decide) (by decide)) eM (fi_k (by decide) (by decide))]
      exact h2.2.2.2.1 c hc s hs
    · by_cases e : f = nF π
      · subst e; rw [upd_s, upd_s]
      · rw [upd_o e, upd_o e]; exact h2.2.2.2.2.1 f (by omega)
  · unfold RC3 cnt sth
    rw [eM, eS, to 11 (by decide) (by decide), to 12 (by decide) (by decide)]
    refine ⟨fun m hm => ?_, fun m hm t ht => ?_, fun i hi => ?_⟩
    · rw [sts_c (fi_k (by decide) (by decide)) eS]; exact h3.1 m hm
    · rw [sts_c (fi_k (by decide) (by decide)) eS] at ht ⊢; exact h3.2.1 m hm t ht
    · rw [to (59 + i) (by omega) (by omega), fi_k (by decide) (by decide), fi_k (by decide) (by decide), fi_k (by decide) (by decide), fi_k (by decide) (by decide), fi_k (by decide) (by decide), fi_k (by decide) (by decide), fi_k (by decide) (by decide), fi_k (by decide) (by decide)]
      exact h3.2.2 i hi
/-- the class's end of a change: program cells beside the forgotten answers -/
theorem pC_of {π' σ τ : mS} (hR : RCp π' τ) (hk : ∀ k, k = 2 ∨ k = 3 ∨ k = 13 ∨ k = 14 ∨ k = 15 ∨ k = 23 ∨ (25 ≤ k ∧ k ≤ 58) → τ k = fA σ k) (hz : ZC σ) : pC π' σ τ := by
  have e7 : τ 2 7 = 0 := by rw [hk 2 (by omega), fA_2, upd_s]
  refine ⟨⟨hR, Or.inl e7, ?_⟩, e7, ?_, fun k a b => by rw [hk k (by omega), fA_o (by omega) (by omega) (by omega)]⟩
  · unfold ZC at *
    rw [hk 13 (by omega), hk 14 (by omega), hk 15 (by omega), fA_o (by decide) (by decide) (by decide), fA_o (by decide) (by decide) (by decide), fA_o (by decide) (by decide) (by decide)]
    exact hz
  · unfold tr0
    rw [hk 3 (by omega), hk 23 (by omega)]
    exact tF_0 _
def okF (π : mS) (x : Int32) : Prop := rg x (π 25 0) = true ∧ nF π < 8
def badF (π : mS) (x : Int32) : Int32 := if rg x (π 25 0) = true then -nI 4 else -1
theorem c_field {π σ : mS} (h : RC π σ) (x : Int32) : MU M_O_field [.inr (0, 0), .inl x] σ (oC (okF π x) (π 25 2) (badF π x) (fiN π x) σ) := by
  have hw := h.1.1
  have e0 : σ 1 0 = π 25 0 := h.1.2.1.1
  have e1 : σ 1 1 = π 25 2 := h.1.2.1.2.1
  have aF := hw.nF8
  refine MU_of rfl rfl rfl (r_O_field_0 ((c_hasClass σ x).i ?_))
  rw [e0, e1, aF.1]
  refine br_b' (fun q => Or.inr ⟨(fun k => by rw [k.1] at q; cases q), (by unfold badF; rw [if_neg (by rw [q]; decide)]), rfl⟩) (fun q => ⟨fun hlt => ?_, fun hge => Or.inr ⟨fun k => absurd (nI_lt k.2 (by decide)) hge, by unfold badF; rw [if_pos q], rfl⟩⟩)
  have hn : nF π < 8 := by
    rcases Nat.lt_or_ge (nF π) 8 with a | a
    · exact a
    · exact absurd hlt (nI_nlt a (by omega))
  have hx : IN x (nC π) := by rw [hw.nC8.1] at q; exact rg_n q
  obtain ⟨f1, f2, f3, f4⟩ := fA_rc h
  refine (c_forgetAnswers σ).v ((c_addField (n := nF π) (by rw [f1.1.2.1.2.1, aF.1]) hn x).i (Or.inl ⟨⟨q, hn⟩, rfl, ?_⟩))
  exact pC_of (fi_rc f1.1 hx hn) (fun k hk => by rw [m_up_ne (by omega), m_up_ne (by omega)]) h.2.2
theorem d_field {π σ : mS} (h : RMm π σ) (x : Int32) : MU M_M_field [.inr (25, 0), .inl x] σ (oM (okF π x) (π 25 2) (badF π x) (fiN π x) σ) := by
  have hw := h.1.1
  have aF := hw.nF8
  have e0 : σ 25 0 = π 25 0 := h.1.2.2 0 (by decide)
  have e2 : σ 25 2 = nI (nF π) := by rw [h.1.2.2 2 (by decide), aF.1]
  refine MU_of rfl rfl rfl (r_M_field_0 ((d_isClass σ x).i ?_))
  rw [e0, e2, cl_nI (by omega)]
  refine br_b' (fun q => Or.inr ⟨(fun k => by rw [k.1] at q; cases q), (by unfold badF; rw [if_neg (by rw [q]; decide)]), rfl⟩) (fun q => ⟨fun hne => ?_, fun he => Or.inr ⟨fun k => ?_, by unfold badF; rw [if_pos q], rfl⟩⟩)
  · have hn : nF π < 8 := by
      rcases Nat.lt_or_ge (nF π) 8 with a | a
      · exact a
      · exact absurd (by rw [show nF π = 8 by omega]) hne
    have hx : IN x (nC π) := by rw [hw.nC8.1] at q; exact rg_n q
    refine ⟨vp_in_nI hn (by decide), ?_⟩
    rintro _ rfl
    rw [m_up_ne (show 25 ≠ 27 by decide), e2, nI_1]
    refine (d_change _).v (Or.inl ⟨⟨q, hn⟩, ?_, ?_⟩)
    · rw [cH_j (by decide) (by decide) (by decide) (by decide), m_up_s, upd_s, aF.1, nI_pred]
    · refine pM_of (fi_wm hw hx hn) (fun k a b => ?_) (fun j hj => ?_) (ZM_25 h.2.2 (fun k a b => by rw [m_up_ne (by omega), m_up_ne (by omega)])) (fun k hk => by rw [m_up_ne (by omega), m_up_ne (by omega)])
      · rw [m_up_ne (by omega)]
        by_cases e : k = 27
        · subst e; rw [m_up_s, fi_27, h.1.2.1 27 (by decide) (by decide)]
        · rw [m_up_ne e, fi_k (by omega) e]; exact h.1.2.1 k a b
      · rw [m_up_s, m_up_ne (by decide), fi_25]
        by_cases e : j = 2
        · subst e; rw [upd_s, upd_s]
        · rw [upd_o e, upd_o e]; exact h.1.2.2 j hj
  · have := nI_inj (by omega) (by decide) he
    have := k.2
    omega
/-- cls -/
def csN (π : mS) (x : Int32) : mS := m_up (m_up π 26 (nC π) x) 25 0 (nI (nC π + 1))
theorem cs_k {π : mS} {x : Int32} {k : Nat} (h1 : k ≠ 25) (h2 : k ≠ 26) : csN π x k = π k := by unfold csN; rw [m_up_ne h1, m_up_ne h2]
theorem cs_26 {π : mS} {x : Int32} : csN π x 26 = upd (π 26) (nC π) x := by unfold csN; rw [m_up_ne (by decide), m_up_s]
theorem cs_25 {π : mS} {x : Int32} : csN π x 25 = upd (π 25) 0 (nI (nC π + 1)) := by unfold csN; rw [m_up_s, m_up_ne (by decide)]
theorem cs_g {π : mS} {x : Int32} {j : Nat} (h : j ≠ 0) : gN (csN π x) 25 j = gN π 25 j := by unfold gN; rw [cs_25, upd_o h]
theorem cs_n {π : mS} {x : Int32} (h : nC π < 8) : nC (csN π x) = nC π + 1 := by
  show (csN π x 25 0).toNatClampNeg = _
  rw [cs_25, upd_s, cl_nI (by omega)]
theorem cs_gk {π : mS} {x : Int32} {k j : Nat} (h1 : k ≠ 25) (h2 : k ≠ 26) : gN (csN π x) k j = gN π k j := by unfold gN; rw [cs_k h1 h2]
theorem cs_wm {π : mS} (h : WM π) {x : Int32} (hx : x = -1 ∨ IN x (nC π)) (hn : nC π < 8) : WM (csN π x) := by
  obtain ⟨h1, h2, h3⟩ := h
  have eF : nF (csN π x) = nF π := cs_g (by decide)
  have eM : nM (csN π x) = nM π := cs_g (by decide)
  have eT : nT (csN π x) = nT π := cs_g (by decide)
  have eS : nS (csN π x) = nS π := cs_g (by decide)
  refine ⟨?_, ?_, ?_⟩
  · unfold WM1 at *
    rw [cs_25, upd_s, upd_o (by decide), upd_o (by decide), upd_o (by decide), upd_o (by decide), upd_o (by decide)]
    exact ⟨⟨nC π + 1, by omega, rfl⟩, h1.2⟩
  · unfold WM2
    rw [eF, eM, eT, cs_n hn, cs_k (k := 27) (by decide) (by decide), cs_k (k := 28) (by decide) (by decide), cs_k (k := 29) (by decide) (by decide), cs_k (k := 38) (by decide) (by decide), cs_26]
    refine ⟨fun c hc => ?_, fun f hf => (h2.2.1 f hf).mono (by omega), fun m hm => ⟨(h2.2.2.1 m hm).1.mono (by omega), (h2.2.2.1 m hm).2⟩, fun o ho => (h2.2.2.2 o ho).mono (by omega)⟩
    by_cases e : c = nC π
    · subst e; rw [upd_s]; exact hx
    · rw [upd_o e]; exact h2.1 c (by omega)
  · unfold WM3
    rw [eS, eM, cs_k (by decide) (by decide), cs_k (by decide) (by decide)]
    exact fun i hi => ⟨(h3 i hi).1, (h3 i hi).2.1, opOK_c (cs_k (by decide) (by decide)) (cs_k (by decide) (by decide)) (cs_k (by decide) (by decide)) (cs_k (by decide) (by decide)) (cs_k (by decide) (by decide)) (cs_k (by decide) (by decide)) (cs_k (by decide) (by decide)) (by rw [cs_n hn]; omega) (Nat.le_of_eq eF.symm) (Nat.le_of_eq eT.symm) (h3 i hi).2.2⟩
/-- und, found of the earlier classes stay -/
theorem cs_und {π : mS} (h : WM π) {x : Int32} (hx : x = -1 ∨ IN x (nC π)) (hn : nC π < 8) (a : Nat) : ∀ c, c < nC π → und (csN π x) c a = und π c a := by
  have hw' := cs_wm h hx hn
  intro c
  induction c using Nat.strongRecOn with
  | ind c ih =>
    intro hc
    have e : csN π x 26 c = π 26 c := by rw [cs_26, upd_o (by omega)]
    rw [und_eq hw' (by rw [cs_n hn]; omega), und_eq h hc, e, show gN (csN π x) 26 c = gN π 26 c by unfold gN; rw [e]]
    rcases h.par hc with q | ⟨-, q⟩
    · rw [q]; simp
    · rw [ih _ q (by omega)]
theorem cs_mW {π : mS} {x : Int32} (c s : Nat) : mW (csN π x) c s = mW π c s := mW_c (cs_k (by decide) (by decide)) (cs_k (by decide) (by decide)) (cs_g (by decide)) c s
theorem cs_fnd {π : mS} (h : WM π) {x : Int32} (hx : x = -1 ∨ IN x (nC π)) (hn : nC π < 8) (s : Nat) : ∀ c, c < nC π → fnd (csN π x) c s = fnd π c s := by
  have hw' := cs_wm h hx hn
  intro c
  induction c using Nat.strongRecOn with
  | ind c ih =>
    intro hc
    have e : csN π x 26 c = π 26 c := by rw [cs_26, upd_o (by omega)]
    rw [fnd_eq hw' (by rw [cs_n hn]; omega), fnd_eq h hc, e, cs_mW, show gN (csN π x) 26 c = gN π 26 c by unfold gN; rw [e]]
    rcases h.par hc with q | ⟨-, q⟩
    · rw [if_pos q, if_pos q]
    · rw [ih _ q (by omega)]
theorem mW_none {π : mS} (h : WM π) {c s : Nat} (hc : nC π ≤ c) (hc2 : c < 2 ^ 30) : mW π c s = -1 := by
  have a8 := h.nC8.2
  have e : (List.range (nM π)).find? (mwP π c s) = none := List.find?_range_eq_none.mpr (fun m hm => by
    have h1 := (h.2.1.2.2.1 m hm).1.g (by omega)
    have : ¬ π 28 m = nI c := fun q => by
      rw [h1.1] at q
      have := nI_inj (by omega) (by omega) q
      omega
    unfold mwP
    rw [decide_eq_false this]
    rfl)
  unfold mW
  rw [e]
/-- findMethod -/
def fmV (σ : mS) (c s : Nat) : Int32 := if σ 7 (4 * c + s) = -1 then (if σ 4 c = -1 then -1 else σ 8 (4 * gN σ 4 c + s)) else σ 7 (4 * c + s)
theorem c_findMethod {σ : mS} {c s : Nat} (hc : c < 8) (hs : s < 4) (hp : σ 4 c = -1 ∨ IN (σ 4 c) 8) : MR M_P_findMethod [.inr (1, 0), .inl (nI c), .inl (nI s)] σ none (m_up σ 8 (4 * c + s) (fmV σ c s)) := by
  refine MU_of rfl rfl rfl (r_P_findMethod_0 ?_)
  have e : nI c * nI 4 + nI s = nI (4 * c + s) := by rw [pk_mul, nI_add]; congr 1; omega
  have vx := vp_in_nI (n := 4 * c + s) (N := 32) (by omega) (by decide)
  have vc := vp_in_nI (n := c) (N := 8) hc (by decide)
  rw [e, cl_nI (by omega), cl_nI (by omega)]
  refine ⟨vx, ?_⟩
  rintro _ rfl
  unfold fmV
  refine ⟨fun q => ⟨vx, by rw [if_neg q]; exact ⟨rfl, rfl⟩⟩, fun q => ⟨vc, fun q2 => ⟨vx, by rw [if_pos q, if_pos q2, q]; exact ⟨rfl, rfl⟩⟩, fun q2 => ?_⟩⟩
  obtain ⟨h1, h2⟩ := (hp.resolve_left q2).g (by decide)
  have e2 : σ 4 c * nI 4 + nI s = nI (4 * gN σ 4 c + s) := by rw [h1, pk_mul, nI_add]; congr 1; omega
  rw [e2, cl_nI (by omega), if_pos q, if_neg q2]
  exact ⟨vc, vp_in_nI (by omega) (by decide), vx, rfl, rfl⟩
