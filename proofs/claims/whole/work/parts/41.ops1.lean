/-! CALLS THAT CHANGE THE PROGRAM: mode, clear, field -/
theorem undF_c {π π' : mS} (h : π' 26 = π 26) (a : Nat) : ∀ f c, undF π' f c a = undF π f c a := by
  intro f
  induction f with
  | zero => intro c; rfl
  | succ f ih =>
    intro c
    show (decide (c = a) || (!decide (π' 26 c = -1) && undF π' f (gN π' 26 c) a)) = (decide (c = a) || (!decide (π 26 c = -1) && undF π f (gN π 26 c) a))
    rw [ih]
    unfold gN
    rw [h]
theorem und_c {π π' : mS} (h : π' 26 = π 26) (c a : Nat) : und π' c a = und π c a := undF_c h a c c
theorem mW_c {π π' : mS} (h1 : π' 28 = π 28) (h2 : π' 29 = π 29) (h3 : nM π' = nM π) (c s : Nat) : mW π' c s = mW π c s := by
  have e : mwP π' c s = mwP π c s := by funext m; unfold mwP; rw [h1, h2]
  unfold mW
  rw [h3, e]
theorem fndF_c {π π' : mS} (h1 : π' 28 = π 28) (h2 : π' 29 = π 29) (h3 : nM π' = nM π) (h4 : π' 26 = π 26) (s : Nat) : ∀ f c, fndF π' f c s = fndF π f c s := by
  intro f
  induction f with
  | zero => intro c; exact mW_c h1 h2 h3 c s
  | succ f ih =>
    intro c
    show (if mW π' c s = -1 then (if π' 26 c = -1 then -1 else fndF π' f (gN π' 26 c) s) else mW π' c s) = (if mW π c s = -1 then (if π 26 c = -1 then -1 else fndF π f (gN π 26 c) s) else mW π c s)
    rw [ih, mW_c h1 h2 h3]
    unfold gN
    rw [h4]
theorem fnd_c {π π' : mS} (h1 : π' 28 = π 28) (h2 : π' 29 = π 29) (h3 : nM π' = nM π) (h4 : π' 26 = π 26) (c s : Nat) : fnd π' c s = fnd π c s := fndF_c h1 h2 h3 h4 s c c
theorem sts_c {π π' : mS} (h1 : π' 30 = π 30) (h2 : nS π' = nS π) (m : Nat) : sts π' m = sts π m := by unfold sts; rw [h1, h2]
theorem opOK_c {π π' : mS} (h31 : π' 31 = π 31) (h32 : π' 32 = π 32) (h33 : π' 33 = π 33) (h34 : π' 34 = π 34) (h35 : π' 35 = π 35) (h36 : π' 36 = π 36) (h37 : π' 37 = π 37) (hC : nC π ≤ nC π') (hF : nF π ≤ nF π') (hT : nT π ≤ nT π') {i : Nat} (h : opOK π i) : opOK π' i := by
  have e : kd π' i = kd π i := by show (π' 31 i).toNatClampNeg = (π 31 i).toNatClampNeg; rw [h31]
  unfold opOK at *
  rw [e, h32, h33, h34, h35, h36, h37]
  split at h
  · exact ⟨h.1, h.2.1.mono hC, h.2.2.mono hT⟩
  · exact ⟨h.1, h.2.1, h.2.2.mono hF⟩
  · exact ⟨h.1, h.2.1, h.2.2.mono hF⟩
  · exact ⟨h.1, h.2.1, h.2.2.mono hC⟩
  · exact h
  · exact h
  · exact h
  · exact h
/-- what a call does: accepted, the program becomes π'; or refused -/
def oC (ok : Prop) (a b : Int32) (π' σ : mS) : Option mV → mS → Prop := fun r τ => (ok ∧ r = some (.inl a) ∧ pC π' σ τ) ∨ (¬ ok ∧ r = some (.inl b) ∧ τ = σ)
def oM (ok : Prop) (a b : Int32) (π' σ : mS) : Option mV → mS → Prop := fun r τ => (ok ∧ r = some (.inl a) ∧ pM π' σ τ) ∨ (¬ ok ∧ r = some (.inl b) ∧ τ = σ)
/-- mode -/
theorem mo_g {π : mS} {x : Int32} {j : Nat} (h : j ≠ 18) : gN (moN π x) 25 j = gN π 25 j := by unfold gN moN; rw [m_up_s, upd_o h]
theorem mo_k {π : mS} {x : Int32} {k : Nat} (h : k ≠ 25) : moN π x k = π k := m_up_ne h
theorem mo_25 {π : mS} {x : Int32} : moN π x 25 = upd (π 25) 18 x := m_up_s
theorem mo_wm {π : mS} (h : WM π) {x : Int32} (hx : x = 0 ∨ x = 1) : WM (moN π x) := by
  obtain ⟨h1, h2, h3⟩ := h
  refine ⟨?_, ?_, ?_⟩
  · unfold WM1 at *
    rw [mo_25, upd_o (by decide), upd_o (by decide), upd_o (by decide), upd_o (by decide), upd_o (by decide), upd_s]
    exact ⟨h1.1, h1.2.1, h1.2.2.1, h1.2.2.2.1, h1.2.2.2.2.1, hx⟩
  · unfold WM2 nC nF nM nT at *
    rw [mo_g (by decide), mo_g (by decide), mo_g (by decide), mo_g (by decide), mo_k (by decide), mo_k (by decide), mo_k (by decide), mo_k (by decide), mo_k (by decide)]
    exact h2
  · unfold WM3 nS nM at *
    rw [mo_g (by decide), mo_g (by decide), mo_k (by decide), mo_k (by decide)]
    exact fun i hi => ⟨(h3 i hi).1, (h3 i hi).2.1, opOK_c (mo_k (by decide)) (mo_k (by decide)) (mo_k (by decide)) (mo_k (by decide)) (mo_k (by decide)) (mo_k (by decide)) (mo_k (by decide)) (Nat.le_of_eq (mo_g (by decide)).symm) (Nat.le_of_eq (mo_g (by decide)).symm) (Nat.le_of_eq (mo_g (by decide)).symm) (h3 i hi).2.2⟩
theorem mo_rc {π σ : mS} (h : RCp π σ) {x : Int32} (hx : x = 0 ∨ x = 1) : RCp (moN π x) (m_up σ 2 8 x) := by
  obtain ⟨hw, h1, h2, h3⟩ := h
  refine ⟨mo_wm hw hx, ?_, ?_, ?_⟩
  · unfold RC1 at *
    rw [mo_25, upd_o (by decide), upd_o (by decide), upd_o (by decide), upd_o (by decide), upd_o (by decide), upd_s, m_up_ne (by decide), m_up_s, upd_s]
    exact ⟨h1.1, h1.2.1, h1.2.2.1, h1.2.2.2.1, h1.2.2.2.2.1, rfl⟩
  · unfold RC2 nC nF nT sc at *
    rw [mo_g (by decide), mo_g (by decide), mo_g (by decide), mo_k (by decide), mo_k (by decide), mo_k (by decide), m_up_ne (by decide), m_up_ne (by decide), m_up_ne (by decide), m_up_ne (by decide), m_up_ne (by decide), m_up_ne (by decide), m_up_ne (by decide)]
    refine ⟨h2.1, fun c hc a => ?_, fun c hc o => ?_, fun c hc s hs => ?_, h2.2.2.2.2.1, h2.2.2.2.2.2⟩
    · rw [und_c (mo_k (by decide))]; exact h2.2.1 c hc a
    · rw [und_c (mo_k (by decide))]
      have := h2.2.2.1 c hc o
      unfold gN at *
      rw [mo_k (by decide)]
      exact this
    · rw [mW_c (mo_k (by decide)) (mo_k (by decide)) (mo_g (by decide)), fnd_c (mo_k (by decide)) (mo_k (by decide)) (mo_g (by decide)) (mo_k (by decide))]
      exact h2.2.2.2.1 c hc s hs
  · unfold RC3 cnt sth nM nS at *
    rw [mo_g (by decide), mo_g (by decide), m_up_ne (by decide), m_up_ne (by decide)]
    refine ⟨fun m hm => ?_, fun m hm t ht => ?_, fun i hi => ?_⟩
    · rw [sts_c (mo_k (by decide)) (mo_g (by decide))]; exact h3.1 m hm
    · rw [sts_c (mo_k (by decide)) (mo_g (by decide))] at ht ⊢; exact h3.2.1 m hm t ht
    · rw [m_up_ne (by omega), mo_k (by decide), mo_k (by decide), mo_k (by decide), mo_k (by decide), mo_k (by decide), mo_k (by decide), mo_k (by decide), mo_k (by decide)]
      exact h3.2.2 i hi
theorem c_mode {π σ : mS} (h : RC π σ) (x : Int32) : MU M_O_mode [.inr (0, 0), .inl x] σ (oC (x = 0 ∨ x = 1) (π 25 18) (-nI 2) (moN π x) σ) := by
  have e8 : σ 2 8 = π 25 18 := h.1.2.1.2.2.2.2.2
  have hm := h.1.1.1.2.2.2.2.2
  have go : (x = 0 ∨ x = 1) → ∀ u y, y = π 25 18 → J M_O_mode (oC (x = 0 ∨ x = 1) (π 25 18) (-nI 2) (moN π x) σ) 27 [some (.inr (0, 0)), some (.inl x), u] [.inl y] σ := by
    intro hx u y hy
    refine r_O_mode_27 ((c_forgetAnswers σ).v ?_)
    obtain ⟨f1, f2, f3, f4⟩ := fA_rc h
    have fin : oC (x = 0 ∨ x = 1) (π 25 18) (-nI 2) (moN π x) σ (some (.inl y)) (m_up (fA σ) 2 8 x) := by
      refine Or.inl ⟨hx, by rw [hy], ⟨⟨mo_rc f1.1 hx, Or.inl (by rw [m_up_s, upd_o (by decide)]; exact f2), ?_⟩, by rw [m_up_s, upd_o (by decide)]; exact f2, ?_, fun k a b => by rw [m_up_ne (by omega)]; exact f4 k a b⟩⟩
      · unfold ZC
        rw [m_up_ne (by decide), m_up_ne (by decide), m_up_ne (by decide)]
        exact f1.2.2
      · unfold tr0
        rw [m_up_ne (by decide), m_up_ne (by decide)]
        exact f3
    refine ⟨fun q => ?_, fun q => ?_⟩
    · have : x = 0 := hx.resolve_right q
      rw [this] at fin ⊢
      exact fin
    · rw [q] at fin ⊢
      exact fin
  refine MU_of rfl rfl rfl (r_O_mode_0 ?_)
  rw [e8]
  refine ⟨fun q => ⟨fun e => go (Or.inl q) _ _ (by rw [e]), fun e => go (Or.inl q) _ _ (by rw [hm.resolve_left e])⟩, fun q => ⟨fun q2 => ⟨fun e => go (Or.inr q2) _ _ (by rw [e]), fun e => go (Or.inr q2) _ _ (by rw [hm.resolve_left e])⟩, fun q2 => Or.inr ⟨fun q3 => q3.elim q q2, rfl, rfl⟩⟩⟩
theorem ZM_25 {σ : mS} (hz : ZM σ) {τ : mS} (h : ∀ k, 39 ≤ k → k ≤ 49 → τ k = σ k) : ZM τ := by
  unfold ZM at *
  rw [h 39 (by omega) (by omega), h 40 (by omega) (by omega), h 41 (by omega) (by omega), h 42 (by omega) (by omega), h 43 (by omega) (by omega), h 44 (by omega) (by omega), h 45 (by omega) (by omega), h 46 (by omega) (by omega), h 47 (by omega) (by omega), h 48 (by omega) (by omega), h 49 (by omega) (by omega)]
  exact hz
/-- the model's end of a change -/
theorem pM_of {π' σ τ : mS} (hw : WM π') (hk : ∀ k, 26 ≤ k → k ≤ 38 → τ k = π' k) (hj : ∀ j, j ≤ 18 → τ 25 j = π' 25 j) (hz : ZM τ) (hc : cls9 τ σ) : pM π' σ (cH τ) := by
  obtain ⟨a, b, c, d⟩ := cH_rm (π := π') (σ := τ) ⟨hw, hk, hj⟩ hz
  exact ⟨a, b, c, d.tr hc⟩
theorem d_mode {π σ : mS} (h : RMm π σ) (x : Int32) : MU M_M_mode [.inr (25, 0), .inl x] σ (oM (x = 0 ∨ x = 1) (π 25 18) (-nI 2) (moN π x) σ) := by
  have e18 : σ 25 18 = π 25 18 := h.1.2.2 18 (by decide)
  refine MU_of rfl rfl rfl (r_M_mode_0 ⟨fun q => Or.inr ⟨fun q2 => ?_, rfl, rfl⟩, fun q => ⟨fun q2 => (d_change _).v (Or.inl ⟨?_, by rw [e18], ?_⟩), fun q2 => Or.inr ⟨fun q3 => ?_, rfl, rfl⟩⟩⟩)
  · rcases q2 with e | e <;> (rw [e] at q; exact absurd q (by decide))
  · obtain ⟨j, hj, rfl⟩ := nI_of q
    have : j ≤ 1 := by
      rcases Nat.lt_or_ge 1 j with a | a
      · exact absurd q2 (nI_ge (a := 1) a hj)
      · exact a
    rcases (show j = 0 ∨ j = 1 by omega) with rfl | rfl
    · exact Or.inl nI_0
    · exact Or.inr rfl
  · have hx : x = 0 ∨ x = 1 := by
      obtain ⟨j, hj, rfl⟩ := nI_of q
      have : j ≤ 1 := by
        rcases Nat.lt_or_ge 1 j with a | a
        · exact absurd q2 (nI_ge (a := 1) a hj)
        · exact a
      rcases (show j = 0 ∨ j = 1 by omega) with rfl | rfl
      · exact Or.inl nI_0
      · exact Or.inr rfl
    refine pM_of (mo_wm h.1.1 hx) (fun k a b => by rw [m_up_ne (by omega), mo_k (by omega)]; exact h.1.2.1 k a b) (fun j hj => ?_) (ZM_25 h.2.2 (fun k a b => m_up_ne (by omega))) (fun k hk => m_up_ne (by omega))
    rw [m_up_s, mo_25]
    by_cases e : j = 18
    · subst e; rw [upd_s, upd_s]
    · rw [upd_o e, upd_o e]; exact h.1.2.2 j hj
  · rcases q3 with e | e <;> (rw [e] at q2; exact absurd (by decide) q2)
/-- clear -/
def clN (π : mS) : mS := m_up (m_up (m_up (m_up (m_up π 25 0 0) 25 2 0) 25 4 0) 25 7 0) 25 16 0
theorem cl_k {π : mS} {k : Nat} (h : k ≠ 25) : clN π k = π k := by unfold clN; rw [m_up_ne h, m_up_ne h, m_up_ne h, m_up_ne h, m_up_ne h]
theorem cl_25 {π : mS} : clN π 25 = upd (upd (upd (upd (upd (π 25) 0 0) 2 0) 4 0) 7 0) 16 0 := by unfold clN; rw [m_up_s, m_up_s, m_up_s, m_up_s, m_up_s]
theorem cl_0 {π : mS} : clN π 25 0 = 0 ∧ clN π 25 2 = 0 ∧ clN π 25 4 = 0 ∧ clN π 25 7 = 0 ∧ clN π 25 16 = 0 ∧ clN π 25 18 = π 25 18 := by
  rw [cl_25]
  refine ⟨?_, ?_, ?_, ?_, ?_, ?_⟩
  · rw [upd_o (by decide), upd_o (by decide), upd_o (by decide), upd_o (by decide), upd_s]
  · rw [upd_o (by decide), upd_o (by decide), upd_o (by decide), upd_s]
  · rw [upd_o (by decide), upd_o (by decide), upd_s]
  · rw [upd_o (by decide), upd_s]
  · rw [upd_s]
  · rw [upd_o (by decide), upd_o (by decide), upd_o (by decide), upd_o (by decide), upd_o (by decide)]
theorem cl_n {π : mS} : nC (clN π) = 0 ∧ nF (clN π) = 0 ∧ nM (clN π) = 0 ∧ nS (clN π) = 0 ∧ nT (clN π) = 0 := by
  obtain ⟨a, b, c, d, e, -⟩ := cl_0 (π := π)
  have z : ((0 : Int32)).toNatClampNeg = 0 := by decide
  unfold nC nF nM nS nT gN
  rw [a, b, c, d, e, z]
  exact ⟨rfl, rfl, rfl, rfl, rfl⟩
theorem IN_0 {n : Nat} (h : 0 < n) : IN 0 n := ⟨0, h, nI_0.symm⟩
theorem cl_wm {π : mS} (h : WM π) : WM (clN π) := by
  obtain ⟨a, b, c, d, e, f⟩ := cl_0 (π := π)
  obtain ⟨a', b', c', d', e'⟩ := cl_n (π := π)
  refine ⟨?_, ?_, ?_⟩
  · unfold WM1
    rw [a, b, c, d, e, f]
    exact ⟨IN_0 (by decide), IN_0 (by decide), IN_0 (by decide), IN_0 (by decide), IN_0 (by decide), h.1.2.2.2.2.2⟩
  · exact ⟨fun c hc => by rw [a'] at hc; omega, fun c hc => by rw [b'] at hc; omega, fun c hc => by rw [c'] at hc; omega, fun c hc => by rw [e'] at hc; omega⟩
  · intro i hi
    rw [d'] at hi
    omega
theorem d_clear {π σ : mS} (h : RMm π σ) : MU M_M_clear [.inr (25, 0)] σ (oM True (π 25 7) 0 (clN π) σ) := by
  have e7 : σ 25 7 = π 25 7 := h.1.2.2 7 (by decide)
  refine MU_of rfl rfl rfl (r_M_clear_0 ((d_change _).v (Or.inl ⟨trivial, by rw [e7], ?_⟩)))
  have e : ∀ k, k ≠ 25 → m_up (m_up (m_up (m_up (m_up σ 25 0 (0 : Int32)) 25 2 (0 : Int32)) 25 4 (0 : Int32)) 25 7 (0 : Int32)) 25 16 (0 : Int32) k = σ k := fun k hk => cl_k hk
  refine pM_of (cl_wm h.1.1) (fun k a b => by rw [e k (by omega), cl_k (by omega)]; exact h.1.2.1 k a b) (fun j hj => ?_) (ZM_25 h.2.2 (fun k a b => e k (by omega))) (fun k hk => e k (by omega))
  show clN σ 25 j = clN π 25 j
  rw [cl_25, cl_25]
  have hs := h.1.2.2 j hj
  by_cases j0 : j = 16
  · subst j0; rw [upd_s, upd_s]
  · rw [upd_o j0, upd_o j0]
    by_cases j1 : j = 7
    · subst j1; rw [upd_s, upd_s]
    · rw [upd_o j1, upd_o j1]
      by_cases j2 : j = 4
      · subst j2; rw [upd_s, upd_s]
      · rw [upd_o j2, upd_o j2]
        by_cases j3 : j = 2
        · subst j3; rw [upd_s, upd_s]
        · rw [upd_o j3, upd_o j3]
          by_cases j4 : j = 0
          · subst j4; rw [upd_s, upd_s]
          · rw [upd_o j4, upd_o j4]; exact hs
theorem c_empty (σ : mS) : MR M_P_empty [.inr (1, 0)] σ none (m_up (m_up (m_up (m_up (m_up σ 1 0 0) 1 1 0) 1 2 0) 1 3 0) 1 4 0) := MU_of rfl rfl rfl (r_P_empty_0 ⟨rfl, rfl⟩)
theorem c_clear {π σ : mS} (h : RC π σ) : MU M_O_clear [.inr (0, 0)] σ (oC True (π 25 7) 0 (clN π) σ) := by
  obtain ⟨f1, f2, f3, f4⟩ := fA_rc h
  refine MU_of rfl rfl rfl (r_O_clear_0 ((c_forgetAnswers σ).v ((c_empty _).v (Or.inl ⟨trivial, by rw [h.1.2.1.2.2.2.1], ?_⟩))))
  generalize hτ : m_up (m_up (m_up (m_up (m_up (fA σ) 1 0 0) 1 1 0) 1 2 0) 1 3 0) 1 4 0 = τ
  have to : ∀ k, k ≠ 1 → τ k = fA σ k := fun k hk => by rw [← hτ, m_up_ne hk, m_up_ne hk, m_up_ne hk, m_up_ne hk, m_up_ne hk]
  have t1 : τ 1 = upd (upd (upd (upd (upd (fA σ 1) 0 0) 1 0) 2 0) 3 0) 4 0 := by rw [← hτ, m_up_s, m_up_s, m_up_s, m_up_s, m_up_s]
  obtain ⟨a, b, c, d, e, f⟩ := cl_0 (π := π)
  obtain ⟨a', b', c', d', e'⟩ := cl_n (π := π)
  refine ⟨⟨⟨cl_wm h.1.1, ?_, ?_, ?_⟩, Or.inl (by rw [to 2 (by decide)]; exact f2), ?_⟩, by rw [to 2 (by decide)]; exact f2, ?_, fun k x y => by rw [to k (by omega)]; exact f4 k x y⟩
  · unfold RC1
    rw [a, b, c, d, e, f, t1, to 2 (by decide)]
    refine ⟨?_, ?_, ?_, ?_, ?_, f1.1.2.1.2.2.2.2.2⟩
    · rw [upd_o (by decide), upd_o (by decide), upd_o (by decide), upd_o (by decide), upd_s]
    · rw [upd_o (by decide), upd_o (by decide), upd_o (by decide), upd_s]
    · rw [upd_o (by decide), upd_o (by decide), upd_s]
    · rw [upd_o (by decide), upd_s]
    · rw [upd_s]
  · exact ⟨fun c hc => by rw [a'] at hc; omega, fun c hc => by rw [a'] at hc; omega, fun c hc => by rw [a'] at hc; omega, fun c hc => by rw [a'] at hc; omega, fun c hc => by rw [b'] at hc; omega, fun c hc => by rw [e'] at hc; omega⟩
  · exact ⟨fun c hc => by rw [c'] at hc; omega, fun c hc => by rw [c'] at hc; omega, fun c hc => by rw [d'] at hc; omega⟩
  · unfold ZC
    rw [to 13 (by decide), to 14 (by decide), to 15 (by decide)]
    exact f1.2.2
  · unfold tr0
    rw [to 3 (by decide), to 23 (by decide)]
    exact f3
