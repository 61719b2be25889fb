/-! THE RELATION between class and model, over one program π -/
def mod (τ σ : mS) : Prop := ∀ k, 25 ≤ k → k ≤ 58 → τ k = σ k
def cls9 (τ σ : mS) : Prop := ∀ k, k < 25 ∨ 59 ≤ k → τ k = σ k
theorem mod.rf (σ : mS) : mod σ σ := fun _ _ _ => rfl
theorem cls9.rf (σ : mS) : cls9 σ σ := fun _ _ => rfl
theorem mod.tr {a b c : mS} (h : mod a b) (k : mod b c) : mod a c := fun i x y => (h i x y).trans (k i x y)
theorem cls9.tr {a b c : mS} (h : cls9 a b) (k : cls9 b c) : cls9 a c := fun i x => (h i x).trans (k i x)
/-- the class holds the program π, its sets are not told or those of π; the model likewise -/
def RC (π σ : mS) : Prop := RCp π σ ∧ RCs π σ
def RMm (π σ : mS) : Prop := PM π σ ∧ RMs π σ
/-- what a run left: class, model -/
def tr0 (τ : mS) : Prop := τ 3 11 = 0 ∧ τ 3 12 = 0 ∧ τ 3 13 = 0 ∧ ∀ k, k < 60 → τ 23 k = 0
def ru0 (τ : mS) : Prop := τ 25 32 = 0 ∧ τ 25 37 = 0 ∧ τ 25 43 = 0 ∧ ∀ k, k < 60 → τ 58 k = 0
def RTt (σ : mS) : Prop := σ 3 11 = σ 25 32 ∧ σ 3 12 = σ 25 37 ∧ σ 3 13 = σ 25 43 ∧ ∀ k, k < 60 → σ 23 k = σ 58 k
def RR (π σ : mS) : Prop := RC π σ ∧ RMm π σ ∧ σ 2 7 = σ 25 19 ∧ RTt σ
theorem RC.to {π σ τ : mS} (h : RC π σ) (hc : cls9 τ σ) : RC π τ := by
  obtain ⟨h1, h2⟩ := h
  refine ⟨h1.to (by rw [hc 2 (by omega)]) (fun k hk => hc k (by omega)), ?_⟩
  unfold RCs ZC setOK at *
  rw [hc 2 (by omega), hc 13 (by omega), hc 14 (by omega), hc 15 (by omega)]
  exact h2
theorem RMm.to {π σ τ : mS} (h : RMm π σ) (hc : mod τ σ) : RMm π τ := by
  obtain ⟨h1, h2⟩ := h
  refine ⟨h1.to (fun k a b => hc k (by omega) (by omega)) (fun j _ => by rw [hc 25 (by omega) (by omega)]), ?_⟩
  unfold RMs ZM mSets kNow at *
  rw [hc 25 (by omega) (by omega), hc 39 (by omega) (by omega), hc 40 (by omega) (by omega), hc 41 (by omega) (by omega), hc 42 (by omega) (by omega), hc 43 (by omega) (by omega), hc 44 (by omega) (by omega), hc 45 (by omega) (by omega), hc 46 (by omega) (by omega), hc 47 (by omega) (by omega), hc 48 (by omega) (by omega), hc 49 (by omega) (by omega)]
  exact h2
/-- forget -/
def tF (σ : mS) : mS := m_up (m_up (m_up (m_fl σ 23 0 60 0) 3 11 0) 3 12 0) 3 13 0
theorem tF_o {σ : mS} {k : Nat} (h1 : k ≠ 23) (h2 : k ≠ 3) : tF σ k = σ k := by
  unfold tF
  rw [m_up_ne h2, m_up_ne h2, m_up_ne h2, m_fl_o h1]
theorem tF_3 {σ : mS} : tF σ 3 = upd (upd (upd (σ 3) 11 0) 12 0) 13 0 := by
  unfold tF
  rw [m_up_s, m_up_s, m_up_s, m_fl_o (by decide)]
theorem tF_23 {σ : mS} : tF σ 23 = fun j => if 0 ≤ j ∧ j < 60 then 0 else σ 23 j := by
  unfold tF
  rw [m_up_ne (by decide), m_up_ne (by decide), m_up_ne (by decide), m_fl_s]
theorem tF_0 (σ : mS) : tr0 (tF σ) := by
  refine ⟨?_, ?_, ?_, fun k hk => ?_⟩
  · rw [tF_3, upd_o (by decide), upd_o (by decide), upd_s]
  · rw [tF_3, upd_o (by decide), upd_s]
  · rw [tF_3, upd_s]
  · rw [tF_23]; exact if_pos (by omega)
theorem c_forget (σ : mS) : MR M_T_forget [.inr (3, 0)] σ none (tF σ) :=
  MU_of rfl rfl rfl (r_T_forget_0 ((c_fill σ 23 0 (by decide) (by decide)).v ⟨rfl, rfl⟩))
def fA (σ : mS) : mS := tF (m_up σ 2 7 0)
theorem c_forgetAnswers (σ : mS) : MR M_O_forgetAnswers [.inr (0, 0)] σ none (fA σ) :=
  MU_of rfl rfl rfl (r_O_forgetAnswers_0 ((c_forget _).v ⟨rfl, rfl⟩))
theorem fA_o {σ : mS} {k : Nat} (h1 : k ≠ 23) (h2 : k ≠ 3) (h3 : k ≠ 2) : fA σ k = σ k := by unfold fA; rw [tF_o h1 h2, m_up_ne h3]
theorem fA_2 {σ : mS} : fA σ 2 = upd (σ 2) 7 0 := by unfold fA; rw [tF_o (by decide) (by decide), m_up_s]
theorem fA_rc {π σ : mS} (h : RC π σ) : RC π (fA σ) ∧ fA σ 2 7 = 0 ∧ tr0 (fA σ) ∧ mod (fA σ) σ := by
  have e7 : fA σ 2 7 = 0 := by rw [fA_2, upd_s]
  refine ⟨⟨h.1.to (by rw [fA_2, upd_o (by decide)]) (fun k hk => fA_o (by omega) (by omega) (by omega)), Or.inl e7, ?_⟩, e7, tF_0 _, fun k a b => fA_o (by omega) (by omega) (by omega)⟩
  unfold ZC
  rw [fA_o (by decide) (by decide) (by decide), fA_o (by decide) (by decide) (by decide), fA_o (by decide) (by decide) (by decide)]
  exact h.2.2
/-- the model: change -/
def rF (σ : mS) : mS := m_fl (m_up (m_up (m_up σ 25 32 0) 25 37 0) 25 43 0) 58 0 60 0
theorem rF_o {σ : mS} {k : Nat} (h1 : k ≠ 58) (h2 : k ≠ 25) : rF σ k = σ k := by
  unfold rF
  rw [m_fl_o h1, m_up_ne h2, m_up_ne h2, m_up_ne h2]
theorem rF_25 {σ : mS} : rF σ 25 = upd (upd (upd (σ 25) 32 0) 37 0) 43 0 := by
  unfold rF
  rw [m_fl_o (by decide), m_up_s, m_up_s, m_up_s]
theorem rF_58 {σ : mS} : rF σ 58 = fun j => if 0 ≤ j ∧ j < 60 then 0 else σ 58 j := by
  unfold rF
  rw [m_fl_s, m_up_ne (by decide), m_up_ne (by decide), m_up_ne (by decide)]
theorem rF_0 (σ : mS) : ru0 (rF σ) := by
  refine ⟨?_, ?_, ?_, fun k hk => ?_⟩
  · rw [rF_25, upd_o (by decide), upd_o (by decide), upd_s]
  · rw [rF_25, upd_o (by decide), upd_s]
  · rw [rF_25, upd_s]
  · rw [rF_58]; exact if_pos (by omega)
theorem d_forgetRun (σ : mS) : MR M_M_forgetRun [.inr (25, 0)] σ none (rF σ) := by
  refine MU_of rfl rfl rfl (r_M_forgetRun_0 ?_)
  exact fl_loop (P := fun x s => J M_M_forgetRun (qR none (rF σ)) 17 [some (.inr (25, 0)), some (.inl x)] [] s) (K := fun s => qR none (rF σ) none s) (n := 60) (b := 58) (v := 0) (by decide) (fun x σ h => r_M_forgetRun_17 h) _ ⟨rfl, rfl⟩
def cH (σ : mS) : mS := rF (m_up σ 25 19 0)
theorem d_change (σ : mS) : MR M_M_change [.inr (25, 0)] σ none (cH σ) :=
  MU_of rfl rfl rfl (r_M_change_0 ((d_forgetRun _).v ⟨rfl, rfl⟩))
theorem cH_o {σ : mS} {k : Nat} (h1 : k ≠ 58) (h2 : k ≠ 25) : cH σ k = σ k := by unfold cH; rw [rF_o h1 h2, m_up_ne h2]
theorem cH_25 {σ : mS} : cH σ 25 = upd (upd (upd (upd (σ 25) 19 0) 32 0) 37 0) 43 0 := by unfold cH; rw [rF_25, m_up_s]
theorem cH_j {σ : mS} {j : Nat} (h1 : j ≠ 19) (h2 : j ≠ 32) (h3 : j ≠ 37) (h4 : j ≠ 43) : cH σ 25 j = σ 25 j := by rw [cH_25, upd_o h4, upd_o h3, upd_o h2, upd_o h1]
theorem cH_rm {π σ : mS} (h : PM π σ) (hz : ZM σ) : RMm π (cH σ) ∧ cH σ 25 19 = 0 ∧ ru0 (cH σ) ∧ cls9 (cH σ) σ := by
  have e19 : cH σ 25 19 = 0 := by rw [cH_25, upd_o (by decide), upd_o (by decide), upd_o (by decide), upd_s]
  refine ⟨⟨h.to (fun k a b => cH_o (by omega) (by omega)) (fun j hj => cH_j (by omega) (by omega) (by omega) (by omega)), Or.inl e19, ?_⟩, e19, rF_0 _, fun k hk => cH_o (by omega) (by omega)⟩
  unfold ZM
  rw [cH_o (by decide) (by decide), cH_o (by decide) (by decide), cH_o (by decide) (by decide), cH_o (by decide) (by decide), cH_o (by decide) (by decide), cH_o (by decide) (by decide), cH_o (by decide) (by decide), cH_o (by decide) (by decide), cH_o (by decide) (by decide), cH_o (by decide) (by decide), cH_o (by decide) (by decide)]
  exact hz
/-- an answer: refused (nothing changes), or the program becomes π' -/
def pC (π' σ τ : mS) : Prop := RC π' τ ∧ τ 2 7 = 0 ∧ tr0 τ ∧ mod τ σ
def pM (π' σ τ : mS) : Prop := RMm π' τ ∧ τ 25 19 = 0 ∧ ru0 τ ∧ cls9 τ σ
/-- mode -/
def moN (π : mS) (x : Int32) : mS := m_up π 25 18 x
theorem gN_ne {π : mS} {k j v k' j' : Nat} {x : Int32} (h : k' ≠ k ∨ j' ≠ j) : gN (m_up π k j x) k' j' = gN π k' j' := by
  unfold gN
  rw [m_up_at, if_neg (by omega)]
