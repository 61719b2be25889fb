/-! CONTRACTS OF THE LEAVES of the class -/
theorem c_isName (σ : mS) (x : Int32) : MR M_O_isName [.inl x] σ (some (.inl (bI (rg x (nI 6))))) σ := MU_of rfl rfl rfl (r_O_isName_0 (rg_rule ⟨rfl, rfl⟩))
theorem c_isStatic (σ : mS) (x : Int32) : MR M_O_isStatic [.inl x] σ (some (.inl (bI (rg x (nI 4))))) σ := MU_of rfl rfl rfl (r_O_isStatic_0 (rg_rule ⟨rfl, rfl⟩))
theorem c_isSignature (σ : mS) (x : Int32) : MR M_O_isSignature [.inl x] σ (some (.inl (bI (rg x (nI 4))))) σ := MU_of rfl rfl rfl (r_O_isSignature_0 (rg_rule ⟨rfl, rfl⟩))
theorem c_hasClass (σ : mS) (x : Int32) : MR M_P_hasClass [.inr (1, 0), .inl x] σ (some (.inl (bI (rg x (σ 1 0))))) σ := MU_of rfl rfl rfl (r_P_hasClass_0 (rg_rule ⟨rfl, rfl⟩))
theorem c_hasField (σ : mS) (x : Int32) : MR M_P_hasField [.inr (1, 0), .inl x] σ (some (.inl (bI (rg x (σ 1 1))))) σ := MU_of rfl rfl rfl (r_P_hasField_0 (rg_rule ⟨rfl, rfl⟩))
theorem c_hasMethod (σ : mS) (x : Int32) : MR M_P_hasMethod [.inr (1, 0), .inl x] σ (some (.inl (bI (rg x (σ 1 2))))) σ := MU_of rfl rfl rfl (r_P_hasMethod_0 (rg_rule ⟨rfl, rfl⟩))
theorem c_hasStatement (σ : mS) (x : Int32) : MR M_P_hasStatement [.inr (1, 0), .inl x] σ (some (.inl (bI (rg x (σ 1 3))))) σ := MU_of rfl rfl rfl (r_P_hasStatement_0 (rg_rule ⟨rfl, rfl⟩))
theorem c_hasSite (σ : mS) (x : Int32) : MR M_P_hasSite [.inr (1, 0), .inl x] σ (some (.inl (bI (rg x (σ 1 4))))) σ := MU_of rfl rfl rfl (r_P_hasSite_0 (rg_rule ⟨rfl, rfl⟩))
theorem c_hasName (σ : mS) (x y : Int32) : MR M_P_hasName [.inr (1, 0), .inl x, .inl y] σ (some (.inl (bI (rg x (σ 1 2) && rg y (nI 6))))) σ := MU_of rfl rfl rfl (r_P_hasName_0 (ch2 (c_hasMethod σ x) (c_isName σ y) ⟨rfl, rfl⟩))
theorem c_hasOperands (σ : mS) (k p q r s t : Int32) : MR M_P_hasOperands [.inr (1, 0), .inl k, .inl p, .inl q, .inl r, .inl s, .inl t] σ (some (.inl (bI (hop (σ 1 0) (σ 1 1) k p q r s t)))) σ := by
  refine MU_of rfl rfl rfl (r_P_hasOperands_0 ⟨fun e => ?_, fun e => ?_, fun e => ?_, fun e => ?_, fun e => ?_, fun e => ?_, fun e => ?_, fun e0 e2 e3 e4 e5 e6 e7 => ?_⟩)
  · subst e; exact ch2 (c_isName σ p) (c_hasClass σ q) ⟨rfl, rfl⟩
  · subst e; exact ch3 (c_isName σ p) (c_isName σ q) (c_hasField σ r) ⟨rfl, rfl⟩
  · subst e; exact ch3 (c_isName σ p) (c_isName σ q) (c_hasField σ r) ⟨rfl, rfl⟩
  · subst e; exact ch3 (c_isName σ p) (c_isName σ q) (c_hasClass σ r) ⟨rfl, rfl⟩
  · subst e; exact ch2 (c_isName σ p) (c_isStatic σ q) ⟨rfl, rfl⟩
  · subst e; exact ch2 (c_isStatic σ p) (c_isName σ q) ⟨rfl, rfl⟩
  · subst e; exact ch4 (c_isName σ p) (c_isName σ q) (c_isName σ s) (c_isName σ t) ⟨rfl, rfl⟩
  · exact ch2 (c_isName σ p) (c_isName σ q) ⟨by simp only [hop, if_neg e0, if_neg e2, if_neg e3, if_neg e4, if_neg e5, if_neg e6, if_neg e7], rfl⟩
theorem c_hasBit (σ : mS) (x : Int32) {k : Nat} (hk : k < 32) : MR M_O_hasBit [.inl x, .inl (nI k)] σ (some (.inl (bI (bt x k)))) σ :=
  MU_of rfl rfl rfl (r_O_hasBit_0 ⟨fun a => ⟨by rw [(bt_and1 hk).mp a]; rfl, rfl⟩, fun a => ⟨by rw [(Bool.not_eq_false _).mp (fun q => a ((bt_and1 hk).mpr q))]; rfl, rfl⟩⟩)
theorem c_namesOf (σ : mS) (m c : Nat) : MR M_O_namesOf [.inl (nI m), .inl (nI c)] σ (some (.inl (nI (126 * m + 6 * c)))) σ :=
  MU_of rfl rfl rfl (r_O_namesOf_0 ⟨by rw [pk_mul, nI_add, pk_mul]; congr 3; omega, rfl⟩)
theorem c_slotPlace (σ : mS) (o f : Nat) : MR M_O_slotPlace [.inl (nI o), .inl (nI f)] σ (some (.inl (nI (1260 + 9 * o + f)))) σ :=
  MU_of rfl rfl rfl (r_O_slotPlace_0 ⟨by rw [pk_mul, nI_add, nI_add]; congr 3; omega, rfl⟩)
theorem c_at (σ : mS) {p : Nat} (hp : p < 1454) : MR M_S_at [.inr (2, 0), .inl (nI p)] σ (some (.inl (σ 14 p))) σ :=
  MU_of rfl rfl rfl (r_S_at_0 ⟨vp_in_nI hp (by decide), by rw [cl_nI (by omega)], rfl⟩)
theorem c_ownMethod (σ : mS) {c s : Nat} (hc : c < 8) (hs : s < 4) : MR M_P_ownMethod [.inr (1, 0), .inl (nI c), .inl (nI s)] σ (some (.inl (σ 7 (4 * c + s)))) σ := by
  have e : nI c * nI 4 + nI s = nI (4 * c + s) := by rw [pk_mul, nI_add]; congr 1; omega
  exact MU_of rfl rfl rfl (r_P_ownMethod_0 (by rw [e]; exact ⟨vp_in_nI (by omega) (by decide), by rw [cl_nI (by omega)], rfl⟩))
/-- an array filled -/
def m_fl (σ : mS) (k a b : Nat) (v : Int32) : mS := fun k' => if k' = k then (fun j => if a ≤ j ∧ j < b then v else σ k j) else σ k'
theorem m_fl_0 (σ : mS) (k a : Nat) (v : Int32) : m_fl σ k a a v = σ := by
  funext k' j
  unfold m_fl
  by_cases h : k' = k
  · subst h
    rw [if_pos rfl, if_neg (by omega)]
  · rw [if_neg h]
theorem m_fl_up (σ : mS) (k a b : Nat) (v : Int32) (h : a ≤ b) : m_up (m_fl σ k a b v) k b v = m_fl σ k a (b + 1) v := by
  funext k' j
  unfold m_fl m_up upd
  by_cases hk : k' = k
  · subst hk
    simp only [if_pos]
    by_cases hj : j = b
    · subst hj
      rw [if_pos rfl, if_pos (by omega)]
    · rw [if_neg hj]
      by_cases h2 : a ≤ j ∧ j < b
      · rw [if_pos h2, if_pos (by omega)]
      · rw [if_neg h2, if_neg (by omega)]
  · simp only [if_neg hk]
theorem l_fill (Q : Option mV → mS → Prop) (σ : mS) (b0 : Nat) (v : Int32) (hn : a_n (m_cl (b0, 0)) ≤ 2000) (hq : Q none (m_fl σ (m_cl (b0, 0)) 0 (a_n (m_cl (b0, 0))) v)) : ∀ n i, a_n (m_cl (b0, 0)) - i = n → i ≤ a_n (m_cl (b0, 0)) → J M_A_fill Q 5 [some (.inr (b0, 0)), some (.inl v), some (.inl (nI i)), some (.inl (nI (a_n (m_cl (b0, 0)))))] [] (m_fl σ (m_cl (b0, 0)) 0 i v) := by
  intro n
  induction n with
  | zero =>
    intro i h1 h2
    have : i = a_n (m_cl (b0, 0)) := by omega
    subst this
    exact r_A_fill_5 ⟨fun _ => hq, fun a => absurd (nI_le (Nat.le_refl _) (by omega)) a⟩
  | succ n ih =>
    intro i h1 h2
    refine r_A_fill_5 ⟨fun a => absurd a (nI_ge (by omega) (by omega)), fun _ => ⟨vp_in_nI (by omega) (by omega), ?_⟩⟩
    rw [cl_nI (by omega), m_fl_up _ _ _ _ _ (Nat.zero_le _), nI_1]
    exact ih (i + 1) (by omega) (by omega)
theorem c_fill (σ : mS) (b0 : Nat) (v : Int32) (hp : 0 < a_n (m_cl (b0, 0))) (hn : a_n (m_cl (b0, 0)) ≤ 2000) : MR M_A_fill [.inr (b0, 0), .inl v] σ none (m_fl σ (m_cl (b0, 0)) 0 (a_n (m_cl (b0, 0))) v) := by
  refine MU_of rfl rfl rfl (r_A_fill_0 hp ?_)
  have h := l_fill (fun r τ => r = none ∧ τ = m_fl σ (m_cl (b0, 0)) 0 (a_n (m_cl (b0, 0))) v) σ b0 v hn ⟨rfl, rfl⟩ _ 0 rfl (Nat.zero_le _)
  rw [m_fl_0] at h
  exact h
theorem c_rangeCheck (σ : mS) {n a b : Nat} (h1 : a ≤ b) (h2 : b ≤ n) (hn : n ≤ 2000) : MR M_A_rangeCheck [.inl (nI n), .inl (nI a), .inl (nI b)] σ none σ :=
  MU_of rfl rfl rfl (r_A_rangeCheck_0 ⟨fun _ => ⟨fun _ => ⟨fun _ => ⟨rfl, rfl⟩, fun q => absurd (nI_le h2 (by omega)) q⟩, fun q => absurd (nI_pos' (by omega)) q⟩, fun q => absurd (nI_le h1 (by omega)) q⟩)
theorem l_fillR (Q : Option mV → mS → Prop) (σ : mS) (b0 a b : Nat) (v : Int32) (u : Option mV) (hn : a_n (m_cl (b0, 0)) ≤ 2000) (hb : b ≤ a_n (m_cl (b0, 0))) (hq : Q none (m_fl σ (m_cl (b0, 0)) a b v)) : ∀ n i, b - i = n → a ≤ i → i ≤ b → J M_A_fillR Q 10 [some (.inr (b0, 0)), u, some (.inl (nI b)), some (.inl v), some (.inl (nI i))] [] (m_fl σ (m_cl (b0, 0)) a i v) := by
  intro n
  induction n with
  | zero =>
    intro i h1 h2 h3
    have : i = b := by omega
    subst this
    exact r_A_fillR_10 ⟨fun _ => hq, fun q => absurd (nI_le (Nat.le_refl _) (by omega)) q⟩
  | succ n ih =>
    intro i h1 h2 h3
    refine r_A_fillR_10 ⟨fun q => absurd q (nI_ge (by omega) (by omega)), fun _ => ⟨vp_in_nI (by omega) (by omega), ?_⟩⟩
    rw [cl_nI (by omega), m_fl_up _ _ _ _ _ h2, nI_1]
    exact ih (i + 1) (by omega) (by omega) (by omega)
theorem c_fillR (σ : mS) (b0 a b : Nat) (v : Int32) (hp : 0 < a_n (m_cl (b0, 0))) (hn : a_n (m_cl (b0, 0)) ≤ 2000) (h1 : a ≤ b) (h2 : b ≤ a_n (m_cl (b0, 0))) : MR M_A_fillR [.inr (b0, 0), .inl (nI a), .inl (nI b), .inl v] σ none (m_fl σ (m_cl (b0, 0)) a b v) := by
  refine MU_of rfl rfl rfl (r_A_fillR_0 hp ((c_rangeCheck σ h1 h2 hn).v ?_))
  have h := l_fillR (fun r τ => r = none ∧ τ = m_fl σ (m_cl (b0, 0)) a b v) σ b0 a b v (some (.inl (nI a))) hn h2 ⟨rfl, rfl⟩ _ a rfl (Nat.le_refl _) h1
  rw [m_fl_0] at h
  exact h
