/-! CALLS THAT CHANGE THE PROGRAM: method -/
def meN (π : mS) (x y : Int32) : mS := m_up (m_up (m_up π 28 (nM π) x) 29 (nM π) y) 25 4 (nI (nM π + 1))
theorem me_k {π : mS} {x y : Int32} {k : Nat} (h1 : k ≠ 25) (h2 : k ≠ 28) (h3 : k ≠ 29) : meN π x y k = π k := by unfold meN; rw [m_up_ne h1, m_up_ne h3, m_up_ne h2]
theorem me_28 {π : mS} {x y : Int32} : meN π x y 28 = upd (π 28) (nM π) x := by unfold meN; rw [m_up_ne (by decide), m_up_ne (by decide), m_up_s]
theorem me_29 {π : mS} {x y : Int32} : meN π x y 29 = upd (π 29) (nM π) y := by unfold meN; rw [m_up_ne (by decide), m_up_s, m_up_ne (by decide)]
theorem me_25 {π : mS} {x y : Int32} : meN π x y 25 = upd (π 25) 4 (nI (nM π + 1)) := by unfold meN; rw [m_up_s, m_up_ne (by decide), m_up_ne (by decide)]
theorem me_g {π : mS} {x y : Int32} {j : Nat} (h : j ≠ 4) : gN (meN π x y) 25 j = gN π 25 j := by unfold gN; rw [me_25, upd_o h]
theorem me_n {π : mS} {x y : Int32} (h : nM π < 10) : nM (meN π x y) = nM π + 1 := by
  show (meN π x y 25 4).toNatClampNeg = _
  rw [me_25, upd_s, cl_nI (by omega)]
theorem me_gk {π : mS} {x y : Int32} {k j : Nat} (h1 : k ≠ 25) (h2 : k ≠ 28) (h3 : k ≠ 29) : gN (meN π x y) k j = gN π k j := by unfold gN; rw [me_k h1 h2 h3]
theorem me_wm {π : mS} (h : WM π) {x y : Int32} (hx : IN x (nC π)) (hy : IN y 4) (hn : nM π < 10) : WM (meN π x y) := by
  obtain ⟨h1, h2, h3⟩ := h
  have eC : nC (meN π x y) = nC π := me_g (by decide)
  have eF : nF (meN π x y) = nF π := me_g (by decide)
  have eT : nT (meN π x y) = nT π := me_g (by decide)
  have eS : nS (meN π x y) = nS π := me_g (by decide)
  refine ⟨?_, ?_, ?_⟩
  · unfold WM1 at *
    rw [me_25, upd_o (by decide), upd_o (by decide), upd_s, upd_o (by decide), upd_o (by decide), upd_o (by decide)]
    exact ⟨h1.1, h1.2.1, ⟨nM π + 1, by omega, rfl⟩, h1.2.2.2⟩
  · unfold WM2
    rw [eC, eF, eT, me_n hn, me_k (k := 26) (by decide) (by decide) (by decide), me_k (k := 27) (by decide) (by decide) (by decide), me_k (k := 38) (by decide) (by decide) (by decide), me_28, me_29]
    refine ⟨h2.1, h2.2.1, fun m hm => ?_, h2.2.2.2⟩
    by_cases e : m = nM π
    · subst e; rw [upd_s, upd_s]; exact ⟨hx, hy⟩
    · rw [upd_o e, upd_o e]; exact h2.2.2.1 m (by omega)
  · unfold WM3
    rw [eS, me_n hn, me_k (k := 30) (by decide) (by decide) (by decide), me_k (k := 31) (by decide) (by decide) (by decide)]
    exact fun i hi => ⟨(h3 i hi).1.mono (by omega), (h3 i hi).2.1, opOK_c (me_k (by decide) (by decide) (by decide)) (me_k (by decide) (by decide) (by decide)) (me_k (by decide) (by decide) (by decide)) (me_k (by decide) (by decide) (by decide)) (me_k (by decide) (by decide) (by decide)) (me_k (by decide) (by decide) (by decide)) (me_k (by decide) (by decide) (by decide)) (Nat.le_of_eq eC.symm) (Nat.le_of_eq eF.symm) (Nat.le_of_eq eT.symm) (h3 i hi).2.2⟩
theorem me_mwP {π : mS} {x y : Int32} {c s m : Nat} (h : m ≠ nM π) : mwP (meN π x y) c s m = mwP π c s m := by unfold mwP; rw [me_28, me_29, upd_o h, upd_o h]
theorem find_c {α : Type} {p q : α → Bool} : ∀ (l : List α), (∀ m, m ∈ l → p m = q m) → l.find? p = l.find? q
  | [], _ => rfl
  | a :: l, h => by
    have e := find_c l (fun m hm => h m (List.mem_cons_of_mem _ hm))
    have ea := h a List.mem_cons_self
    by_cases c : p a = true
    · rw [List.find?_cons_of_pos c, List.find?_cons_of_pos (by rw [← ea]; exact c)]
    · rw [List.find?_cons_of_neg c, List.find?_cons_of_neg (by rw [← ea]; exact c), e]
theorem me_find {π : mS} {x y : Int32} (hn : nM π < 10) (c s : Nat) : (List.range (nM (meN π x y))).find? (mwP (meN π x y) c s) = ((List.range (nM π)).find? (mwP π c s)).or (if mwP (meN π x y) c s (nM π) = true then some (nM π) else none) := by
  rw [me_n hn, List.range_succ, List.find?_append]
  congr 1
  · apply find_c
    intro m hm
    have := List.mem_range.mp hm
    exact me_mwP (by omega)
  · by_cases h : mwP (meN π x y) c s (nM π) = true
    · rw [if_pos h, List.find?_cons_of_pos h]
    · rw [if_neg h, List.find?_cons_of_neg h]; rfl
theorem me_mW_s {π : mS} {c s : Nat} (hn : nM π < 10) (h : mW π c s = -1) : mW (meN π (nI c) (nI s)) c s = nI (nM π) := by
  have e : (List.range (nM π)).find? (mwP π c s) = none := by
    cases q : (List.range (nM π)).find? (mwP π c s) with
    | none => rfl
    | some m =>
      unfold mW at h
      rw [q] at h
      have := List.mem_range.mp (List.mem_of_find?_eq_some q)
      exact absurd h (nI_m1 (by omega))
  have e2 : mwP (meN π (nI c) (nI s)) c s (nM π) = true := by
    unfold mwP
    rw [me_28, me_29, upd_s, upd_s, decide_eq_true rfl, decide_eq_true rfl]
    rfl
  unfold mW
  rw [me_find hn, e, if_pos e2]
  rfl
theorem me_mW_o {π : mS} {c s c' s' : Nat} (hn : nM π < 10) (hc : c < 2 ^ 30) (hs : s < 2 ^ 30) (hc' : c' < 2 ^ 30) (hs' : s' < 2 ^ 30) (h : c' ≠ c ∨ s' ≠ s) : mW (meN π (nI c) (nI s)) c' s' = mW π c' s' := by
  have e2 : ¬ mwP (meN π (nI c) (nI s)) c' s' (nM π) = true := by
    unfold mwP
    rw [me_28, me_29, upd_s, upd_s, Bool.and_eq_true, decide_eq_true_eq, decide_eq_true_eq]
    rintro ⟨a, b⟩
    have := nI_inj (by omega) (by omega) a
    have := nI_inj (by omega) (by omega) b
    omega
  unfold mW
  rw [me_find hn, if_neg e2, Option.or_none]
theorem me_fnd {π : mS} (h : WM π) {c s : Nat} (hc : c < nC π) (hs : s < 4) (hn : nM π < 10) {s' : Nat} (hs' : s' < 4) : ∀ c', c' < nC π → (c' < c ∨ s' ≠ s) → fnd (meN π (nI c) (nI s)) c' s' = fnd π c' s' := by
  have a8 := h.nC8.2
  have hw' := me_wm h (x := nI c) (y := nI s) ⟨c, hc, rfl⟩ ⟨s, hs, rfl⟩ hn
  intro c'
  induction c' using Nat.strongRecOn with
  | ind c' ih =>
    intro hc' hd
    rw [fnd_eq hw' (by rw [show nC (meN π (nI c) (nI s)) = nC π from me_g (by decide)]; exact hc'), fnd_eq h hc', me_mW_o hn (by omega) (by omega) (by omega) (by omega) (by omega), me_k (k := 26) (by decide) (by decide) (by decide), me_gk (k := 26) (by decide) (by decide) (by decide)]
    rcases h.par hc' with q | ⟨-, q⟩
    · rw [if_pos q, if_pos q]
    · rw [ih _ q (by omega) (by omega)]
/-- the loop of addMethod over the classes -/
def amI (π' σ1 : mS) (c s k : Nat) (τ : mS) : Prop := (∀ i, i ≠ 8 → τ i = σ1 i) ∧ (∀ c' s', s' < 4 → (c' < c ∨ k ≤ c' ∨ s' ≠ s) → τ 8 (4 * c' + s') = σ1 8 (4 * c' + s')) ∧ ∀ c', c ≤ c' → c' < k → τ 8 (4 * c' + s) = fnd π' c' s
theorem l_addMethod {π' σ1 : mS} (hw : WM π') {c s : Nat} (hs : s < 4) (h1 : σ1 1 0 = nI (nC π')) (h4 : ∀ c, c < nC π' → σ1 4 c = π' 26 c) (h7 : ∀ c', c' < nC π' → σ1 7 (4 * c' + s) = mW π' c' s) (h8 : ∀ c', c' < c → c' < nC π' → σ1 8 (4 * c' + s) = fnd π' c' s) (r : Int32) (Q : Option mV → mS → Prop) (u1 : Option mV)
    (hq : ∀ τ, amI π' σ1 c s (nC π') τ → Q (some (.inl r)) τ) : ∀ d k, nC π' - k = d → c ≤ k → k ≤ nC π' → ∀ τ, amI π' σ1 c s k τ → J M_P_addMethod Q 33 [some (.inr (1, 0)), u1, some (.inl (nI s)), some (.inl r), some (.inl (nI k))] [] τ := by
  have a8 := hw.nC8.2
  intro d
  induction d with
  | zero =>
    intro k x1 x2 x3 τ hI
    have : k = nC π' := by omega
    subst this
    exact r_P_addMethod_33 ⟨fun _ => hq τ hI, fun q => absurd (by rw [hI.1 1 (by decide), h1]; exact nI_le (Nat.le_refl _) (by omega)) q⟩
  | succ d ih =>
    intro k x1 x2 x3 τ hI
    obtain ⟨i1, i2, i3⟩ := hI
    have hk : k < nC π' := by omega
    refine r_P_addMethod_33 ⟨fun q => absurd q (by rw [i1 1 (by decide), h1]; exact nI_ge (by omega) (by omega)), fun _ => ?_⟩
    have e4 : τ 4 k = π' 26 k := by rw [i1 4 (by decide), h4 k hk]
    have e7 : τ 7 (4 * k + s) = mW π' k s := by rw [i1 7 (by decide), h7 k hk]
    have hp : τ 4 k = -1 ∨ IN (τ 4 k) 8 := by
      rw [e4]
      rcases hw.2.1.1 k hk with q | q
      · exact Or.inl q
      · exact Or.inr (q.mono (by omega))
    have fm : fmV τ k s = fnd π' k s := by
      unfold fmV
      rw [e7, e4, fnd_eq hw hk, show gN τ 4 k = gN π' 26 k by unfold gN; rw [e4]]
      rcases hw.par hk with q | ⟨q1, q2⟩
      · rw [if_pos q, if_pos q]
      · have : τ 8 (4 * gN π' 26 k + s) = fnd π' (gN π' 26 k) s := by
          rcases Nat.lt_or_ge (gN π' 26 k) c with a | a
          · rw [i2 _ _ hs (Or.inl a)]; exact h8 _ a (by omega)
          · exact i3 _ a q2
        rw [this]
    refine (c_findMethod (by omega) hs hp).v ?_
    rw [fm, nI_1]
    refine ih (k + 1) (by omega) (by omega) (by omega) _ ⟨fun i hi => by rw [m_up_ne hi]; exact i1 i hi, fun c' s' hs' hd => ?_, fun c' hc' hk' => ?_⟩
    · rw [m_up_s, upd_o (by omega)]; exact i2 c' s' hs' (by omega)
    · rw [m_up_s]
      by_cases e : c' = k
      · subst e; rw [upd_s]
      · rw [upd_o (by omega)]; exact i3 c' hc' (by omega)
theorem c_addMethod {π σ : mS} (h : RCp π σ) {c s : Nat} (hc : c < nC π) (hs : s < 4) (hn : nM π < 10) (hm : mW π c s = -1) : MU M_P_addMethod [.inr (1, 0), .inl (nI c), .inl (nI s)] σ (fun r τ => r = some (.inl (nI (nM π))) ∧ RCp (meN π (nI c) (nI s)) τ ∧ ∀ k, k = 2 ∨ k = 3 ∨ k = 13 ∨ k = 14 ∨ k = 15 ∨ k = 23 ∨ (25 ≤ k ∧ k ≤ 58) → τ k = σ k) := by
  obtain ⟨hw, h1, h2, h3⟩ := h
  have a8 := hw.nC8.2
  have aM := hw.nM10
  have hw' := me_wm hw (x := nI c) (y := nI s) ⟨c, hc, rfl⟩ ⟨s, hs, rfl⟩ hn
  have eC : nC (meN π (nI c) (nI s)) = nC π := me_g (by decide)
  have eF : nF (meN π (nI c) (nI s)) = nF π := me_g (by decide)
  have eT : nT (meN π (nI c) (nI s)) = nT π := me_g (by decide)
  have eS : nS (meN π (nI c) (nI s)) = nS π := me_g (by decide)
  have e2 : σ 1 2 = nI (nM π) := by rw [h1.2.2.1, aM.1]
  refine MU_of rfl rfl rfl (r_P_addMethod_0 ?_)
  have ex : nI c * nI 4 + nI s = nI (4 * c + s) := by rw [pk_mul, nI_add]; congr 1; omega
  rw [e2, nI_1, ex, cl_nI (by omega)]
  rintro _ rfl
  rw [cl_nI (by omega)]
  refine ⟨vp_in_nI hn (by decide), vp_in_nI (by omega) (by decide), ?_⟩
  generalize hσ1 : m_up (m_up (m_up σ 1 2 (nI (nM π + 1))) 11 (nM π) (0 : Int32)) 7 (4 * c + s) (nI (nM π)) = σ1
  have q1 : σ1 1 = upd (σ 1) 2 (nI (nM π + 1)) := by rw [← hσ1, m_up_ne (by decide), m_up_ne (by decide), m_up_s]
  have q11 : σ1 11 = upd (σ 11) (nM π) 0 := by rw [← hσ1, m_up_ne (by decide), m_up_s, m_up_ne (by decide)]
  have q7 : σ1 7 = upd (σ 7) (4 * c + s) (nI (nM π)) := by rw [← hσ1, m_up_s, m_up_ne (by decide), m_up_ne (by decide)]
  have qo : ∀ k, k ≠ 1 → k ≠ 11 → k ≠ 7 → σ1 k = σ k := fun k a b d => by rw [← hσ1, m_up_ne d, m_up_ne b, m_up_ne a]
  have own : ∀ c', c' < nC π → ∀ s', s' < 4 → σ1 7 (4 * c' + s') = mW (meN π (nI c) (nI s)) c' s' := fun c' hc' s' hs' => by
    by_cases e : c' = c ∧ s' = s
    · obtain ⟨rfl, rfl⟩ := e
      rw [q7, upd_s, me_mW_s hn hm]
    · rw [q7, upd_o (by omega), me_mW_o hn (by omega) (by omega) (by omega) (by omega) (by omega)]
      exact (h2.2.2.2.1 c' hc' s' hs').1
  refine l_addMethod hw' hs (by rw [q1, upd_o (by decide), h1.1, hw.nC8.1, eC]) (fun c' hc' => by rw [eC] at hc'; rw [qo 4 (by decide) (by decide) (by decide), me_k (by decide) (by decide) (by decide)]; exact h2.1 c' hc') (fun c' hc' => by rw [eC] at hc'; exact own c' hc' s hs) (fun c' x1 x2 => by rw [eC] at x2; rw [qo 8 (by decide) (by decide) (by decide), me_fnd hw hc hs hn hs c' x2 (Or.inl x1)]; exact (h2.2.2.2.1 c' x2 s hs).2) _ _ _ (fun τ hI => ⟨rfl, ?_, fun k hk => ?_⟩) (nC (meN π (nI c) (nI s)) - c) c rfl (Nat.le_refl _) (by rw [eC]; omega) σ1 ⟨fun _ _ => rfl, fun _ _ _ _ => rfl, fun _ _ _ => by omega⟩
  · obtain ⟨i1, i2, i3⟩ := hI
    rw [eC] at i2 i3
    refine ⟨hw', ?_, ?_, ?_⟩
    · unfold RC1 at *
      rw [i1 1 (by decide), i1 2 (by decide), q1, qo 2 (by decide) (by decide) (by decide), me_25, upd_o (by decide), upd_o (by decide), upd_o (by decide), upd_o (by decide), upd_s, upd_s, upd_o (by decide), upd_o (by decide), upd_o (by decide), upd_o (by decide), upd_o (by decide)]
      exact ⟨h1.1, h1.2.1, rfl, h1.2.2.2⟩
    · unfold RC2
      rw [eC, eF, eT, me_k (k := 26) (by decide) (by decide) (by decide), me_k (k := 27) (by decide) (by decide) (by decide), me_k (k := 38) (by decide) (by decide) (by decide), i1 4 (by decide), i1 5 (by decide), i1 6 (by decide), i1 7 (by decide), i1 9 (by decide), i1 10 (by decide), qo 4 (by decide) (by decide) (by decide), qo 5 (by decide) (by decide) (by decide), qo 6 (by decide) (by decide) (by decide), qo 9 (by decide) (by decide) (by decide), qo 10 (by decide) (by decide) (by decide)]
      refine ⟨h2.1, fun c' hc' a => ?_, fun c' hc' o => ?_, fun c' hc' s' hs' => ⟨own c' hc' s' hs', ?_⟩, h2.2.2.2.2.1, h2.2.2.2.2.2⟩
      · rw [und_c (me_k (by decide) (by decide) (by decide))]; exact h2.2.1 c' hc' a
      · rw [und_c (me_k (by decide) (by decide) (by decide)), show sc (meN π (nI c) (nI s)) o = sc π o from me_gk (by decide) (by decide) (by decide)]; exact h2.2.2.1 c' hc' o
      · by_cases e : s' = s ∧ c ≤ c'
        · obtain ⟨rfl, e⟩ := e
          exact i3 c' e hc'
        · rw [i2 c' s' hs' (by omega), qo 8 (by decide) (by decide) (by decide), me_fnd hw hc hs hn hs' c' hc' (by omega)]
          exact (h2.2.2.2.1 c' hc' s' hs').2
    · unfold RC3 cnt sth
      rw [eS, me_n hn, i1 11 (by decide), i1 12 (by decide), q11, qo 12 (by decide) (by decide) (by decide)]
      have st : ∀ m, sts (meN π (nI c) (nI s)) m = sts π m := fun m => sts_c (me_k (by decide) (by decide) (by decide)) eS m
      have none : sts π (nM π) = [] := by
        unfold sts
        rw [List.filter_eq_nil_iff]
        intro i hi
        have hi := List.mem_range.mp hi
        have := hw.ow hi
        rw [decide_eq_true_eq, this.1]
        intro q
        have := nI_inj (by omega) (by omega) q
        omega
      refine ⟨fun m hm => ?_, fun m hm t ht => ?_, fun i hi => ?_⟩
      · rw [st]
        by_cases e : m = nM π
        · subst e; rw [upd_s, none]; rfl
        · rw [upd_o e]; exact h3.1 m (by omega)
      · rw [st] at ht ⊢
        by_cases e : m = nM π
        · subst e; rw [none] at ht; exact absurd ht (by simp)
        · exact h3.2.1 m (by omega) t ht
      · rw [i1 (59 + i) (by omega), qo (59 + i) (by omega) (by omega) (by omega), me_k (k := 30) (by decide) (by decide) (by decide), me_k (k := 31) (by decide) (by decide) (by decide), me_k (k := 32) (by decide) (by decide) (by decide), me_k (k := 33) (by decide) (by decide) (by decide), me_k (k := 34) (by decide) (by decide) (by decide), me_k (k := 35) (by decide) (by decide) (by decide), me_k (k := 36) (by decide) (by decide) (by decide), me_k (k := 37) (by decide) (by decide) (by decide)]
        exact h3.2.2 i hi
  · rw [hI.1 k (by omega), qo k (by omega) (by omega) (by omega)]
def okM (π : mS) (x y : Int32) : Prop := rg x (π 25 0) = true ∧ rg y (nI 4) = true ∧ mW π x.toNatClampNeg y.toNatClampNeg = -1 ∧ nM π < 10
def badM (π : mS) (x y : Int32) : Int32 := if rg x (π 25 0) = true then (if rg y (nI 4) = true then (if mW π x.toNatClampNeg y.toNatClampNeg = -1 then -nI 4 else -nI 3) else -nI 2) else -1
theorem c_method {π σ : mS} (h : RC π σ) (x y : Int32) : MU M_O_method [.inr (0, 0), .inl x, .inl y] σ (oC (okM π x y) (π 25 4) (badM π x y) (meN π x y) σ) := by
  have hw := h.1.1
  have aM := hw.nM10
  have a8 := hw.nC8
  have e0 : σ 1 0 = π 25 0 := h.1.2.1.1
  have e2 : σ 1 2 = nI (nM π) := by rw [h.1.2.1.2.2.1, aM.1]
  refine MU_of rfl rfl rfl (r_O_method_0 ((c_hasClass σ x).i ?_))
  rw [e0]
  refine br_b' (fun q => Or.inr ⟨(fun k => by rw [k.1] at q; cases q), (by unfold badM; rw [if_neg (by rw [q]; decide)]), rfl⟩) (fun q => (c_isSignature σ y).i (br_b' (fun q2 => Or.inr ⟨(fun k => by rw [k.2.1] at q2; cases q2), (by unfold badM; rw [if_pos q, if_neg (by rw [q2]; decide)]), rfl⟩) (fun q2 => ?_)))
  obtain ⟨c, hc, rfl⟩ := rg_n (n := nC π) (by rw [← a8.1]; exact q)
  obtain ⟨s, hs, rfl⟩ := rg_n q2
  have em : σ 7 (4 * c + s) = mW π c s := (h.1.2.2.1.2.2.2.1 c hc s hs).1
  have cc : (nI c).toNatClampNeg = c := cl_nI (by omega)
  have cs : (nI s).toNatClampNeg = s := cl_nI (by omega)
  refine (c_ownMethod σ (by omega) hs).i ?_
  rw [em, e2]
  refine ⟨fun q3 => ⟨fun hlt => ?_, fun hge => Or.inr ⟨fun k => absurd (nI_lt k.2.2.2 (by decide)) hge, (by unfold badM; rw [if_pos q, if_pos q2, cc, cs, if_pos q3]), rfl⟩⟩, fun q3 => Or.inr ⟨fun k => q3 (by have := k.2.2.1; rwa [cc, cs] at this), (by unfold badM; rw [if_pos q, if_pos q2, cc, cs, if_neg q3]), rfl⟩⟩
  have hn : nM π < 10 := by
    rcases Nat.lt_or_ge (nM π) 10 with a | a
    · exact a
    · exact absurd hlt (nI_nlt a (by omega))
  obtain ⟨f1, f2, f3, f4⟩ := fA_rc h
  refine (c_forgetAnswers σ).v ((c_addMethod f1.1 hc hs hn q3).mono ?_)
  rintro r τ ⟨rfl, k1, k2⟩
  exact ⟨_, rfl, Or.inl ⟨⟨q, q2, by rw [cc, cs]; exact q3, hn⟩, by rw [aM.1], pC_of k1 k2 h.2.2⟩⟩
theorem rg_4 {y : Int32} : rg y (nI 4) = true ↔ ¬ y < (0 : Int32) ∧ y ≤ nI 3 := by
  rw [rg_iff, i_lt, i_le, i_le, i_0, show (nI 4).toInt = 4 by decide, show (nI 3).toInt = 3 by decide]
  omega
theorem d_method {π σ : mS} (h : RMm π σ) (x y : Int32) : MU M_M_method [.inr (25, 0), .inl x, .inl y] σ (oM (okM π x y) (π 25 4) (badM π x y) (meN π x y) σ) := by
  have hw := h.1.1
  have aM := hw.nM10
  have a8 := hw.nC8
  have e0 : σ 25 0 = π 25 0 := h.1.2.2 0 (by decide)
  have e4 : σ 25 4 = nI (nM π) := by rw [h.1.2.2 4 (by decide), aM.1]
  have r4 := rg_4 (y := y)
  refine MU_of rfl rfl rfl (r_M_method_0 ((d_isClass σ x).i ?_))
  rw [e0]
  refine br_b' (fun q => Or.inr ⟨(fun k => by rw [k.1] at q; cases q), (by unfold badM; rw [if_neg (by rw [q]; decide)]), rfl⟩) (fun q => ⟨fun q2 => Or.inr ⟨fun k => (r4.mp k.2.1).1 q2, (by unfold badM; rw [if_pos q, if_neg (fun k => (r4.mp k).1 q2)]), rfl⟩, fun q2 => ⟨fun q3 => ?_, fun q3 => Or.inr ⟨fun k => q3 (r4.mp k.2.1).2, (by unfold badM; rw [if_pos q, if_neg (fun k => q3 (r4.mp k).2)]), rfl⟩⟩⟩)
  have qy : rg y (nI 4) = true := r4.mpr ⟨q2, q3⟩
  obtain ⟨c, hc, rfl⟩ := rg_n (n := nC π) (by rw [← a8.1]; exact q)
  obtain ⟨s, hs, rfl⟩ := rg_n qy
  have cc : (nI c).toNatClampNeg = c := cl_nI (by omega)
  have cs : (nI s).toNatClampNeg = s := cl_nI (by omega)
  refine (d_methodWith h.1 c s).i ?_
  rw [e4]
  have neg : mW π c s < (0 : Int32) ↔ mW π c s = -1 := by
    rcases mW_cases π c s with e | ⟨m, hm, e⟩
    · rw [e]; exact ⟨fun _ => rfl, fun _ => by decide⟩
    · rw [e]; exact ⟨fun k => absurd k (nI_pos (by omega)), fun k => absurd k (nI_m1 (by omega))⟩
  refine ⟨fun q4 => ?_, fun q4 => Or.inr ⟨fun k => q4 (neg.mpr (by have := k.2.2.1; rwa [cc, cs] at this)), (by unfold badM; rw [if_pos q, if_pos qy, cc, cs, if_neg (fun k => q4 (neg.mpr k))]), rfl⟩⟩
  have q5 := neg.mp q4
  refine ⟨fun hne => ?_, fun he => Or.inr ⟨fun k => ?_, (by unfold badM; rw [if_pos q, if_pos qy, cc, cs, if_pos q5]), rfl⟩⟩
  · have hn : nM π < 10 := by
      rcases Nat.lt_or_ge (nM π) 10 with a | a
      · exact a
      · exact absurd (by rw [show nM π = 10 by omega]) hne
    rw [cl_nI (by omega)]
    refine ⟨vp_in_nI hn (by decide), ?_⟩
    rintro _ rfl
    rw [m_up_ne (show 25 ≠ 28 by decide), e4, cl_nI (by omega)]
    refine ⟨vp_in_nI hn (by decide), ?_⟩
    rintro _ rfl
    rw [m_up_ne (show 25 ≠ 29 by decide), m_up_ne (show 25 ≠ 28 by decide), e4, nI_1]
    refine (d_change _).v (Or.inl ⟨⟨q, qy, by rw [cc, cs]; exact q5, hn⟩, ?_, ?_⟩)
    · rw [cH_j (by decide) (by decide) (by decide) (by decide), m_up_s, upd_s, nI_pred, aM.1]
    · refine pM_of (me_wm hw ⟨c, hc, rfl⟩ ⟨s, hs, rfl⟩ hn) (fun k a b => ?_) (fun j hj => ?_) (ZM_25 h.2.2 (fun k a b => by rw [m_up_ne (by omega), m_up_ne (by omega), m_up_ne (by omega)])) (fun k hk => by rw [m_up_ne (by omega), m_up_ne (by omega), m_up_ne (by omega)])
      · rw [m_up_ne (by omega)]
        by_cases e : k = 29
        · subst e; rw [m_up_s, m_up_ne (by decide), me_29, h.1.2.1 29 (by decide) (by decide)]
        · rw [m_up_ne e]
          by_cases e' : k = 28
          · subst e'; rw [m_up_s, me_28, h.1.2.1 28 (by decide) (by decide)]
          · rw [m_up_ne e', me_k (by omega) e' e]; exact h.1.2.1 k a b
      · rw [m_up_s, m_up_ne (by decide), m_up_ne (by decide), me_25]
        by_cases e : j = 4
        · subst e; rw [upd_s, upd_s]
        · rw [upd_o e, upd_o e]; exact h.1.2.2 j hj
  · have := nI_inj (by omega) (by decide) he
    have := k.2.2.2
    omega
