/-! THE MODEL: allOf, note, empty, know; the class: inAllContexts -/
theorem l_allOf {σ : mS} {m n : Nat} (hm : m < 10) (hn : n < 6) : ∀ d c, 21 - c = d → c ≤ 21 → J M_M_allOf (qR (some (.inl (orR (fun c => σ 39 (126 * m + 6 * c + n)) 21))) σ) 5 [some (.inr (25, 0)), some (.inl (nI m)), some (.inl (nI n)), some (.inl (orR (fun c => σ 39 (126 * m + 6 * c + n)) c)), some (.inl (nI c))] [] σ := by
  intro d
  induction d with
  | zero =>
    intro c h1 h2
    have : c = 21 := by omega
    subst this
    exact r_M_allOf_5 ⟨fun _ => ⟨rfl, rfl⟩, fun q => absurd (nI_le (Nat.le_refl _) (by omega)) q⟩
  | succ d ih =>
    intro c h1 h2
    have key := ih (c + 1) (by omega) (by omega)
    rw [← nI_1] at key
    refine r_M_allOf_5 ⟨fun q => absurd q (nI_ge (by omega) (by omega)), fun _ => (d_nameAt _ m c n).i ⟨vp_in_nI (by omega) (by decide), ?_⟩⟩
    rw [cl_nI (by omega)]
    exact key
theorem d_allOf (σ : mS) {m n : Nat} (hm : m < 10) (hn : n < 6) : MR M_M_allOf [.inr (25, 0), .inl (nI m), .inl (nI n)] σ (some (.inl (orR (fun c => σ 39 (126 * m + 6 * c + n)) 21))) σ :=
  MU_of rfl rfl rfl (r_M_allOf_0 (l_allOf hm hn 21 0 rfl (by decide)))
theorem l_inAll {σ : mS} {m n : Nat} (hm : m < 10) (hn : n < 6) : ∀ d c, 21 - c = d → c ≤ 21 → J M_S_inAllContexts (qR (some (.inl (orR (fun c => σ 14 (126 * m + 6 * c + n)) 21))) σ) 5 [some (.inr (2, 0)), some (.inl (nI m)), some (.inl (nI n)), some (.inl (orR (fun c => σ 14 (126 * m + 6 * c + n)) c)), some (.inl (nI c))] [] σ := by
  intro d
  induction d with
  | zero =>
    intro c h1 h2
    have : c = 21 := by omega
    subst this
    exact r_S_inAllContexts_5 ⟨fun _ => ⟨rfl, rfl⟩, fun q => absurd (nI_le (Nat.le_refl _) (by omega)) q⟩
  | succ d ih =>
    intro c h1 h2
    have key := ih (c + 1) (by omega) (by omega)
    rw [← nI_1] at key
    refine r_S_inAllContexts_5 ⟨fun q => absurd q (nI_ge (by omega) (by omega)), fun _ => (c_namesOf _ m c).i ?_⟩
    rw [nI_add, cl_nI (by omega)]
    exact ⟨vp_in_nI (by omega) (by decide), key⟩
theorem c_inAll (σ : mS) {m n : Nat} (hm : m < 10) (hn : n < 6) : MR M_S_inAllContexts [.inr (2, 0), .inl (nI m), .inl (nI n)] σ (some (.inl (orR (fun c => σ 14 (126 * m + 6 * c + n)) 21))) σ :=
  MU_of rfl rfl rfl (r_S_inAllContexts_0 (l_inAll hm hn 21 0 rfl (by decide)))
/-- whenOf, noted for the places below x -/
noncomputable def wX (π : mS) (V S : Nat → Int32) (r : Int32) (x : Nat) : Nat → Int32 := fun j => cIf ((j < x ∧ j % 20 < nT π) ∧ ¬ (0 : Int32) ≤ V j ∧ anyC S j) r (V j)
def st49 (σ : mS) (W : Nat → Int32) : mS := fun k => if k = 49 then W else σ k
theorem st49_s {σ : mS} {W : Nat → Int32} : st49 σ W 49 = W := if_pos rfl
theorem st49_o {σ : mS} {W : Nat → Int32} {k : Nat} (h : k ≠ 49) : st49 σ W k = σ k := if_neg h
theorem st49_up {σ : mS} {W : Nat → Int32} {j : Nat} {v : Int32} : m_up (st49 σ W) 49 j v = st49 σ (upd W j v) := by
  funext k
  by_cases hk : k = 49
  · subst hk; rw [m_up_s, st49_s, st49_s]
  · rw [m_up_ne hk, st49_o hk, st49_o hk]
theorem st49_self (σ : mS) : st49 σ (σ 49) = σ := by
  funext k
  by_cases hk : k = 49
  · subst hk; exact st49_s
  · exact st49_o hk
theorem wX_at {π : mS} {V S : Nat → Int32} {r : Int32} {x : Nat} : wX π V S r x x = V x := cIf_f (fun q => by omega)
theorem wX_skip {π : mS} {V S : Nat → Int32} {r : Int32} {x y : Nat} (hxy : x ≤ y) (h : ∀ j, x ≤ j → j < y → j % 20 < nT π → ¬ (¬ (0 : Int32) ≤ V j ∧ anyC S j)) : wX π V S r y = wX π V S r x := by
  funext j
  refine cIf_c ⟨fun q => ⟨⟨?_, q.1.2⟩, q.2⟩, fun q => ⟨⟨by omega, q.1.2⟩, q.2⟩⟩
  rcases Nat.lt_or_ge j x with a | a
  · exact a
  · exact absurd q.2 (h j a q.1.1 q.1.2)
theorem wX_set {π : mS} {V S : Nat → Int32} {r : Int32} {x : Nat} (hx : x % 20 < nT π) (h : ¬ (0 : Int32) ≤ V x) (ha : anyC S x) : upd (wX π V S r x) x r = wX π V S r (x + 1) := by
  funext j
  by_cases hj : j = x
  · subst hj
    rw [upd_s]
    exact (cIf_t ⟨⟨by omega, hx⟩, h, ha⟩).symm
  · rw [upd_o hj]
    exact cIf_c ⟨fun q => ⟨⟨by omega, q.1.2⟩, q.2⟩, fun q => ⟨⟨by omega, q.1.2⟩, q.2⟩⟩
theorem any_or {S : Nat → Int32} {m n o : Nat} (hm : m < 10) (hn : n < 6) (ho : o < 20) : anyC S (120 * m + 20 * n + o) ↔ bt (orR (fun c => a0 S (126 * m + 6 * c + n)) 21) o = true := by
  unfold anyC
  rw [bt_orR, show (120 * m + 20 * n + o) / 120 = m by omega, show (120 * m + 20 * n + o) / 20 % 6 = n by omega, show (120 * m + 20 * n + o) % 20 = o by omega]
  constructor
  · rintro ⟨c, hc, h⟩
    exact ⟨c, hc, by rw [a0_at (by omega)]; exact h⟩
  · rintro ⟨c, hc, h⟩
    rw [a0_at (by omega)] at h
    exact ⟨c, hc, h⟩
theorem l_note29 {π σ : mS} (h : PM π σ) {S V : Nat → Int32} (h39 : σ 39 = a0 S) (r : Int32) {m n : Nat} (hm : m < nM π) (hn : n < 6) (Q : Option mV → mS → Prop)
    (hq : ∀ u4 u5 u6, J M_M_note Q 12 [some (.inr (25, 0)), some (.inl r), some (.inl (nI m)), some (.inl (nI n + 1)), u4, u5, u6] [] (st49 σ (wX π V S r (120 * m + 20 * (n + 1))))) :
    ∀ d o, nT π - o = d → o ≤ nT π → ∀ u6, J M_M_note Q 29 [some (.inr (25, 0)), some (.inl r), some (.inl (nI m)), some (.inl (nI n)), some (.inl (orR (fun c => a0 S (126 * m + 6 * c + n)) 21)), some (.inl (nI o)), u6] [] (st49 σ (wX π V S r (120 * m + 20 * n + o))) := by
  have hw := h.1
  have a1 := hw.nT20
  have a2 := hw.nM10.2
  have h16 : ∀ W, st49 σ W 25 16 = nI (nT π) := fun W => by rw [st49_o (by decide), h.2.2 16 (by decide), a1.1]
  intro d
  induction d with
  | zero =>
    intro o h1 h2 u6
    have : o = nT π := by omega
    subst this
    refine r_M_note_29 ⟨fun _ => ?_, fun q => absurd (by rw [h16]; exact nI_le (Nat.le_refl _) (by omega)) q⟩
    rw [← wX_skip (y := 120 * m + 20 * (n + 1)) (by omega) (fun j x1 x2 x3 => by omega)]
    exact hq _ _ _
  | succ d ih =>
    intro o h1 h2 u6
    have key := ih (o + 1) (by omega) (by omega)
    rw [← nI_1, show 120 * m + 20 * n + (o + 1) = (120 * m + 20 * n + o) + 1 by omega] at key
    have ha := any_or (S := S) (m := m) (n := n) (o := o) (by omega) hn (by omega)
    refine r_M_note_29 ⟨fun q => absurd q (by rw [h16]; exact nI_ge (by omega) (by omega)), fun _ => ?_⟩
    rintro _ rfl
    rw [pk_mul, pk_mul, nI_add, nI_add, shr1 (by omega), cl_nI (by omega), st49_s, wX_at]
    refine br_1 (fun e => ?_) (fun e => ⟨vp_in_nI (by omega) (by decide), fun e2 => ?_, fun e2 => ⟨vp_in_nI (by omega) (by decide), ?_⟩⟩)
    · rw [wX_skip (x := 120 * m + 20 * n + o) (by omega) (fun j x1 x2 x3 q => by
        have : j = 120 * m + 20 * n + o := by omega
        subst this
        rw [ha.mp q.2] at e
        cases e)] at key
      exact key _
    · rw [wX_skip (x := 120 * m + 20 * n + o) (by omega) (fun j x1 x2 x3 q => by
        have : j = 120 * m + 20 * n + o := by omega
        subst this
        exact q.1 e2)] at key
      exact key _
    · rw [st49_up, wX_set (by omega) e2 (ha.mpr e)]
      exact key _
theorem l_note12 {π σ : mS} (h : PM π σ) {S V : Nat → Int32} (h39 : σ 39 = a0 S) (r : Int32) {m : Nat} (hm : m < nM π) (Q : Option mV → mS → Prop)
    (hq : ∀ u3 u4 u5 u6, J M_M_note Q 2 [some (.inr (25, 0)), some (.inl r), some (.inl (nI m + 1)), u3, u4, u5, u6] [] (st49 σ (wX π V S r (120 * (m + 1))))) :
    ∀ d n, 6 - n = d → n ≤ 6 → ∀ u4 u5 u6, J M_M_note Q 12 [some (.inr (25, 0)), some (.inl r), some (.inl (nI m)), some (.inl (nI n)), u4, u5, u6] [] (st49 σ (wX π V S r (120 * m + 20 * n))) := by
  have hw := h.1
  have a2 := hw.nM10.2
  intro d
  induction d with
  | zero =>
    intro n h1 h2 u4 u5 u6
    have : n = 6 := by omega
    subst this
    refine r_M_note_12 ⟨fun _ => ?_, fun q => absurd (nI_le (Nat.le_refl _) (by omega)) q⟩
    exact hq _ _ _ _
  | succ d ih =>
    intro n h1 h2 u4 u5 u6
    have key := ih (n + 1) (by omega) (by omega)
    rw [← nI_1] at key
    refine r_M_note_12 ⟨fun q => absurd q (nI_ge (by omega) (by omega)), fun _ => (d_allOf _ (by omega) (by omega)).i ?_⟩
    rw [st49_o (by decide), h39]
    exact l_note29 h h39 r hm (by omega) Q key (nT π) 0 rfl (Nat.zero_le _) _
theorem l_note2 {π σ : mS} (h : PM π σ) {S V : Nat → Int32} (h39 : σ 39 = a0 S) (r : Int32) (Q : Option mV → mS → Prop) (hq : Q none (st49 σ (wX π V S r (120 * nM π)))) :
    ∀ d m, nM π - m = d → m ≤ nM π → ∀ u3 u4 u5 u6, J M_M_note Q 2 [some (.inr (25, 0)), some (.inl r), some (.inl (nI m)), u3, u4, u5, u6] [] (st49 σ (wX π V S r (120 * m))) := by
  have hw := h.1
  have a2 := hw.nM10
  have h4 : ∀ W, st49 σ W 25 4 = nI (nM π) := fun W => by rw [st49_o (by decide), h.2.2 4 (by decide), a2.1]
  intro d
  induction d with
  | zero =>
    intro m h1 h2 u3 u4 u5 u6
    have : m = nM π := by omega
    subst this
    exact r_M_note_2 ⟨fun _ => hq, fun q => absurd (by rw [h4]; exact nI_le (Nat.le_refl _) (by omega)) q⟩
  | succ d ih =>
    intro m h1 h2 u3 u4 u5 u6
    have key := ih (m + 1) (by omega) (by omega)
    rw [← nI_1] at key
    refine r_M_note_2 ⟨fun q => absurd q (by rw [h4]; exact nI_ge (by omega) (by omega)), fun _ => ?_⟩
    exact l_note12 h h39 r (by omega) Q key 6 0 rfl (by decide) _ _ _
theorem d_note {π σ : mS} (h : PM π σ) {S : Nat → Int32} (h39 : σ 39 = a0 S) (r : Int32) : MR M_M_note [.inr (25, 0), .inl r] σ none (st49 σ (wX π (σ 49) S r (120 * nM π))) := by
  refine MU_of rfl rfl rfl (r_M_note_0 ?_)
  have h0 := l_note2 h (V := σ 49) h39 r (qR none (st49 σ (wX π (σ 49) S r (120 * nM π)))) ⟨rfl, rfl⟩ (nM π) 0 rfl (Nat.zero_le _) none none none none
  have e : wX π (σ 49) S r (120 * 0) = σ 49 := by
    funext j
    exact cIf_f (fun q => by omega)
  rw [e, st49_self] at h0
  exact h0
/-- empty -/
def ZM (σ : mS) : Prop := (∀ j, 1260 ≤ j → σ 39 j = 0 ∧ σ 40 j = 0) ∧ (∀ j, 160 ≤ j → σ 41 j = 0 ∧ σ 42 j = 0) ∧ (∀ j, 20 ≤ j → σ 43 j = 0 ∧ σ 44 j = 0) ∧ (∀ j, 4 ≤ j → σ 45 j = 0 ∧ σ 46 j = 0) ∧ (∀ j, 10 ≤ j → σ 47 j = 0 ∧ σ 48 j = 0) ∧ ∀ j, 1200 ≤ j → σ 49 j = 0
def emp4 (π σ : mS) (i : Nat) : mS := fun k => if k = 47 then (fun j => if j < i then (if j = 0 ∧ 0 < nM π then 1 else 0) else σ 47 j) else σ k
theorem emp4_s {π σ : mS} {i : Nat} : emp4 π σ i 47 = fun j => if j < i then (if j = 0 ∧ 0 < nM π then 1 else 0) else σ 47 j := if_pos rfl
theorem emp4_o {π σ : mS} {i k : Nat} (h : k ≠ 47) : emp4 π σ i k = σ k := if_neg h
theorem emp4_up {π σ : mS} {i : Nat} {v : Int32} (hv : v = if i = 0 ∧ 0 < nM π then 1 else 0) : m_up (emp4 π σ i) 47 i v = emp4 π σ (i + 1) := by
  funext k
  by_cases hk : k = 47
  · subst hk
    rw [m_up_s, emp4_s, emp4_s]
    funext j
    by_cases hj : j = i
    · subst hj; rw [upd_s, if_pos (by omega), hv]
    · rw [upd_o hj]
      by_cases h2 : j < i
      · rw [if_pos h2, if_pos (show j < i + 1 by omega)]
      · rw [if_neg h2, if_neg (show ¬ j < i + 1 by omega)]
  · rw [m_up_ne hk, emp4_o hk, emp4_o hk]
theorem l_empty87 {π σ : mS} (hw : WM π) (h4 : σ 25 4 = nI (nM π)) (Q : Option mV → mS → Prop) (hq : J M_M_empty Q 123 [some (.inr (25, 0)), some (.inl (0 : Int32))] [] (emp4 π σ 10)) : ∀ d i, 10 - i = d → i ≤ 10 → J M_M_empty Q 87 [some (.inr (25, 0)), some (.inl (nI i))] [] (emp4 π σ i) := by
  have a2 := hw.nM10.2
  intro d
  induction d with
  | zero =>
    intro i h1 h2
    have : i = 10 := by omega
    subst this
    exact r_M_empty_87 ⟨fun _ => hq, fun q => absurd (nI_le (Nat.le_refl _) (by omega)) q⟩
  | succ d ih =>
    intro i h1 h2
    have key := ih (i + 1) (by omega) (by omega)
    rw [← nI_1] at key
    have vi := vp_in_nI (n := i) (N := 10) (by omega) (by decide)
    refine r_M_empty_87 ⟨fun q => absurd q (nI_ge (by omega) (by omega)), fun _ => ?_⟩
    rw [cl_nI (by omega), emp4_o (by decide), h4]
    refine ⟨fun e => ⟨vi, ?_⟩, fun e => ⟨fun e2 => ⟨vi, ?_⟩, fun e2 => ⟨vi, ?_⟩⟩⟩
    · have h0 : i ≠ 0 := fun q => e (by rw [q, nI_0])
      rw [emp4_up (by rw [if_neg (fun q => h0 q.1)])]
      exact key
    · have h0 : ¬ 0 < nM π := fun q => absurd e2 (nI_nle q (by omega))
      rw [emp4_up (by rw [if_neg (fun q => h0 q.2)])]
      exact key
    · have h0 : i = 0 := nI_inj (by omega) (by decide) e
      have h1 : 0 < nM π := by
        rcases Nat.eq_zero_or_pos (nM π) with q | q
        · rw [q] at e2; exact absurd (by decide) e2
        · exact q
      rw [emp4_up (by rw [if_pos ⟨h0, h1⟩])]
      exact key
def kNow (σ : mS) (S : Nat → Int32) : Prop := σ 39 = a0 S ∧ σ 41 = a1 S ∧ σ 43 = a2 S ∧ σ 45 = a3 S ∧ σ 47 = a4 S
def ZT (σ : mS) : Prop := (∀ j, 1260 ≤ j → σ 40 j = 0) ∧ (∀ j, 160 ≤ j → σ 42 j = 0) ∧ (∀ j, 20 ≤ j → σ 44 j = 0) ∧ (∀ j, 4 ≤ j → σ 46 j = 0) ∧ ∀ j, 10 ≤ j → σ 48 j = 0
def V0 : Nat → Int32 := fun j => if j < 1200 then -1 else 0
theorem d_empty {π σ : mS} (h : PM π σ) (hz : ZM σ) : MU M_M_empty [.inr (25, 0)] σ (fun r τ => r = none ∧ kNow τ (T0 π) ∧ τ 49 = V0 ∧ ∀ k, k ≠ 39 → k ≠ 41 → k ≠ 43 → k ≠ 45 → k ≠ 47 → k ≠ 49 → τ k = σ k) := by
  have hw := h.1
  have aM := hw.nM10
  refine MU_of rfl rfl rfl (r_M_empty_0 ?_)
  generalize hq : (fun (r : Option mV) (τ : mS) => r = none ∧ kNow τ (T0 π) ∧ τ 49 = V0 ∧ ∀ k, k ≠ 39 → k ≠ 41 → k ≠ 43 → k ≠ 45 → k ≠ 47 → k ≠ 49 → τ k = σ k) = Q
  refine fl_loop (P := fun x σ => J M_M_empty Q 2 [some (.inr (25, 0)), some (.inl x)] [] σ) (K := fun σ => J M_M_empty Q 24 [some (.inr (25, 0)), some (.inl (0 : Int32))] [] σ) (n := 1260) (b := 39) (v := 0) (by decide) (fun x σ h => r_M_empty_2 h) σ ?_
  refine fl_loop (P := fun x σ => J M_M_empty Q 24 [some (.inr (25, 0)), some (.inl x)] [] σ) (K := fun σ => J M_M_empty Q 46 [some (.inr (25, 0)), some (.inl (0 : Int32))] [] σ) (n := 160) (b := 41) (v := 0) (by decide) (fun x σ h => r_M_empty_24 h) _ ?_
  refine fl_loop (P := fun x σ => J M_M_empty Q 46 [some (.inr (25, 0)), some (.inl x)] [] σ) (K := fun σ => J M_M_empty Q 67 [some (.inr (25, 0)), some (.inl (0 : Int32))] [] σ) (n := 20) (b := 43) (v := 0) (by decide) (fun x σ h => r_M_empty_46 h) _ ?_
  refine fl_loop (P := fun x σ => J M_M_empty Q 67 [some (.inr (25, 0)), some (.inl x)] [] σ) (K := fun σ => J M_M_empty Q 87 [some (.inr (25, 0)), some (.inl (0 : Int32))] [] σ) (n := 4) (b := 45) (v := 0) (by decide) (fun x σ h => r_M_empty_67 h) _ ?_
  generalize hσ1 : m_fl (m_fl (m_fl (m_fl σ 39 0 1260 0) 41 0 160 0) 43 0 20 0) 45 0 4 0 = s1
  have so : ∀ k, k ≠ 39 → k ≠ 41 → k ≠ 43 → k ≠ 45 → s1 k = σ k := fun k b1 b2 b3 b4 => by rw [← hσ1, m_fl_o b4, m_fl_o b3, m_fl_o b2, m_fl_o b1]
  have T00 : ∀ p, p ≠ 1444 → T0 π p = 0 := fun p hp => by unfold T0; rw [if_neg (fun q => hp q.1)]
  have s39 : s1 39 = a0 (T0 π) := by
    rw [← hσ1, m_fl_o (by decide), m_fl_o (by decide), m_fl_o (by decide), m_fl_s]
    funext j
    unfold a0
    by_cases hj : j < 1260
    · rw [if_pos (by omega), if_pos hj, T00 j (by omega)]
    · rw [if_neg (by omega), if_neg hj]; exact (hz.1 j (by omega)).1
  have s41 : s1 41 = a1 (T0 π) := by
    rw [← hσ1, m_fl_o (by decide), m_fl_o (by decide), m_fl_s, m_fl_o (by decide)]
    funext j
    unfold a1
    by_cases hj : j < 160
    · rw [if_pos (by omega), if_pos hj, T00 _ (by omega)]
    · rw [if_neg (by omega), if_neg hj]; exact (hz.2.1 j (by omega)).1
  have s43 : s1 43 = a2 (T0 π) := by
    rw [← hσ1, m_fl_o (by decide), m_fl_s, m_fl_o (by decide), m_fl_o (by decide)]
    funext j
    unfold a2
    by_cases hj : j < 20
    · rw [if_pos (by omega), if_pos hj, T00 _ (by omega)]
    · rw [if_neg (by omega), if_neg hj]; exact (hz.2.2.1 j (by omega)).1
  have s45 : s1 45 = a3 (T0 π) := by
    rw [← hσ1, m_fl_s, m_fl_o (by decide), m_fl_o (by decide), m_fl_o (by decide)]
    funext j
    unfold a3
    by_cases hj : j < 4
    · rw [if_pos (by omega), if_pos hj, T00 _ (by omega)]
    · rw [if_neg (by omega), if_neg hj]; exact (hz.2.2.2.1 j (by omega)).1
  have h4 : s1 25 4 = nI (nM π) := by rw [so 25 (by decide) (by decide) (by decide) (by decide), h.2.2 4 (by decide), aM.1]
  have e0 : emp4 π s1 0 = s1 := by
    funext k
    by_cases hk : k = 47
    · subst hk; rw [emp4_s]; funext j; rw [if_neg (by omega)]
    · exact emp4_o hk
  have g87 := l_empty87 hw h4 Q ?_ 10 0 rfl (by decide)
  · rw [e0, nI_0] at g87
    exact g87
  · refine fl_loop (P := fun x σ => J M_M_empty Q 123 [some (.inr (25, 0)), some (.inl x)] [] σ) (K := fun σ => Q none σ) (n := 1200) (b := 49) (v := -1) (by decide) (fun x σ h => r_M_empty_123 h) _ ?_
    rw [← hq]
    refine ⟨rfl, ⟨?_, ?_, ?_, ?_, ?_⟩, ?_, fun k b1 b2 b3 b4 b5 b6 => ?_⟩
    · rw [m_fl_o (by decide), emp4_o (by decide), s39]
    · rw [m_fl_o (by decide), emp4_o (by decide), s41]
    · rw [m_fl_o (by decide), emp4_o (by decide), s43]
    · rw [m_fl_o (by decide), emp4_o (by decide), s45]
    · rw [m_fl_o (by decide), emp4_s, so 47 (by decide) (by decide) (by decide) (by decide)]
      funext j
      unfold a4
      by_cases hj : j < 10
      · rw [if_pos hj, if_pos hj]
        unfold T0
        by_cases h0 : j = 0 ∧ 0 < nM π
        · rw [if_pos h0, if_pos ⟨by omega, h0.2⟩]
        · rw [if_neg h0, if_neg (fun q => h0 ⟨by omega, q.2⟩)]
      · rw [if_neg hj, if_neg hj]; exact (hz.2.2.2.2.1 j (by omega)).1
    · rw [m_fl_s, emp4_o (by decide), so 49 (by decide) (by decide) (by decide) (by decide)]
      funext j
      unfold V0
      by_cases hj : j < 1200
      · rw [if_pos (by omega), if_pos hj]
      · rw [if_neg (by omega), if_neg hj]; exact hz.2.2.2.2.2 j (by omega)
    · rw [m_fl_o b6, emp4_o b5, so k b1 b2 b3 b4]
