/-! THE MODEL: know -/
noncomputable def vN (π : mS) : Nat → Nat → Int32
  | 0 => V0
  | n + 1 => wX π (vN π n) (it π (n + 1)) (nI (n + 1)) (120 * nM π)
theorem vN_z {π : mS} (hw : WM π) : ∀ n j, 1200 ≤ j → vN π n j = 0
  | 0, j, h => by show V0 j = 0; unfold V0; rw [if_neg (by omega)]
  | n + 1, j, h => by
    have := hw.nM10.2
    show cIf _ _ (vN π n j) = 0
    rw [cIf_f (fun q => by omega)]
    exact vN_z hw n j h
theorem wN_pos {π : mS} : ∀ k, k < 2 ^ 30 → ∀ j, (0 : Int32) ≤ wN π k j
  | 0, _, _ => by show (0 : Int32) ≤ 0; decide
  | k + 1, h, j => by
    show (0 : Int32) ≤ cIf _ (nI (k + 1)) (wN π k j)
    by_cases q : j < 1200 ∧ wN π k j = 0 ∧ anyC (it π (k + 1)) j
    · rw [cIf_t q]; exact nI_pos' (by omega)
    · rw [cIf_f q]; exact wN_pos k (by omega) j
/-- when, by class and model -/
theorem vN_wN {π : mS} (hw : WM π) {m n o : Nat} (hm : m < nM π) (hn : n < 6) (ho : o < nT π) : ∀ k, k < 2 ^ 30 → vN π k (120 * m + 20 * n + o) = if wN π k (120 * m + 20 * n + o) = 0 then -1 else wN π k (120 * m + 20 * n + o) := by
  have b1 := hw.nM10.2
  have b2 := hw.nT20.2
  intro k
  induction k with
  | zero =>
    intro _
    show V0 _ = _
    unfold V0
    rw [if_pos (by omega), if_pos (show wN π 0 (120 * m + 20 * n + o) = 0 from rfl)]
  | succ k ih =>
    intro hk
    have ih := ih (by omega)
    generalize hj : 120 * m + 20 * n + o = j at ih ⊢
    have e1 : vN π (k + 1) j = cIf ((j < 120 * nM π ∧ j % 20 < nT π) ∧ ¬ (0 : Int32) ≤ vN π k j ∧ anyC (it π (k + 1)) j) (nI (k + 1)) (vN π k j) := rfl
    have e2 : wN π (k + 1) j = cIf (j < 1200 ∧ wN π k j = 0 ∧ anyC (it π (k + 1)) j) (nI (k + 1)) (wN π k j) := rfl
    have hne : nI (k + 1) ≠ 0 := nI_ne0 (by omega) (by omega)
    by_cases h0 : wN π k j = 0
    · rw [if_pos h0] at ih
      by_cases ha : anyC (it π (k + 1)) j
      · rw [cIf_t ⟨by omega, h0, ha⟩] at e2
        rw [cIf_t ⟨⟨by omega, by omega⟩, by rw [ih]; decide, ha⟩] at e1
        rw [e1, e2, if_neg hne]
      · rw [cIf_f (fun q => ha q.2.2)] at e2
        rw [cIf_f (fun q => ha q.2.2)] at e1
        rw [e1, e2, ih, if_pos h0]
    · rw [if_neg h0] at ih
      rw [cIf_f (fun q => h0 q.2.1)] at e2
      have hpos : (0 : Int32) ≤ vN π k j := by
        rw [ih]
        exact wN_pos k (by omega) j
      rw [cIf_f (fun q => q.2.1 hpos)] at e1
      rw [e1, e2, ih, if_neg h0]
def mKn (π σ τ : mS) : Prop := (∀ k, k < 25 ∨ (26 ≤ k ∧ k ≤ 38) ∨ 50 ≤ k → τ k = σ k) ∧ (∀ j, j ≠ 19 → j ≠ 31 → τ 25 j = σ 25 j) ∧ τ 25 19 = 1
def mSets (π τ : mS) : Prop := ∃ N, N < 46528 ∧ isLast π N ∧ τ 25 31 = nI N ∧ kNow τ (it π N) ∧ τ 49 = vN π N
theorem kSt {σ : mS} {S : Nat → Int32} (h : kNow σ S) (hz : ZT σ) : cpA (cpA (cpA (cpA (cpA σ 39 40 1260) 41 42 160) 43 44 20) 45 46 4) 47 48 10 = mSt σ S S := by
  obtain ⟨h0, h1, h2, h3, h4⟩ := h
  obtain ⟨z0, z1, z2, z3, z4⟩ := hz
  refine mSt_is ?_ ?_ ?_ ?_ ?_ ?_ ?_ ?_ ?_ ?_ (fun k hk => by rw [cpA_o (by omega), cpA_o (by omega), cpA_o (by omega), cpA_o (by omega), cpA_o (by omega)])
  · rw [cpA_o (by decide), cpA_o (by decide), cpA_o (by decide), cpA_o (by decide), cpA_o (by decide), h0]
  · rw [cpA_o (by decide), cpA_o (by decide), cpA_o (by decide), cpA_o (by decide), cpA_s, h0]; funext j; unfold a0
    by_cases h : j < 1260
    · rw [if_pos h, if_pos h]
    · rw [if_neg h, if_neg h, z0 j (by omega)]
  · rw [cpA_o (by decide), cpA_o (by decide), cpA_o (by decide), cpA_o (by decide), cpA_o (by decide), h1]
  · rw [cpA_o (by decide), cpA_o (by decide), cpA_o (by decide), cpA_s, cpA_o (by decide), cpA_o (by decide), h1]; funext j; unfold a1
    by_cases h : j < 160
    · rw [if_pos h, if_pos h]
    · rw [if_neg h, if_neg h, z1 j (by omega)]
  · rw [cpA_o (by decide), cpA_o (by decide), cpA_o (by decide), cpA_o (by decide), cpA_o (by decide), h2]
  · rw [cpA_o (by decide), cpA_o (by decide), cpA_s, cpA_o (by decide), cpA_o (by decide), cpA_o (by decide), cpA_o (by decide), h2]; funext j; unfold a2
    by_cases h : j < 20
    · rw [if_pos h, if_pos h]
    · rw [if_neg h, if_neg h, z2 j (by omega)]
  · rw [cpA_o (by decide), cpA_o (by decide), cpA_o (by decide), cpA_o (by decide), cpA_o (by decide), h3]
  · rw [cpA_o (by decide), cpA_s, cpA_o (by decide), cpA_o (by decide), cpA_o (by decide), cpA_o (by decide), cpA_o (by decide), cpA_o (by decide), h3]; funext j; unfold a3
    by_cases h : j < 4
    · rw [if_pos h, if_pos h]
    · rw [if_neg h, if_neg h, z3 j (by omega)]
  · rw [cpA_o (by decide), cpA_o (by decide), cpA_o (by decide), cpA_o (by decide), cpA_o (by decide), h4]
  · rw [cpA_s, cpA_o (by decide), cpA_o (by decide), cpA_o (by decide), cpA_o (by decide), cpA_o (by decide), cpA_o (by decide), cpA_o (by decide), cpA_o (by decide), h4]; funext j; unfold a4
    by_cases h : j < 10
    · rw [if_pos h, if_pos h]
    · rw [if_neg h, if_neg h, z4 j (by omega)]
theorem mSt_now {σ0 : mS} {S T : Nat → Int32} : kNow (mSt σ0 S T) S := ⟨rfl, rfl, rfl, rfl, rfl⟩
theorem mSt_zt {σ0 : mS} {S T : Nat → Int32} : ZT (mSt σ0 S T) := ⟨fun j hj => by rw [mSt_40]; exact if_neg (by omega), fun j hj => by rw [mSt_42]; exact if_neg (by omega), fun j hj => by rw [mSt_44]; exact if_neg (by omega), fun j hj => by rw [mSt_46]; exact if_neg (by omega), fun j hj => by rw [mSt_48]; exact if_neg (by omega)⟩
/-- at the head of the rounds -/
def sK (π σ : mS) (n : Nat) (τ : mS) : Prop := mKn π σ τ ∧ τ 25 31 = nI n ∧ kNow τ (it π n) ∧ ZT τ ∧ τ 49 = vN π n
theorem mKn.pm {π σ τ : mS} (h : mKn π σ τ) (hp : PM π σ) : PM π τ := hp.to (fun k a b => h.1 k (by omega)) (fun j hj => h.2.1 j (by omega) (by omega))
theorem l_know_step {π σ : mS} (hp : PM π σ) {N : Nat} (hN : N < 46528) (hL : isLast π N) (Q : Option mV → mS → Prop)
    (hq : ∀ τ, mKn π σ τ → mSets π τ → ZT τ → Q none τ) (n : Nat) (hn : n ≤ N) (τ : mS) (hs : sK π σ n τ) (ih : n < N → ∀ τ', sK π σ (n + 1) τ' → ∀ u2 u3, J M_M_know Q 24 [some (.inr (25, 0)), some (.inl (1 : Int32)), u2, u3] [] τ') : ∀ u2 u3, J M_M_know Q 24 [some (.inr (25, 0)), some (.inl (1 : Int32)), u2, u3] [] τ := by
  intro u2 u3
  obtain ⟨hK, h31, hnow, hzt, h49⟩ := hs
  have hw := hp.1
  have hpm := hK.pm hp
  have z0 := (it_ok hw n).2
  have z1 := (it_ok hw (n + 1)).2
  have aS := hw.nS60
  have hc := d_copyG τ
  rw [kSt hnow hzt] at hc
  refine r_M_know_24 ⟨fun q => absurd q (by decide), fun _ => hc.v ?_⟩
  refine l_know34 hpm Q _ ?_ (nS π) 0 rfl (Nat.zero_le _) _
  intro u3
  refine r_M_know_34 ⟨fun _ => (d_isSame τ (it π n) (rnd π (it π n))).i ?_, fun q => absurd (by rw [mSt_o (by omega), hpm.2.2 7 (by decide), aS.1]; exact nI_le (Nat.le_refl _) (by omega)) q⟩
  have hrn : rnd π (it π n) = it π (n + 1) := rfl
  rw [hrn]
  have hfr : ∀ S T, mKn π σ (mSt τ S T) := fun S T => ⟨fun k hk => by rw [mSt_o (by omega)]; exact hK.1 k hk, fun j b1 b2 => by rw [mSt_o (by omega)]; exact hK.2.1 j b1 b2, by rw [mSt_o (by omega)]; exact hK.2.2⟩
  by_cases hlast : it π (n + 1) = it π n
  · have hnN : n = N := by
      rcases Nat.lt_or_ge n N with q | q
      · exact absurd hlast (hL.2 n q)
      · omega
    subst hnN
    have hs : sameB (it π n) (it π (n + 1)) = true := sameB_iff.mpr (fun p _ => by rw [hlast])
    rw [hs]
    refine br_b' (fun q => by cases q) (fun _ => ?_)
    refine r_M_know_99 ⟨fun _ => r_M_know_24 ⟨fun _ => ?_, fun q => absurd rfl q⟩, fun q => absurd rfl q⟩
    exact hq _ (hfr _ _) ⟨n, hN, hL, by rw [mSt_o (by omega)]; exact h31, mSt_now, by rw [mSt_o (by omega)]; exact h49⟩ mSt_zt
  · have hs : sameB (it π n) (it π (n + 1)) = false := by
      rw [← Bool.not_eq_true]
      intro q
      apply hlast
      funext p
      rcases Nat.lt_or_ge p 1454 with b | b
      · exact sameB_iff.mp q p b
      · rw [z1 p b, z0 p b]
    have hlt : n < N := by
      rcases Nat.lt_or_ge n N with q | q
      · exact q
      · have : n = N := by omega
        subst this
        exact absurd hL.1 hlast
    rw [hs]
    refine br_b' (fun _ => ?_) (fun q => by cases q)
    refine r_M_know_99 ⟨fun q => absurd q (by decide), fun _ => (d_swap τ (it π n) (it π (n + 1))).v ?_⟩
    intro t ht
    have e31 : mSt τ (it π (n + 1)) (it π (n + 1)) 25 31 + (1 : Int32) = nI (n + 1) := by rw [mSt_o (by omega), h31, nI_1]
    rw [e31] at ht
    have t25 : t 25 = upd (mSt τ (it π (n + 1)) (it π (n + 1)) 25) 31 (nI (n + 1)) := by rw [ht, m_up_s]
    have to : ∀ k, k ≠ 25 → t k = mSt τ (it π (n + 1)) (it π (n + 1)) k := fun k b => by rw [ht, m_up_ne b]
    have tK : mKn π σ t := ⟨fun k hk => by rw [to k (by omega)]; exact (hfr _ _).1 k hk, fun j b1 b2 => by rw [t25, upd_o b2]; exact (hfr _ _).2.1 j b1 b2, by rw [t25, upd_o (by decide)]; exact (hfr _ _).2.2⟩
    have t31 : t 25 31 = nI (n + 1) := by rw [t25, upd_s]
    have tnow : kNow t (it π (n + 1)) := ⟨to 39 (by decide), to 41 (by decide), to 43 (by decide), to 45 (by decide), to 47 (by decide)⟩
    have t49 : t 49 = vN π n := by rw [to 49 (by decide), mSt_o (by omega), h49]
    have tzt : ZT t := by
      refine ⟨?_, ?_, ?_, ?_, ?_⟩
      · rw [to 40 (by decide)]; exact mSt_zt.1
      · rw [to 42 (by decide)]; exact mSt_zt.2.1
      · rw [to 44 (by decide)]; exact mSt_zt.2.2.1
      · rw [to 46 (by decide)]; exact mSt_zt.2.2.2.1
      · rw [to 48 (by decide)]; exact mSt_zt.2.2.2.2
    have hn := d_note (tK.pm hp) tnow.1 (nI (n + 1))
    rw [t31]
    refine hn.v ?_
    rw [t49]
    refine ih hlt _ ⟨⟨fun k hk => by rw [st49_o (by omega)]; exact tK.1 k hk, fun j b1 b2 => by rw [st49_o (by decide)]; exact tK.2.1 j b1 b2, by rw [st49_o (by decide)]; exact tK.2.2⟩, by rw [st49_o (by decide)]; exact t31, ⟨by rw [st49_o (by decide)]; exact tnow.1, by rw [st49_o (by decide)]; exact tnow.2.1, by rw [st49_o (by decide)]; exact tnow.2.2.1, by rw [st49_o (by decide)]; exact tnow.2.2.2.1, by rw [st49_o (by decide)]; exact tnow.2.2.2.2⟩, ⟨by rw [st49_o (by decide)]; exact tzt.1, by rw [st49_o (by decide)]; exact tzt.2.1, by rw [st49_o (by decide)]; exact tzt.2.2.1, by rw [st49_o (by decide)]; exact tzt.2.2.2.1, by rw [st49_o (by decide)]; exact tzt.2.2.2.2⟩, by rw [st49_s]; rfl⟩ _ _
theorem l_know {π σ : mS} (hp : PM π σ) {N : Nat} (hN : N < 46528) (hL : isLast π N) (Q : Option mV → mS → Prop)
    (hq : ∀ τ, mKn π σ τ → mSets π τ → ZT τ → Q none τ) : ∀ d n, N - n = d → n ≤ N → ∀ τ, sK π σ n τ → ∀ u2 u3, J M_M_know Q 24 [some (.inr (25, 0)), some (.inl (1 : Int32)), u2, u3] [] τ := by
  intro d
  induction d with
  | zero =>
    intro n h1 h2 τ hs
    have : n = N := by omega
    subst this
    exact l_know_step hp hN hL Q hq n (Nat.le_refl _) τ hs (fun h => absurd h (by omega))
  | succ d ih =>
    intro n h1 h2 τ hs
    exact l_know_step hp hN hL Q hq n h2 τ hs (fun _ τ' hs' => ih (n + 1) (by omega) (by omega) τ' hs')
/-- the model's sets, as they are told -/
def RMs (π σ : mS) : Prop := (σ 25 19 = 0 ∨ (σ 25 19 = 1 ∧ mSets π σ)) ∧ ZM σ
theorem d_know {π σ : mS} (hp : PM π σ) (hs : RMs π σ) : MU M_M_know [.inr (25, 0)] σ (fun r τ => r = none ∧ mKn π σ τ ∧ mSets π τ ∧ ZM τ) := by
  have hw := hp.1
  obtain ⟨N, hN, hL⟩ := ex_last hw
  have zm : ∀ τ, mSets π τ → ZT τ → ZM τ := by
    rintro τ ⟨K, -, -, -, hn, h49⟩ hz
    refine ⟨fun j hj => ⟨?_, hz.1 j hj⟩, fun j hj => ⟨?_, hz.2.1 j hj⟩, fun j hj => ⟨?_, hz.2.2.1 j hj⟩, fun j hj => ⟨?_, hz.2.2.2.1 j hj⟩, fun j hj => ⟨?_, hz.2.2.2.2 j hj⟩, fun j hj => ?_⟩
    · rw [hn.1]; exact if_neg (by omega)
    · rw [hn.2.1]; exact if_neg (by omega)
    · rw [hn.2.2.1]; exact if_neg (by omega)
    · rw [hn.2.2.2.1]; exact if_neg (by omega)
    · rw [hn.2.2.2.2]; exact if_neg (by omega)
    · rw [h49]; exact vN_z hw K j hj
  refine MU_of rfl rfl rfl (r_M_know_0 ⟨fun _ => ?_, fun hne => ?_⟩)
  · have hp1 : PM π (m_up σ 25 19 (1 : Int32)) := hp.to (fun k b1 b2 => m_up_ne (by omega)) (fun j hj => by rw [m_up_s, upd_o (by omega)])
    have hz := hs.2
    have hz1 : ZM (m_up σ 25 19 (1 : Int32)) := by
      unfold ZM at *
      rw [m_up_ne (by decide), m_up_ne (by decide), m_up_ne (by decide), m_up_ne (by decide), m_up_ne (by decide), m_up_ne (by decide), m_up_ne (by decide), m_up_ne (by decide), m_up_ne (by decide), m_up_ne (by decide), m_up_ne (by decide)]
      exact hz
    refine (d_empty hp1 hz1).mono ?_
    rintro r τ ⟨rfl, hn, h49, ho⟩
    refine ⟨rfl, ?_⟩
    have to : ∀ k, k ≠ 25 → m_up τ 25 31 (0 : Int32) k = τ k := fun k b => m_up_ne b
    refine l_know hp hN hL _ (fun t c1 c2 c3 => ⟨rfl, c1, c2, zm t c2 c3⟩) N 0 rfl (Nat.zero_le _) _ ⟨⟨fun k hk => ?_, fun j b1 b2 => ?_, ?_⟩, by rw [m_up_s, upd_s, nI_0], ⟨?_, ?_, ?_, ?_, ?_⟩, ⟨?_, ?_, ?_, ?_, ?_⟩, ?_⟩ _ _
    · rw [to k (by omega), ho k (by omega) (by omega) (by omega) (by omega) (by omega) (by omega), m_up_ne (by omega)]
    · rw [m_up_s, upd_o b2, ho 25 (by decide) (by decide) (by decide) (by decide) (by decide) (by decide), m_up_s, upd_o b1]
    · rw [m_up_s, upd_o (by decide), ho 25 (by decide) (by decide) (by decide) (by decide) (by decide) (by decide), m_up_s, upd_s]
    · rw [to 39 (by decide)]; exact hn.1
    · rw [to 41 (by decide)]; exact hn.2.1
    · rw [to 43 (by decide)]; exact hn.2.2.1
    · rw [to 45 (by decide)]; exact hn.2.2.2.1
    · rw [to 47 (by decide)]; exact hn.2.2.2.2
    · rw [to 40 (by decide), ho 40 (by decide) (by decide) (by decide) (by decide) (by decide) (by decide)]; exact fun j hj => (hz1.1 j hj).2
    · rw [to 42 (by decide), ho 42 (by decide) (by decide) (by decide) (by decide) (by decide) (by decide)]; exact fun j hj => (hz1.2.1 j hj).2
    · rw [to 44 (by decide), ho 44 (by decide) (by decide) (by decide) (by decide) (by decide) (by decide)]; exact fun j hj => (hz1.2.2.1 j hj).2
    · rw [to 46 (by decide), ho 46 (by decide) (by decide) (by decide) (by decide) (by decide) (by decide)]; exact fun j hj => (hz1.2.2.2.1 j hj).2
    · rw [to 48 (by decide), ho 48 (by decide) (by decide) (by decide) (by decide) (by decide) (by decide)]; exact fun j hj => (hz1.2.2.2.2.1 j hj).2
    · rw [to 49 (by decide), h49]; rfl
  · rcases hs.1 with h | ⟨h1, h2⟩
    · exact absurd h hne
    · exact ⟨rfl, ⟨fun _ _ => rfl, fun _ _ _ => rfl, h1⟩, h2, hs.2⟩
