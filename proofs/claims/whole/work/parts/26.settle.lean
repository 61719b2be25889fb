/-! Sets.settle -/
theorem m_fl_s {σ : mS} {k a b : Nat} {v : Int32} : m_fl σ k a b v k = fun j => if a ≤ j ∧ j < b then v else σ k j := if_pos rfl
theorem m_fl_o {σ : mS} {k a b i : Nat} {v : Int32} (h : i ≠ k) : m_fl σ k a b v i = σ i := if_neg h
def ZC (σ : mS) : Prop := (∀ j, 1454 ≤ j → σ 13 j = 0 ∧ σ 14 j = 0) ∧ ∀ j, 1200 ≤ j → σ 15 j = 0
def setOK (π σ : mS) : Prop := ∃ N, N < 46528 ∧ isLast π N ∧ σ 2 6 = nI N ∧ σ 14 = it π N ∧ σ 15 = wN π N
def RCs (π σ : mS) : Prop := (σ 2 7 = 0 ∨ (σ 2 7 = 1 ∧ setOK π σ)) ∧ ZC σ
def FS (σ τ : mS) : Prop := (∀ k, k ≠ 2 → k ≠ 13 → k ≠ 14 → k ≠ 15 → τ k = σ k) ∧ ∀ j, j < 4 ∨ 8 ≤ j → τ 2 j = σ 2 j
theorem wN_z {π : mS} : ∀ n j, 1200 ≤ j → wN π n j = 0
  | 0, _, _ => rfl
  | n + 1, j, h => by
    have e : wN π (n + 1) j = cIf (j < 1200 ∧ wN π n j = 0 ∧ anyC (it π (n + 1)) j) (nI (n + 1)) (wN π n j) := rfl
    rw [e, cIf_f (fun q => by omega)]
    exact wN_z n j h
/-- the state at the head of the rounds -/
def sN (π σ : mS) (n : Nat) (τ : mS) : Prop := FS σ τ ∧ τ 2 4 = nI n ∧ τ 14 = it π n ∧ τ 15 = wN π n ∧ ∀ j, 1454 ≤ j → τ 13 j = 0
theorem FS.rc {π σ τ : mS} (h : FS σ τ) (hR : RCp π σ) : RCp π τ := hR.to (h.2 8 (by omega)) (fun k hk => h.1 k (by omega) (by omega) (by omega) (by omega))
theorem grew_ne {B T : Nat → Int32} (hB : zR B) (hT : zR T) : grew B T ↔ T ≠ B := by
  constructor
  · rintro ⟨p, hp, h⟩ e
    rw [e] at h
    exact h rfl
  · intro h
    obtain ⟨p, hp, q⟩ := row_ne hT hB h
    exact ⟨p, hp, q⟩
theorem l_settle_step {π σ : mS} (hR : RCp π σ) {N : Nat} (hN : N < 46528) (hL : isLast π N) (Q : Option mV → mS → Prop)
    (hq : ∀ τ, FS σ τ → τ 2 7 = 1 → setOK π τ → ZC τ → Q none τ) (n : Nat) (hn : n ≤ N) (τ : mS) (hs : sN π σ n τ) (ih : n < N → ∀ τ', sN π σ (n + 1) τ' → J M_S_settle Q 48 [some (.inr (2, 0))] [] τ') : J M_S_settle Q 48 [some (.inr (2, 0))] [] τ := by
  obtain ⟨hF, h4, h14, h15, h13⟩ := hs
  have hw := hR.1
  have z0 := (it_ok hw n).2
  have z1 := (it_ok hw (n + 1)).2
  refine r_S_settle_48 ⟨by decide, ?_⟩
  generalize hσ1 : m_up (m_cp (m_up τ 2 4 (τ 2 4 + (1 : Int32))) 14 13 (0 : Int32).toNatClampNeg (0 : Int32).toNatClampNeg (nI 1454).toNatClampNeg) 2 5 (0 : Int32) = σ1
  have e0 : (0 : Int32).toNatClampNeg = 0 := by decide
  have e1 : (nI 1454).toNatClampNeg = 1454 := cl_nI (by decide)
  rw [e0, e1] at hσ1
  have g14 : σ1 14 = it π n := by
    rw [← hσ1, m_up_ne (by decide), ← m_cp_o 14 (by decide), m_up_ne (by decide), h14]
  have g15 : σ1 15 = wN π n := by
    rw [← hσ1, m_up_ne (by decide), ← m_cp_o 15 (by decide), m_up_ne (by decide), h15]
  have g13 : σ1 13 = it π n := by
    rw [← hσ1, m_up_ne (by decide)]
    unfold m_cp
    rw [if_pos rfl, m_up_ne (by decide), m_up_ne (by decide), h14]
    funext j
    unfold va_cpy
    by_cases hj : j < 1454
    · rw [if_pos (by omega)]; congr 1; omega
    · rw [if_neg (by omega), h13 j (by omega), z0 j (by omega)]
  have g2 : σ1 2 = upd (upd (τ 2) 4 (nI (n + 1))) 5 0 := by
    rw [← hσ1, m_up_s, ← m_cp_o 2 (by decide), m_up_s, h4, nI_1]
  have go : ∀ k, k ≠ 2 → k ≠ 13 → σ1 k = τ k := fun k a b => by
    rw [← hσ1, m_up_ne a, ← m_cp_o k b, m_up_ne a]
  have g24 : σ1 2 4 = nI (n + 1) := by rw [g2, upd_o (by decide), upd_s]
  have hF1 : FS σ σ1 := ⟨fun k a b c d => by rw [go k a b]; exact hF.1 k a b c d, fun j hj => by rw [g2, upd_o (by omega), upd_o (by omega)]; exact hF.2 j hj⟩
  have hR1 := hF1.rc hR
  have self : stR σ1 (it π n) = σ1 := by
    funext k
    by_cases k1 : k = 14
    · subst k1; rw [stR_14, g14]
    · by_cases k2 : k = 15
      · subst k2; rw [stR_15, g15, wN_last (by omega)]
      · by_cases k3 : k = 2
        · subst k3
          rw [stR_2, g13, cIf_f (fun q => (grew_ne z0 z0).mp q rfl)]
          funext j
          by_cases hj : j = 5
          · subst hj; rw [upd_s, g2, upd_s]
          · rw [upd_o hj]
        · rw [stR_o k1 k2 k3]
  have hok : rOK σ1 (it π n) := ⟨by rw [g24]; exact nI_ne0 (by omega) (by omega), by rw [g13]; exact subR.rf _⟩
  have hd := c_doRound hR1 hok
  rw [self, g13] at hd
  refine hd.v ?_
  have r14 : stR σ1 (orAll (it π n) (lM π (it π n))) = stR σ1 (it π (n + 1)) := rfl
  rw [r14]
  have s25 : stR σ1 (it π (n + 1)) 2 5 = cIf (it π (n + 1) ≠ it π n) 1 0 := by
    rw [stR_2, upd_s, g13]
    exact cIf_c (grew_ne z0 z1)
  have s24 : stR σ1 (it π (n + 1)) 2 4 = nI (n + 1) := by rw [stR_2, upd_o (by decide), g24]
  have sF : FS σ (stR σ1 (it π (n + 1))) := ⟨fun k a b c d => by rw [stR_o c d a]; exact hF1.1 k a b c d, fun j hj => by rw [stR_2, upd_o (by omega)]; exact hF1.2 j hj⟩
  have s13 : ∀ j, 1454 ≤ j → stR σ1 (it π (n + 1)) 13 j = 0 := fun j hj => by rw [stR_13, g13, z0 j hj]
  rw [s25, s24]
  by_cases hlast : it π (n + 1) = it π n
  · -- the last round
    have hnN : n = N := by
      rcases Nat.lt_or_ge n N with q | q
      · exact absurd hlast (hL.2 n q)
      · omega
    subst hnN
    rw [cIf_f (fun q => q hlast)]
    refine ⟨fun _ => ?_, fun q => absurd rfl q⟩
    rw [hlast] at sF s13 ⊢
    rw [show nI (n + 1) - (1 : Int32) = nI n from nI_pred n]
    generalize hτ : m_up (m_up (stR σ1 (it π n)) 2 6 (nI n)) 2 7 (1 : Int32) = t
    have t2 : t 2 = upd (upd (stR σ1 (it π n) 2) 6 (nI n)) 7 1 := by rw [← hτ, m_up_s, m_up_s]
    have to : ∀ k, k ≠ 2 → t k = stR σ1 (it π n) k := fun k a => by rw [← hτ, m_up_ne a, m_up_ne a]
    have t14 : t 14 = it π n := by rw [to 14 (by decide), stR_14]
    have t15 : t 15 = wN π n := by rw [to 15 (by decide), stR_15, g15, wN_last (by omega)]
    refine hq t ⟨fun k a b c d => by rw [to k a]; exact sF.1 k a b c d, fun j hj => by rw [t2, upd_o (by omega), upd_o (by omega)]; exact sF.2 j hj⟩ (by rw [t2, upd_s]) ⟨n, hN, hL, by rw [t2, upd_o (by decide), upd_s], t14, t15⟩ ⟨fun j hj => ⟨?_, by rw [t14, z0 j hj]⟩, fun j hj => by rw [t15, wN_z n j hj]⟩
    rw [to 13 (by decide)]
    exact s13 j hj
  · rw [cIf_t hlast]
    have hlt : n < N := by
      rcases Nat.lt_or_ge n N with q | q
      · exact q
      · have : n = N := by omega
        subst this
        exact absurd hL.1 hlast
    refine ⟨fun q => absurd q (by decide), fun _ => ⟨fun _ => ih hlt _ ⟨sF, s24, stR_14, ?_, s13⟩, fun q => absurd (nI_lt (by omega) (by decide)) q⟩⟩
    rw [stR_15, g15, g24]
    rfl
theorem l_settle {π σ : mS} (hR : RCp π σ) {N : Nat} (hN : N < 46528) (hL : isLast π N) (Q : Option mV → mS → Prop)
    (hq : ∀ τ, FS σ τ → τ 2 7 = 1 → setOK π τ → ZC τ → Q none τ) : ∀ d n, N - n = d → n ≤ N → ∀ τ, sN π σ n τ → J M_S_settle Q 48 [some (.inr (2, 0))] [] τ := by
  intro d
  induction d with
  | zero =>
    intro n h1 h2 τ hs
    have : n = N := by omega
    subst this
    exact l_settle_step hR hN hL Q hq n (Nat.le_refl _) τ hs (fun h => absurd h (by omega))
  | succ d ih =>
    intro n h1 h2 τ hs
    exact l_settle_step hR hN hL Q hq n h2 τ hs (fun _ τ' hs' => ih (n + 1) (by omega) (by omega) τ' hs')
theorem c_settle {π σ : mS} (hR : RCp π σ) (hS : RCs π σ) : MU M_S_settle [.inr (2, 0)] σ (fun r τ => r = none ∧ FS σ τ ∧ τ 2 7 = 1 ∧ setOK π τ ∧ ZC τ) := by
  have hw := hR.1
  have a2 := hw.nM10
  obtain ⟨N, hN, hL⟩ := ex_last hw
  refine MU_of rfl rfl rfl (r_S_settle_0 ⟨fun _ => ?_, fun hne => ?_⟩)
  · refine (c_fill σ 14 0 (by decide) (by decide)).v ((c_fill _ 15 0 (by decide) (by decide)).v ?_)
    generalize hσ1 : m_fl (m_fl σ (m_cl (14, 0)) 0 (a_n (m_cl (14, 0))) 0) (m_cl (15, 0)) 0 (a_n (m_cl (15, 0))) 0 = s1
    have hσ1 : m_fl (m_fl σ 14 0 1454 0) 15 0 1200 0 = s1 := hσ1
    have s14 : s1 14 = fun _ => 0 := by
      rw [← hσ1, m_fl_o (by decide), m_fl_s]
      funext j
      by_cases hj : j < 1454
      · rw [if_pos (by omega)]
      · rw [if_neg (by omega)]; exact (hS.2.1 j (by omega)).2
    have s15 : s1 15 = fun _ => 0 := by
      rw [← hσ1, m_fl_s, m_fl_o (by decide)]
      funext j
      by_cases hj : j < 1200
      · rw [if_pos (by omega)]
      · rw [if_neg (by omega)]; exact hS.2.2 j (by omega)
    have so : ∀ k, k ≠ 14 → k ≠ 15 → s1 k = σ k := fun k a b => by
      rw [← hσ1, m_fl_o b, m_fl_o a]
    have fin : ∀ τ, FS σ τ → τ 2 7 = 1 → setOK π τ → ZC τ → (none : Option mV) = none ∧ FS σ τ ∧ τ 2 7 = 1 ∧ setOK π τ ∧ ZC τ := fun τ a b c d => ⟨rfl, a, b, c, d⟩
    have h12 : s1 1 2 = nI (nM π) := by rw [so 1 (by decide) (by decide), hR.2.1.2.2.1, a2.1]
    rw [h12]
    refine ⟨fun hle => ?_, fun hgt => ⟨vp_in_nI (by decide) (by decide), ?_⟩⟩
    · have h0 : nM π = 0 := by
        rcases Nat.eq_zero_or_pos (nM π) with q | q
        · exact q
        · exact absurd hle (nI_nle q (by omega))
      refine l_settle hR hN hL _ fin N 0 rfl (Nat.zero_le _) _ ⟨⟨fun k a b c d => by rw [m_up_ne a, so k c d], fun j hj => by rw [m_up_s, upd_o (by omega), so 2 (by decide) (by decide)]⟩, by rw [m_up_s, upd_s, nI_0], ?_, by rw [m_up_ne (by decide), s15]; rfl, fun j hj => by rw [m_up_ne (by decide), so 13 (by decide) (by decide)]; exact (hS.2.1 j hj).1⟩
      rw [m_up_ne (by decide), s14]
      funext p
      show _ = T0 π p
      unfold T0
      rw [if_neg (by omega)]
    · have h0 : 0 < nM π := by
        rcases Nat.eq_zero_or_pos (nM π) with q | q
        · rw [q] at hgt; exact absurd (by decide) hgt
        · exact q
      rw [cl_nI (by decide)]
      refine l_settle hR hN hL _ fin N 0 rfl (Nat.zero_le _) _ ⟨⟨fun k a b c d => by rw [m_up_ne a, m_up_ne c, so k c d], fun j hj => by rw [m_up_s, upd_o (by omega), m_up_ne (by decide), so 2 (by decide) (by decide)]⟩, by rw [m_up_s, upd_s, nI_0], ?_, by rw [m_up_ne (by decide), m_up_ne (by decide), s15]; rfl, fun j hj => by rw [m_up_ne (by decide), m_up_ne (by decide), so 13 (by decide) (by decide)]; exact (hS.2.1 j hj).1⟩
      rw [m_up_ne (by decide), m_up_s, s14]
      funext p
      show _ = T0 π p
      unfold T0
      by_cases hp : p = 1444
      · subst hp; rw [upd_s, if_pos ⟨rfl, h0⟩]
      · rw [upd_o hp, if_neg (fun q => hp q.1)]
  · rcases hS.1 with h | ⟨h1, h2⟩
    · exact absurd h hne
    · exact ⟨rfl, ⟨fun _ _ _ _ _ => rfl, fun _ _ => rfl⟩, h1, h2, hS.2⟩
