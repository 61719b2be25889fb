/-! RUNS: the class, a step -/
abbrev toM (ρ : RnS) : Nat := (ρ.fm (ρ.fr - 1)).toNatClampNeg
abbrev toC (ρ : RnS) : Nat := (ρ.fc (ρ.fr - 1)).toNatClampNeg
def tD (π : mS) (z : Int32) (ρ : RnS) : Int32 := m_rem (m_ushr z 1) (nI (cnt π (toM ρ)) + 1)
def preF (π : mS) (z : Int32) (ρ : RnS) : RnS := if nI (cnt π (toM ρ)) ≤ tD π z ρ then leF ρ else actF π ρ (sth π (toM ρ) (tD π z ρ).toNatClampNeg)
def pOK (π : mS) (N : Nat) (z : Int32) (ρ : RnS) : Bool := if nI (cnt π (toM ρ)) ≤ tD π z ρ then true else wOK π N ρ (sth π (toM ρ) (tD π z ρ).toNatClampNeg)
def bo (ρ : RnS) (v : Int32) : Int32 := if v = -1 then 0 else (1 : Int32) <<< (ρ.os v.toNatClampNeg &&& 31)
def meG (ρ : RnS) (k : Nat) : Nat → Int32 := fun j => if 6 * toM ρ ≤ j ∧ j < 6 * toM ρ + k then ρ.me j ||| bo ρ (ρ.nm (bas ρ + (j - 6 * toM ρ))) else ρ.me j
def wMe (ρ : RnS) (f : Nat → Int32) : RnS := rK ρ.ob ρ.fr ρ.ca ρ.os ρ.sl ρ.st ρ.nm ρ.fm ρ.fc ρ.ft f
def meF (ρ : RnS) : RnS := wMe ρ (meG ρ 6)
def nOK (π : mS) (N : Nat) (ρ : RnS) (k : Nat) : Prop := ∀ n, n < k → inR ρ (ρ.nm (bas ρ + n)) (it π N (126 * toM ρ + 6 * toC ρ + n)) = true
theorem us_nn (z : Int32) : ∃ y, y < 2 ^ 31 ∧ m_ushr z 1 = nI y := by
  apply nI_bits (k := 31) (by decide)
  intro i hi
  rw [show bt (m_ushr z 1) i = bt z (1 + i) from b_ushr 1 (by decide) z i] at hi
  rcases Nat.lt_or_ge i 31 with q | q
  · exact q
  · rw [b_big (by omega)] at hi; cases hi
section
variable {π σ0 σ : mS} {N : Nat} {ρ : RnS} {h : Bool}
theorem wr_top (hw : WM π) (w : Wr π ρ) : ρ.fm (ρ.fr - 1) = nI (toM ρ) ∧ toM ρ < nM π ∧ ρ.fc (ρ.fr - 1) = nI (toC ρ) ∧ toC ρ < 21 := by
  have f := w.2.1
  obtain ⟨a, b, -⟩ := w.2.2.2.2.2.2 (ρ.fr - 1) (by omega)
  have a := a.eq (by have := hw.nM10.2; omega)
  have b := b.eq (by decide)
  exact ⟨a.1, a.2, b.1, b.2⟩
theorem tD_eq (z : Int32) (hc : cnt π (toM ρ) ≤ 60) : ∃ t, t ≤ cnt π (toM ρ) ∧ tD π z ρ = nI t := by
  obtain ⟨y, hy, e⟩ := us_nn z
  refine ⟨y % (cnt π (toM ρ) + 1), ?_, ?_⟩
  · have := Nat.mod_lt y (show 0 < cnt π (toM ρ) + 1 by omega)
    omega
  · unfold tD m_rem
    rw [e, nI_1, pk_rem hy (by omega) (by omega)]
theorem c_enterMethod (hB : BB π N σ0) (w : Wr π ρ) (c : CC σ0 σ ρ h) {i : Nat} (hi : i < nS π) (hk : kd π i = 7) : MU M_T_enterMethod [.inr (3, 0), .inr (59, i), .inl (nI (bas ρ))] σ (fun r τ => r = none ∧ CC σ0 τ (enF π ρ (ρ.nm (bas ρ + qq π i)) (rr π i) (ρ.nm (bas ρ + ss π i)) (ρ.nm (bas ρ + tt π i)) (π 32 i)) h) := by
  have hw := hB.1.1
  have aS := hw.nS60.2
  have aT := hw.nT20.2
  have fr := w.2.1
  have hop := hw.op hi
  obtain ⟨q1, q2, q3, q4, q5⟩ := op_7 hop hk
  have q1 : π 32 i = nI (pp π i) ∧ pp π i < 6 := q1.g (by decide)
  have q2 : π 33 i = nI (qq π i) ∧ qq π i < 6 := q2.g (by decide)
  have q3 : π 34 i = nI (rr π i) ∧ rr π i < 4 := q3.g (by decide)
  have q4 : π 35 i = nI (ss π i) ∧ ss π i < 6 := q4.g (by decide)
  have q5 : π 36 i = nI (tt π i) ∧ tt π i < 6 := q5.g (by decide)
  have hR := c.1.rc hB.1
  obtain ⟨f0, f2, f3, f4, f5, f6, f7, f1⟩ := hR.2.2.2.2.2 i hi
  have hb : bas ρ + 6 = 6 * ρ.fr := by show 6 * (ρ.fr - 1) + 6 = 6 * ρ.fr; omega
  have c12 : σ 3 12 = nI ρ.fr := c.2.1.1.2.1
  have c13 : σ 3 13 = ρ.ca := c.2.1.1.2.2
  refine MU_of rfl rfl rfl (r_T_enterMethod_0 ?_)
  rw [Nat.mod_eq_of_lt (by omega), f4, f5, q2.1, q3.1, nI_add, cl_nI (n := bas ρ + qq π i) (by omega), c12]
  refine ⟨vp_in_nI (by omega) (by decide), ?_⟩
  intro v hv
  have ev : v = ρ.nm (bas ρ + qq π i) := by rw [hv]; exact c.2.1.2.2.2.2.1 _ (by omega)
  have vn : VN ρ.ob v := by rw [ev]; exact w.2.2.2.2.2.1 _ (by omega)
  rw [← ev]
  unfold enF
  refine ⟨fun e => ⟨rfl, by rw [if_pos (Or.inl e)]; exact c⟩, fun e => ⟨fun hlt => ?_, fun hge => ⟨rfl, ?_⟩⟩⟩
  · have hf : ρ.fr < 10 := by
      rcases Nat.lt_or_ge ρ.fr 10 with a | a
      · exact a
      · exact absurd hlt (nI_nlt a (by omega))
    obtain ⟨o, ho, rfl, co, o30, os, si⟩ := wr_si hw w vn e
    refine ⟨vp_in_nI o30 (by decide), ?_⟩
    rw [co, c.2.1.2.1 o ho, os]
    rintro _ rfl
    refine (c_methodFound hR si q3.2).i ⟨fun hne => ?_, fun he => ⟨rfl, by rw [if_pos (Or.inr (Or.inr he))]; exact c⟩⟩
    rw [c12, pk_mul, show ρ.fr * 6 = 6 * ρ.fr by omega]
    rintro _ rfl
    refine (c_contextOf hR).i ?_
    rw [f3]
    refine (c_pushFrame c12 hf _ _ _).v ?_
    rw [if_neg (fun k => k.elim e (fun k => k.elim (by omega) hne))]
    generalize hs1 : pF σ ρ.fr (fnd π (sc π (siO ρ (nI o))) (rr π i)) (nI (ctx π (siO ρ (nI o)))) (π 32 i) = s1
    have p19 : s1 19 = fun j => if 6 * ρ.fr ≤ j ∧ j < 6 * ρ.fr + 6 then -1 else σ 19 j := by
      rw [← hs1]; unfold pF; rw [m_up_ne (by decide), m_up_ne (by decide), m_up_ne (by decide), m_up_ne (by decide), m_fl_s]
    have p20 : s1 20 = upd (σ 20) ρ.fr (fnd π (sc π (siO ρ (nI o))) (rr π i)) := by
      rw [← hs1]; unfold pF; rw [m_up_ne (by decide), m_up_ne (by decide), m_up_ne (by decide), m_up_s, m_fl_o (by decide)]
    have p21 : s1 21 = upd (σ 21) ρ.fr (nI (ctx π (siO ρ (nI o)))) := by
      rw [← hs1]; unfold pF; rw [m_up_ne (by decide), m_up_ne (by decide), m_up_s, m_up_ne (by decide), m_fl_o (by decide)]
    have p22 : s1 22 = upd (σ 22) ρ.fr (π 32 i) := by
      rw [← hs1]; unfold pF; rw [m_up_ne (by decide), m_up_s, m_up_ne (by decide), m_up_ne (by decide), m_fl_o (by decide)]
    have p3 : s1 3 = upd (σ 3) 12 (nI (ρ.fr + 1)) := by
      rw [← hs1]; unfold pF; rw [m_up_s, m_up_ne (by decide), m_up_ne (by decide), m_up_ne (by decide), m_fl_o (by decide)]
    have po : ∀ k, k ≠ 3 → k ≠ 19 → k ≠ 20 → k ≠ 21 → k ≠ 22 → s1 k = σ k := fun k a b d e f => by
      rw [← hs1]; unfold pF; rw [m_up_ne a, m_up_ne f, m_up_ne e, m_up_ne d, m_fl_o b]
    have pF0 : FT σ0 s1 := by rw [← hs1]; exact (((((c.1.fl (by omega)).up (by omega)).up (by omega)).up (by omega)).up (by omega))
    have x0 : nI (6 * ρ.fr) + (0 : Int32) = nI (6 * ρ.fr) := by rw [← nI_0, nI_add]; rfl
    rw [x0, nI_1, nI_add, cl_nI (n := 6 * ρ.fr) (by omega), cl_nI (n := 6 * ρ.fr + 1) (by omega), cl_nI (n := 6 * ρ.fr + 2) (by omega)]
    refine ⟨vp_in_nI (by omega) (by decide), ?_⟩
    rintro _ rfl
    have s6 : m_up s1 19 (6 * ρ.fr) (nI o) (59 + i) 6 = nI (ss π i) := by rw [m_up_ne (by omega), po _ (by omega) (by omega) (by omega) (by omega) (by omega), f6, q4.1]
    rw [s6, nI_add, cl_nI (n := bas ρ + ss π i) (by omega)]
    refine ⟨vp_in_nI (by omega) (by decide), vp_in_nI (by omega) (by decide), ?_⟩
    have g1 : m_up s1 19 (6 * ρ.fr) (nI o) 19 (bas ρ + ss π i) = ρ.nm (bas ρ + ss π i) := by
      rw [m_up_s, upd_o (by omega), p19]
      show (if _ then _ else _) = _
      rw [if_neg (by omega)]
      exact c.2.1.2.2.2.2.1 _ (by omega)
    rw [g1]
    rintro _ rfl
    have s7 : m_up (m_up s1 19 (6 * ρ.fr) (nI o)) 19 (6 * ρ.fr + 1) (ρ.nm (bas ρ + ss π i)) (59 + i) 7 = nI (tt π i) := by rw [m_up_ne (by omega), m_up_ne (by omega), po _ (by omega) (by omega) (by omega) (by omega) (by omega), f7, q5.1]
    rw [s7, nI_add, cl_nI (n := bas ρ + tt π i) (by omega)]
    refine ⟨vp_in_nI (by omega) (by decide), vp_in_nI (by omega) (by decide), ?_⟩
    have g2 : m_up (m_up s1 19 (6 * ρ.fr) (nI o)) 19 (6 * ρ.fr + 1) (ρ.nm (bas ρ + ss π i)) 19 (bas ρ + tt π i) = ρ.nm (bas ρ + tt π i) := by
      rw [m_up_s, upd_o (by omega), m_up_s, upd_o (by omega), p19]
      show (if _ then _ else _) = _
      rw [if_neg (by omega)]
      exact c.2.1.2.2.2.2.1 _ (by omega)
    rw [g2]
    rintro _ rfl
    have g3 : m_up (m_up (m_up s1 19 (6 * ρ.fr) (nI o)) 19 (6 * ρ.fr + 1) (ρ.nm (bas ρ + ss π i))) 19 (6 * ρ.fr + 2) (ρ.nm (bas ρ + tt π i)) 3 13 = ρ.ca := by
      rw [m_up_ne (by decide), m_up_ne (by decide), m_up_ne (by decide), p3, upd_o (by decide), c13]
    rw [g3]
    refine ⟨rfl, ?_⟩
    obtain ⟨c1, ⟨r1, r2, r3, r4, r5, r6, r7⟩, c3⟩ := c
    refine ⟨(((pF0.up (by omega)).up (by omega)).up (by omega)).up (by omega), ⟨⟨?_, ?_, ?_⟩, fun o ho => ?_, fun j hj => ?_, fun s hs => ?_, fun j hj => ?_, fun k hk => ?_, fun k hk => ?_⟩, ?_⟩
    · rw [m_up_s, upd_o (by decide), m_up_ne (by decide), m_up_ne (by decide), m_up_ne (by decide), p3, upd_o (by decide)]; exact r1.1
    · rw [m_up_s, upd_o (by decide), m_up_ne (by decide), m_up_ne (by decide), m_up_ne (by decide), p3, upd_s]; rfl
    · rw [m_up_s, upd_s]; rfl
    · rw [m_up_ne (by decide), m_up_ne (by decide), m_up_ne (by decide), m_up_ne (by decide), po 16 (by decide) (by decide) (by decide) (by decide) (by decide)]; exact r2 o ho
    · rw [m_up_ne (by decide), m_up_ne (by decide), m_up_ne (by decide), m_up_ne (by decide), po 17 (by decide) (by decide) (by decide) (by decide) (by decide)]; exact r3 j hj
    · rw [m_up_ne (by decide), m_up_ne (by decide), m_up_ne (by decide), m_up_ne (by decide), po 18 (by decide) (by decide) (by decide) (by decide) (by decide)]; exact r4 s hs
    · have hj : j < 6 * (ρ.fr + 1) := hj
      rw [m_up_ne (by decide), m_up_s, m_up_s, m_up_s, p19]
      show _ = enN ρ (nI o) (ρ.nm (bas ρ + ss π i)) (ρ.nm (bas ρ + tt π i)) j
      unfold enN
      by_cases e2 : j = 6 * ρ.fr + 2
      · rw [e2, upd_s, if_neg (by omega), if_neg (by omega), if_pos rfl]
      · rw [upd_o e2]
        by_cases e1 : j = 6 * ρ.fr + 1
        · rw [e1, upd_s, if_neg (by omega), if_pos rfl]
        · rw [upd_o e1]
          by_cases e0 : j = 6 * ρ.fr
          · rw [e0, upd_s, if_pos rfl]
          · rw [upd_o e0, if_neg e0, if_neg e1, if_neg e2]
            by_cases e3 : 6 * ρ.fr ≤ j
            · rw [if_pos e3, if_pos ⟨e3, by omega⟩]
            · rw [if_neg e3, if_neg (fun q => e3 q.1)]; exact r5 j (by omega)
    · have hk : k < ρ.fr + 1 := hk
      rw [m_up_ne (by decide), m_up_ne (by decide), m_up_ne (by decide), m_up_ne (by decide), m_up_ne (by decide), m_up_ne (by decide), m_up_ne (by decide), m_up_ne (by decide), m_up_ne (by decide), m_up_ne (by decide), m_up_ne (by decide), m_up_ne (by decide), p20, p21, p22]
      show upd (σ 20) _ _ k = upd ρ.fm _ _ k ∧ upd (σ 21) _ _ k = upd ρ.fc _ _ k ∧ (0 < k → upd (σ 22) _ _ k = upd ρ.ft _ _ k)
      by_cases e : k = ρ.fr
      · subst e; rw [upd_s, upd_s, upd_s, upd_s, upd_s, upd_s]; exact ⟨rfl, rfl, fun _ => rfl⟩
      · rw [upd_o e, upd_o e, upd_o e, upd_o e, upd_o e, upd_o e]; exact r6 k (by omega)
    · rw [m_up_ne (by decide), m_up_ne (by decide), m_up_ne (by decide), m_up_ne (by decide), po 23 (by decide) (by decide) (by decide) (by decide) (by decide)]; exact r7 k hk
    · rw [m_up_s, upd_o (by decide), m_up_ne (by decide), m_up_ne (by decide), m_up_ne (by decide), p3, upd_o (by decide)]; exact c3
  · have : ρ.fr = 10 := by
      rcases Nat.lt_or_ge ρ.fr 10 with a | a
      · exact absurd (nI_lt a (by decide)) hge
      · omega
    rw [if_pos (Or.inr (Or.inl this))]; exact c
theorem c_doStatementT (hB : BB π N σ0) (w : Wr π ρ) (c : CC σ0 σ ρ h) {i : Nat} (hi : i < nS π) : MU M_T_doStatement [.inr (3, 0), .inr (59, i), .inl (nI (bas ρ))] σ (fun r τ => r = none ∧ CC σ0 τ (actF π ρ i) (h && wOK π N ρ i)) := by
  have hw := hB.1.1
  have aS := hw.nS60.2
  have aF := hw.nF8.2
  have fr := w.2.1
  have hop := hw.op hi
  have hR := c.1.rc hB.1
  have hb : bas ρ + 6 = 6 * ρ.fr := by show 6 * (ρ.fr - 1) + 6 = 6 * ρ.fr; omega
  obtain ⟨f0, f2, f3, f4, f5, f6, f7, f1⟩ := hR.2.2.2.2.2 i hi
  have k1 := hw.kd hi
  have nR : ∀ n, n < 6 → σ 19 (bas ρ + n) = ρ.nm (bas ρ + n) := fun n hn => c.2.1.2.2.2.2.1 _ (by omega)
  have nV : ∀ n, n < 6 → VN ρ.ob (ρ.nm (bas ρ + n)) := fun n hn => w.2.2.2.2.2.1 _ (by omega)
  have kk : ∀ k, k < 10 → nI (kd π i) = nI k → kd π i = k := fun k hk e => nI_inj (by omega) (by omega) e
  have fin : ∀ {ρ' : RnS} {τ : mS}, wOK π N ρ i = true → actF π ρ i = ρ' → CC σ0 τ ρ' h → CC σ0 τ (actF π ρ i) (h && wOK π N ρ i) := by
    intro ρ' τ a b d
    rw [a, Bool.and_true, b]; exact d
  refine MU_of rfl rfl rfl (r_T_doStatement_0 ?_)
  rw [Nat.mod_eq_of_lt (by omega), f2, f3, f4, f5, k1.1]
  refine ⟨fun e => ?_, fun e => ?_, fun e => ?_, fun e => ?_, fun e => ?_, fun e => ?_, fun e => ?_, fun e => ?_, fun e => ?_, fun e0 e1 e2 e3 e4 e5 e6 e7 e8 => ?_⟩
  · have e := kk 0 (by decide) e
    refine (c_makeObject hB w c hi e).mono ?_
    rintro r τ ⟨rfl, k⟩
    exact ⟨rfl, rfl, fin (wok_t (by omega) (by omega) (by omega)) (act_0 e) k⟩
  · have e := kk 1 (by decide) e
    obtain ⟨q1, q2⟩ := op_1 hop e
    have q1 : π 32 i = nI (pp π i) ∧ pp π i < 6 := q1.g (by decide)
    have q2 : π 33 i = nI (qq π i) ∧ qq π i < 6 := q2.g (by decide)
    rw [q1.1, q2.1, nI_add, nI_add, cl_nI (n := bas ρ + qq π i) (by omega), cl_nI (n := bas ρ + pp π i) (by omega), nR _ q2.2]
    exact ⟨vp_in_nI (by omega) (by decide), vp_in_nI (by omega) (by decide), rfl, fin (wok_t (by omega) (by omega) (by omega)) (act_1 e) (c.nm _ _)⟩
  · have e := kk 2 (by decide) e
    obtain ⟨q1, q2, q3⟩ := op_2 hop e
    have q1 : π 32 i = nI (pp π i) ∧ pp π i < 6 := q1.g (by decide)
    have q2 : π 33 i = nI (qq π i) ∧ qq π i < 6 := q2.g (by decide)
    have q3 : π 34 i = nI (rr π i) ∧ rr π i < nF π := q3.g (by omega)
    rw [q1.1, q2.1, q3.1, nI_add, nI_add, cl_nI (n := bas ρ + qq π i) (by omega), nR _ q2.2]
    refine ⟨vp_in_nI (by omega) (by decide), (c_readSlot hB w c (by omega) (nV _ q2.2) (Or.inl q3.2)).mono ?_⟩
    rintro r τ ⟨rfl, k⟩
    exact ⟨rfl, rfl, fin (wok_t (by omega) (by omega) (by omega)) (act_2 e) k⟩
  · have e := kk 3 (by decide) e
    obtain ⟨q1, q2, q3⟩ := op_3 hop e
    have q1 : π 32 i = nI (pp π i) ∧ pp π i < 6 := q1.g (by decide)
    have q2 : π 33 i = nI (qq π i) ∧ qq π i < 6 := q2.g (by decide)
    have q3 : π 34 i = nI (rr π i) ∧ rr π i < nF π := q3.g (by omega)
    rw [q1.1, q2.1, q3.1, nI_add, nI_add, cl_nI (n := bas ρ + qq π i) (by omega), cl_nI (n := bas ρ + pp π i) (by omega), nR _ q2.2, nR _ q1.2]
    refine ⟨vp_in_nI (by omega) (by decide), vp_in_nI (by omega) (by decide), (c_writeSlot hB w c (nV _ q1.2) (nV _ q2.2) (Or.inl q3.2)).mono ?_⟩
    rintro r τ ⟨rfl, k⟩
    refine ⟨rfl, rfl, ?_⟩
    rw [wok_3 e, act_3 e]; exact k
  · have e := kk 4 (by decide) e
    refine (c_castObject hB w c hi e).mono ?_
    rintro r τ ⟨rfl, k⟩
    exact ⟨rfl, rfl, fin (wok_t (by omega) (by omega) (by omega)) (act_4 e) k⟩
  · have e := kk 5 (by decide) e
    obtain ⟨q1, q2⟩ := op_5 hop e
    have q1 : π 32 i = nI (pp π i) ∧ pp π i < 6 := q1.g (by decide)
    have q2 : π 33 i = nI (qq π i) ∧ qq π i < 4 := q2.g (by decide)
    rw [q1.1, q2.1, nI_add, cl_nI (n := qq π i) (by omega), cl_nI (n := bas ρ + pp π i) (by omega), c.2.1.2.2.2.1 _ q2.2]
    exact ⟨vp_in_nI (by omega) (by decide), vp_in_nI (by omega) (by decide), rfl, fin (wok_t (by omega) (by omega) (by omega)) (act_5 e) (c.nm _ _)⟩
  · have e := kk 6 (by decide) e
    have wa := wr_act hw w hi
    obtain ⟨q1, q2⟩ := op_6 hop e
    have q1 : π 32 i = nI (pp π i) ∧ pp π i < 4 := q1.g (by decide)
    have q2 : π 33 i = nI (qq π i) ∧ qq π i < 6 := q2.g (by decide)
    rw [q1.1, q2.1, nI_add, cl_nI (n := bas ρ + qq π i) (by omega), cl_nI (n := pp π i) (by omega), nR _ q2.2]
    refine ⟨vp_in_nI (by omega) (by decide), vp_in_nI (by omega) (by decide), ?_⟩
    rintro _ rfl
    rw [m_up_ne (show 59 + i ≠ 18 by omega), f3, q1.1, m_up_s, cl_nI (n := pp π i) (by omega), upd_s, nI_add]
    have c' := c.st (pp π i) (ρ.nm (bas ρ + qq π i))
    rw [wok_6 e]
    rw [act_6 e] at wa ⊢
    refine ⟨vp_in_nI (by omega) (by decide), (c_lookAt hB wa c' (v := ρ.nm (bas ρ + qq π i)) (nV _ q2.2) (by omega)).mono ?_⟩
    rintro r τ ⟨rfl, k⟩
    exact ⟨rfl, rfl, k⟩
  · have e := kk 7 (by decide) e
    refine (c_enterMethod hB w c hi e).mono ?_
    rintro r τ ⟨rfl, k⟩
    exact ⟨rfl, rfl, fin (wok_t (by omega) (by omega) (by omega)) (act_7 e) k⟩
  · have e := kk 8 (by decide) e
    obtain ⟨q1, q2⟩ := op_8 hop e
    have q1 : π 32 i = nI (pp π i) ∧ pp π i < 6 := q1.g (by decide)
    have q2 : π 33 i = nI (qq π i) ∧ qq π i < 6 := q2.g (by decide)
    rw [q1.1, q2.1, nI_add, nI_add, cl_nI (n := bas ρ + qq π i) (by omega), nR _ q2.2]
    refine ⟨vp_in_nI (by omega) (by decide), (c_readSlot hB w c (by omega) (nV _ q2.2) (Or.inr rfl)).mono ?_⟩
    rintro r τ ⟨rfl, k⟩
    exact ⟨rfl, rfl, fin (wok_t (by omega) (by omega) (by omega)) (act_8 e) k⟩
  · have e : kd π i = 9 := by
      have n0 : ¬ kd π i = 0 := fun q => e0 (by rw [q, nI_0])
      have n1 : ¬ kd π i = 1 := fun q => e1 (by rw [q]; rfl)
      have n2 : ¬ kd π i = 2 := fun q => e2 (by rw [q])
      have n3 : ¬ kd π i = 3 := fun q => e3 (by rw [q])
      have n4 : ¬ kd π i = 4 := fun q => e4 (by rw [q])
      have n5 : ¬ kd π i = 5 := fun q => e5 (by rw [q])
      have n6 : ¬ kd π i = 6 := fun q => e6 (by rw [q])
      have n7 : ¬ kd π i = 7 := fun q => e7 (by rw [q])
      have n8 : ¬ kd π i = 8 := fun q => e8 (by rw [q])
      omega
    obtain ⟨q1, q2⟩ := op_9 hop e
    have q1 : π 32 i = nI (pp π i) ∧ pp π i < 6 := q1.g (by decide)
    have q2 : π 33 i = nI (qq π i) ∧ qq π i < 6 := q2.g (by decide)
    rw [q1.1, q2.1, nI_add, nI_add, cl_nI (n := bas ρ + qq π i) (by omega), cl_nI (n := bas ρ + pp π i) (by omega), nR _ q2.2, nR _ q1.2]
    refine ⟨vp_in_nI (by omega) (by decide), vp_in_nI (by omega) (by decide), (c_writeSlot hB w c (nV _ q1.2) (nV _ q2.2) (Or.inr rfl)).mono ?_⟩
    rintro r τ ⟨rfl, k⟩
    refine ⟨rfl, rfl, ?_⟩
    rw [wok_9 e, act_9 e]; exact k
theorem c_doStep (hB : BB π N σ0) (w : Wr π ρ) (c : CC σ0 σ ρ h) (z : Int32) : MU M_T_doStep [.inr (3, 0), .inl (m_ushr z 1)] σ (fun r τ => r = none ∧ CC σ0 τ (preF π z ρ) (h && pOK π N z ρ)) := by
  have hw := hB.1.1
  have aS := hw.nS60.2
  have aM := hw.nM10.2
  have fr := w.2.1
  have hR := c.1.rc hB.1
  obtain ⟨t1, t2, t3, t4⟩ := wr_top hw w
  have le := sts_le (π := π) (toM ρ)
  obtain ⟨t, ht, et⟩ := tD_eq (π := π) (ρ := ρ) z (by omega)
  have c12 : σ 3 12 = nI ρ.fr := c.2.1.1.2.1
  obtain ⟨g, hg⟩ : ∃ g, ρ.fr = g + 1 := ⟨ρ.fr - 1, by omega⟩
  have e1 : nI ρ.fr - (1 : Int32) = nI (ρ.fr - 1) := by rw [hg, nI_pred]; rfl
  have eb : bas ρ = 6 * (ρ.fr - 1) := rfl
  refine MU_of rfl rfl rfl (r_T_doStep_0 ?_)
  rw [c12, e1]
  rintro _ rfl
  refine ⟨vp_in_nI (by omega) (by decide), ?_⟩
  rw [cl_nI (n := ρ.fr - 1) (by omega), (c.2.1.2.2.2.2.2.1 (ρ.fr - 1) (by omega)).1, t1]
  rintro _ rfl
  refine ⟨vp_in_nI (by omega) (by decide), ?_⟩
  rw [cl_nI (n := toM ρ) (by omega), hR.2.2.2.1 _ t2]
  rintro _ rfl
  refine ⟨by rw [nI_1]; exact nI_ne0 (by omega) (by omega), ?_⟩
  intro v4 hv4
  have hv4 : v4 = tD π z ρ := hv4
  rw [hv4]
  refine ⟨fun q => ?_, fun q => ?_⟩
  · have ep : preF π z ρ = leF ρ := by unfold preF; rw [if_pos q]
    have eo : pOK π N z ρ = true := by unfold pOK; rw [if_pos q]
    rw [ep, eo, Bool.and_true]
    unfold leF
    refine ⟨fun q2 => ⟨rfl, ?_⟩, fun q2 => ?_⟩
    · rw [if_pos (by
        rcases Nat.eq_zero_or_pos (ρ.fr - 1) with a | a
        · omega
        · exact absurd q2 (nI_nle a (by omega)))]
      exact c
    · have hne : ¬ ρ.fr = 1 := fun e => by rw [e] at q2; exact absurd (by decide) q2
      rw [if_neg hne]
      rintro _ rfl
      obtain ⟨j, hj⟩ : ∃ j, ρ.fr - 1 = j + 1 := ⟨ρ.fr - 2, by omega⟩
      have e2 : nI (ρ.fr - 1) - (1 : Int32) = nI (ρ.fr - 2) := by rw [hj, nI_pred]; congr 1; omega
      have t22 : m_up σ 3 12 (nI (ρ.fr - 1)) 22 (ρ.fr - 1) = nI (ρ.ft (ρ.fr - 1)).toNatClampNeg ∧ (ρ.ft (ρ.fr - 1)).toNatClampNeg < 6 := by
        rw [m_up_ne (by decide), (c.2.1.2.2.2.2.2.1 (ρ.fr - 1) (by omega)).2.2 (by omega)]
        exact (w.2.2.2.2.2.2 (ρ.fr - 1) (by omega)).2.2.eq (by decide)
      have t22b := t22.2
      rw [t22.1, e2, pk_mul, pk_mul, nI_add, nI_add, show (ρ.fr - 1) * 6 + 5 = 6 * (ρ.fr - 1) + 5 by omega, show (ρ.fr - 2) * 6 + (ρ.ft (ρ.fr - 1)).toNatClampNeg = 6 * (ρ.fr - 2) + (ρ.ft (ρ.fr - 1)).toNatClampNeg by omega, cl_nI (n := 6 * (ρ.fr - 1) + 5) (by omega), cl_nI (n := 6 * (ρ.fr - 2) + (ρ.ft (ρ.fr - 1)).toNatClampNeg) (by omega), m_up_ne (show 19 ≠ 3 by decide), c.2.1.2.2.2.2.1 _ (show 6 * (ρ.fr - 1) + 5 < 6 * ρ.fr by omega)]
      refine ⟨vp_in_nI (by omega) (by decide), vp_in_nI (by omega) (by decide), vp_in_nI (by omega) (by decide), rfl, ?_⟩
      obtain ⟨c1, ⟨r1, r2, r3, r4, r5, r6, r7⟩, c3⟩ := c
      refine ⟨(c1.up (by omega)).up (by omega), ⟨⟨?_, ?_, ?_⟩, fun o ho => ?_, fun j hj => ?_, fun s hs => ?_, fun j hj => ?_, fun k hk => ?_, fun k hk => ?_⟩, ?_⟩
      · rw [m_up_ne (by decide), m_up_s, upd_o (by decide)]; exact r1.1
      · rw [m_up_ne (by decide), m_up_s, upd_s]; rfl
      · rw [m_up_ne (by decide), m_up_s, upd_o (by decide)]; exact r1.2.2
      · rw [m_up_ne (by decide), m_up_ne (by decide)]; exact r2 o ho
      · rw [m_up_ne (by decide), m_up_ne (by decide)]; exact r3 j hj
      · rw [m_up_ne (by decide), m_up_ne (by decide)]; exact r4 s hs
      · have hj : j < 6 * (ρ.fr - 1) := hj
        rw [m_up_s, m_up_ne (by decide)]
        show upd (σ 19) _ _ j = upd ρ.nm _ _ j
        by_cases e : j = 6 * (ρ.fr - 2) + (ρ.ft (ρ.fr - 1)).toNatClampNeg
        · rw [e, upd_s, upd_s]
        · rw [upd_o e, upd_o e]; exact r5 j (by omega)
      · have hk : k < ρ.fr - 1 := hk
        rw [m_up_ne (by decide), m_up_ne (by decide), m_up_ne (by decide), m_up_ne (by decide), m_up_ne (by decide), m_up_ne (by decide)]
        exact r6 k (by omega)
      · rw [m_up_ne (by decide), m_up_ne (by decide)]; exact r7 k hk
      · rw [m_up_ne (by decide), m_up_s, upd_o (by decide)]; exact c3
  · have htl : t < cnt π (toM ρ) := by
      rcases Nat.lt_or_ge t (cnt π (toM ρ)) with a | a
      · exact a
      · exact absurd (by rw [et]; exact nI_le a (by omega)) q
    have ct : (tD π z ρ).toNatClampNeg = t := by rw [et, cl_nI (by omega)]
    have ep : preF π z ρ = actF π ρ (sth π (toM ρ) t) := by unfold preF; rw [if_neg q, ct]
    have eo : pOK π N z ρ = wOK π N ρ (sth π (toM ρ) t) := by unfold pOK; rw [if_neg q, ct]
    rw [et]
    refine (c_statementOf hR t2 htl).r ?_
    rw [pk_mul, show (ρ.fr - 1) * 6 = bas ρ by omega]
    refine (c_doStatementT hB w c (sts_lt htl).1).mono ?_
    rintro r τ ⟨rfl, k⟩
    refine ⟨rfl, rfl, ?_⟩
    rw [ep, eo]; exact k
theorem CC.me (c : CC σ0 σ ρ h) {a : Nat} {v : Int32} {g : Nat → Int32} (hg : ∀ k, k < 60 → upd ρ.me a v k = g k) : CC σ0 (m_up σ 23 a v) (wMe ρ g) h := by
  obtain ⟨c1, ⟨r1, r2, r3, r4, r5, r6, r7⟩, c3⟩ := c
  refine ⟨c1.up (by omega), ⟨?_, ?_, ?_, ?_, ?_, ?_, ?_⟩, ?_⟩
  · rw [m_up_ne (by decide)]; exact r1
  · rw [m_up_ne (by decide)]; exact r2
  · rw [m_up_ne (by decide)]; exact r3
  · rw [m_up_ne (by decide)]; exact r4
  · rw [m_up_ne (by decide)]; exact r5
  · rw [m_up_ne (by decide), m_up_ne (by decide), m_up_ne (by decide)]; exact r6
  · intro k hk
    rw [m_up_s]
    show upd (σ 23) a v k = g k
    rw [← hg k hk]
    by_cases e : k = a
    · subst e; rw [upd_s, upd_s]
    · rw [upd_o e, upd_o e]; exact r7 k hk
  · rw [m_up_ne (by decide)]; exact c3
theorem CC.meq (c : CC σ0 σ ρ h) {g : Nat → Int32} (hg : ∀ k, k < 60 → ρ.me k = g k) : CC σ0 σ (wMe ρ g) h := by
  obtain ⟨c1, ⟨r1, r2, r3, r4, r5, r6, r7⟩, c3⟩ := c
  exact ⟨c1, ⟨r1, r2, r3, r4, r5, r6, fun k hk => (r7 k hk).trans (hg k hk)⟩, c3⟩
theorem l_lookAtNames (hB : BB π N σ0) (w : Wr π ρ) (Q : Option mV → mS → Prop) (hQ : ∀ τ h', (h' = true ↔ h = true ∧ nOK π N ρ 6) → CC σ0 τ (meF ρ) h' → Q none τ) :
    ∀ d n, 6 - n = d → n ≤ 6 → ∀ u5 τ h', (h' = true ↔ h = true ∧ nOK π N ρ n) → CC σ0 τ (wMe ρ (meG ρ n)) h' → J M_T_lookAtNames Q 28 [some (.inr (3, 0)), some (.inl (nI (ρ.fr - 1))), some (.inl (nI (toM ρ))), some (.inl (nI (126 * toM ρ + 6 * toC ρ))), some (.inl (nI n)), u5] [] τ := by
  have hw := hB.1.1
  have aM := hw.nM10.2
  have aT := hw.nT20.2
  have fr := w.2.1
  obtain ⟨t1, t2, t3, t4⟩ := wr_top hw w
  have eb : bas ρ = 6 * (ρ.fr - 1) := rfl
  intro d
  induction d with
  | zero =>
    intro n h1 h2 u5 τ h' hh c
    have : n = 6 := by omega
    subst this
    exact r_T_lookAtNames_28 ⟨fun _ => hQ τ h' hh c, fun q => absurd (nI_le (Nat.le_refl _) (by decide)) q⟩
  | succ d ih =>
    intro n h1 h2 u5 τ h' hh c
    have key := ih (n + 1) (by omega) (by omega)
    have ex : nI (ρ.fr - 1) * nI 6 + nI n = nI (bas ρ + n) := by rw [pk_mul, nI_add]; congr 1; omega
    have ex2 : nI (toM ρ) * nI 6 + nI n = nI (6 * toM ρ + n) := by rw [pk_mul, nI_add]; congr 1; omega
    refine r_T_lookAtNames_28 ⟨fun q => absurd q (nI_ge (by omega) (by decide)), fun _ => ?_⟩
    rw [ex, ex2, cl_nI (n := bas ρ + n) (by omega), cl_nI (n := 6 * toM ρ + n) (by omega), nI_1, nI_add]
    refine ⟨vp_in_nI (by omega) (by decide), ?_⟩
    intro v hv
    have ev : v = ρ.nm (bas ρ + n) := by rw [hv]; exact c.2.1.2.2.2.2.1 _ (by show bas ρ + n < 6 * ρ.fr; omega)
    have vn : VN ρ.ob v := by rw [ev]; exact w.2.2.2.2.2.1 _ (by omega)
    have step : ∀ b : Bool, b = inR ρ v (it π N (126 * toM ρ + 6 * toC ρ + n)) → ((h' && b) = true ↔ h = true ∧ nOK π N ρ (n + 1)) := by
      intro b hb
      rw [Bool.and_eq_true, hh, hb, ev]
      constructor
      · rintro ⟨⟨x, y⟩, z⟩
        refine ⟨x, fun k hk => ?_⟩
        by_cases e : k = n
        · subst e; exact z
        · exact y k (by omega)
      · rintro ⟨x, y⟩
        exact ⟨⟨x, fun k hk => y k (by omega)⟩, y n (by omega)⟩
    have g1 : ∀ k, ¬ k = 6 * toM ρ + n → meG ρ n k = meG ρ (n + 1) k := fun k hk => by
      unfold meG
      by_cases e : 6 * toM ρ ≤ k ∧ k < 6 * toM ρ + n
      · rw [if_pos e, if_pos ⟨e.1, by omega⟩]
      · rw [if_neg e, if_neg (fun q => e ⟨q.1, by omega⟩)]
    have g2 : meG ρ n (6 * toM ρ + n) = ρ.me (6 * toM ρ + n) := by unfold meG; rw [if_neg (by omega)]
    have g3 : meG ρ (n + 1) (6 * toM ρ + n) = ρ.me (6 * toM ρ + n) ||| bo ρ v := by
      unfold meG
      rw [if_pos (by omega), show bas ρ + (6 * toM ρ + n - 6 * toM ρ) = bas ρ + n by omega, ← ev]
    refine ⟨fun e => ?_, fun e => ?_⟩
    · have i1 : inR ρ v (it π N (126 * toM ρ + 6 * toC ρ + n)) = true := by unfold inR; rw [decide_eq_true e]; rfl
      have st := step true i1.symm
      rw [Bool.and_true] at st
      refine key _ τ h' st (c.meq (fun k hk => ?_))
      show meG ρ n k = meG ρ (n + 1) k
      by_cases ek : k = 6 * toM ρ + n
      · subst ek
        rw [g2, g3]
        unfold bo
        rw [if_pos e, or0]
      · exact g1 k ek
    · obtain ⟨o, ho, rfl, co, o30, os, si⟩ := wr_si hw w vn e
      refine ⟨vp_in_nI (by omega) (by decide), vp_in_nI o30 (by decide), vp_in_nI (by omega) (by decide), ?_⟩
      rw [co, c.2.1.2.1 o ho, c.2.1.2.2.2.2.2.2 _ (show 6 * toM ρ + n < 60 by omega)]
      have c' : CC σ0 (m_up τ 23 (6 * toM ρ + n) (meG ρ n (6 * toM ρ + n) ||| (1 : Int32) <<< (ρ.os o &&& 31))) (wMe ρ (meG ρ (n + 1))) h' := by
        refine c.me (fun k hk => ?_)
        show upd (meG ρ n) _ _ k = meG ρ (n + 1) k
        by_cases ek : k = 6 * toM ρ + n
        · subst ek
          rw [upd_s, g2, g3]
          unfold bo
          rw [if_neg e, co]
        · rw [upd_o ek]; exact g1 k ek
      refine (c_lookAt hB (ρ := wMe ρ (meG ρ (n + 1))) w c' (v := nI o) vn (p := 126 * toM ρ + 6 * toC ρ + n) (by omega)).mono ?_
      rintro r τ' ⟨rfl, k⟩
      exact ⟨rfl, key _ τ' _ (step _ rfl) k⟩
theorem c_lookAtNames (hB : BB π N σ0) (w : Wr π ρ) (c : CC σ0 σ ρ h) : MU M_T_lookAtNames [.inr (3, 0)] σ (fun r τ => r = none ∧ ∃ h', (h' = true ↔ h = true ∧ nOK π N ρ 6) ∧ CC σ0 τ (meF ρ) h') := by
  have hw := hB.1.1
  have fr := w.2.1
  obtain ⟨t1, t2, t3, t4⟩ := wr_top hw w
  obtain ⟨g, hg⟩ : ∃ g, ρ.fr = g + 1 := ⟨ρ.fr - 1, by omega⟩
  have e1 : nI ρ.fr - (1 : Int32) = nI (ρ.fr - 1) := by rw [hg, nI_pred]; rfl
  have r6 := c.2.1.2.2.2.2.2.1 (ρ.fr - 1) (by omega)
  refine MU_of rfl rfl rfl (r_T_lookAtNames_0 ?_)
  rw [c.2.1.1.2.1, e1]
  rintro _ rfl
  refine ⟨vp_in_nI (by omega) (by decide), ?_⟩
  rw [cl_nI (n := ρ.fr - 1) (by omega), r6.1, r6.2.1, t1, t3]
  rintro _ rfl
  refine ⟨vp_in_nI (by omega) (by decide), (c_namesOf σ (toM ρ) (toC ρ)).i ?_⟩
  rw [← nI_0]
  refine l_lookAtNames hB w (h := h) _ (fun τ h' a b => ⟨rfl, h', a, b⟩) 6 0 rfl (by decide) _ σ h ⟨fun k => ⟨k, fun n hn => by omega⟩, fun k => k.1⟩ (c.meq (fun k hk => ?_))
  show ρ.me k = meG ρ 0 k
  unfold meG
  rw [if_neg (by omega)]
end
