/-! CALLS THAT CHANGE THE PROGRAM: cls -/
/-- the loop of addClass over the signatures -/
def acI (σ1 : mS) (n : Nat) (fv : Nat → Int32) (s : Nat) (τ : mS) : Prop := (∀ k, k ≠ 7 → k ≠ 8 → τ k = σ1 k) ∧ (∀ j, j < 4 * n → τ 7 j = σ1 7 j ∧ τ 8 j = σ1 8 j) ∧ ∀ s', s' < s → τ 7 (4 * n + s') = -1 ∧ τ 8 (4 * n + s') = fv s'
theorem l_addClass {σ1 : mS} {n : Nat} (hn : n < 8) (fv : Nat → Int32) (hv : (σ1 4 n = -1 ∧ ∀ s, s < 4 → fv s = -1) ∨ (IN (σ1 4 n) n ∧ ∀ s, s < 4 → fv s = σ1 8 (4 * gN σ1 4 n + s))) (Q : Option mV → mS → Prop) (u1 : Option mV) (hq : ∀ τ, acI σ1 n fv 4 τ → Q (some (.inl (nI n))) τ) :
    ∀ d s, 4 - s = d → s ≤ 4 → ∀ τ, acI σ1 n fv s τ → J M_P_addClass Q 57 [some (.inr (1, 0)), u1, some (.inl (nI n)), some (.inl (nI s))] [] τ := by
  intro d
  induction d with
  | zero =>
    intro s h1 h2 τ hI
    have : s = 4 := by omega
    subst this
    exact r_P_addClass_57 ⟨fun _ => hq τ hI, fun q => absurd (nI_le (Nat.le_refl _) (by omega)) q⟩
  | succ d ih =>
    intro s h1 h2 τ hI
    obtain ⟨i1, i2, i3⟩ := hI
    refine r_P_addClass_57 ⟨fun q => absurd q (nI_ge (by omega) (by omega)), fun _ => ?_⟩
    have e : nI n * nI 4 + nI s = nI (4 * n + s) := by rw [pk_mul, nI_add]; congr 1; omega
    rw [e, cl_nI (by omega)]
    refine ⟨vp_in_nI (by omega) (by decide), ?_⟩
    have p4 : m_up τ 7 (4 * n + s) (-1 : Int32) 4 n = σ1 4 n := by rw [m_up_ne (by decide), i1 4 (by decide) (by decide)]
    have hp : m_up τ 7 (4 * n + s) (-1 : Int32) 4 n = -1 ∨ IN (m_up τ 7 (4 * n + s) (-1 : Int32) 4 n) 8 := by
      rw [p4]
      rcases hv with q | q
      · exact Or.inl q.1
      · exact Or.inr (q.1.mono (by omega))
    refine (c_findMethod hn (by omega) hp).v ?_
    have fm : fmV (m_up τ 7 (4 * n + s) (-1 : Int32)) n s = fv s := by
      unfold fmV
      rw [m_up_s, upd_s, if_pos rfl, p4]
      rcases hv with ⟨q1, q2⟩ | ⟨q1, q2⟩
      · rw [if_pos q1, q2 s (by omega)]
      · have g := q1.g (by omega)
        rw [if_neg (by rw [g.1]; exact nI_m1 (by omega)), q2 s (by omega), m_up_ne (by decide), show gN (m_up τ 7 (4 * n + s) (-1 : Int32)) 4 n = gN σ1 4 n by unfold gN; rw [p4]]
        exact (i2 _ (by omega)).2
    rw [fm, nI_1]
    refine ih (s + 1) (by omega) (by omega) _ ⟨fun k a b => by rw [m_up_ne b, m_up_ne a]; exact i1 k a b, fun j hj => ⟨?_, ?_⟩, fun s' hs' => ?_⟩
    · rw [m_up_ne (by decide), m_up_s, upd_o (by omega)]; exact (i2 j hj).1
    · rw [m_up_s, upd_o (by omega), m_up_ne (by decide)]; exact (i2 j hj).2
    · rw [m_up_ne (show 7 ≠ 8 by decide), m_up_s, m_up_s, m_up_ne (show 8 ≠ 7 by decide)]
      by_cases es : s' = s
      · subst es; rw [upd_s, upd_s]; exact ⟨rfl, rfl⟩
      · rw [upd_o (by omega), upd_o (by omega)]; exact i3 s' (by omega)
def okP (π : mS) (x : Int32) : Prop := x = -1 ∨ rg x (π 25 0) = true
theorem okP_in {π : mS} (hw : WM π) {x : Int32} (h : okP π x) : x = -1 ∨ IN x (nC π) := by
  rcases h with h | h
  · exact Or.inl h
  · rw [hw.nC8.1] at h; exact Or.inr (rg_n h)
theorem c_addClass {π σ : mS} (h : RCp π σ) {x : Int32} (hx : x = -1 ∨ IN x (nC π)) (hn : nC π < 8) : MU M_P_addClass [.inr (1, 0), .inl x] σ (fun r τ => r = some (.inl (nI (nC π))) ∧ RCp (csN π x) τ ∧ ∀ k, k = 2 ∨ k = 3 ∨ k = 13 ∨ k = 14 ∨ k = 15 ∨ k = 23 ∨ (25 ≤ k ∧ k ≤ 58) → τ k = σ k) := by
  obtain ⟨hw, h1, h2, h3⟩ := h
  have e0 : σ 1 0 = nI (nC π) := by rw [h1.1, hw.nC8.1]
  have hw' := cs_wm hw hx hn
  -- the end
  have fin : ∀ (σ1 : mS) (fv : Nat → Int32), (∀ k, k ≠ 1 → k ≠ 4 → k ≠ 5 → k ≠ 6 → σ1 k = σ k) → σ1 1 = upd (σ 1) 0 (nI (nC π + 1)) → σ1 4 = upd (σ 4) (nC π) x → (∀ c, c < nC π → σ1 5 c = σ 5 c) → (∀ a, bt (σ1 5 (nC π)) a = und (csN π x) (nC π) a) → σ1 6 = upd (σ 6) (nC π) 0 → (∀ s, s < 4 → fv s = fnd (csN π x) (nC π) s) → ∀ τ, acI σ1 (nC π) fv 4 τ → RCp (csN π x) τ ∧ ∀ k, k = 2 ∨ k = 3 ∨ k = 13 ∨ k = 14 ∨ k = 15 ∨ k = 23 ∨ (25 ≤ k ∧ k ≤ 58) → τ k = σ k := by
    intro σ1 fv so s1 s4 s5 s5n s6 sfv τ ⟨i1, i2, i3⟩
    have eF : nF (csN π x) = nF π := cs_g (by decide)
    have eM : nM (csN π x) = nM π := cs_g (by decide)
    have eT : nT (csN π x) = nT π := cs_g (by decide)
    have eS : nS (csN π x) = nS π := cs_g (by decide)
    refine ⟨⟨hw', ?_, ?_, ?_⟩, fun k hk => by rw [i1 k (by omega) (by omega), so k (by omega) (by omega) (by omega) (by omega)]⟩
    · unfold RC1 at *
      rw [i1 1 (by decide) (by decide), i1 2 (by decide) (by decide), s1, so 2 (by decide) (by decide) (by decide) (by decide), cs_25, upd_s, upd_s, upd_o (by decide), upd_o (by decide), upd_o (by decide), upd_o (by decide), upd_o (by decide), upd_o (by decide), upd_o (by decide), upd_o (by decide), upd_o (by decide)]
      exact ⟨rfl, h1.2⟩
    · unfold RC2
      rw [eF, eT, cs_n hn, cs_k (k := 27) (by decide) (by decide), cs_k (k := 38) (by decide) (by decide), i1 4 (by decide) (by decide), i1 5 (by decide) (by decide), i1 6 (by decide) (by decide), i1 9 (by decide) (by decide), i1 10 (by decide) (by decide), so 9 (by decide) (by decide) (by decide) (by decide), so 10 (by decide) (by decide) (by decide) (by decide), s4, s6, cs_26]
      refine ⟨fun c hc => ?_, fun c hc a => ?_, fun c hc o => ?_, fun c hc s hs => ?_, h2.2.2.2.2.1, h2.2.2.2.2.2⟩
      · by_cases e : c = nC π
        · subst e; rw [upd_s, upd_s]
        · rw [upd_o e, upd_o e]; exact h2.1 c (by omega)
      · by_cases e : c = nC π
        · subst e; exact s5n a
        · rw [s5 c (by omega), cs_und hw hx hn a c (by omega)]; exact h2.2.1 c (by omega) a
      · rw [show sc (csN π x) o = sc π o from cs_gk (by decide) (by decide)]
        by_cases ho : o < nT π
        · have hs := (hw.sc ho).2
          rw [cs_und hw hx hn _ _ hs]
          by_cases e : c = nC π
          · subst e
            rw [upd_s, b_0]
            have : und π (sc π o) (nC π) = false := by
              rw [← Bool.not_eq_true]
              intro q
              have := und_le hw _ hs q
              omega
            rw [this, Bool.and_false]
          · rw [upd_o e]; exact h2.2.2.1 c (by omega) o
        · rw [decide_eq_false ho, Bool.false_and]
          by_cases e : c = nC π
          · subst e; rw [upd_s, b_0]
          · rw [upd_o e, h2.2.2.1 c (by omega) o, decide_eq_false ho, Bool.false_and]
      · by_cases e : c = nC π
        · subst e
          rw [(i3 s hs).1, (i3 s hs).2, sfv s hs, cs_mW, mW_none hw (Nat.le_refl _) (by omega)]
          exact ⟨rfl, rfl⟩
        · rw [(i2 _ (by omega)).1, (i2 _ (by omega)).2, so 7 (by decide) (by decide) (by decide) (by decide), so 8 (by decide) (by decide) (by decide) (by decide), cs_mW, cs_fnd hw hx hn s c (by omega)]
          exact h2.2.2.2.1 c (by omega) s hs
    · unfold RC3 cnt sth
      rw [eM, eS, i1 11 (by decide) (by decide), i1 12 (by decide) (by decide), so 11 (by decide) (by decide) (by decide) (by decide), so 12 (by decide) (by decide) (by decide) (by decide)]
      refine ⟨fun m hm => ?_, fun m hm t ht => ?_, fun i hi => ?_⟩
      · rw [sts_c (cs_k (by decide) (by decide)) eS]; exact h3.1 m hm
      · rw [sts_c (cs_k (by decide) (by decide)) eS] at ht ⊢; exact h3.2.1 m hm t ht
      · rw [i1 (59 + i) (by omega) (by omega), so (59 + i) (by omega) (by omega) (by omega) (by omega), cs_k (k := 30) (by decide) (by decide), cs_k (k := 31) (by decide) (by decide), cs_k (k := 32) (by decide) (by decide), cs_k (k := 33) (by decide) (by decide), cs_k (k := 34) (by decide) (by decide), cs_k (k := 35) (by decide) (by decide), cs_k (k := 36) (by decide) (by decide), cs_k (k := 37) (by decide) (by decide)]
        exact h3.2.2 i hi
  have n26 : csN π x 26 (nC π) = x := by rw [cs_26, upd_s]
  have vn := vp_in_nI (n := nC π) (N := 8) hn (by decide)
  refine MU_of rfl rfl rfl (r_P_addClass_0 ?_)
  rw [e0, nI_1]
  rintro _ rfl
  rw [cl_nI (by omega)]
  refine ⟨vn, vn, ?_⟩
  intro t4 ht4
  have t4_1 : t4 1 = upd (σ 1) 0 (nI (nC π + 1)) := by rw [ht4, m_up_ne (by decide), m_up_ne (by decide), m_up_s]
  have t4_4 : t4 4 = upd (σ 4) (nC π) x := by rw [ht4, m_up_ne (by decide), m_up_s, m_up_ne (by decide)]
  have t4_5 : t4 5 = upd (σ 5) (nC π) ((1 : Int32) <<< (nI (nC π) &&& 31)) := by rw [ht4, m_up_s, m_up_ne (by decide), m_up_ne (by decide)]
  have t4_o : ∀ k, k ≠ 1 → k ≠ 4 → k ≠ 5 → t4 k = σ k := fun k a b c => by rw [ht4, m_up_ne c, m_up_ne b, m_up_ne a]
  refine ⟨fun q => ⟨vn, ?_⟩, fun q => ?_⟩
  · -- no parent
    have sfv : ∀ s, s < 4 → (-1 : Int32) = fnd (csN π x) (nC π) s := fun s hs => by
      rw [fnd_eq hw' (by rw [cs_n hn]; omega), cs_mW, mW_none hw (Nat.le_refl _) (by omega), if_pos rfl, n26, if_pos q]
    refine l_addClass (σ1 := m_up t4 6 (nC π) (0 : Int32)) hn (fun _ => -1) (Or.inl ⟨by rw [m_up_ne (by decide), t4_4, upd_s, q], fun _ _ => rfl⟩) _ _ (fun τ hI => ⟨rfl, fin _ _ (fun k a b c d => by rw [m_up_ne d, t4_o k a b c]) (by rw [m_up_ne (by decide), t4_1]) (by rw [m_up_ne (by decide), t4_4]) (fun c hc => by rw [m_up_ne (by decide), t4_5, upd_o (by omega)]) (fun a => ?_) (by rw [m_up_s, t4_o 6 (by decide) (by decide) (by decide)]) sfv τ hI⟩) 4 0 rfl (by decide) _ ⟨fun _ _ _ => rfl, fun _ _ => ⟨rfl, rfl⟩, fun s' hs' => by omega⟩
    rw [m_up_ne (by decide), t4_5, upd_s, bt_1shl (by omega), und_eq hw' (by rw [cs_n hn]; omega), n26, q, decide_eq_true rfl, Bool.not_true, Bool.false_and, Bool.or_false]
    exact decide_eq_decide.mpr ⟨fun e => e.symm, fun e => e.symm⟩
  · obtain ⟨p, hp, rfl⟩ := hx.resolve_left q
    have hx : nI p = -1 ∨ IN (nI p) (nC π) := Or.inr ⟨p, hp, rfl⟩
    have gp : gN (csN π (nI p)) 26 (nC π) = p := by unfold gN; rw [n26, cl_nI (by omega)]
    rw [cl_nI (by omega)]
    refine ⟨vn, vp_in_nI (by omega) (by decide), vn, vn, ?_⟩
    have sfv : ∀ s, s < 4 → σ 8 (4 * p + s) = fnd (csN π (nI p)) (nC π) s := fun s hs => by
      rw [fnd_eq hw' (by rw [cs_n hn]; omega), cs_mW, mW_none hw (Nat.le_refl _) (by omega), if_pos rfl, n26, if_neg q, gp, cs_fnd hw hx hn s p hp, (h2.2.2.2.1 p hp s hs).2]
    have e5 : t4 5 (nC π) = (1 : Int32) <<< (nI (nC π) &&& 31) := by rw [t4_5, upd_s]
    have e5p : t4 5 p = σ 5 p := by rw [t4_5, upd_o (by omega)]
    rw [e5, e5p]
    generalize hσ1 : m_up (m_up t4 5 (nC π) ((1 : Int32) <<< (nI (nC π) &&& 31) ||| σ 5 p)) 6 (nC π) (0 : Int32) = σ1
    have q1 : σ1 1 = upd (σ 1) 0 (nI (nC π + 1)) := by rw [← hσ1, m_up_ne (by decide), m_up_ne (by decide), t4_1]
    have q4 : σ1 4 = upd (σ 4) (nC π) (nI p) := by rw [← hσ1, m_up_ne (by decide), m_up_ne (by decide), t4_4]
    have q5 : σ1 5 = upd (t4 5) (nC π) ((1 : Int32) <<< (nI (nC π) &&& 31) ||| σ 5 p) := by rw [← hσ1, m_up_ne (by decide), m_up_s]
    have q6 : σ1 6 = upd (σ 6) (nC π) 0 := by rw [← hσ1, m_up_s, m_up_ne (by decide), t4_o 6 (by decide) (by decide) (by decide)]
    have qo : ∀ k, k ≠ 1 → k ≠ 4 → k ≠ 5 → k ≠ 6 → σ1 k = σ k := fun k a b c d => by rw [← hσ1, m_up_ne d, m_up_ne c, t4_o k a b c]
    refine l_addClass (σ1 := σ1) hn (fun s => σ 8 (4 * p + s)) (Or.inr ⟨by rw [q4, upd_s]; exact ⟨p, hp, rfl⟩, fun s hs => by rw [qo 8 (by decide) (by decide) (by decide) (by decide)]; unfold gN; rw [q4, upd_s, cl_nI (by omega)]⟩) _ _ (fun τ hI => ⟨rfl, fin σ1 _ qo q1 q4 (fun c hc => by rw [q5, upd_o (by omega), t4_5, upd_o (by omega)]) (fun a => ?_) q6 sfv τ hI⟩) 4 0 rfl (by decide) _ ⟨fun _ _ _ => rfl, fun _ _ => ⟨rfl, rfl⟩, fun s' hs' => by omega⟩
    rw [q5, upd_s, b_or, bt_1shl (by omega), und_eq hw' (by rw [cs_n hn]; omega), n26, gp, decide_eq_false q, Bool.not_false, Bool.true_and, cs_und hw hx hn a p hp, h2.2.1 p hp a]
    congr 1
    exact decide_eq_decide.mpr ⟨fun e => e.symm, fun e => e.symm⟩
def okK (π : mS) (x : Int32) : Prop := okP π x ∧ nC π < 8
noncomputable def badK (π : mS) (x : Int32) : Int32 := cIf (okP π x) (-nI 4) (-1)
theorem c_cls {π σ : mS} (h : RC π σ) (x : Int32) : MU M_O_cls [.inr (0, 0), .inl x] σ (oC (okK π x) (π 25 0) (badK π x) (csN π x) σ) := by
  have hw := h.1.1
  have aC := hw.nC8
  have e0 : σ 1 0 = nI (nC π) := by rw [h.1.2.1.1, aC.1]
  obtain ⟨f1, f2, f3, f4⟩ := fA_rc h
  have go : okP π x → ((nI (nC π) < nI 8 → MU M_O_forgetAnswers [.inr (0, 0)] σ (fun r s1 => r = none ∧ (MU M_P_addClass [.inr (1, 0), .inl x] s1 (fun r s3 => ∃ r5, r = some (.inl r5) ∧ (oC (okK π x) (π 25 0) (badK π x) (csN π x) σ (some (.inl r5)) s3))))) ∧ (¬ nI (nC π) < nI 8 → oC (okK π x) (π 25 0) (badK π x) (csN π x) σ (some (.inl (-nI 4))) σ)) := by
    intro hp
    refine ⟨fun hlt => ?_, fun hge => Or.inr ⟨fun k => absurd (nI_lt k.2 (by decide)) hge, by unfold badK; rw [cIf_t hp], rfl⟩⟩
    have hn : nC π < 8 := by
      rcases Nat.lt_or_ge (nC π) 8 with a | a
      · exact a
      · exact absurd hlt (nI_nlt a (by omega))
    refine (c_forgetAnswers σ).v ((c_addClass f1.1 (okP_in hw hp) hn).mono ?_)
    rintro r τ ⟨rfl, h1, h2⟩
    exact ⟨_, rfl, Or.inl ⟨⟨hp, hn⟩, by rw [aC.1], pC_of h1 h2 h.2.2⟩⟩
  refine MU_of rfl rfl rfl (r_O_cls_0 ⟨fun q => ?_, fun q => (c_hasClass σ x).i ?_⟩)
  · rw [e0]; exact go (Or.inl q)
  · rw [e0, ← aC.1]
    refine br_b' (fun e => Or.inr ⟨fun k => ?_, ?_, rfl⟩) (fun e => by have g := go (Or.inr e); rw [← aC.1] at g; exact g)
    · rcases k.1 with k | k
      · exact q k
      · rw [k] at e; cases e
    · unfold badK
      rw [cIf_f]
      rintro (k | k)
      · exact q k
      · rw [k] at e; cases e
theorem i_lt {x y : Int32} : x < y ↔ x.toInt < y.toInt := Int32.lt_iff_toInt_lt
theorem i_le {x y : Int32} : x ≤ y ↔ x.toInt ≤ y.toInt := Int32.le_iff_toInt_le
theorem i_eq {x y : Int32} : x = y ↔ x.toInt = y.toInt := Int32.toInt_inj.symm
theorem i_m1 : ((-1 : Int32)).toInt = -1 := by decide
theorem i_0 : ((0 : Int32)).toInt = 0 := by decide
theorem i_1 : ((1 : Int32)).toInt = 1 := by decide
theorem okP_iff {π : mS} (hw : WM π) {x : Int32} : okP π x ↔ ¬ x < (-1 : Int32) ∧ x < π 25 0 := by
  have aC := hw.nC8
  have ti : (π 25 0).toInt = (nC π : Int) := by rw [aC.1]; exact nI_toInt (by omega)
  unfold okP
  rw [rg_iff, i_eq, i_lt, i_le, i_lt, i_lt, i_m1, i_0, ti]
  omega
theorem d_cls {π σ : mS} (h : RMm π σ) (x : Int32) : MU M_M_cls [.inr (25, 0), .inl x] σ (oM (okK π x) (π 25 0) (badK π x) (csN π x) σ) := by
  have hw := h.1.1
  have aC := hw.nC8
  have e0 : σ 25 0 = π 25 0 := h.1.2.2 0 (by decide)
  have hp := okP_iff (π := π) hw (x := x)
  refine MU_of rfl rfl rfl (r_M_cls_0 ?_)
  rw [e0]
  refine ⟨fun q => Or.inr ⟨fun k => (hp.mp k.1).1 q, by unfold badK; rw [cIf_f (fun k => (hp.mp k).1 q)], rfl⟩, fun q => ⟨fun q2 => ?_, fun q2 => Or.inr ⟨fun k => q2 (hp.mp k.1).2, by unfold badK; rw [cIf_f (fun k => q2 (hp.mp k).2)], rfl⟩⟩⟩
  have hok : okP π x := hp.mpr ⟨q, q2⟩
  rw [aC.1, cl_nI (by omega)]
  refine ⟨fun hne => ?_, fun he => Or.inr ⟨fun k => ?_, by unfold badK; rw [cIf_t hok], rfl⟩⟩
  · have hn : nC π < 8 := by
      rcases Nat.lt_or_ge (nC π) 8 with a | a
      · exact a
      · exact absurd (by rw [show nC π = 8 by omega]) hne
    refine ⟨vp_in_nI hn (by decide), ?_⟩
    rintro _ rfl
    rw [m_up_ne (show 25 ≠ 26 by decide), e0, aC.1, nI_1]
    refine (d_change _).v (Or.inl ⟨⟨hok, hn⟩, ?_, ?_⟩)
    · rw [cH_j (by decide) (by decide) (by decide) (by decide), m_up_s, upd_s, nI_pred]
    · refine pM_of (cs_wm hw (okP_in hw hok) hn) (fun k a b => ?_) (fun j hj => ?_) (ZM_25 h.2.2 (fun k a b => by rw [m_up_ne (by omega), m_up_ne (by omega)])) (fun k hk => by rw [m_up_ne (by omega), m_up_ne (by omega)])
      · rw [m_up_ne (by omega)]
        by_cases e : k = 26
        · subst e; rw [m_up_s, cs_26, h.1.2.1 26 (by decide) (by decide)]
        · rw [m_up_ne e, cs_k (by omega) e]; exact h.1.2.1 k a b
      · rw [m_up_s, m_up_ne (by decide), cs_25]
        by_cases e : j = 0
        · subst e; rw [upd_s, upd_s]
        · rw [upd_o e, upd_o e]; exact h.1.2.2 j hj
  · have := nI_inj (by omega) (by decide) he
    have := k.2
    omega
