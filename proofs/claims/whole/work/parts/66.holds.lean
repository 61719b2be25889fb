/-! RUNS: the model, holds -/
section
variable {π τ0 τ : mS} {N : Nat} {ρ : RnS}
theorem DD.me (c : DD τ0 τ ρ) {a : Nat} {v : Int32} {g : Nat → Int32} (hg : ∀ k, k < 60 → upd ρ.me a v k = g k) : DD τ0 (m_up τ 58 a v) (wMe ρ g) := by
  obtain ⟨c1, ⟨r1, r2, r3, r4, r5, r6, r7⟩⟩ := c
  refine ⟨c1.up (by omega), ⟨?_, ?_, ?_, ?_, ?_, ?_, ?_⟩⟩
  · rw [m_up_ne (by decide)]; exact r1
  · rw [m_up_ne (by decide)]; exact r2
  · rw [m_up_ne (by decide), m_up_ne (by decide)]; exact r3
  · rw [m_up_ne (by decide)]; exact r4
  · rw [m_up_ne (by decide)]; exact r5
  · rw [m_up_ne (by decide), m_up_ne (by decide), m_up_ne (by decide)]; exact r6
  · intro k hk
    rw [m_up_s]
    show upd (τ 58) a v k = g k
    rw [← hg k hk]
    by_cases e : k = a
    · subst e; rw [upd_s, upd_s]
    · rw [upd_o e, upd_o e]; exact r7 k hk
theorem DD.meq (c : DD τ0 τ ρ) {g : Nat → Int32} (hg : ∀ k, k < 60 → ρ.me k = g k) : DD τ0 τ (wMe ρ g) := by
  obtain ⟨c1, ⟨r1, r2, r3, r4, r5, r6, r7⟩⟩ := c
  exact ⟨c1, ⟨r1, r2, r3, r4, r5, r6, fun k hk => (r7 k hk).trans (hg k hk)⟩⟩
def hP (π : mS) (N : Nat) (ρ : RnS) (o : Nat) : Prop := nOK π N ρ 6 ∧ (∀ s, s < 4 → oSt π N ρ s) ∧ ∀ o', o' < o → ∀ f, (f < nF π ∨ f = 8) → oSl π N ρ o' f
theorem l_holds202 (hB : BM π N τ0) (w : Wr π ρ) (c : DD τ0 τ (meF ρ)) (Q : Option mV → mS → Prop) {o : Nat} (ho : o < ρ.ob) (u2 : Option mV)
    (hK : ∀ (g : Bool) u4, (g = true ↔ hP π N ρ (o + 1)) → J M_M_holds Q 157 [some (.inr (25, 0)), some (.inl (bI g)), u2, some (.inl (nI (o + 1))), u4] [] τ) :
    ∀ d f, nF π - f = d → f ≤ nF π → ∀ g : Bool, (g = true ↔ (hP π N ρ o ∧ oSl π N ρ o 8) ∧ ∀ f', f' < f → oSl π N ρ o f') → J M_M_holds Q 202 [some (.inr (25, 0)), some (.inl (bI g)), u2, some (.inl (nI o)), some (.inl (nI f))] [] τ := by
  have hw := hB.1.1
  have aF := hw.nF8
  have aT := hw.nT20.2
  have o30 := w.1
  have hp := c.1.pm hB.1
  have e2 : τ 25 2 = nI (nF π) := by rw [hp.2.2 2 (by decide), aF.1]
  have kn := c.1.kn hB.2
  have os := (w.2.2.1 o ho).eq (by omega)
  have v30 := vp_in_nI (n := o) (N := 30) (by omega) (by decide)
  intro d
  induction d with
  | zero =>
    intro f h1 h2 g hg
    have : f = nF π := by omega
    subst this
    refine r_M_holds_202 ?_
    rw [e2, nI_1 o]
    refine ⟨fun _ => hK g _ ?_, fun q => absurd (nI_le (Nat.le_refl _) (by omega)) q⟩
    rw [hg]
    constructor
    · rintro ⟨⟨⟨a, b, d⟩, e⟩, f⟩
      refine ⟨a, b, fun o' ho' f' hf' => ?_⟩
      by_cases eo : o' = o
      · subst eo
        rcases hf' with q | q
        · exact f f' q
        · rw [q]; exact e
      · exact d o' (by omega) f' hf'
    · rintro ⟨a, b, d⟩
      exact ⟨⟨⟨a, b, fun o' ho' => d o' (by omega)⟩, d o (by omega) 8 (Or.inr rfl)⟩, fun f' hf' => d o (by omega) f' (Or.inl hf')⟩
  | succ d ih =>
    intro f h1 h2 g hg
    have key := ih (f + 1) (by omega) (by omega)
    refine r_M_holds_202 ?_
    rw [e2, nI_1 f]
    refine ⟨fun q => absurd q (nI_ge (by omega) (by omega)), fun _ => br_b (fun q => ?_) (fun q => ?_)⟩
    · refine key false ⟨fun k => (by cases k), fun k => ?_⟩
      have := hg.mpr ⟨k.1, fun f' hf' => k.2 f' (by omega)⟩
      rw [q] at this; exact this
    · have s50 : τ 50 o = nI (ρ.os o).toNatClampNeg := by rw [c.2.2.1 o ho]; exact os.1
      rw [pk_mul, nI_add, cl_nI (n := o) (by omega), s50, pk_mul, nI_add, cl_nI (n := 8 * o + f) (by omega), cl_nI (n := 8 * (ρ.os o).toNatClampNeg + f) (by omega), kn.2.1, a1_at (by omega) (by omega), (c.2.2.2.1 o ho).1 f (by omega)]
      refine ⟨vp_in_nI (by omega) (by decide), v30, vp_in_nI (by omega) (by decide), ?_⟩
      have di : MR M_M_isIn [.inr (25, 0), .inl (ρ.sl (9 * o + f)), .inl (it π N (1260 + 9 * (ρ.os o).toNatClampNeg + f))] τ (some (.inl (bI (inR ρ (ρ.sl (9 * o + f)) (it π N (1260 + 9 * (ρ.os o).toNatClampNeg + f)))))) τ := d_isIn hw (ρ := meF ρ) w c (w.2.2.2.1 _ (by omega)) _
      refine di.i (br_b (fun q2 => key false ⟨fun k => (by cases k), fun k => ?_⟩) (fun q2 => key true ⟨fun _ => ?_, fun _ => rfl⟩))
      · have := k.2 f (Nat.lt_succ_self _)
        unfold oSl at this
        rw [q2] at this; exact this
      · obtain ⟨a, b⟩ := hg.mp q
        refine ⟨a, fun f' hf' => ?_⟩
        by_cases e : f' = f
        · subst e; exact q2
        · exact b f' (by omega)
theorem l_holds157 (hB : BM π N τ0) (w : Wr π ρ) (c : DD τ0 τ (meF ρ)) (Q : Option mV → mS → Prop) (hQ : ∀ g : Bool, (g = true ↔ hOK π N ρ) → Q (some (.inl (bI g))) τ) (u2 : Option mV) :
    ∀ d o, ρ.ob - o = d → o ≤ ρ.ob → ∀ (g : Bool) u4, (g = true ↔ hP π N ρ o) → J M_M_holds Q 157 [some (.inr (25, 0)), some (.inl (bI g)), u2, some (.inl (nI o)), u4] [] τ := by
  have hw := hB.1.1
  have aT := hw.nT20.2
  have o30 := w.1
  have kn := c.1.kn hB.2
  have e32 : τ 25 32 = nI ρ.ob := c.2.1.1
  intro d
  induction d with
  | zero =>
    intro o h1 h2 g u4 hg
    have : o = ρ.ob := by omega
    subst this
    refine r_M_holds_157 ?_
    rw [e32]
    exact ⟨fun _ => ⟨bI_01 _, hQ g hg⟩, fun q => absurd (nI_le (Nat.le_refl _) (by omega)) q⟩
  | succ d ih =>
    intro o h1 h2 g u4 hg
    have ho : o < ρ.ob := by omega
    have os := (w.2.2.1 o ho).eq (by omega)
    have key := l_holds202 hB w c Q ho u2 (fun g u4 hg => ih (o + 1) (by omega) (by omega) g u4 hg) (nF π) 0 rfl (Nat.zero_le _)
    rw [nI_0] at key
    have v30 := vp_in_nI (n := o) (N := 30) (by omega) (by decide)
    have s50 : τ 50 o = nI (ρ.os o).toNatClampNeg := by rw [c.2.2.1 o ho]; exact os.1
    refine r_M_holds_157 ?_
    rw [e32]
    refine ⟨fun q => absurd q (nI_ge (by omega) (by omega)), fun _ => br_b (fun q => ?_) (fun q => ?_)⟩
    · refine key false ⟨fun k => (by cases k), fun k => ?_⟩
      have := hg.mpr k.1.1
      rw [q] at this; exact this
    · rw [cl_nI (n := o) (by omega), s50, cl_nI (n := (ρ.os o).toNatClampNeg) (by omega), kn.2.2.1, a2_at (by omega), (c.2.2.2.1 o ho).2]
      refine ⟨v30, v30, vp_in_nI (by omega) (by decide), ?_⟩
      have di : MR M_M_isIn [.inr (25, 0), .inl (ρ.sl (9 * o + 8)), .inl (it π N (1260 + 9 * (ρ.os o).toNatClampNeg + 8))] τ (some (.inl (bI (inR ρ (ρ.sl (9 * o + 8)) (it π N (1260 + 9 * (ρ.os o).toNatClampNeg + 8)))))) τ := d_isIn hw (ρ := meF ρ) w c (w.2.2.2.1 _ (by omega)) _
      refine di.i (br_b (fun q2 => key false ⟨fun k => (by cases k), fun k => ?_⟩) (fun q2 => key true ⟨fun _ => ?_, fun _ => rfl⟩))
      · have := k.1.2
        unfold oSl at this
        rw [q2] at this; exact this
      · exact ⟨⟨hg.mp q, q2⟩, fun f' hf' => by omega⟩
theorem l_holds115 (hB : BM π N τ0) (w : Wr π ρ) (c : DD τ0 τ (meF ρ)) (Q : Option mV → mS → Prop) (hQ : ∀ g : Bool, (g = true ↔ hOK π N ρ) → Q (some (.inl (bI g))) τ) (u2 u4 : Option mV) :
    ∀ d s, 4 - s = d → s ≤ 4 → ∀ (g : Bool), (g = true ↔ nOK π N ρ 6 ∧ ∀ s', s' < s → oSt π N ρ s') → J M_M_holds Q 115 [some (.inr (25, 0)), some (.inl (bI g)), u2, some (.inl (nI s)), u4] [] τ := by
  have hw := hB.1.1
  have kn := c.1.kn hB.2
  intro d
  induction d with
  | zero =>
    intro s h1 h2 g hg
    have : s = 4 := by omega
    subst this
    refine r_M_holds_115 ⟨fun _ => ?_, fun q => absurd (nI_le (Nat.le_refl _) (by decide)) q⟩
    have := l_holds157 hB w c Q hQ u2 ρ.ob 0 rfl (Nat.zero_le _) g u4 (by
      rw [hg]
      exact ⟨fun k => ⟨k.1, k.2, fun o' ho' => by omega⟩, fun k => ⟨k.1, k.2.1⟩⟩)
    rw [nI_0] at this
    exact this
  | succ d ih =>
    intro s h1 h2 g hg
    have key := ih (s + 1) (by omega) (by omega)
    have v4 := vp_in_nI (n := s) (N := 4) (by omega) (by decide)
    refine r_M_holds_115 ?_
    rw [nI_1]
    refine ⟨fun q => absurd q (nI_ge (by omega) (by decide)), fun _ => br_b (fun q => ?_) (fun q => ⟨v4, v4, ?_⟩)⟩
    · refine key false ⟨fun k => (by cases k), fun k => ?_⟩
      have := hg.mpr ⟨k.1, fun s' hs' => k.2 s' (by omega)⟩
      rw [q] at this; exact this
    · rw [cl_nI (n := s) (by omega), kn.2.2.2.1, a3_at (by omega), c.2.2.2.2.1 s (by omega)]
      have di : MR M_M_isIn [.inr (25, 0), .inl (ρ.st s), .inl (it π N (1440 + s))] τ (some (.inl (bI (inR ρ (ρ.st s) (it π N (1440 + s)))))) τ := d_isIn hw (ρ := meF ρ) w c (w.2.2.2.2.1 _ (by omega)) _
      refine di.i (br_b (fun q2 => key false ⟨fun k => (by cases k), fun k => ?_⟩) (fun q2 => key true ⟨fun _ => ?_, fun _ => rfl⟩))
      · have := k.2 s (Nat.lt_succ_self _)
        unfold oSt at this
        rw [q2] at this; exact this
      · obtain ⟨a, b⟩ := hg.mp q
        refine ⟨a, fun s' hs' => ?_⟩
        by_cases e : s' = s
        · subst e; exact q2
        · exact b s' (by omega)
theorem l_holds11 (hB : BM π N τ0) (w : Wr π ρ) (Q : Option mV → mS → Prop) (hQ : ∀ τ (g : Bool), (g = true ↔ hOK π N ρ) → DD τ0 τ (meF ρ) → Q (some (.inl (bI g))) τ) :
    ∀ d n, 6 - n = d → n ≤ 6 → ∀ τ (g : Bool) u4, (g = true ↔ nOK π N ρ n) → DD τ0 τ (wMe ρ (meG ρ n)) → J M_M_holds Q 11 [some (.inr (25, 0)), some (.inl (bI g)), some (.inl (nI (ρ.fr - 1))), some (.inl (nI n)), u4] [] τ := by
  have hw := hB.1.1
  have aM := hw.nM10.2
  have fr := w.2.1
  obtain ⟨t1, t2, t3, t4⟩ := wr_top hw w
  have eb : bas ρ = 6 * (ρ.fr - 1) := rfl
  intro d
  induction d with
  | zero =>
    intro n h1 h2 τ g u4 hg c
    have : n = 6 := by omega
    subst this
    refine r_M_holds_11 ⟨fun _ => ?_, fun q => absurd (nI_le (Nat.le_refl _) (by decide)) q⟩
    have := l_holds115 hB w c Q (fun g hg => hQ τ g hg c) (some (.inl (nI (ρ.fr - 1)))) u4 4 0 rfl (by decide) g (by
      rw [hg]
      exact ⟨fun k => ⟨k, fun s' hs' => by omega⟩, fun k => k.1⟩)
    rw [nI_0] at this
    exact this
  | succ d ih =>
    intro n h1 h2 τ g u4 hg c
    have key := ih (n + 1) (by omega) (by omega)
    have kn := c.1.kn hB.2
    have c6 := c.2.2.2.2.2.2.1 (ρ.fr - 1) (by show ρ.fr - 1 < ρ.fr; omega)
    have e54 : τ 54 (ρ.fr - 1) = nI (toM ρ) := c6.1.trans t1
    have e55 : τ 55 (ρ.fr - 1) = nI (toC ρ) := c6.2.1.trans t3
    have v10 := vp_in_nI (n := ρ.fr - 1) (N := 10) (by omega) (by decide)
    have vN' : VN ρ.ob (ρ.nm (bas ρ + n)) := w.2.2.2.2.2.1 _ (by omega)
    have hn := vn_neg vN' w.1
    have g1 : ∀ k, ¬ k = 6 * toM ρ + n → meG ρ n k = meG ρ (n + 1) k := fun k hk => by
      unfold meG
      by_cases e : 6 * toM ρ ≤ k ∧ k < 6 * toM ρ + n
      · rw [if_pos e, if_pos ⟨e.1, by omega⟩]
      · rw [if_neg e, if_neg (fun q => e ⟨q.1, by omega⟩)]
    have g2 : meG ρ n (6 * toM ρ + n) = ρ.me (6 * toM ρ + n) := by unfold meG; rw [if_neg (by omega)]
    have g3 : meG ρ (n + 1) (6 * toM ρ + n) = ρ.me (6 * toM ρ + n) ||| bo ρ (ρ.nm (bas ρ + n)) := by
      unfold meG
      rw [if_pos (by omega), show bas ρ + (6 * toM ρ + n - 6 * toM ρ) = bas ρ + n by omega]
    -- behind the test of a name
    have j69 : ∀ (g' : Bool) u1, (g' = true ↔ nOK π N ρ (n + 1)) → J M_M_holds Q 69 [some (.inr (25, 0)), u1, some (.inl (nI (ρ.fr - 1))), some (.inl (nI n)), some (.inl (ρ.nm (bas ρ + n)))] [.inl (bI g')] τ := by
      intro g' u1 hg'
      have v60 := vp_in_nI (n := 6 * toM ρ + n) (N := 60) (by omega) (by decide)
      have put : ∀ x : Int32, x = bo ρ (ρ.nm (bas ρ + n)) → DD τ0 (m_up τ 58 (6 * toM ρ + n) (meG ρ n (6 * toM ρ + n) ||| x)) (wMe ρ (meG ρ (n + 1))) := by
        rintro x rfl
        refine DD.me (ρ := wMe ρ (meG ρ n)) c (fun k hk => ?_)
        show upd (meG ρ n) _ _ k = meG ρ (n + 1) k
        by_cases ek : k = 6 * toM ρ + n
        · subst ek
          rw [upd_s, g2, g3]
        · rw [upd_o ek]; exact g1 k ek
      refine r_M_holds_69 ?_
      rw [cl_nI (n := ρ.fr - 1) (by omega), e54, pk_mul, nI_add, cl_nI (n := 6 * toM ρ + n) (by omega), nI_1]
      have e58 : τ 58 (6 * toM ρ + n) = meG ρ n (6 * toM ρ + n) := c.2.2.2.2.2.2.2 _ (by omega)
      rw [e58]
      refine ⟨v10, v60, fun q => ?_, fun q => ⟨v60, key _ g' _ hg' (put 0 ?_)⟩⟩
      · obtain ⟨o, ho, ev, co, o30, os, si⟩ := wr_si hw w vN' (hn.2.mp q)
        have e50 : τ 50 (ρ.nm (bas ρ + n)).toNatClampNeg = ρ.os (ρ.nm (bas ρ + n)).toNatClampNeg := by rw [co]; exact c.2.2.1 o ho
        refine ⟨by rw [ev]; exact vp_in_nI o30 (by decide), v60, key _ g' _ hg' (put _ ?_)⟩
        unfold bo
        rw [if_neg (hn.2.mp q), e50]
      · unfold bo
        rw [if_pos (Classical.byContradiction (fun k => q (hn.2.mpr k)))]
    refine r_M_holds_11 ⟨fun q => absurd q (nI_ge (by omega) (by decide)), fun _ => ?_⟩
    rw [pk_mul, nI_add, ← eb, cl_nI (n := bas ρ + n) (by omega), cl_nI (n := ρ.fr - 1) (by omega), e54, e55]
    refine ⟨vp_in_nI (by omega) (by decide), ?_⟩
    have e57 : τ 57 (bas ρ + n) = ρ.nm (bas ρ + n) := c.2.2.2.2.2.1 _ (by show bas ρ + n < 6 * ρ.fr; omega)
    rw [e57]
    rintro _ rfl
    refine br_b (fun q => ?_) (fun q => ⟨v10, v10, (d_nameAt τ (toM ρ) (toC ρ) n).i ⟨vp_in_nI (by omega) (by decide), ?_⟩⟩)
    · refine j69 false _ ⟨fun k => (by cases k), fun k => ?_⟩
      have := hg.mpr (fun k' hk' => k k' (by omega))
      rw [q] at this; exact this
    · rw [cl_nI (n := 126 * toM ρ + 6 * toC ρ + n) (by omega), kn.1, a0_at (by omega)]
      have di : MR M_M_isIn [.inr (25, 0), .inl (ρ.nm (bas ρ + n)), .inl (it π N (126 * toM ρ + 6 * toC ρ + n))] τ (some (.inl (bI (inR ρ (ρ.nm (bas ρ + n)) (it π N (126 * toM ρ + 6 * toC ρ + n)))))) τ := d_isIn hw (ρ := wMe ρ (meG ρ n)) w c vN' _
      refine di.i (br_b (fun q2 => j69 false _ ⟨fun k => (by cases k), fun k => ?_⟩) (fun q2 => j69 true _ ⟨fun _ => ?_, fun _ => rfl⟩))
      · have := k n (Nat.lt_succ_self _)
        rw [q2] at this; exact this
      · have a := hg.mp q
        intro k hk
        by_cases e : k = n
        · subst e; exact q2
        · exact a k (by omega)
theorem d_holds (hB : BM π N τ0) (w : Wr π ρ) (c : DD τ0 τ ρ) : MU M_M_holds [.inr (25, 0)] τ (fun r τ' => ∃ g : Bool, r = some (.inl (bI g)) ∧ (g = true ↔ hOK π N ρ) ∧ DD τ0 τ' (meF ρ)) := by
  have fr := w.2.1
  obtain ⟨g, hg⟩ : ∃ g, ρ.fr = g + 1 := ⟨ρ.fr - 1, by omega⟩
  have e1 : nI ρ.fr - (1 : Int32) = nI (ρ.fr - 1) := by rw [hg, nI_pred]; rfl
  refine MU_of rfl rfl rfl (r_M_holds_0 ?_)
  rw [c.2.1.2.1, e1]
  have := l_holds11 hB w (fun r τ' => ∃ g : Bool, r = some (.inl (bI g)) ∧ (g = true ↔ hOK π N ρ) ∧ DD τ0 τ' (meF ρ)) (fun τ g a b => ⟨g, rfl, a, b⟩) 6 0 rfl (by decide) τ true none ⟨fun _ n hn => by omega, fun _ => rfl⟩ (c.meq (fun k hk => by
    show ρ.me k = meG ρ 0 k
    unfold meG
    rw [if_neg (by omega)]))
  rw [nI_0] at this
  exact this
end
