/-! RUNS: the model, a step -/
section
variable {π τ0 τ : mS} {N : Nat} {ρ : RnS}
theorem d_enter (hB : BM π N τ0) (w : Wr π ρ) (c : DD τ0 τ ρ) {i : Nat} (hi : i < nS π) (hk : kd π i = 7) {v : Int32} (hv : VN ρ.ob v) : MU M_M_enter [.inr (25, 0), .inl (nI i), .inl (nI (bas ρ)), .inl v] τ (fun r τ' => r = none ∧ DD τ0 τ' (enF π ρ v (rr π i) (ρ.nm (bas ρ + ss π i)) (ρ.nm (bas ρ + tt π i)) (π 32 i))) := by
  have hw := hB.1.1
  have aS := hw.nS60.2
  have aT := hw.nT20.2
  have aM := hw.nM10.2
  have fr := w.2.1
  have hop := hw.op hi
  obtain ⟨q1, q2, q3, q4, q5⟩ := op_7 hop hk
  have q1 : π 32 i = nI (pp π i) ∧ pp π i < 6 := q1.g (by decide)
  have q3 : π 34 i = nI (rr π i) ∧ rr π i < 4 := q3.g (by decide)
  have q4 : π 35 i = nI (ss π i) ∧ ss π i < 6 := q4.g (by decide)
  have q5 : π 36 i = nI (tt π i) ∧ tt π i < 6 := q5.g (by decide)
  have hp := c.1.pm hB.1
  have hb : bas ρ + 6 = 6 * ρ.fr := by show 6 * (ρ.fr - 1) + 6 = 6 * ρ.fr; omega
  have c37 : τ 25 37 = nI ρ.fr := c.2.1.2.1
  have c43 : τ 25 43 = ρ.ca := c.2.1.2.2
  have c18 : τ 25 18 = π 25 18 := hp.2.2 18 (by decide)
  have ci : (nI i).toNatClampNeg = i := cl_nI (by omega)
  have vi := vp_in_nI (n := i) (N := 60) (by omega) (by decide)
  have hn := vn_neg hv w.1
  have n57 : ∀ n, n < 6 → τ 57 (bas ρ + n) = ρ.nm (bas ρ + n) := fun n hn => c.2.2.2.2.2.1 _ (by omega)
  have e32 : τ 32 i = π 32 i := by rw [hp.2.1 32 (by decide) (by decide)]
  -- behind the search
  have fin : ¬ v = -1 → ¬ ρ.fr = 10 → ¬ fnd π (sc π (siO ρ v)) (rr π i) = -1 → ∀ u4, J M_M_enter (fun r τ' => r = none ∧ DD τ0 τ' (enF π ρ v (rr π i) (ρ.nm (bas ρ + ss π i)) (ρ.nm (bas ρ + tt π i)) (π 32 i))) 98 [some (.inr (25, 0)), some (.inl (nI i)), some (.inl (nI (bas ρ))), some (.inl v), u4, some (.inl (ρ.nm (bas ρ + ss π i))), some (.inl (ρ.nm (bas ρ + tt π i)))] [.inl (nI (ctx π (siO ρ v))), .inl (fnd π (sc π (siO ρ v)) (rr π i)), .inr (25, 0)] τ := by
    intro hv1 hf1 hn1 u4
    have hf : ρ.fr < 10 := by omega
    refine r_M_enter_98 ⟨vi, ?_⟩
    rw [ci, e32]
    refine (d_open c37 hf _ _ _).v ?_
    rw [nI_add, nI_add, nI_add, cl_nI (n := bas ρ + 6) (by omega), cl_nI (n := bas ρ + 7) (by omega), cl_nI (n := bas ρ + 8) (by omega)]
    refine ⟨vp_in_nI (by omega) (by decide), vp_in_nI (by omega) (by decide), vp_in_nI (by omega) (by decide), ?_⟩
    rintro _ rfl
    unfold enF
    rw [if_neg (fun k => k.elim hv1 (fun k => k.elim hf1 hn1))]
    generalize hs1 : oF τ ρ.fr (fnd π (sc π (siO ρ v)) (rr π i)) (nI (ctx π (siO ρ v))) (π 32 i) = s1
    have p57 : s1 57 = fun j => if 6 * ρ.fr ≤ j ∧ j < 6 * ρ.fr + 6 then -1 else τ 57 j := by
      rw [← hs1]; unfold oF; rw [m_up_ne (by decide), m_fl_s, m_up_ne (by decide), m_up_ne (by decide), m_up_ne (by decide)]
    have p54 : s1 54 = upd (τ 54) ρ.fr (fnd π (sc π (siO ρ v)) (rr π i)) := by
      rw [← hs1]; unfold oF; rw [m_up_ne (by decide), m_fl_o (by decide), m_up_ne (by decide), m_up_ne (by decide), m_up_s]
    have p55 : s1 55 = upd (τ 55) ρ.fr (nI (ctx π (siO ρ v))) := by
      rw [← hs1]; unfold oF; rw [m_up_ne (by decide), m_fl_o (by decide), m_up_ne (by decide), m_up_s, m_up_ne (by decide)]
    have p56 : s1 56 = upd (τ 56) ρ.fr (π 32 i) := by
      rw [← hs1]; unfold oF; rw [m_up_ne (by decide), m_fl_o (by decide), m_up_s, m_up_ne (by decide), m_up_ne (by decide)]
    have p25 : s1 25 = upd (τ 25) 37 (nI (ρ.fr + 1)) := by
      rw [← hs1]; unfold oF; rw [m_up_s, m_fl_o (by decide), m_up_ne (by decide), m_up_ne (by decide), m_up_ne (by decide)]
    have po : ∀ k, k ≠ 25 → k ≠ 54 → k ≠ 55 → k ≠ 56 → k ≠ 57 → s1 k = τ k := fun k a b d e f => by
      rw [← hs1]; unfold oF; rw [m_up_ne a, m_fl_o f, m_up_ne e, m_up_ne d, m_up_ne b]
    have pF0 : FM τ0 s1 := by rw [← hs1]; exact ((((c.1.up (by omega)).up (by omega)).up (by omega)).fl (by omega)).n (by omega)
    have g3 : m_up (m_up (m_up s1 57 (bas ρ + 6) v) 57 (bas ρ + 7) (ρ.nm (bas ρ + ss π i))) 57 (bas ρ + 8) (ρ.nm (bas ρ + tt π i)) 25 43 = ρ.ca := by
      rw [m_up_ne (by decide), m_up_ne (by decide), m_up_ne (by decide), p25, upd_o (by decide), c43]
    rw [g3]
    refine ⟨rfl, ?_⟩
    obtain ⟨c1, ⟨r1, r2, r3, r4, r5, r6, r7⟩⟩ := c
    refine ⟨(((pF0.up (by omega)).up (by omega)).up (by omega)).n (by omega), ⟨⟨?_, ?_, ?_⟩, fun o ho => ?_, fun o ho => ?_, fun s hs => ?_, fun j hj => ?_, fun k hk => ?_, fun k hk => ?_⟩⟩
    · rw [m_up_s, upd_o (by decide), m_up_ne (by decide), m_up_ne (by decide), m_up_ne (by decide), p25, upd_o (by decide)]; exact r1.1
    · rw [m_up_s, upd_o (by decide), m_up_ne (by decide), m_up_ne (by decide), m_up_ne (by decide), p25, upd_s]; rfl
    · rw [m_up_s, upd_s]; rfl
    · rw [m_up_ne (by decide), m_up_ne (by decide), m_up_ne (by decide), m_up_ne (by decide), po 50 (by decide) (by decide) (by decide) (by decide) (by decide)]; exact r2 o ho
    · rw [m_up_ne (by decide), m_up_ne (by decide), m_up_ne (by decide), m_up_ne (by decide), m_up_ne (by decide), m_up_ne (by decide), m_up_ne (by decide), m_up_ne (by decide), po 51 (by decide) (by decide) (by decide) (by decide) (by decide), po 52 (by decide) (by decide) (by decide) (by decide) (by decide)]; exact r3 o ho
    · rw [m_up_ne (by decide), m_up_ne (by decide), m_up_ne (by decide), m_up_ne (by decide), po 53 (by decide) (by decide) (by decide) (by decide) (by decide)]; exact r4 s hs
    · have hj : j < 6 * (ρ.fr + 1) := hj
      rw [m_up_ne (by decide), m_up_s, m_up_s, m_up_s, p57]
      show _ = enN ρ v (ρ.nm (bas ρ + ss π i)) (ρ.nm (bas ρ + tt π i)) j
      unfold enN
      by_cases e2 : j = 6 * ρ.fr + 2
      · rw [e2, show 6 * ρ.fr + 2 = bas ρ + 8 by omega, upd_s, if_neg (by omega), if_neg (by omega), if_pos rfl]
      · rw [upd_o (by omega)]
        by_cases e1 : j = 6 * ρ.fr + 1
        · rw [e1, show 6 * ρ.fr + 1 = bas ρ + 7 by omega, upd_s, if_neg (by omega), if_pos rfl]
        · rw [upd_o (by omega)]
          by_cases e0 : j = 6 * ρ.fr
          · rw [e0, show 6 * ρ.fr = bas ρ + 6 by omega, upd_s, if_pos rfl]
          · rw [upd_o (by omega), if_neg e0, if_neg e1, if_neg e2]
            by_cases e3 : 6 * ρ.fr ≤ j
            · rw [if_pos e3, if_pos ⟨e3, by omega⟩]
            · rw [if_neg e3, if_neg (fun q => e3 q.1)]; exact r5 j (by omega)
    · have hk : k < ρ.fr + 1 := hk
      rw [m_up_ne (by decide), m_up_ne (by decide), m_up_ne (by decide), m_up_ne (by decide), m_up_ne (by decide), m_up_ne (by decide), m_up_ne (by decide), m_up_ne (by decide), m_up_ne (by decide), m_up_ne (by decide), m_up_ne (by decide), m_up_ne (by decide), p54, p55, p56]
      show upd (τ 54) _ _ k = upd ρ.fm _ _ k ∧ upd (τ 55) _ _ k = upd ρ.fc _ _ k ∧ upd (τ 56) _ _ k = upd ρ.ft _ _ k
      by_cases e : k = ρ.fr
      · subst e; rw [upd_s, upd_s, upd_s, upd_s, upd_s, upd_s]; exact ⟨rfl, rfl, rfl⟩
      · rw [upd_o e, upd_o e, upd_o e, upd_o e, upd_o e, upd_o e]; exact r6 k (by omega)
    · rw [m_up_ne (by decide), m_up_ne (by decide), m_up_ne (by decide), m_up_ne (by decide), po 58 (by decide) (by decide) (by decide) (by decide) (by decide)]; exact r7 k hk
  refine MU_of rfl rfl rfl (r_M_enter_0 ⟨fun e => ?_, fun e => ?_⟩)
  · have e := hn.2.mp e
    have vn := hv
    obtain ⟨o, ho, ev, co, o30, os, si⟩ := wr_si hw w hv e
    have sv : τ 50 v.toNatClampNeg = nI (siO ρ v) := by rw [co, c.2.2.1 o ho, os]
    refine ⟨by rw [ev]; exact vp_in_nI o30 (by decide), ?_⟩
    rw [sv, ci, cl_nI (n := siO ρ v) (by omega), hp.2.1 38 (by decide) (by decide), hp.2.1 34 (by decide) (by decide), (hw.sc si).1, q3.1]
    refine ⟨vp_in_nI (by omega) (by decide), vi, (d_found hp (hw.sc si).2 (rr π i)).i ?_⟩
    rcases fnd_cases π (sc π (siO ρ v)) (rr π i) with ef | ⟨m, hm, ef⟩
    · rw [ef]
      refine r_M_enter_29 ⟨fun _ => ⟨rfl, ?_⟩, fun q => absurd (by decide) q⟩
      unfold enF
      rw [if_pos (Or.inr (Or.inr ef))]; exact c
    · have hne : ¬ fnd π (sc π (siO ρ v)) (rr π i) = -1 := by rw [ef]; exact nI_m1 (by omega)
      refine r_M_enter_29 ⟨fun q => absurd q (by rw [ef]; exact nI_pos (by omega)), fun _ => ?_⟩
      rw [c37, ci, hp.2.1 35 (by decide) (by decide), hp.2.1 36 (by decide) (by decide), q4.1, q5.1, nI_add, nI_add, cl_nI (n := bas ρ + ss π i) (by omega), cl_nI (n := bas ρ + tt π i) (by omega), n57 _ q4.2, n57 _ q5.2, sv, c18]
      refine ⟨fun q => ⟨vi, vp_in_nI (by omega) (by decide), ?_⟩, fun q => ⟨rfl, ?_⟩⟩
      · have hf : ¬ ρ.fr = 10 := fun q2 => q (by rw [q2])
        have H := fin e hf hne
        rintro _ rfl
        refine ⟨vi, vp_in_nI (by omega) (by decide), ?_⟩
        rintro _ rfl
        refine ⟨fun q2 => ⟨by rw [ev]; exact vp_in_nI o30 (by decide), ?_⟩, fun q2 => ?_⟩
        · have ec : (1 : Int32) + nI (siO ρ v) = nI (ctx π (siO ρ v)) := by
            unfold ctx
            rw [if_neg q2, show (1 : Int32) + nI (siO ρ v) = nI 1 + nI (siO ρ v) from rfl, nI_add]
          rw [ec]; exact H _
        · have ec : (0 : Int32) = nI (ctx π (siO ρ v)) := by
            unfold ctx
            rw [if_pos q2, nI_0]
          rw [ec]; exact H _
      · unfold enF
        rw [if_pos (Or.inr (Or.inl (nI_inj (by omega) (by decide) q)))]; exact c
  · have e : v = -1 := Classical.byContradiction (fun q => e (hn.2.mpr q))
    refine r_M_enter_29 ⟨fun _ => ⟨rfl, ?_⟩, fun q => absurd (by decide) q⟩
    unfold enF
    rw [if_pos (Or.inl e)]; exact c
theorem act_pre (hB : BM π N τ0) (w : Wr π ρ) (c : DD τ0 τ ρ) {i : Nat} (hi : i < nS π) (Q : Option mV → mS → Prop) (H : J M_M_act Q 78 [some (.inr (25, 0)), some (.inl (nI i)), some (.inl (nI (bas ρ))), some (.inl (nI (bas ρ + pp π i))), some (.inl (if kd π i = 6 then -1 else ρ.nm (bas ρ + pp π i))), none] [.inl (if kd π i = 0 ∨ kd π i = 5 then -1 else ρ.nm (bas ρ + qq π i))] τ) : MU M_M_act [.inr (25, 0), .inl (nI i)] τ Q := by
  have hw := hB.1.1
  have aS := hw.nS60.2
  have aF := hw.nF8.2
  have fr := w.2.1
  have hop := hw.op hi
  have hp := c.1.pm hB.1
  have hb : bas ρ + 6 = 6 * ρ.fr := by show 6 * (ρ.fr - 1) + 6 = 6 * ρ.fr; omega
  have eb : bas ρ = 6 * (ρ.fr - 1) := rfl
  have ci : (nI i).toNatClampNeg = i := cl_nI (by omega)
  have vi := vp_in_nI (n := i) (N := 60) (by omega) (by decide)
  have k1 := hw.kd hi
  have kk : ∀ k, k < 10 → (nI (kd π i) = nI k ↔ kd π i = k) := fun k hk => ⟨fun e => nI_inj (by omega) (by omega) e, fun e => by rw [e]⟩
  obtain ⟨g, hg⟩ : ∃ g, ρ.fr = g + 1 := ⟨ρ.fr - 1, by omega⟩
  have e1 : nI ρ.fr - (1 : Int32) = nI (ρ.fr - 1) := by rw [hg, nI_pred]; rfl
  have pP : π 32 i = nI (pp π i) ∧ pp π i < 6 := by
    rcases kd_cases hw hi with k | k | k | k | k | k | k | k | k | k
    · exact (op_0 hop k).1.g (by decide)
    · exact (op_1 hop k).1.g (by decide)
    · exact (op_2 hop k).1.g (by decide)
    · exact (op_3 hop k).1.g (by decide)
    · exact (op_4 hop k).1.g (by decide)
    · exact (op_5 hop k).1.g (by decide)
    · have := (op_6 hop k).1.g (by decide)
      exact ⟨this.1, Nat.lt_of_lt_of_le this.2 (by decide)⟩
    · exact (op_7 hop k).1.g (by decide)
    · exact (op_8 hop k).1.g (by decide)
    · exact (op_9 hop k).1.g (by decide)
  have qP : ¬ kd π i = 0 → ¬ kd π i = 5 → π 33 i = nI (qq π i) ∧ qq π i < 6 := by
    intro n0 n5
    rcases kd_cases hw hi with k | k | k | k | k | k | k | k | k | k
    · exact absurd k n0
    · exact (op_1 hop k).2.g (by decide)
    · exact (op_2 hop k).2.1.g (by decide)
    · exact (op_3 hop k).2.1.g (by decide)
    · exact (op_4 hop k).2.1.g (by decide)
    · exact absurd k n5
    · exact (op_6 hop k).2.g (by decide)
    · exact (op_7 hop k).2.1.g (by decide)
    · exact (op_8 hop k).2.g (by decide)
    · exact (op_9 hop k).2.g (by decide)
  have e31 : τ 31 i = nI (kd π i) := by rw [hp.2.1 31 (by decide) (by decide), k1.1]
  have e32 : τ 32 i = nI (pp π i) := by rw [hp.2.1 32 (by decide) (by decide), pP.1]
  have n57 : ∀ n, n < 6 → τ 57 (bas ρ + n) = ρ.nm (bas ρ + n) := fun n hn => c.2.2.2.2.2.1 _ (by omega)
  have mid : ∀ y u4 u5, y = (if kd π i = 6 then -1 else ρ.nm (bas ρ + pp π i)) → u5 = none → J M_M_act Q 40 [some (.inr (25, 0)), some (.inl (nI i)), some (.inl (nI (bas ρ))), some (.inl (nI (bas ρ + pp π i))), u4, u5] [.inl y] τ := by
    rintro y u4 u5 rfl rfl
    refine r_M_act_40 ⟨vi, ?_⟩
    rw [ci, e31, show (0 : Int32) = nI 0 from nI_0.symm]
    refine ⟨fun q => ?_, fun q => ⟨vi, fun q2 => ⟨vi, ?_⟩, fun q2 => ?_⟩⟩
    · rw [if_pos (Or.inl ((kk 0 (by decide)).mp q))] at H; exact H
    · have n0 : ¬ kd π i = 0 := fun e => q ((kk 0 (by decide)).mpr e)
      have n5 : ¬ kd π i = 5 := fun e => q2 ((kk 5 (by decide)).mpr e)
      obtain ⟨a, b⟩ := qP n0 n5
      rw [hp.2.1 33 (by decide) (by decide), a, nI_add, cl_nI (by omega), n57 _ b]
      rw [if_neg (show ¬ (kd π i = 0 ∨ kd π i = 5) by omega)] at H
      exact ⟨vp_in_nI (by omega) (by decide), H⟩
    · rw [if_pos (Or.inr ((kk 5 (by decide)).mp q2))] at H; exact H
  refine MU_of rfl rfl rfl (r_M_act_0 ?_)
  rw [c.2.1.2.1, e1, pk_mul, ci, e31, e32]
  rintro _ rfl
  refine ⟨vi, ?_⟩
  rw [← eb, nI_add]
  rintro _ rfl
  refine ⟨vi, fun q => ⟨vp_in_nI (by omega) (by decide), ?_⟩, fun q => ?_⟩
  · rw [cl_nI (by omega), n57 _ pP.2]
    exact mid _ _ _ (by rw [if_neg (fun e => q ((kk 6 (by decide)).mpr e))]) rfl
  · exact mid _ _ _ (by rw [if_pos ((kk 6 (by decide)).mp q)]) rfl
theorem d_act (hB : BM π N τ0) (w : Wr π ρ) (c : DD τ0 τ ρ) {i : Nat} (hi : i < nS π) : MU M_M_act [.inr (25, 0), .inl (nI i)] τ (fun r τ' => r = none ∧ DD τ0 τ' (actF π ρ i)) := by
  have hw := hB.1.1
  have aS := hw.nS60.2
  have aF := hw.nF8.2
  have aC := hw.nC8.2
  have aT := hw.nT20.2
  have fr := w.2.1
  have hop := hw.op hi
  have hp := c.1.pm hB.1
  have hb : bas ρ + 6 = 6 * ρ.fr := by show 6 * (ρ.fr - 1) + 6 = 6 * ρ.fr; omega
  have ci : (nI i).toNatClampNeg = i := cl_nI (by omega)
  have vi := vp_in_nI (n := i) (N := 60) (by omega) (by decide)
  have k1 := hw.kd hi
  have kk : ∀ k, k < 10 → nI (kd π i) = nI k → kd π i = k := fun k hk e => nI_inj (by omega) (by omega) e
  have e31 : τ 31 i = nI (kd π i) := by rw [hp.2.1 31 (by decide) (by decide), k1.1]
  have nV : ∀ n, n < 6 → VN ρ.ob (ρ.nm (bas ρ + n)) := fun n hn => w.2.2.2.2.2.1 _ (by omega)
  have rd : ∀ {a f : Nat} {v : Int32}, a < 6 * ρ.fr → hsl π ρ v f = false → DD τ0 (m_up τ 57 a (ρ.nm a)) (rdF π ρ a v f) := by
    intro a f v ha q
    unfold rdF
    rw [if_neg (by rw [q]; decide)]
    exact c.nm_self ha
  refine act_pre hB w c hi _ (r_M_act_78 ⟨vi, ?_⟩)
  rw [ci, e31]
  refine ⟨fun e => ?_, fun e => ?_, fun e => ?_, fun e => ?_, fun e => ?_, fun e => ?_, fun e => ?_, fun e => ?_, fun e => ?_, fun e0 e1 e2 e3 e4 e5 e6 e7 e8 => ?_⟩
  · have e := kk 0 (by decide) e
    obtain ⟨q1, q2, q3⟩ := op_0 hop e
    have q1 : pp π i < 6 := (q1.g (by decide)).2
    refine (d_make hB w c hi (by omega)).mono ?_
    rintro r τ' ⟨rfl, k⟩
    refine ⟨rfl, rfl, ?_⟩
    rw [act_0 e]; exact k
  · have e := kk 1 (by decide) e
    obtain ⟨q1, q2⟩ := op_1 hop e
    have q1 : pp π i < 6 := (q1.g (by decide)).2
    rw [if_neg (by omega), cl_nI (by omega), act_1 e]
    exact ⟨vp_in_nI (by omega) (by decide), rfl, c.nm _ _⟩
  · have e := kk 2 (by decide) e
    obtain ⟨q1, q2, q3⟩ := op_2 hop e
    have q1 : pp π i < 6 := (q1.g (by decide)).2
    have q2 : qq π i < 6 := (q2.g (by decide)).2
    have q3 : π 34 i = nI (rr π i) ∧ rr π i < nF π := q3.g (by omega)
    rw [if_neg (by omega), if_neg (by omega), hp.2.1 34 (by decide) (by decide), q3.1, act_2 e, cl_nI (n := bas ρ + pp π i) (by omega)]
    refine ⟨vi, (d_canHave hB w c (nV _ q2) q3.2).i (br_b (fun q => ⟨vp_in_nI (by omega) (by decide), rfl, rd (by omega) q⟩) (fun q => ⟨vi, ?_⟩))⟩
    obtain ⟨o, ho, ev, co, o30, os, si⟩ := wr_si hw w (nV _ q2) (hsl_v q).1
    rw [hp.2.1 34 (by decide) (by decide), q3.1]
    unfold rdF
    rw [if_pos q, co, ev, pk_mul, nI_add, cl_nI (n := 8 * o + rr π i) (by omega), (c.2.2.2.1 o ho).1 _ (by omega)]
    exact ⟨vp_in_nI (by omega) (by decide), vp_in_nI (by omega) (by decide), rfl, c.nm _ _⟩
  · have e := kk 3 (by decide) e
    obtain ⟨q1, q2, q3⟩ := op_3 hop e
    have q1 : pp π i < 6 := (q1.g (by decide)).2
    have q3 : π 34 i = nI (rr π i) ∧ rr π i < nF π := q3.g (by omega)
    rw [if_neg (by omega), if_neg (by omega), hp.2.1 34 (by decide) (by decide), q3.1, act_3 e]
    unfold wrF
    refine ⟨vi, (d_canHave hB w c (nV _ q1) q3.2).i (br_b (fun q => ⟨rfl, ?_⟩) (fun q => ⟨vi, ?_⟩))⟩
    · rw [if_neg (by rw [q]; decide)]; exact c
    · obtain ⟨o, ho, ev, co, o30, os, si⟩ := wr_si hw w (nV _ q1) (hsl_v q).1
      rw [hp.2.1 34 (by decide) (by decide), q3.1, if_pos q, co, ev, pk_mul, nI_add, cl_nI (n := 8 * o + rr π i) (by omega)]
      exact ⟨vp_in_nI (by omega) (by decide), rfl, c.fi (by omega) _⟩
  · have e := kk 4 (by decide) e
    obtain ⟨q1, q2, q3⟩ := op_4 hop e
    have q1 : pp π i < 6 := (q1.g (by decide)).2
    have q2 : qq π i < 6 := (q2.g (by decide)).2
    have q3 : π 34 i = nI (rr π i) ∧ rr π i < nC π := q3.g (by omega)
    have hn := vn_neg (nV _ q2) w.1
    rw [if_neg (by omega), if_neg (by omega), act_4 e, cl_nI (n := bas ρ + pp π i) (by omega)]
    unfold caF
    refine ⟨fun q => ⟨vp_in_nI (by omega) (by decide), rfl, ?_⟩, fun q => ?_⟩
    · rw [if_pos (Or.inl (hn.1.mp q))]; exact c.nm _ _
    · have q := fun k => q (hn.1.mpr k)
      obtain ⟨o, ho, ev, co, o30, os, si⟩ := wr_si hw w (nV _ q2) q
      have sv : τ 50 (ρ.nm (bas ρ + qq π i)).toNatClampNeg = nI (siO ρ (ρ.nm (bas ρ + qq π i))) := by rw [co, c.2.2.1 o ho, os]
      rw [sv, cl_nI (n := siO ρ (ρ.nm (bas ρ + qq π i))) (by omega), hp.2.1 38 (by decide) (by decide), hp.2.1 34 (by decide) (by decide), (hw.sc si).1, q3.1]
      refine ⟨by rw [ev]; exact vp_in_nI o30 (by decide), vp_in_nI (by omega) (by decide), vi, (d_isUnder hp (hw.sc si).2 (by omega)).i (br_b (fun k => ⟨vp_in_nI (by omega) (by decide), rfl, ?_⟩) (fun k => ⟨vp_in_nI (by omega) (by decide), rfl, ?_⟩))⟩
      · rw [if_neg (fun z => z.elim q (fun z => by rw [z] at k; cases k))]; exact c.nm_self (by omega)
      · rw [if_pos (Or.inr k)]; exact c.nm _ _
  · have e := kk 5 (by decide) e
    obtain ⟨q1, q2⟩ := op_5 hop e
    have q1 : pp π i < 6 := (q1.g (by decide)).2
    have q2 : π 33 i = nI (qq π i) ∧ qq π i < 4 := q2.g (by decide)
    rw [hp.2.1 33 (by decide) (by decide), q2.1, cl_nI (n := qq π i) (by omega), cl_nI (n := bas ρ + pp π i) (by omega), c.2.2.2.2.1 _ q2.2, act_5 e]
    exact ⟨vi, vp_in_nI (by omega) (by decide), vp_in_nI (by omega) (by decide), rfl, c.nm _ _⟩
  · have e := kk 6 (by decide) e
    obtain ⟨q1, q2⟩ := op_6 hop e
    have q1 : π 32 i = nI (pp π i) ∧ pp π i < 4 := q1.g (by decide)
    rw [if_neg (show ¬ (kd π i = 0 ∨ kd π i = 5) by omega), hp.2.1 32 (by decide) (by decide), q1.1, cl_nI (n := pp π i) (by omega), act_6 e]
    exact ⟨vi, vp_in_nI (by omega) (by decide), rfl, c.st _ _⟩
  · have e := kk 7 (by decide) e
    obtain ⟨q1, q2, q3, q4, q5⟩ := op_7 hop e
    have q2 : qq π i < 6 := (q2.g (by decide)).2
    rw [if_neg (show ¬ (kd π i = 0 ∨ kd π i = 5) by omega), act_7 e]
    refine (d_enter hB w c hi e (nV _ q2)).mono ?_
    rintro r τ' ⟨rfl, k⟩
    exact ⟨rfl, rfl, k⟩
  · have e := kk 8 (by decide) e
    obtain ⟨q1, q2⟩ := op_8 hop e
    have q1 : pp π i < 6 := (q1.g (by decide)).2
    have q2 : qq π i < 6 := (q2.g (by decide)).2
    have hn := vn_neg (nV _ q2) w.1
    have h8 : hsl π ρ (ρ.nm (bas ρ + qq π i)) 8 = !decide (ρ.nm (bas ρ + qq π i) = -1) := by
      unfold hsl hasS
      rw [decide_eq_true rfl, Bool.true_or, Bool.and_true]
    rw [if_neg (by omega), if_neg (by omega), act_8 e, cl_nI (n := bas ρ + pp π i) (by omega)]
    refine ⟨fun q => ⟨vp_in_nI (by omega) (by decide), rfl, rd (by omega) (by rw [h8, decide_eq_true (hn.1.mp q)]; rfl)⟩, fun q => ?_⟩
    have q := fun k => q (hn.1.mpr k)
    obtain ⟨o, ho, ev, co, o30, os, si⟩ := wr_si hw w (nV _ q2) q
    refine ⟨by rw [ev]; exact vp_in_nI o30 (by decide), vp_in_nI (by omega) (by decide), rfl, ?_⟩
    unfold rdF
    rw [if_pos (by rw [h8, decide_eq_false q]; rfl), co, (c.2.2.2.1 o ho).2]
    exact c.nm _ _
  · have e : kd π i = 9 := by
      have n0 : ¬ kd π i = 0 := fun q => e0 (by rw [q, nI_0])
      have n1 : ¬ kd π i = 1 := fun q => e1 (by rw [q]; rfl)
      have n2 : ¬ kd π i = 2 := fun q => e2 (by rw [q])
      have n3 : ¬ kd π i = 3 := fun q => e3 (by rw [q])
      have n4 : ¬ kd π i = 4 := fun q => e4 (by rw [q])
      have n5 : ¬ kd π i = 5 := fun q => e5 (by rw [q])
      have n6 : ¬ kd π i = 6 := fun q => e6 (by rw [q])
      have n7 : ¬ kd π i = 7 := fun q => e7 (by rw [q])
      have n8 : ¬ kd π i = 8 := fun q => e8 (by rw [q])
      omega
    obtain ⟨q1, q2⟩ := op_9 hop e
    have q1 : pp π i < 6 := (q1.g (by decide)).2
    have hn := vn_neg (nV _ q1) w.1
    have h8 : hsl π ρ (ρ.nm (bas ρ + pp π i)) 8 = !decide (ρ.nm (bas ρ + pp π i) = -1) := by
      unfold hsl hasS
      rw [decide_eq_true rfl, Bool.true_or, Bool.and_true]
    rw [if_neg (by omega), if_neg (by omega), act_9 e]
    unfold wrF
    refine ⟨fun q => ⟨rfl, ?_⟩, fun q => ?_⟩
    · rw [if_neg (by rw [h8, decide_eq_true (hn.1.mp q)]; decide)]; exact c
    · have q := fun k => q (hn.1.mpr k)
      obtain ⟨o, ho, ev, co, o30, os, si⟩ := wr_si hw w (nV _ q1) q
      refine ⟨by rw [ev]; exact vp_in_nI o30 (by decide), rfl, ?_⟩
      rw [if_pos (by rw [h8, decide_eq_false q]; rfl), co]
      exact c.el _
theorem d_leave (w : Wr π ρ) (c : DD τ0 τ ρ) : MU M_M_leave [.inr (25, 0)] τ (fun r τ' => r = none ∧ DD τ0 τ' (leF ρ)) := by
  have fr := w.2.1
  have c37 : τ 25 37 = nI ρ.fr := c.2.1.2.1
  obtain ⟨g, hg⟩ : ∃ g, ρ.fr = g + 1 := ⟨ρ.fr - 1, by omega⟩
  have e1 : nI ρ.fr - (1 : Int32) = nI (ρ.fr - 1) := by rw [hg, nI_pred]; rfl
  refine MU_of rfl rfl rfl (r_M_leave_0 ?_)
  unfold leF
  rw [c37, e1]
  refine ⟨fun hne => ?_, fun he => ⟨rfl, ?_⟩⟩
  · have hne : ¬ ρ.fr = 1 := fun e => hne (by rw [e]; rfl)
    rw [if_neg hne]
    rintro _ rfl
    obtain ⟨j, hj⟩ : ∃ j, ρ.fr - 1 = j + 1 := ⟨ρ.fr - 2, by omega⟩
    have e2 : nI (ρ.fr - 1) - (1 : Int32) = nI (ρ.fr - 2) := by rw [hj, nI_pred]; congr 1; omega
    have t37 : m_up τ 25 37 (nI (ρ.fr - 1)) 25 37 = nI (ρ.fr - 1) := by rw [m_up_s, upd_s]
    have t56 : m_up τ 25 37 (nI (ρ.fr - 1)) 56 (ρ.fr - 1) = nI (ρ.ft (ρ.fr - 1)).toNatClampNeg ∧ (ρ.ft (ρ.fr - 1)).toNatClampNeg < 6 := by
      rw [m_up_ne (by decide), (c.2.2.2.2.2.2.1 (ρ.fr - 1) (by omega)).2.2]
      exact (w.2.2.2.2.2.2 (ρ.fr - 1) (by omega)).2.2.eq (by decide)
    have t56b := t56.2
    rw [t37, cl_nI (n := ρ.fr - 1) (by omega), t56.1, e2, pk_mul, pk_mul, nI_add, nI_add, cl_nI (n := 6 * (ρ.fr - 1) + 5) (by omega), cl_nI (n := 6 * (ρ.fr - 2) + (ρ.ft (ρ.fr - 1)).toNatClampNeg) (by omega), m_up_ne (show 57 ≠ 25 by decide), c.2.2.2.2.2.1 _ (show 6 * (ρ.fr - 1) + 5 < 6 * ρ.fr by omega)]
    refine ⟨vp_in_nI (by omega) (by decide), vp_in_nI (by omega) (by decide), vp_in_nI (by omega) (by decide), rfl, ?_⟩
    obtain ⟨c1, ⟨r1, r2, r3, r4, r5, r6, r7⟩⟩ := c
    refine ⟨(c1.n (by omega)).up (by omega), ⟨⟨?_, ?_, ?_⟩, fun o ho => ?_, fun o ho => ?_, fun s hs => ?_, fun j hj => ?_, fun k hk => ?_, fun k hk => ?_⟩⟩
    · rw [m_up_ne (by decide), m_up_s, upd_o (by decide)]; exact r1.1
    · rw [m_up_ne (by decide), m_up_s, upd_s]; rfl
    · rw [m_up_ne (by decide), m_up_s, upd_o (by decide)]; exact r1.2.2
    · rw [m_up_ne (by decide), m_up_ne (by decide)]; exact r2 o ho
    · rw [m_up_ne (by decide), m_up_ne (by decide), m_up_ne (by decide), m_up_ne (by decide)]; exact r3 o ho
    · rw [m_up_ne (by decide), m_up_ne (by decide)]; exact r4 s hs
    · have hj : j < 6 * (ρ.fr - 1) := hj
      rw [m_up_s, m_up_ne (by decide)]
      show upd (τ 57) _ _ j = upd ρ.nm _ _ j
      by_cases e : j = 6 * (ρ.fr - 2) + (ρ.ft (ρ.fr - 1)).toNatClampNeg
      · rw [e, upd_s, upd_s]
      · rw [upd_o e, upd_o e]; exact r5 j (by omega)
    · have hk : k < ρ.fr - 1 := hk
      rw [m_up_ne (by decide), m_up_ne (by decide), m_up_ne (by decide), m_up_ne (by decide), m_up_ne (by decide), m_up_ne (by decide)]
      exact r6 k (by omega)
    · rw [m_up_ne (by decide), m_up_ne (by decide)]; exact r7 k hk
  · rw [if_pos (by
      have := nI_inj (a := ρ.fr) (b := 1) (by omega) (by decide) he
      exact this)]
    exact c
end
