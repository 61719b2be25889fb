/-! RUNS: the class -/
def inR (ρ : RnS) (v S : Int32) : Bool := decide (v = -1) || bt S (siO ρ v)
def wck (π : mS) (N : Nat) (ρ : RnS) (v : Int32) (f : Nat) (x : Int32) : Bool := !hsl π ρ v f || inR ρ x (it π N (1260 + 9 * siO ρ v + f))
def wOK (π : mS) (N : Nat) (ρ : RnS) (i : Nat) : Bool := match kd π i with
  | 3 => wck π N ρ (ρ.nm (bas ρ + pp π i)) (rr π i) (ρ.nm (bas ρ + qq π i))
  | 6 => inR ρ (ρ.nm (bas ρ + qq π i)) (it π N (1440 + pp π i))
  | 9 => wck π N ρ (ρ.nm (bas ρ + pp π i)) 8 (ρ.nm (bas ρ + qq π i))
  | _ => true
def FT (σ0 σ : mS) : Prop := ∀ k, k ≠ 3 → ¬ (16 ≤ k ∧ k ≤ 23) → σ k = σ0 k
def Rc (σ : mS) (ρ : RnS) : Prop := (σ 3 11 = nI ρ.ob ∧ σ 3 12 = nI ρ.fr ∧ σ 3 13 = ρ.ca) ∧ (∀ o, o < ρ.ob → σ 16 o = ρ.os o) ∧ (∀ j, j < 9 * ρ.ob → σ 17 j = ρ.sl j) ∧ (∀ s, s < 4 → σ 18 s = ρ.st s) ∧ (∀ j, j < 6 * ρ.fr → σ 19 j = ρ.nm j) ∧ (∀ k, k < ρ.fr → σ 20 k = ρ.fm k ∧ σ 21 k = ρ.fc k ∧ (0 < k → σ 22 k = ρ.ft k)) ∧ ∀ k, k < 60 → σ 23 k = ρ.me k
def CC (σ0 σ : mS) (ρ : RnS) (h : Bool) : Prop := FT σ0 σ ∧ Rc σ ρ ∧ σ 3 10 = bI h
def BB (π : mS) (N : Nat) (σ0 : mS) : Prop := RCp π σ0 ∧ σ0 14 = it π N
theorem FT.up {σ0 σ : mS} (h : FT σ0 σ) {k j : Nat} {v : Int32} (hk : k = 3 ∨ (16 ≤ k ∧ k ≤ 23)) : FT σ0 (m_up σ k j v) := fun i a b => by
  rw [m_up_ne (by omega)]; exact h i a b
theorem FT.fl {σ0 σ : mS} (h : FT σ0 σ) {k a b : Nat} {v : Int32} (hk : k = 3 ∨ (16 ≤ k ∧ k ≤ 23)) : FT σ0 (m_fl σ k a b v) := fun i c d => by
  rw [m_fl_o (by omega)]; exact h i c d
theorem FT.rc {π σ0 σ : mS} (h : FT σ0 σ) (hR : RCp π σ0) : RCp π σ := hR.to (by rw [h 2 (by decide) (by omega)]) (fun k hk => h k (by omega) (by omega))
section
variable {π σ0 σ : mS} {N : Nat} {ρ : RnS} {h : Bool}
theorem wok_t {i : Nat} (h3 : ¬ kd π i = 3) (h6 : ¬ kd π i = 6) (h9 : ¬ kd π i = 9) : wOK π N ρ i = true := by
  unfold wOK
  split
  · rename_i e; exact absurd e h3
  · rename_i e; exact absurd e h6
  · rename_i e; exact absurd e h9
  · rfl
theorem wok_3 {i : Nat} (e : kd π i = 3) : wOK π N ρ i = wck π N ρ (ρ.nm (bas ρ + pp π i)) (rr π i) (ρ.nm (bas ρ + qq π i)) := by unfold wOK; rw [e] <;> rfl
theorem wok_6 {i : Nat} (e : kd π i = 6) : wOK π N ρ i = inR ρ (ρ.nm (bas ρ + qq π i)) (it π N (1440 + pp π i)) := by unfold wOK; rw [e] <;> rfl
theorem wok_9 {i : Nat} (e : kd π i = 9) : wOK π N ρ i = wck π N ρ (ρ.nm (bas ρ + pp π i)) 8 (ρ.nm (bas ρ + qq π i)) := by unfold wOK; rw [e] <;> rfl
theorem CC.nm (c : CC σ0 σ ρ h) (a : Nat) (v : Int32) : CC σ0 (m_up σ 19 a v) (setN ρ a v) h := by
  obtain ⟨c1, ⟨r1, r2, r3, r4, r5, r6, r7⟩, c3⟩ := c
  refine ⟨c1.up (by omega), ⟨?_, ?_, ?_, ?_, ?_, ?_, ?_⟩, ?_⟩
  · rw [m_up_ne (by decide)]; exact r1
  · rw [m_up_ne (by decide)]; exact r2
  · rw [m_up_ne (by decide)]; exact r3
  · rw [m_up_ne (by decide)]; exact r4
  · intro j hj
    rw [m_up_s]
    show upd (σ 19) a v j = upd ρ.nm a v j
    by_cases e : j = a
    · subst e; rw [upd_s, upd_s]
    · rw [upd_o e, upd_o e]; exact r5 j hj
  · rw [m_up_ne (by decide), m_up_ne (by decide), m_up_ne (by decide)]; exact r6
  · rw [m_up_ne (by decide)]; exact r7
  · rw [m_up_ne (by decide)]; exact c3
theorem CC.sl (c : CC σ0 σ ρ h) (a : Nat) (v : Int32) : CC σ0 (m_up σ 17 a v) (rK ρ.ob ρ.fr ρ.ca ρ.os (upd ρ.sl a v) ρ.st ρ.nm ρ.fm ρ.fc ρ.ft ρ.me) h := by
  obtain ⟨c1, ⟨r1, r2, r3, r4, r5, r6, r7⟩, c3⟩ := c
  refine ⟨c1.up (by omega), ⟨?_, ?_, ?_, ?_, ?_, ?_, ?_⟩, ?_⟩
  · rw [m_up_ne (by decide)]; exact r1
  · rw [m_up_ne (by decide)]; exact r2
  · intro j hj
    rw [m_up_s]
    show upd (σ 17) a v j = upd ρ.sl a v j
    by_cases e : j = a
    · subst e; rw [upd_s, upd_s]
    · rw [upd_o e, upd_o e]; exact r3 j hj
  · rw [m_up_ne (by decide)]; exact r4
  · rw [m_up_ne (by decide)]; exact r5
  · rw [m_up_ne (by decide), m_up_ne (by decide), m_up_ne (by decide)]; exact r6
  · rw [m_up_ne (by decide)]; exact r7
  · rw [m_up_ne (by decide)]; exact c3
theorem CC.st (c : CC σ0 σ ρ h) (a : Nat) (v : Int32) : CC σ0 (m_up σ 18 a v) (rK ρ.ob ρ.fr ρ.ca ρ.os ρ.sl (upd ρ.st a v) ρ.nm ρ.fm ρ.fc ρ.ft ρ.me) h := by
  obtain ⟨c1, ⟨r1, r2, r3, r4, r5, r6, r7⟩, c3⟩ := c
  refine ⟨c1.up (by omega), ⟨?_, ?_, ?_, ?_, ?_, ?_, ?_⟩, ?_⟩
  · rw [m_up_ne (by decide)]; exact r1
  · rw [m_up_ne (by decide)]; exact r2
  · rw [m_up_ne (by decide)]; exact r3
  · intro j hj
    rw [m_up_s]
    show upd (σ 18) a v j = upd ρ.st a v j
    by_cases e : j = a
    · subst e; rw [upd_s, upd_s]
    · rw [upd_o e, upd_o e]; exact r4 j hj
  · rw [m_up_ne (by decide)]; exact r5
  · rw [m_up_ne (by decide), m_up_ne (by decide), m_up_ne (by decide)]; exact r6
  · rw [m_up_ne (by decide)]; exact r7
  · rw [m_up_ne (by decide)]; exact c3
theorem CC.off (c : CC σ0 σ ρ h) : CC σ0 (m_up σ 3 10 0) ρ false := by
  obtain ⟨c1, ⟨r1, r2, r3, r4, r5, r6, r7⟩, c3⟩ := c
  refine ⟨c1.up (by omega), ⟨?_, ?_, ?_, ?_, ?_, ?_, ?_⟩, ?_⟩
  · rw [m_up_s, upd_o (by decide), upd_o (by decide), upd_o (by decide)]; exact r1
  · rw [m_up_ne (by decide)]; exact r2
  · rw [m_up_ne (by decide)]; exact r3
  · rw [m_up_ne (by decide)]; exact r4
  · rw [m_up_ne (by decide)]; exact r5
  · rw [m_up_ne (by decide), m_up_ne (by decide), m_up_ne (by decide)]; exact r6
  · rw [m_up_ne (by decide)]; exact r7
  · rw [m_up_s, upd_s]; rfl
theorem wr_si (hw : WM π) (w : Wr π ρ) {v : Int32} (hv : VN ρ.ob v) (hn : ¬ v = -1) : ∃ o, o < ρ.ob ∧ v = nI o ∧ v.toNatClampNeg = o ∧ o < 30 ∧ ρ.os o = nI (siO ρ v) ∧ siO ρ v < nT π := by
  obtain ⟨o, ho, rfl⟩ := hv.resolve_left hn
  have := w.1
  have e := (w.2.2.1 o ho).eq (by have := hw.nT20.2; omega)
  have c : (nI o).toNatClampNeg = o := cl_nI (by omega)
  have s : siO ρ (nI o) = (ρ.os o).toNatClampNeg := by unfold siO; rw [c]
  exact ⟨o, ho, rfl, c, by omega, by rw [s]; exact e.1, by rw [s]; exact e.2⟩
theorem c_lookAt (hB : BB π N σ0) (w : Wr π ρ) (c : CC σ0 σ ρ h) {v : Int32} (hv : VN ρ.ob v) {p : Nat} (hp : p < 1454) : MU M_T_lookAt [.inr (3, 0), .inl v, .inl (nI p)] σ (fun r τ => r = none ∧ CC σ0 τ ρ (h && inR ρ v (it π N p))) := by
  have hw := hB.1.1
  have aT := hw.nT20.2
  refine MU_of rfl rfl rfl (r_T_lookAt_0 ⟨fun e => ⟨rfl, ?_⟩, fun e => ?_⟩)
  · have : inR ρ v (it π N p) = true := by unfold inR; rw [decide_eq_true e]; rfl
    rw [this, Bool.and_true]
    exact c
  · obtain ⟨o, ho, rfl, co, o30, os, si⟩ := wr_si hw w hv e
    have at1 : MR M_S_at [.inr (2, 0), .inl (nI p)] σ (some (.inl (it π N p))) σ :=
      MU_of rfl rfl rfl (r_S_at_0 (by rw [cl_nI (by omega), c.1 14 (by decide) (by omega), hB.2]; exact ⟨vp_in_nI hp (by decide), rfl, rfl⟩))
    refine at1.i ⟨vp_in_nI o30 (by decide), ?_⟩
    rw [co, c.2.1.2.1 o ho, os]
    have i1 : inR ρ (nI o) (it π N p) = bt (it π N p) (siO ρ (nI o)) := by unfold inR; rw [decide_eq_false e, Bool.false_or]
    refine (c_hasBit σ _ (k := siO ρ (nI o)) (by omega)).i (br_b' (fun q => ⟨rfl, ?_⟩) (fun q => ⟨rfl, ?_⟩))
    · rw [i1, q, Bool.and_false]; exact c.off
    · rw [i1, q, Bool.and_true]; exact c
theorem c_hasSlot (hB : BB π N σ0) (w : Wr π ρ) (c : CC σ0 σ ρ h) {v : Int32} (hv : VN ρ.ob v) {f : Nat} (hf : f < nF π ∨ f = 8) : MR M_T_hasSlot [.inr (3, 0), .inl v, .inl (nI f)] σ (some (.inl (bI (hsl π ρ v f)))) σ := by
  have hw := hB.1.1
  have aT := hw.nT20.2
  refine MU_of rfl rfl rfl (r_T_hasSlot_0 ⟨fun e => ⟨?_, rfl⟩, fun e => ?_⟩)
  · unfold hsl; rw [decide_eq_true e]; rfl
  · obtain ⟨o, ho, rfl, co, o30, os, si⟩ := wr_si hw w hv e
    obtain ⟨x, h1, h2⟩ := c_sitesWith (c.1.rc hB.1) hf
    refine h1.i ⟨vp_in_nI o30 (by decide), ?_⟩
    rw [co, c.2.1.2.1 o ho, os]
    refine (c_hasBit σ _ (k := siO ρ (nI o)) (by omega)).i (end_b ⟨?_, rfl⟩)
    unfold hsl
    rw [h2, decide_eq_true si, decide_eq_false e, Bool.not_false]
theorem c_readSlot (hB : BB π N σ0) (w : Wr π ρ) (c : CC σ0 σ ρ h) {a : Nat} (ha : a < 60) {v : Int32} (hv : VN ρ.ob v) {f : Nat} (hf : f < nF π ∨ f = 8) : MU M_T_readSlot [.inr (3, 0), .inl (nI a), .inl v, .inl (nI f)] σ (fun r τ => r = none ∧ CC σ0 τ (rdF π ρ a v f) h) := by
  have hw := hB.1.1
  have aF := hw.nF8.2
  refine MU_of rfl rfl rfl (r_T_readSlot_0 ((c_hasSlot hB w c hv hf).i (br_b (fun q => ⟨rfl, ?_⟩) (fun q => ?_))))
  · unfold rdF; rw [if_neg (by rw [q]; decide)]; exact c
  · obtain ⟨o, ho, rfl, co, o30, os, si⟩ := wr_si hw w hv (hsl_v q).1
    have ex : nI o * nI 9 + nI f = nI (9 * o + f) := by rw [pk_mul, nI_add]; congr 1; omega
    rw [ex, cl_nI (n := 9 * o + f) (by omega), cl_nI (n := a) (by omega)]
    refine ⟨vp_in_nI (by omega) (by decide), vp_in_nI ha (by decide), rfl, ?_⟩
    unfold rdF
    rw [if_pos q, co, c.2.1.2.2.1 _ (by omega)]
    exact c.nm a _
theorem c_writeSlot (hB : BB π N σ0) (w : Wr π ρ) (c : CC σ0 σ ρ h) {v x : Int32} (hv : VN ρ.ob v) (hx : VN ρ.ob x) {f : Nat} (hf : f < nF π ∨ f = 8) : MU M_T_writeSlot [.inr (3, 0), .inl v, .inl (nI f), .inl x] σ (fun r τ => r = none ∧ CC σ0 τ (wrF π ρ v f x) (h && wck π N ρ v f x)) := by
  have hw := hB.1.1
  have aF := hw.nF8.2
  have aT := hw.nT20.2
  refine MU_of rfl rfl rfl (r_T_writeSlot_0 ((c_hasSlot hB w c hv hf).i (br_b (fun q => ⟨rfl, ?_⟩) (fun q => ?_))))
  · unfold wrF wck; rw [if_neg (by rw [q]; decide), q, Bool.not_false, Bool.true_or, Bool.and_true]; exact c
  · have ww := wr_wr w (v := v) (f := f) hx
    have sv := (hsl_v q).1
    obtain ⟨o, ho, rfl, co, o30, os, si⟩ := wr_si hw w hv sv
    have ex : nI o * nI 9 + nI f = nI (9 * o + f) := by rw [pk_mul, nI_add]; congr 1; omega
    rw [ex, cl_nI (n := 9 * o + f) (by omega)]
    refine ⟨vp_in_nI (by omega) (by decide), ?_⟩
    rintro _ rfl
    refine ⟨vp_in_nI o30 (by decide), ?_⟩
    have c' := c.sl (9 * o + f) x
    unfold wrF wck at *
    rw [if_pos q] at ww ⊢
    rw [co] at ww ⊢
    rw [m_up_ne (by decide), c.2.1.2.1 o ho, os]
    refine (c_slotPlace _ (siO ρ (nI o)) f).i ((c_lookAt hB ww c' (v := x) hx (by omega)).mono ?_)
    rintro r τ ⟨rfl, k⟩
    refine ⟨rfl, rfl, ?_⟩
    rw [q, Bool.not_true, Bool.false_or]
    exact k
def pF (σ : mS) (f : Nat) (x1 x2 x3 : Int32) : mS := m_up (m_up (m_up (m_up (m_fl σ 19 (6 * f) (6 * f + 6) (-1)) 20 f x1) 21 f x2) 22 f x3) 3 12 (nI (f + 1))
theorem c_pushFrame {f : Nat} (e : σ 3 12 = nI f) (hf : f < 10) (x1 x2 x3 : Int32) : MR M_T_pushFrame [.inr (3, 0), .inl x1, .inl x2, .inl x3] σ none (pF σ f x1 x2 x3) := by
  refine MU_of rfl rfl rfl (r_T_pushFrame_0 ?_)
  rw [e, pk_mul, show f * 6 = 6 * f by omega]
  rintro _ rfl
  rw [nI_add]
  refine (c_fillR σ 19 (6 * f) (6 * f + 6) (-1) (by decide) (by decide) (by omega) (by show 6 * f + 6 ≤ 60; omega)).v ?_
  have e1 : m_fl σ (m_cl (19, 0)) (6 * f) (6 * f + 6) (-1) = m_fl σ 19 (6 * f) (6 * f + 6) (-1) := rfl
  rw [e1]
  have e2 : m_fl σ 19 (6 * f) (6 * f + 6) (-1) 3 12 = nI f := by rw [m_fl_o (by decide), e]
  have v := vp_in_nI (n := f) (N := 10) hf (by decide)
  rw [e2, cl_nI (by omega)]
  refine ⟨v, ?_⟩
  rintro _ rfl
  rw [m_up_ne (show 3 ≠ 20 by decide), e2, cl_nI (by omega)]
  refine ⟨v, ?_⟩
  rintro _ rfl
  rw [m_up_ne (show 3 ≠ 21 by decide), m_up_ne (show 3 ≠ 20 by decide), e2, cl_nI (by omega)]
  refine ⟨v, ?_⟩
  rintro _ rfl
  rw [m_up_ne (show 3 ≠ 22 by decide), m_up_ne (show 3 ≠ 21 by decide), m_up_ne (show 3 ≠ 20 by decide), e2, nI_1]
  exact ⟨rfl, rfl⟩
theorem c_makeObject (hB : BB π N σ0) (w : Wr π ρ) (c : CC σ0 σ ρ h) {i : Nat} (hi : i < nS π) (hk : kd π i = 0) : MU M_T_makeObject [.inr (3, 0), .inr (59, i), .inl (nI (bas ρ))] σ (fun r τ => r = none ∧ CC σ0 τ (mkF ρ (π 37 i) (bas ρ + pp π i)) h) := by
  have hw := hB.1.1
  have aS := hw.nS60.2
  have o30 := w.1
  have fr := w.2.1
  have hop := hw.op hi
  obtain ⟨q1, q2, q3⟩ := op_0 hop hk
  have q1 : π 32 i = nI (pp π i) ∧ pp π i < 6 := q1.g (by decide)
  obtain ⟨f0, f2, f3, f4, f5, f6, f7, f1⟩ := (c.1.rc hB.1).2.2.2.2.2 i hi
  have e1 : σ (59 + i) 1 = π 37 i := f1 (by rw [(hw.kd hi).1, hk, nI_0])
  have c11 : σ 3 11 = nI ρ.ob := c.2.1.1.1
  have hb : bas ρ + 6 ≤ 6 * ρ.fr := by show 6 * (ρ.fr - 1) + 6 ≤ 6 * ρ.fr; omega
  refine MU_of rfl rfl rfl (r_T_makeObject_0 ?_)
  rw [Nat.mod_eq_of_lt (by omega), e1, c11]
  refine ⟨fun hlt => ?_, fun hge => ⟨rfl, ?_⟩⟩
  · have hn : ρ.ob < 30 := by
      rcases Nat.lt_or_ge ρ.ob 30 with a | a
      · exact a
      · exact absurd hlt (nI_nlt a (by omega))
    refine ⟨vp_in_nI hn (by decide), ?_⟩
    rw [cl_nI (by omega)]
    rintro _ rfl
    rw [m_up_ne (show 3 ≠ 16 by decide), c11, pk_mul, nI_add, show ρ.ob * 9 = 9 * ρ.ob by omega]
    refine (c_fillR _ 17 (9 * ρ.ob) (9 * ρ.ob + 9) (-1) (by decide) (by decide) (by omega) (by show 9 * ρ.ob + 9 ≤ 270; omega)).v ?_
    have e2 : m_fl (m_up σ 16 ρ.ob (π 37 i)) (m_cl (17, 0)) (9 * ρ.ob) (9 * ρ.ob + 9) (-1) = m_fl (m_up σ 16 ρ.ob (π 37 i)) 17 (9 * ρ.ob) (9 * ρ.ob + 9) (-1) := rfl
    rw [e2, m_fl_o (show 59 + i ≠ 17 by omega), m_up_ne (show 59 + i ≠ 16 by omega), f3, q1.1, nI_add, cl_nI (by omega), m_fl_o (show 3 ≠ 17 by decide), m_up_ne (show 3 ≠ 16 by decide), c11]
    refine ⟨vp_in_nI (by show 6 * (ρ.fr - 1) + pp π i < 60; omega) (by decide), ?_⟩
    rintro _ rfl
    rw [m_up_ne (show 3 ≠ 19 by decide), m_fl_o (show 3 ≠ 17 by decide), m_up_ne (show 3 ≠ 16 by decide), c11, nI_1]
    refine ⟨rfl, ?_⟩
    unfold mkF
    rw [if_neg (by omega)]
    obtain ⟨c1, ⟨r1, r2, r3, r4, r5, r6, r7⟩, c3⟩ := c
    refine ⟨(((c1.up (by omega)).fl (by omega)).up (by omega)).up (by omega), ⟨⟨?_, ?_, ?_⟩, fun o ho => ?_, fun j hj => ?_, fun s hs => ?_, fun j hj => ?_, fun k hk => ?_, fun k hk => ?_⟩, ?_⟩
    · rw [m_up_s, upd_s]; rfl
    · rw [m_up_s, upd_o (by decide), m_up_ne (by decide), m_fl_o (by decide), m_up_ne (by decide)]; exact r1.2.1
    · rw [m_up_s, upd_o (by decide), m_up_ne (by decide), m_fl_o (by decide), m_up_ne (by decide)]; exact r1.2.2
    · rw [m_up_ne (by decide), m_up_ne (by decide), m_fl_o (by decide), m_up_s]
      have ho : o < ρ.ob + 1 := ho
      show upd (σ 16) ρ.ob (π 37 i) o = upd ρ.os ρ.ob (π 37 i) o
      by_cases e : o = ρ.ob
      · subst e; rw [upd_s, upd_s]
      · rw [upd_o e, upd_o e]; exact r2 o (by omega)
    · have hj : j < 9 * (ρ.ob + 1) := hj
      rw [m_up_ne (by decide), m_up_ne (by decide), m_fl_s, m_up_ne (by decide)]
      show (if 9 * ρ.ob ≤ j ∧ j < 9 * ρ.ob + 9 then -1 else σ 17 j) = (if 9 * ρ.ob ≤ j then -1 else ρ.sl j)
      by_cases e : 9 * ρ.ob ≤ j
      · rw [if_pos e, if_pos ⟨e, by omega⟩]
      · rw [if_neg e, if_neg (fun q => e q.1)]; exact r3 j (by omega)
    · rw [m_up_ne (by decide), m_up_ne (by decide), m_fl_o (by decide), m_up_ne (by decide)]; exact r4 s hs
    · rw [m_up_ne (by decide), m_up_s, m_fl_o (by decide), m_up_ne (by decide)]
      show upd (σ 19) _ _ j = upd ρ.nm _ _ j
      by_cases e : j = bas ρ + pp π i
      · subst e; rw [upd_s, upd_s]
      · rw [upd_o e, upd_o e]; exact r5 j hj
    · rw [m_up_ne (by decide), m_up_ne (by decide), m_fl_o (by decide), m_up_ne (by decide), m_up_ne (by decide), m_up_ne (by decide), m_fl_o (by decide), m_up_ne (by decide), m_up_ne (by decide), m_up_ne (by decide), m_fl_o (by decide), m_up_ne (by decide)]; exact r6 k hk
    · rw [m_up_ne (by decide), m_up_ne (by decide), m_fl_o (by decide), m_up_ne (by decide)]; exact r7 k hk
    · rw [m_up_s, upd_o (by decide), m_up_ne (by decide), m_fl_o (by decide), m_up_ne (by decide)]; exact c3
  · unfold mkF
    rw [if_pos (by
      rcases Nat.lt_or_ge ρ.ob 30 with a | a
      · exact absurd (nI_lt a (by decide)) hge
      · omega)]
    exact c
theorem c_castObject (hB : BB π N σ0) (w : Wr π ρ) (c : CC σ0 σ ρ h) {i : Nat} (hi : i < nS π) (hk : kd π i = 4) : MU M_T_castObject [.inr (3, 0), .inr (59, i), .inl (nI (bas ρ))] σ (fun r τ => r = none ∧ CC σ0 τ (caF π ρ (bas ρ + pp π i) (ρ.nm (bas ρ + qq π i)) (rr π i)) h) := by
  have hw := hB.1.1
  have aS := hw.nS60.2
  have aT := hw.nT20.2
  have aC := hw.nC8.2
  have fr := w.2.1
  have hop := hw.op hi
  obtain ⟨q1, q2, q3⟩ := op_4 hop hk
  have q1 : π 32 i = nI (pp π i) ∧ pp π i < 6 := q1.g (by decide)
  have q2 : π 33 i = nI (qq π i) ∧ qq π i < 6 := q2.g (by decide)
  have q3 : π 34 i = nI (rr π i) ∧ rr π i < nC π := q3.g (by omega)
  have hR := c.1.rc hB.1
  obtain ⟨f0, f2, f3, f4, f5, f6, f7, f1⟩ := hR.2.2.2.2.2 i hi
  have hb : bas ρ + 6 ≤ 6 * ρ.fr := by show 6 * (ρ.fr - 1) + 6 ≤ 6 * ρ.fr; omega
  refine MU_of rfl rfl rfl (r_T_castObject_0 ?_)
  rw [Nat.mod_eq_of_lt (by omega), f3, f4, f5, q1.1, q2.1, q3.1, nI_add, nI_add, cl_nI (n := bas ρ + qq π i) (by omega), cl_nI (n := bas ρ + pp π i) (by omega), cl_nI (n := rr π i) (by omega)]
  refine ⟨vp_in_nI (by omega) (by decide), ?_⟩
  intro v hv
  have ev : v = ρ.nm (bas ρ + qq π i) := by rw [hv]; exact c.2.1.2.2.2.2.1 _ (by omega)
  have vn : VN ρ.ob v := by rw [ev]; exact w.2.2.2.2.2.1 _ (by omega)
  rw [← ev]
  unfold caF
  refine ⟨fun e => ⟨vp_in_nI (by omega) (by decide), rfl, ?_⟩, fun e => ?_⟩
  · rw [if_pos (Or.inl e)]; exact c.nm _ _
  · obtain ⟨o, ho, rfl, co, o30, os, si⟩ := wr_si hw w vn e
    refine ⟨vp_in_nI (by omega) (by decide), vp_in_nI o30 (by decide), ?_⟩
    rw [co, c.2.1.2.1 o ho, os]
    refine (c_hasBit σ _ (k := siO ρ (nI o)) (by omega)).i ?_
    rw [hR.2.2.1.2.2.1 _ q3.2, decide_eq_true si, Bool.true_and]
    refine br_b (fun q => ⟨rfl, ?_⟩) (fun q => ?_)
    · rw [if_neg (fun k => k.elim e (fun k => by rw [k] at q; cases q))]; exact c
    · rw [if_pos (Or.inr q), f3, q1.1, nI_add, cl_nI (by omega)]
      exact ⟨vp_in_nI (by omega) (by decide), rfl, c.nm _ _⟩
end
