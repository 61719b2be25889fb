/-! RUNS: the model -/
def FM (τ0 τ : mS) : Prop := (∀ k, k < 50 → k ≠ 25 → τ k = τ0 k) ∧ (∀ k, 58 < k → τ k = τ0 k) ∧ ∀ j, j ≠ 32 → j ≠ 37 → j ≠ 43 → τ 25 j = τ0 25 j
def Rm (τ : mS) (ρ : RnS) : Prop := (τ 25 32 = nI ρ.ob ∧ τ 25 37 = nI ρ.fr ∧ τ 25 43 = ρ.ca) ∧ (∀ o, o < ρ.ob → τ 50 o = ρ.os o) ∧ (∀ o, o < ρ.ob → (∀ f, f < 8 → τ 51 (8 * o + f) = ρ.sl (9 * o + f)) ∧ τ 52 o = ρ.sl (9 * o + 8)) ∧ (∀ s, s < 4 → τ 53 s = ρ.st s) ∧ (∀ j, j < 6 * ρ.fr → τ 57 j = ρ.nm j) ∧ (∀ k, k < ρ.fr → τ 54 k = ρ.fm k ∧ τ 55 k = ρ.fc k ∧ τ 56 k = ρ.ft k) ∧ ∀ k, k < 60 → τ 58 k = ρ.me k
def DD (τ0 τ : mS) (ρ : RnS) : Prop := FM τ0 τ ∧ Rm τ ρ
def BM (π : mS) (N : Nat) (τ0 : mS) : Prop := PM π τ0 ∧ kNow τ0 (it π N)
theorem FM.up {τ0 τ : mS} (h : FM τ0 τ) {k j : Nat} {v : Int32} (hk : 50 ≤ k ∧ k ≤ 58) : FM τ0 (m_up τ k j v) :=
  ⟨fun i a b => by rw [m_up_ne (by omega)]; exact h.1 i a b, fun i a => by rw [m_up_ne (by omega)]; exact h.2.1 i a, fun i a b c => by rw [m_up_ne (by omega)]; exact h.2.2 i a b c⟩
theorem FM.fl {τ0 τ : mS} (h : FM τ0 τ) {k a b : Nat} {v : Int32} (hk : 50 ≤ k ∧ k ≤ 58) : FM τ0 (m_fl τ k a b v) :=
  ⟨fun i c d => by rw [m_fl_o (by omega)]; exact h.1 i c d, fun i c => by rw [m_fl_o (by omega)]; exact h.2.1 i c, fun i c d e => by rw [m_fl_o (by omega)]; exact h.2.2 i c d e⟩
theorem FM.n {τ0 τ : mS} (h : FM τ0 τ) {j : Nat} {v : Int32} (hj : j = 32 ∨ j = 37 ∨ j = 43) : FM τ0 (m_up τ 25 j v) :=
  ⟨fun i a b => by rw [m_up_ne b]; exact h.1 i a b, fun i a => by rw [m_up_ne (by omega)]; exact h.2.1 i a, fun i a b c => by rw [m_up_s, upd_o (by omega)]; exact h.2.2 i a b c⟩
theorem FM.pm {π τ0 τ : mS} (h : FM τ0 τ) (hp : PM π τ0) : PM π τ := hp.to (fun k a b => h.1 k (by omega) (by omega)) (fun j hj => h.2.2 j (by omega) (by omega) (by omega))
theorem FM.kn {τ0 τ : mS} (h : FM τ0 τ) {S : Nat → Int32} (hp : kNow τ0 S) : kNow τ S := by
  unfold kNow at *
  rw [h.1 39 (by decide) (by decide), h.1 41 (by decide) (by decide), h.1 43 (by decide) (by decide), h.1 45 (by decide) (by decide), h.1 47 (by decide) (by decide)]
  exact hp
theorem flt_split {p : Nat → Bool} {i : Nat} : ∀ n, i < n → ∃ L, (List.range n).filter p = ((List.range i).filter p ++ (if p i = true then [i] else [])) ++ L := by
  intro n
  induction n with
  | zero => intro h; omega
  | succ n ih =>
    intro h
    rw [flt_succ]
    by_cases e : i = n
    · subst e; exact ⟨[], by rw [List.append_nil]⟩
    · obtain ⟨L, hL⟩ := ih (by omega)
      exact ⟨L ++ (if p n = true then [n] else []), by rw [hL, List.append_assoc]⟩
section
variable {π τ0 τ : mS} {N : Nat} {ρ : RnS}
abbrev pm (π : mS) (m i : Nat) : Bool := decide (π 30 i = nI m)
abbrev cI (π : mS) (m i : Nat) : Nat := ((List.range i).filter (pm π m)).length
theorem cI_s (m i : Nat) : cI π m (i + 1) = cI π m i + (if pm π m i = true then 1 else 0) := by
  show ((List.range (i + 1)).filter (pm π m)).length = _
  rw [flt_succ, List.length_append]
  split <;> rfl
theorem cI_le (m i : Nat) : cI π m i ≤ i := by
  have := List.length_filter_le (pm π m) (List.range i)
  rwa [List.length_range] at this
theorem l_many (h : PM π τ) {m : Nat} : ∀ d i, nS π - i = d → i ≤ nS π → J M_M_many (qR (some (.inl (nI (cnt π m)))) τ) 4 [some (.inr (25, 0)), some (.inl (nI m)), some (.inl (nI (cI π m i))), some (.inl (nI i))] [] τ := by
  have a := h.1.nS60
  have e7 : τ 25 7 = nI (nS π) := by rw [h.2.2 7 (by decide), a.1]
  intro d
  induction d with
  | zero =>
    intro i h1 h2
    have : i = nS π := by omega
    subst this
    refine r_M_many_4 ?_
    rw [e7]
    exact ⟨fun _ => ⟨rfl, rfl⟩, fun q => absurd (nI_le (Nat.le_refl _) (by omega)) q⟩
  | succ d ih =>
    intro i h1 h2
    have key := ih (i + 1) (by omega) (by omega)
    rw [cI_s, ← nI_1] at key
    refine r_M_many_4 ?_
    rw [e7, cl_nI (by omega), h.2.1 30 (by decide) (by decide)]
    refine ⟨fun q => absurd q (nI_ge (by omega) (by omega)), fun _ => ⟨vp_in_nI (by omega) (by decide), fun q => ?_, fun q => ?_⟩⟩
    · rw [if_neg (by rw [decide_eq_true_eq]; exact q)] at key
      rw [← nI_0, nI_add]; exact key
    · rw [if_pos (decide_eq_true q)] at key
      rw [nI_1]; exact key
theorem d_many (h : PM π τ) (m : Nat) : MR M_M_many [.inr (25, 0), .inl (nI m)] τ (some (.inl (nI (cnt π m)))) τ := by
  refine MU_of rfl rfl rfl (r_M_many_0 ?_)
  have := l_many h (m := m) (nS π) 0 rfl (Nat.zero_le _)
  rw [show cI π m 0 = 0 from rfl, nI_0] at this
  exact this
theorem l_statementOf (h : PM π τ) {m t : Nat} (ht : t < cnt π m) (u2 : Option mV) : ∀ d i, nS π - i = d → i ≤ nS π → cI π m i ≤ t → J M_M_statementOf (qR (some (.inl (nI (sth π m t)))) τ) 5 [some (.inr (25, 0)), some (.inl (nI m)), u2, some (.inl (nI (t - cI π m i))), some (.inl (nI i))] [] τ := by
  have a := h.1.nS60
  have le := sts_le (π := π) m
  have e7 : τ 25 7 = nI (nS π) := by rw [h.2.2 7 (by decide), a.1]
  intro d
  induction d with
  | zero =>
    intro i h1 h2 h3
    have : i = nS π := by omega
    subst this
    have : cI π m (nS π) = cnt π m := rfl
    omega
  | succ d ih =>
    intro i h1 h2 h3
    have key := ih (i + 1) (by omega) (by omega)
    rw [cI_s] at key
    refine r_M_statementOf_5 ?_
    rw [e7, cl_nI (by omega), h.2.1 30 (by decide) (by decide), nI_1]
    refine ⟨fun q => absurd q (nI_ge (by omega) (by omega)), fun _ => ⟨vp_in_nI (by omega) (by decide), fun q => ?_, fun q => ⟨fun q2 => ?_, fun q2 => ?_⟩⟩⟩
    · rw [if_neg (by rw [decide_eq_true_eq]; exact q)] at key
      exact key h3
    · rw [if_pos (decide_eq_true q)] at key
      have hlt : cI π m i < t := by
        rcases Nat.lt_or_ge (cI π m i) t with b | b
        · exact b
        · exact absurd (by rw [show t - cI π m i = 0 by omega]; exact nI_0) q2
      obtain ⟨g, hg⟩ : ∃ g, t - cI π m i = g + 1 := ⟨t - cI π m i - 1, by omega⟩
      have e : nI (t - cI π m i) + (-1 : Int32) = nI (t - (cI π m i + 1)) := by
        rw [hg, show ∀ x : Int32, x + (-1 : Int32) = x - 1 from fun x => by rw [Int32.sub_eq_add_neg], nI_pred]
        congr 1
        omega
      rw [e]
      exact key (by omega)
    · have e0 : t - cI π m i = 0 := by
        have le2 := cI_le (π := π) m i
        exact nI_inj (by omega) (by decide) (q2.trans nI_0.symm)
      have et : t = cI π m i := by omega
      refine ⟨?_, rfl⟩
      have hp : pm π m i = true := decide_eq_true q
      obtain ⟨L, hL⟩ := flt_split (p := pm π m) (i := i) (nS π) (by omega)
      rw [if_pos hp] at hL
      have : sth π m t = i := by
        unfold sth sts
        rw [show (fun i => decide (π 30 i = nI m)) = pm π m from rfl, hL, List.append_assoc, List.getD_eq_getElem?_getD, List.getElem?_append_right (by omega)]
        rw [show t - ((List.range i).filter (pm π m)).length = 0 from e0]
        rfl
      rw [this]
theorem d_statementOf (h : PM π τ) {m t : Nat} (ht : t < cnt π m) : MR M_M_statementOf [.inr (25, 0), .inl (nI m), .inl (nI t)] τ (some (.inl (nI (sth π m t)))) τ := by
  refine MU_of rfl rfl rfl (r_M_statementOf_0 ?_)
  have := l_statementOf h ht (some (.inl (nI t))) (nS π) 0 rfl (Nat.zero_le _) (Nat.zero_le _)
  rw [show t - cI π m 0 = t from rfl, nI_0] at this
  exact this
theorem vn_neg {n : Nat} {v : Int32} (h : VN n v) (hn : n ≤ 30) : (v < (0 : Int32) ↔ v = -1) ∧ ((0 : Int32) ≤ v ↔ ¬ v = -1) := by
  rcases h with e | ⟨o, ho, e⟩
  · rw [e]
    exact ⟨⟨fun _ => rfl, fun _ => by decide⟩, ⟨fun q => absurd q (by decide), fun q => absurd rfl q⟩⟩
  · rw [e]
    exact ⟨⟨fun q => absurd q (nI_pos (by omega)), fun q => absurd q (nI_m1 (by omega))⟩, ⟨fun _ => nI_m1 (by omega), fun _ => nI_pos' (by omega)⟩⟩
theorem d_canHave (hB : BM π N τ0) (w : Wr π ρ) (c : DD τ0 τ ρ) {v : Int32} (hv : VN ρ.ob v) {f : Nat} (hf : f < nF π) : MR M_M_canHave [.inr (25, 0), .inl v, .inl (nI f)] τ (some (.inl (bI (hsl π ρ v f)))) τ := by
  have hw := hB.1.1
  have aF := hw.nF8.2
  have hn := vn_neg hv w.1
  refine MU_of rfl rfl rfl (r_M_canHave_0 ⟨fun e => ⟨?_, rfl⟩, fun e => ?_⟩)
  · unfold hsl; rw [decide_eq_true (hn.1.mp e)]; rfl
  · have e := fun q => e (hn.1.mpr q)
    obtain ⟨o, ho, rfl, co, o30, os, si⟩ := wr_si hw w hv e
    refine ⟨vp_in_nI o30 (by decide), ?_⟩
    rw [co, c.2.2.1 o ho, os]
    refine (d_hasField (c.1.pm hB.1) si hf).i (end_b ⟨?_, rfl⟩)
    unfold hsl hasS
    rw [decide_eq_false e, Bool.not_false, Bool.true_and, decide_eq_false (show ¬ f = 8 by omega), Bool.false_or]
theorem shr_1 {x : Int32} {k : Nat} (hk : k < 31) : ((x >>> (nI k &&& 31)) &&& (1 : Int32)) = 1 ↔ bt x k = true := by
  rw [sshr1 hk]
  cases bt x k with
  | true => exact ⟨fun _ => rfl, fun _ => rfl⟩
  | false => exact ⟨fun q => absurd q (by decide), fun q => by cases q⟩
theorem d_isIn (hw : WM π) (w : Wr π ρ) (c : DD τ0 τ ρ) {v : Int32} (hv : VN ρ.ob v) (S : Int32) : MR M_M_isIn [.inr (25, 0), .inl v, .inl S] τ (some (.inl (bI (inR ρ v S)))) τ := by
  have aT := hw.nT20.2
  have hn := vn_neg hv w.1
  refine MU_of rfl rfl rfl (r_M_isIn_0 ⟨fun e => ⟨?_, rfl⟩, fun e => ?_⟩)
  · unfold inR; rw [decide_eq_true (hn.1.mp e)]; rfl
  · have e := fun q => e (hn.1.mpr q)
    obtain ⟨o, ho, rfl, co, o30, os, si⟩ := wr_si hw w hv e
    refine ⟨vp_in_nI o30 (by decide), ?_⟩
    rw [co, c.2.2.1 o ho, os]
    have i1 : inR ρ (nI o) S = bt S (siO ρ (nI o)) := by unfold inR; rw [decide_eq_false e, Bool.false_or]
    rw [i1]
    refine ⟨fun q => ⟨?_, rfl⟩, fun q => ⟨?_, rfl⟩⟩
    · have : bt S (siO ρ (nI o)) = false := by
        cases e : bt S (siO ρ (nI o)) with
        | false => rfl
        | true => exact absurd ((shr_1 (by omega)).mpr e) q
      rw [this]; rfl
    · rw [(shr_1 (by omega)).mp q]; rfl
def oF (τ : mS) (f : Nat) (x1 x2 x3 : Int32) : mS := m_up (m_fl (m_up (m_up (m_up τ 54 f x1) 55 f x2) 56 f x3) 57 (6 * f) (6 * f + 6) (-1)) 25 37 (nI (f + 1))
theorem l_open {X : mS} {f : Nat} (hf : f < 10) (e : X 25 37 = nI f) (Q : Option mV → mS → Prop) (hQ : Q none (m_up (m_fl X 57 (6 * f) (6 * f + 6) (-1)) 25 37 (nI (f + 1)))) (u1 u2 u3 : Option mV) : ∀ d n, 6 - n = d → n ≤ 6 → J M_M_open Q 33 [some (.inr (25, 0)), u1, u2, u3, some (.inl (nI n))] [] (m_fl X 57 (6 * f) (6 * f + n) (-1)) := by
  have e' : ∀ n, m_fl X 57 (6 * f) (6 * f + n) (-1) 25 37 = nI f := fun n => by rw [m_fl_o (by decide), e]
  intro d
  induction d with
  | zero =>
    intro n h1 h2
    have : n = 6 := by omega
    subst this
    refine r_M_open_33 ⟨fun _ => ?_, fun q => absurd (nI_le (Nat.le_refl _) (by decide)) q⟩
    rw [e', nI_1]; exact hQ
  | succ d ih =>
    intro n h1 h2
    refine r_M_open_33 ⟨fun q => absurd q (nI_ge (by omega) (by decide)), fun _ => ?_⟩
    rw [e', pk_mul, nI_add, cl_nI (by omega), m_fl_up _ _ _ _ _ (by omega), nI_1]
    exact ⟨vp_in_nI (by omega) (by decide), ih (n + 1) (by omega) (by omega)⟩
theorem d_open {f : Nat} (e : τ 25 37 = nI f) (hf : f < 10) (x1 x2 x3 : Int32) : MR M_M_open [.inr (25, 0), .inl x1, .inl x2, .inl x3] τ none (oF τ f x1 x2 x3) := by
  have v := vp_in_nI (n := f) (N := 10) hf (by decide)
  refine MU_of rfl rfl rfl (r_M_open_0 ?_)
  rw [e, cl_nI (by omega)]
  refine ⟨v, ?_⟩
  rintro _ rfl
  rw [m_up_ne (show 25 ≠ 54 by decide), e, cl_nI (by omega)]
  refine ⟨v, ?_⟩
  rintro _ rfl
  rw [m_up_ne (show 25 ≠ 55 by decide), m_up_ne (show 25 ≠ 54 by decide), e, cl_nI (by omega)]
  refine ⟨v, ?_⟩
  have := l_open (X := m_up (m_up (m_up τ 54 f x1) 55 f x2) 56 f x3) hf (by rw [m_up_ne (by decide), m_up_ne (by decide), m_up_ne (by decide), e]) (qR none (oF τ f x1 x2 x3)) ⟨rfl, rfl⟩ (some (.inl x1)) (some (.inl x2)) (some (.inl x3)) 6 0 rfl (by decide)
  rw [Nat.add_zero, m_fl_0, nI_0] at this
  exact this
theorem DD.nm (c : DD τ0 τ ρ) (a : Nat) (v : Int32) : DD τ0 (m_up τ 57 a v) (setN ρ a v) := by
  obtain ⟨c1, ⟨r1, r2, r3, r4, r5, r6, r7⟩⟩ := c
  refine ⟨c1.up (by omega), ⟨?_, ?_, ?_, ?_, ?_, ?_, ?_⟩⟩
  · rw [m_up_ne (by decide)]; exact r1
  · rw [m_up_ne (by decide)]; exact r2
  · rw [m_up_ne (by decide), m_up_ne (by decide)]; exact r3
  · rw [m_up_ne (by decide)]; exact r4
  · intro j hj
    rw [m_up_s]
    show upd (τ 57) a v j = upd ρ.nm a v j
    by_cases e : j = a
    · subst e; rw [upd_s, upd_s]
    · rw [upd_o e, upd_o e]; exact r5 j hj
  · rw [m_up_ne (by decide), m_up_ne (by decide), m_up_ne (by decide)]; exact r6
  · rw [m_up_ne (by decide)]; exact r7
/-- a name that takes its own object again -/
theorem DD.nm_self (c : DD τ0 τ ρ) {a : Nat} (ha : a < 6 * ρ.fr) : DD τ0 (m_up τ 57 a (ρ.nm a)) ρ := by
  have e : m_up τ 57 a (ρ.nm a) = τ := by
    funext k
    by_cases hk : k = 57
    · subst hk
      rw [m_up_s]
      funext j
      by_cases hj : j = a
      · subst hj; rw [upd_s, c.2.2.2.2.2.1 _ ha]
      · rw [upd_o hj]
    · rw [m_up_ne hk]
  rw [e]; exact c
theorem DD.st (c : DD τ0 τ ρ) (a : Nat) (v : Int32) : DD τ0 (m_up τ 53 a v) (rK ρ.ob ρ.fr ρ.ca ρ.os ρ.sl (upd ρ.st a v) ρ.nm ρ.fm ρ.fc ρ.ft ρ.me) := by
  obtain ⟨c1, ⟨r1, r2, r3, r4, r5, r6, r7⟩⟩ := c
  refine ⟨c1.up (by omega), ⟨?_, ?_, ?_, ?_, ?_, ?_, ?_⟩⟩
  · rw [m_up_ne (by decide)]; exact r1
  · rw [m_up_ne (by decide)]; exact r2
  · rw [m_up_ne (by decide), m_up_ne (by decide)]; exact r3
  · intro j hj
    rw [m_up_s]
    show upd (τ 53) a v j = upd ρ.st a v j
    by_cases e : j = a
    · subst e; rw [upd_s, upd_s]
    · rw [upd_o e, upd_o e]; exact r4 j hj
  · rw [m_up_ne (by decide)]; exact r5
  · rw [m_up_ne (by decide), m_up_ne (by decide), m_up_ne (by decide)]; exact r6
  · rw [m_up_ne (by decide)]; exact r7
theorem DD.fi (c : DD τ0 τ ρ) {o f : Nat} (hf : f < 8) (v : Int32) : DD τ0 (m_up τ 51 (8 * o + f) v) (rK ρ.ob ρ.fr ρ.ca ρ.os (upd ρ.sl (9 * o + f) v) ρ.st ρ.nm ρ.fm ρ.fc ρ.ft ρ.me) := by
  obtain ⟨c1, ⟨r1, r2, r3, r4, r5, r6, r7⟩⟩ := c
  refine ⟨c1.up (by omega), ⟨?_, ?_, ?_, ?_, ?_, ?_, ?_⟩⟩
  · rw [m_up_ne (by decide)]; exact r1
  · rw [m_up_ne (by decide)]; exact r2
  · intro o' ho'
    rw [m_up_s, m_up_ne (by decide)]
    refine ⟨fun f' hf' => ?_, ?_⟩
    · show upd (τ 51) _ v _ = upd ρ.sl _ v _
      by_cases e : o' = o ∧ f' = f
      · obtain ⟨rfl, rfl⟩ := e; rw [upd_s, upd_s]
      · rw [upd_o (by omega), upd_o (by omega)]; exact (r3 o' ho').1 f' hf'
    · show τ 52 o' = upd ρ.sl _ v _
      rw [upd_o (by omega)]; exact (r3 o' ho').2
  · rw [m_up_ne (by decide)]; exact r4
  · rw [m_up_ne (by decide)]; exact r5
  · rw [m_up_ne (by decide), m_up_ne (by decide), m_up_ne (by decide)]; exact r6
  · rw [m_up_ne (by decide)]; exact r7
theorem DD.el (c : DD τ0 τ ρ) {o : Nat} (v : Int32) : DD τ0 (m_up τ 52 o v) (rK ρ.ob ρ.fr ρ.ca ρ.os (upd ρ.sl (9 * o + 8) v) ρ.st ρ.nm ρ.fm ρ.fc ρ.ft ρ.me) := by
  obtain ⟨c1, ⟨r1, r2, r3, r4, r5, r6, r7⟩⟩ := c
  refine ⟨c1.up (by omega), ⟨?_, ?_, ?_, ?_, ?_, ?_, ?_⟩⟩
  · rw [m_up_ne (by decide)]; exact r1
  · rw [m_up_ne (by decide)]; exact r2
  · intro o' ho'
    rw [m_up_s, m_up_ne (by decide)]
    refine ⟨fun f' hf' => ?_, ?_⟩
    · show τ 51 _ = upd ρ.sl _ v _
      rw [upd_o (by omega)]; exact (r3 o' ho').1 f' hf'
    · show upd (τ 52) _ v _ = upd ρ.sl _ v _
      by_cases e : o' = o
      · subst e; rw [upd_s, upd_s]
      · rw [upd_o e, upd_o (by omega)]; exact (r3 o' ho').2
  · rw [m_up_ne (by decide)]; exact r4
  · rw [m_up_ne (by decide)]; exact r5
  · rw [m_up_ne (by decide), m_up_ne (by decide), m_up_ne (by decide)]; exact r6
  · rw [m_up_ne (by decide)]; exact r7
theorem l_make {X : mS} {n a : Nat} (hn : n < 30) (ha : a < 60) (e : X 25 32 = nI n) (Q : Option mV → mS → Prop) (hQ : Q none (m_up (m_up (m_fl X 51 (8 * n) (8 * n + 8) (-1)) 57 a (nI n)) 25 32 (nI (n + 1)))) (u1 : Option mV) : ∀ d f, 8 - f = d → f ≤ 8 → J M_M_make Q 37 [some (.inr (25, 0)), u1, some (.inl (nI a)), some (.inl (nI f))] [] (m_fl X 51 (8 * n) (8 * n + f) (-1)) := by
  have e' : ∀ f, m_fl X 51 (8 * n) (8 * n + f) (-1) 25 32 = nI n := fun f => by rw [m_fl_o (by decide), e]
  intro d
  induction d with
  | zero =>
    intro f h1 h2
    have : f = 8 := by omega
    subst this
    refine r_M_make_37 ⟨fun _ => ⟨vp_in_nI ha (by decide), ?_⟩, fun q => absurd (nI_le (Nat.le_refl _) (by decide)) q⟩
    rw [e', cl_nI (by omega)]
    rintro _ rfl
    rw [m_up_ne (show 25 ≠ 57 by decide), e', nI_1]; exact hQ
  | succ d ih =>
    intro f h1 h2
    refine r_M_make_37 ⟨fun q => absurd q (nI_ge (by omega) (by decide)), fun _ => ?_⟩
    rw [e', pk_mul, nI_add, cl_nI (by omega), m_fl_up _ _ _ _ _ (by omega), nI_1]
    exact ⟨vp_in_nI (by omega) (by decide), ih (f + 1) (by omega) (by omega)⟩
theorem d_make (hB : BM π N τ0) (w : Wr π ρ) (c : DD τ0 τ ρ) {i : Nat} (hi : i < nS π) {a : Nat} (ha : a < 60) : MU M_M_make [.inr (25, 0), .inl (nI i), .inl (nI a)] τ (fun r τ' => r = none ∧ DD τ0 τ' (mkF ρ (π 37 i) a)) := by
  have hw := hB.1.1
  have aS := hw.nS60.2
  have o30 := w.1
  have c32 : τ 25 32 = nI ρ.ob := c.2.1.1
  refine MU_of rfl rfl rfl (r_M_make_0 ?_)
  unfold mkF
  rw [c32, cl_nI (n := i) (by omega), cl_nI (n := ρ.ob) (by omega), (c.1.pm hB.1).2.1 37 (by decide) (by decide)]
  refine ⟨fun hne => ?_, fun he => ⟨rfl, ?_⟩⟩
  · have hn : ρ.ob < 30 := by
      rcases Nat.lt_or_ge ρ.ob 30 with b | b
      · exact b
      · exact absurd (by rw [show ρ.ob = 30 by omega]) hne
    refine ⟨vp_in_nI (by omega) (by decide), vp_in_nI hn (by decide), ?_⟩
    rintro _ rfl
    rw [m_up_ne (show 25 ≠ 50 by decide), c32, cl_nI (n := ρ.ob) (by omega), if_neg (by omega)]
    refine ⟨vp_in_nI hn (by decide), ?_⟩
    have fin : DD τ0 (m_up (m_up (m_fl (m_up (m_up τ 50 ρ.ob (π 37 i)) 52 ρ.ob (-1)) 51 (8 * ρ.ob) (8 * ρ.ob + 8) (-1)) 57 a (nI ρ.ob)) 25 32 (nI (ρ.ob + 1))) (rK (ρ.ob + 1) ρ.fr ρ.ca (upd ρ.os ρ.ob (π 37 i)) (fun j => if 9 * ρ.ob ≤ j then -1 else ρ.sl j) ρ.st (upd ρ.nm a (nI ρ.ob)) ρ.fm ρ.fc ρ.ft ρ.me) := by
      obtain ⟨c1, ⟨r1, r2, r3, r4, r5, r6, r7⟩⟩ := c
      refine ⟨((((c1.up (by omega)).up (by omega)).fl (by omega)).up (by omega)).n (by omega), ⟨⟨?_, ?_, ?_⟩, fun o ho => ?_, fun o ho => ⟨fun f hf => ?_, ?_⟩, fun s hs => ?_, fun j hj => ?_, fun k hk => ?_, fun k hk => ?_⟩⟩
      · rw [m_up_s, upd_s]; rfl
      · rw [m_up_s, upd_o (by decide), m_up_ne (by decide), m_fl_o (by decide), m_up_ne (by decide), m_up_ne (by decide)]; exact r1.2.1
      · rw [m_up_s, upd_o (by decide), m_up_ne (by decide), m_fl_o (by decide), m_up_ne (by decide), m_up_ne (by decide)]; exact r1.2.2
      · have ho : o < ρ.ob + 1 := ho
        rw [m_up_ne (by decide), m_up_ne (by decide), m_fl_o (by decide), m_up_ne (by decide), m_up_s]
        show upd (τ 50) _ _ o = upd ρ.os _ _ o
        by_cases e : o = ρ.ob
        · subst e; rw [upd_s, upd_s]
        · rw [upd_o e, upd_o e]; exact r2 o (by omega)
      · have ho : o < ρ.ob + 1 := ho
        rw [m_up_ne (by decide), m_up_ne (by decide), m_fl_s, m_up_ne (by decide), m_up_ne (by decide)]
        show (if 8 * ρ.ob ≤ 8 * o + f ∧ 8 * o + f < 8 * ρ.ob + 8 then -1 else τ 51 (8 * o + f)) = (if 9 * ρ.ob ≤ 9 * o + f then -1 else ρ.sl (9 * o + f))
        by_cases e : o = ρ.ob
        · rw [if_pos (by omega), if_pos (by omega)]
        · rw [if_neg (by omega), if_neg (by omega)]; exact (r3 o (by omega)).1 f hf
      · have ho : o < ρ.ob + 1 := ho
        rw [m_up_ne (by decide), m_up_ne (by decide), m_fl_o (by decide), m_up_s, m_up_ne (by decide)]
        show upd (τ 52) _ _ o = (if 9 * ρ.ob ≤ 9 * o + 8 then -1 else ρ.sl (9 * o + 8))
        by_cases e : o = ρ.ob
        · subst e; rw [upd_s, if_pos (by omega)]
        · rw [upd_o e, if_neg (by omega)]; exact (r3 o (by omega)).2
      · rw [m_up_ne (by decide), m_up_ne (by decide), m_fl_o (by decide), m_up_ne (by decide), m_up_ne (by decide)]; exact r4 s hs
      · rw [m_up_ne (by decide), m_up_s, m_fl_o (by decide), m_up_ne (by decide), m_up_ne (by decide)]
        show upd (τ 57) _ _ j = upd ρ.nm _ _ j
        by_cases e : j = a
        · subst e; rw [upd_s, upd_s]
        · rw [upd_o e, upd_o e]; exact r5 j hj
      · rw [m_up_ne (by decide), m_up_ne (by decide), m_fl_o (by decide), m_up_ne (by decide), m_up_ne (by decide), m_up_ne (by decide), m_up_ne (by decide), m_fl_o (by decide), m_up_ne (by decide), m_up_ne (by decide), m_up_ne (by decide), m_up_ne (by decide), m_fl_o (by decide), m_up_ne (by decide), m_up_ne (by decide)]; exact r6 k hk
      · rw [m_up_ne (by decide), m_up_ne (by decide), m_fl_o (by decide), m_up_ne (by decide), m_up_ne (by decide)]; exact r7 k hk
    have := l_make (X := m_up (m_up τ 50 ρ.ob (π 37 i)) 52 ρ.ob (-1)) hn ha (by rw [m_up_ne (by decide), m_up_ne (by decide), c32]) (fun r τ' => r = none ∧ DD τ0 τ' (rK (ρ.ob + 1) ρ.fr ρ.ca (upd ρ.os ρ.ob (π 37 i)) (fun j => if 9 * ρ.ob ≤ j then -1 else ρ.sl j) ρ.st (upd ρ.nm a (nI ρ.ob)) ρ.fm ρ.fc ρ.ft ρ.me)) ⟨rfl, fin⟩ (some (.inl (nI i))) 8 0 rfl (by decide)
    rw [show 8 * ρ.ob + 0 = 8 * ρ.ob from rfl, m_fl_0, nI_0] at this
    exact this
  · rw [if_pos (nI_inj (by omega) (by decide) he)]; exact c
end
