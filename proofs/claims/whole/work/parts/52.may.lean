/-! may -/
section
variable {π σ : mS} {N : Nat}
def mC1 (π : mS) (x : Int32) (r o : Nat) : Int32 := if bt x o = true ∧ ¬ fnd π (sc π o) r = -1 then (1 : Int32) <<< (fnd π (sc π o) r &&& 31) else 0
def mK1 (π : mS) (x : Int32) (r o : Nat) : Int32 := if bt x o = true ∧ und π (sc π o) r = false then (1 : Int32) <<< (nI o &&& 31) else 0
def mCa (π : mS) (x : Int32) (r : Nat) : Nat → Int32 := orR (mC1 π x r)
def mKc (π : mS) (x : Int32) (r : Nat) : Nat → Int32 := orR (mK1 π x r)
theorem or0 (x : Int32) : x ||| 0 = x := by
  apply b_ext
  intro i hi
  rw [b_or, b_0, Bool.or_false]
theorem al_T (hw : WM π) {m n : Nat} (hm : m < 10) (hn : n < 6) {o : Nat} (h : bt (al π N m n) o = true) : o < nT π := by
  obtain ⟨c, hc, hb⟩ := (bt_orR 21).mp h
  exact ((it_ok hw N).1 _ (by omega) o hb).2 (by omega)
theorem mK_bits (hw : WM π) {σ : mS} (h : RCp π σ) {x : Int32} (hx : ∀ o, bt x o = true → o < nT π) {r : Nat} (hr : r < nC π) : x &&& (σ 6 r ^^^ (-1 : Int32)) = mKc π x r (nT π) := by
  have a := hw.nT20.2
  apply b_ext
  intro o ho
  rw [b_and, b_xor, b_m1 o ho, h.2.2.1.2.2.1 r hr o, Bool.eq_iff_iff]
  unfold mKc
  rw [bt_orR]
  constructor
  · intro q
    rw [Bool.and_eq_true] at q
    have h1 := hx o q.1
    refine ⟨o, h1, ?_⟩
    have h2 := q.2
    rw [decide_eq_true h1, Bool.true_and] at h2
    have h3 : und π (sc π o) r = false := by
      cases e : und π (sc π o) r with
      | false => rfl
      | true => rw [e] at h2; cases h2
    unfold mK1
    rw [if_pos ⟨q.1, h3⟩, bt_1shl (by omega)]
    exact decide_eq_true rfl
  · rintro ⟨k, hk, hb⟩
    unfold mK1 at hb
    by_cases e : bt x k = true ∧ und π (sc π k) r = false
    · rw [if_pos e, bt_1shl (by omega)] at hb
      have := of_decide_eq_true hb
      subst this
      rw [e.1, e.2, Bool.and_false]; rfl
    · rw [if_neg e, b_0] at hb; cases hb
theorem l_methodsFound {σ : mS} (h : RCp π σ) {r : Nat} (hr : r < 4) (x : Int32) (Q : Option mV → mS → Prop) (hQ : Q (some (.inl (mCa π x r (nT π)))) σ) : ∀ d o, nT π - o = d → o ≤ nT π → ∀ u5, J M_P_methodsFound Q 5 [some (.inr (1, 0)), some (.inl x), some (.inl (nI r)), some (.inl (mCa π x r o)), some (.inl (nI o)), u5] [] σ := by
  have hw := h.1
  have a := hw.nT20
  have e4 : σ 1 4 = nI (nT π) := by rw [h.2.1.2.2.2.2.1, a.1]
  intro d
  induction d with
  | zero =>
    intro o h1 h2 u5
    have : o = nT π := by omega
    subst this
    refine r_P_methodsFound_5 ?_
    rw [e4]
    exact ⟨fun _ => hQ, fun q => absurd (nI_le (Nat.le_refl _) (by omega)) q⟩
  | succ d ih =>
    intro o h1 h2 u5
    have key := ih (o + 1) (by omega) (by omega)
    rw [← nI_1, show mCa π x r (o + 1) = mCa π x r o ||| mC1 π x r o from rfl] at key
    unfold mC1 at key
    refine r_P_methodsFound_5 ?_
    rw [e4]
    refine ⟨fun q => absurd q (nI_ge (by omega) (by omega)), fun _ => (c_methodFound h (by omega) hr).i ((c_hasBit _ x (k := o) (by omega)).i (br_b (fun q => ?_) (fun q => ⟨fun q2 => ?_, fun q2 => ?_⟩)))⟩
    · rw [if_neg (fun k => by rw [k.1] at q; cases q), or0] at key; exact key _
    · rw [if_neg (fun k => k.2 q2), or0] at key; exact key _
    · rw [if_pos ⟨q, q2⟩] at key; exact key _
theorem c_methodsFound {σ : mS} (h : RCp π σ) {r : Nat} (hr : r < 4) (x : Int32) : MR M_P_methodsFound [.inr (1, 0), .inl x, .inl (nI r)] σ (some (.inl (mCa π x r (nT π)))) σ :=
  MU_of rfl rfl rfl (r_P_methodsFound_0 (by
    rw [← nI_0]
    have := l_methodsFound h hr x (qR (some (.inl (mCa π x r (nT π)))) σ) ⟨rfl, rfl⟩ (nT π) 0 rfl (Nat.zero_le _) none
    rw [show mCa π x r 0 = nI 0 from nI_0.symm] at this
    exact this))
def okMa (π : mS) (x : Int32) : Prop := rg x (π 25 7) = true ∧ (π 31 x.toNatClampNeg = nI 7 ∨ π 31 x.toNatClampNeg = nI 4)
def baMa (π : mS) (x : Int32) : Int32 := if rg x (π 25 7) = true then -nI 3 else -1
def anMa (π : mS) (N : Nat) (x : Int32) : Int32 := if π 31 x.toNatClampNeg = nI 7 then mCa π (al π N (ow π x.toNatClampNeg) (qq π x.toNatClampNeg)) (rr π x.toNatClampNeg) (nT π) else mKc π (al π N (ow π x.toNatClampNeg) (qq π x.toNatClampNeg)) (rr π x.toNatClampNeg) (nT π)
theorem ma_ops (hw : WM π) {i : Nat} (hi : i < nS π) : (π 31 i = nI 7 → π 33 i = nI (qq π i) ∧ qq π i < 6 ∧ π 34 i = nI (rr π i) ∧ rr π i < 4) ∧ (π 31 i = nI 4 → π 33 i = nI (qq π i) ∧ qq π i < 6 ∧ π 34 i = nI (rr π i) ∧ rr π i < nC π) := by
  have a := hw.nC8.2
  have hop := hw.op hi
  constructor
  · intro e
    have k : kd π i = 7 := by show (π 31 i).toNatClampNeg = 7; rw [e]; rfl
    obtain ⟨q1, q2, q3, q4, q5⟩ := op_7 hop k
    exact ⟨(q2.g (by decide)).1, (q2.g (by decide)).2, (q3.g (by decide)).1, (q3.g (by decide)).2⟩
  · intro e
    have k : kd π i = 4 := by show (π 31 i).toNatClampNeg = 4; rw [e]; rfl
    obtain ⟨q1, q2, q3⟩ := op_4 hop k
    exact ⟨(q2.g (by decide)).1, (q2.g (by decide)).2, (q3.g (by omega)).1, (q3.g (by omega)).2⟩
theorem c_may (h : RC π σ) (hL : isLast π N) (x1 : Int32) : MU M_O_may [.inr (0, 0), .inl x1] σ (qC π N (okMa π x1) (anMa π N x1) (baMa π x1) σ) := by
  have hw := h.1.1
  have aM := hw.nM10.2
  have aS := hw.nS60.2
  have aC := hw.nC8.2
  refine MU_of rfl rfl rfl (r_O_may_0 ((c_hasStatement σ x1).i ?_))
  rw [h.1.2.1.2.2.2.1]
  refine br_b' (fun q => Or.inr ⟨(fun k => by rw [k.1] at q; cases q), (by unfold baMa; rw [if_neg (by rw [q]; decide)]), rfl⟩) (fun q => ?_)
  obtain ⟨i, hi, rfl⟩ := rg_S hw q
  have ci : (nI i).toNatClampNeg = i := cl_nI (by omega)
  rw [ci, Nat.mod_eq_of_lt (by omega), (h.1.2.2.2.2.2 i hi).2.1]
  obtain ⟨o1, o2⟩ := hw.ow hi
  have tail : (π 31 i = nI 7 ∨ π 31 i = nI 4) → J M_O_may (qC π N (okMa π (nI i)) (anMa π N (nI i)) (baMa π (nI i)) σ) 43 [some (.inr (0, 0)), some (.inl (nI i)), some (.inr (59, i)), none] [] σ := by
    intro hk
    have ok : okMa π (nI i) := ⟨q, by rw [ci]; exact hk⟩
    refine r_O_may_43 (c_set h hL (fun τ hs => ?_))
    rw [Nat.mod_eq_of_lt (by omega)]
    obtain ⟨s0, s2, -, s4, s5, -⟩ := hs.1.1.2.2.2.2.2 i hi
    have eq : π 33 i = nI (qq π i) ∧ qq π i < 6 := by
      rcases hk with e | e
      · have := (ma_ops hw hi).1 e; exact ⟨this.1, this.2.1⟩
      · have := (ma_ops hw hi).2 e; exact ⟨this.1, this.2.1⟩
    rw [s0, s4, o1, eq.1]
    refine (c_al hs (by omega) eq.2).i ?_
    rw [s2, s5]
    refine ⟨fun e => ?_, fun e => ?_⟩
    · obtain ⟨-, -, r1, r2⟩ := (ma_ops hw hi).2 (hk.resolve_left e)
      rw [r1, cl_nI (by omega), mK_bits hw hs.1.1 (fun o ho => al_T hw (by omega) eq.2 ho) r2]
      refine ⟨vp_in_nI (by omega) (by decide), Or.inl ⟨ok, ?_, hs⟩⟩
      unfold anMa
      rw [ci, if_neg e]
    · obtain ⟨-, -, r1, r2⟩ := (ma_ops hw hi).1 e
      rw [r1]
      refine (c_methodsFound hs.1.1 r2 _).i (Or.inl ⟨ok, ?_, hs⟩)
      unfold anMa
      rw [ci, if_pos e]
  refine ⟨vp_in_nI (by omega) (by decide), fun e => tail (Or.inl e), fun e => ⟨fun e2 => tail (Or.inr e2), fun e2 => Or.inr ⟨fun k => ?_, (by unfold baMa; rw [if_pos q]), rfl⟩⟩⟩
  have := k.2
  rw [ci] at this
  exact this.elim e e2
theorem l_may {τ : mS} (h : PM π τ) {i : Nat} (hi : i < nS π) (hk : π 31 i = nI 7 ∨ π 31 i = nI 4) (x : Int32) (Q : Option mV → mS → Prop) (F : Nat → Int32) (hF : F = if π 31 i = nI 7 then mC1 π x (rr π i) else mK1 π x (rr π i)) (hQ : Q (some (.inl (orR F (nT π)))) τ) :
    ∀ d o, nT π - o = d → o ≤ nT π → ∀ u5, J M_M_may Q 64 [some (.inr (25, 0)), some (.inl (nI i)), some (.inl x), some (.inl (orR F o)), some (.inl (nI o)), u5] [] τ := by
  have hw := h.1
  have a := hw.nT20
  have aS := hw.nS60.2
  have aC := hw.nC8.2
  have aM := hw.nM10.2
  have e16 : τ 25 16 = nI (nT π) := by rw [h.2.2 16 (by decide), a.1]
  intro d
  induction d with
  | zero =>
    intro o h1 h2 u5
    have : o = nT π := by omega
    subst this
    refine r_M_may_64 ?_
    rw [e16]
    exact ⟨fun _ => hQ, fun q => absurd (nI_le (Nat.le_refl _) (by omega)) q⟩
  | succ d ih =>
    intro o h1 h2 u5
    have key := ih (o + 1) (by omega) (by omega)
    rw [← nI_1, show orR F (o + 1) = orR F o ||| F o from rfl] at key
    have ho : o < nT π := by omega
    refine r_M_may_64 ?_
    rw [e16, cl_nI (n := i) (by omega), cl_nI (n := o) (by omega), h.2.1 31 (by decide) (by decide), h.2.1 34 (by decide) (by decide), h.2.1 38 (by decide) (by decide), (hw.sc ho).1]
    have vi := vp_in_nI (n := i) (N := 60) (by omega) (by decide)
    have vo := vp_in_nI (n := o) (N := 20) (by omega) (by decide)
    refine ⟨fun q => absurd q (nI_ge (by omega) (by omega)), fun _ => ⟨fun q => ⟨vi, fun e => ⟨vo, vi, ?_⟩, fun e => ⟨vo, vi, ?_⟩⟩, fun q => ?_⟩⟩
    · have b : bt x o = true := by
        cases e : bt x o with
        | true => rfl
        | false => exact absurd ((bt_shr1 (by omega)).mpr e) q
      have e7 := hk.resolve_right e
      obtain ⟨-, -, r1, r2⟩ := (ma_ops hw hi).1 e7
      rw [r1]
      refine (d_found h (hw.sc ho).2 (rr π i)).i ?_
      have Fo : F o = if bt x o = true ∧ ¬ fnd π (sc π o) (rr π i) = -1 then (1 : Int32) <<< (fnd π (sc π o) (rr π i) &&& 31) else 0 := by rw [hF, if_pos e7]; rfl
      rcases fnd_cases π (sc π o) (rr π i) with ef | ⟨m', hm', ef⟩
      · rw [ef]
        refine ⟨fun q => absurd q (by decide), fun _ => ?_⟩
        rw [Fo, if_neg (fun k => k.2 ef)] at key
        exact key _
      · rw [ef]
        refine ⟨fun _ => ?_, fun q => absurd (nI_pos' (by omega)) q⟩
        rw [Fo, if_pos ⟨b, by rw [ef]; exact nI_m1 (by omega)⟩, ef] at key
        exact key _
    · have b : bt x o = true := by
        cases e : bt x o with
        | true => rfl
        | false => exact absurd ((bt_shr1 (by omega)).mpr e) q
      have e7 : ¬ π 31 i = nI 7 := fun k => by rw [k] at e; exact absurd e (by decide)
      obtain ⟨-, -, r1, r2⟩ := (ma_ops hw hi).2 e
      rw [r1]
      refine (d_isUnder h (hw.sc ho).2 (by omega)).i ?_
      have Fo : F o = if bt x o = true ∧ und π (sc π o) (rr π i) = false then (1 : Int32) <<< (nI o &&& 31) else 0 := by rw [hF, if_neg e7]; rfl
      refine br_b (fun q => ?_) (fun q => ?_)
      · rw [Fo, if_pos ⟨b, q⟩] at key
        exact key _
      · rw [Fo, if_neg (fun k => by rw [k.2] at q; cases q)] at key
        exact key _
    · have b := (bt_shr1 (by omega)).mp q
      have Fo : F o = 0 := by
        rw [hF]
        split
        · unfold mC1; rw [if_neg (fun k => by rw [k.1] at b; cases b)]
        · unfold mK1; rw [if_neg (fun k => by rw [k.1] at b; cases b)]
      rw [Fo, or0] at key
      exact key _
theorem d_may (h : RMm π σ) (hL : isLast π N) (x1 : Int32) : MU M_M_may [.inr (25, 0), .inl x1] σ (qM π N (okMa π x1) (anMa π N x1) (baMa π x1) σ) := by
  have hw := h.1.1
  have aM := hw.nM10.2
  have aS := hw.nS60
  refine MU_of rfl rfl rfl (r_M_may_0 ?_)
  have e7 : σ 25 7 = π 25 7 := h.1.2.2 7 (by decide)
  rw [e7]
  have rgi : rg x1 (π 25 7) = true ↔ ¬ x1 < (0 : Int32) ∧ x1 < π 25 7 := by
    rw [rg_iff, i_lt, i_le, i_lt]
    omega
  refine ⟨fun q => Or.inr ⟨fun k => (rgi.mp k.1).1 q, (by unfold baMa; rw [if_neg (fun k => (rgi.mp k).1 q)]), rfl⟩, fun q0 => ⟨fun q1 => ?_, fun q1 => Or.inr ⟨fun k => q1 (rgi.mp k.1).2, (by unfold baMa; rw [if_neg (fun k => q1 (rgi.mp k).2)]), rfl⟩⟩⟩
  have q : rg x1 (π 25 7) = true := rgi.mpr ⟨q0, q1⟩
  obtain ⟨i, hi, rfl⟩ := rg_S hw q
  have ci : (nI i).toNatClampNeg = i := cl_nI (by omega)
  rw [ci, h.1.2.1 31 (by decide) (by decide)]
  obtain ⟨o1, o2⟩ := hw.ow hi
  have vi := vp_in_nI (n := i) (N := 60) (by omega) (by decide)
  have tail : (π 31 i = nI 7 ∨ π 31 i = nI 4) → J M_M_may (qM π N (okMa π (nI i)) (anMa π N (nI i)) (baMa π (nI i)) σ) 38 [some (.inr (25, 0)), some (.inl (nI i)), none, none, none, none] [] σ := by
    intro hk
    have ok : okMa π (nI i) := ⟨q, by rw [ci]; exact hk⟩
    refine r_M_may_38 (d_set h hL (fun τ hs => ⟨vi, vi, ?_⟩))
    have eq : π 33 i = nI (qq π i) ∧ qq π i < 6 := by
      rcases hk with e | e
      · have := (ma_ops hw hi).1 e; exact ⟨this.1, this.2.1⟩
      · have := (ma_ops hw hi).2 e; exact ⟨this.1, this.2.1⟩
    rw [ci, hs.1.1.2.1 30 (by decide) (by decide), hs.1.1.2.1 33 (by decide) (by decide), o1, eq.1]
    refine (d_al hs (by omega) eq.2).i ?_
    rw [← nI_0]
    have := l_may hs.1.1 hi hk (al π N (ow π i) (qq π i)) (qM π N (okMa π (nI i)) (anMa π N (nI i)) (baMa π (nI i)) σ) _ rfl (Or.inl ⟨ok, ?_, hs⟩) (nT π) 0 rfl (Nat.zero_le _) none
    · rw [show ∀ F, orR F 0 = nI 0 from fun F => nI_0.symm] at this
      exact this
    · unfold anMa
      rw [ci]
      split <;> rfl
  refine ⟨vi, fun e => tail (Or.inr e), fun e => ⟨vi, fun e2 => tail (Or.inl e2), fun e2 => Or.inr ⟨fun k => ?_, (by unfold baMa; rw [if_pos q]), rfl⟩⟩⟩
  have := k.2
  rw [ci] at this
  exact this.elim e2 e
end
