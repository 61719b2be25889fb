/-! QUERIES -/
def SC (π σ : mS) (N : Nat) (τ : mS) : Prop := RC π τ ∧ τ 2 7 = 1 ∧ FS σ τ ∧ τ 2 6 = nI N ∧ τ 14 = it π N ∧ τ 15 = wN π N
def SM (π σ : mS) (N : Nat) (τ : mS) : Prop := RMm π τ ∧ mKn π σ τ ∧ τ 25 31 = nI N ∧ kNow τ (it π N) ∧ τ 49 = vN π N
def qC (π : mS) (N : Nat) (ok : Prop) (a b : Int32) (σ : mS) : Option mV → mS → Prop := fun r τ => (ok ∧ r = some (.inl a) ∧ SC π σ N τ) ∨ (¬ ok ∧ r = some (.inl b) ∧ τ = σ)
def qM (π : mS) (N : Nat) (ok : Prop) (a b : Int32) (σ : mS) : Option mV → mS → Prop := fun r τ => (ok ∧ r = some (.inl a) ∧ SM π σ N τ) ∨ (¬ ok ∧ r = some (.inl b) ∧ τ = σ)
theorem c_set {π σ : mS} {N : Nat} (h : RC π σ) (hL : isLast π N) {P : mS → Prop} (hP : ∀ τ, SC π σ N τ → P τ) : MU M_S_settle [.inr (2, 0)] σ (fun r τ => r = none ∧ P τ) := by
  refine (c_settle h.1 h.2).mono ?_
  rintro r τ ⟨rfl, h1, h2, h3, h4⟩
  have hs := h3
  obtain ⟨K, -, hK, e6, e14, e15⟩ := h3
  have : K = N := hK.eq hL
  subst this
  exact ⟨rfl, hP τ ⟨⟨h1.rc h.1, Or.inr ⟨h2, hs⟩, h4⟩, h2, h1, e6, e14, e15⟩⟩
theorem d_set {π σ : mS} {N : Nat} (h : RMm π σ) (hL : isLast π N) {P : mS → Prop} (hP : ∀ τ, SM π σ N τ → P τ) : MU M_M_know [.inr (25, 0)] σ (fun r τ => r = none ∧ P τ) := by
  refine (d_know h.1 h.2).mono ?_
  rintro r τ ⟨rfl, h1, h2, h3⟩
  have hs := h2
  obtain ⟨K, -, hK, e31, hn, e49⟩ := h2
  have : K = N := hK.eq hL
  subst this
  exact ⟨rfl, hP τ ⟨⟨h.1.to (fun k a b => h1.1 k (by omega)) (fun j hj => h1.2.1 j (by omega) (by omega)), ⟨Or.inr ⟨h1.2.2, hs⟩, h3⟩⟩, h1, e31, hn, e49⟩⟩
theorem orR_c {f g : Nat → Int32} : ∀ n, (∀ c, c < n → f c = g c) → orR f n = orR g n
  | 0, _ => rfl
  | n + 1, h => by
    show orR f n ||| f n = orR g n ||| g n
    rw [orR_c n (fun c hc => h c (by omega)), h n (by omega)]
def al (π : mS) (N m n : Nat) : Int32 := orR (fun c => it π N (126 * m + 6 * c + n)) 21
theorem c_al {π σ τ : mS} {N m n : Nat} (h : SC π σ N τ) (hm : m < 10) (hn : n < 6) : MR M_S_inAllContexts [.inr (2, 0), .inl (nI m), .inl (nI n)] τ (some (.inl (al π N m n))) τ := by
  have e := c_inAll τ hm hn
  rw [h.2.2.2.2.1] at e
  exact e
theorem d_al {π σ τ : mS} {N m n : Nat} (h : SM π σ N τ) (hm : m < 10) (hn : n < 6) : MR M_M_allOf [.inr (25, 0), .inl (nI m), .inl (nI n)] τ (some (.inl (al π N m n))) τ := by
  have e := d_allOf τ hm hn
  rw [h.2.2.2.1.1, orR_c 21 (g := fun c => it π N (126 * m + 6 * c + n)) (fun c hc => a0_at (by omega))] at e
  exact e
theorem c_atS {π σ τ : mS} {N p : Nat} (h : SC π σ N τ) (hp : p < 1454) : MR M_S_at [.inr (2, 0), .inl (nI p)] τ (some (.inl (it π N p))) τ :=
  MU_of rfl rfl rfl (r_S_at_0 (by rw [cl_nI (by omega), h.2.2.2.2.1]; exact ⟨vp_in_nI hp (by decide), rfl, rfl⟩))
/-- contexts -/
def cxOK (π : mS) (x : Int32) : Bool := !decide (x < 0) && !decide ((if π 25 18 = 0 then 0 else π 25 16) < x)
theorem cx_in {π : mS} (hw : WM π) {x : Int32} (h : cxOK π x = true) : IN x 21 := by
  unfold cxOK at h
  rw [Bool.and_eq_true, Bool.not_eq_true', Bool.not_eq_true', decide_eq_false_iff_not, decide_eq_false_iff_not] at h
  obtain ⟨h1, h2⟩ := h
  have a := hw.nT20
  obtain ⟨j, hj, rfl⟩ := nI_of h1
  refine ⟨j, ?_, rfl⟩
  rcases Nat.lt_or_ge j 21 with q | q
  · exact q
  · exfalso
    apply h2
    by_cases e : π 25 18 = 0
    · rw [if_pos e, ← nI_0]; exact nI_lt (by omega) hj
    · rw [if_neg e, a.1]; exact nI_lt (by omega) hj
theorem cx_m1 {π : mS} : cxOK π (-1) = false := by
  unfold cxOK
  rw [decide_eq_true m1_neg]; rfl
theorem c_hasContext {π σ : mS} (h : RCp π σ) (x : Int32) : MR M_S_hasContext [.inr (2, 0), .inl x] σ (some (.inl (bI (cxOK π x)))) σ := by
  refine MU_of rfl rfl rfl (r_S_hasContext_0 ?_)
  rw [h.2.1.2.2.2.2.2, h.2.1.2.2.2.2.1]
  refine ⟨fun q => ⟨?_, rfl⟩, fun q => ⟨fun q2 => ⟨fun q3 => ⟨?_, rfl⟩, fun q3 => ⟨?_, rfl⟩⟩, fun q2 => ⟨fun q3 => ⟨?_, rfl⟩, fun q3 => ⟨?_, rfl⟩⟩⟩⟩ <;> unfold cxOK
  · rw [decide_eq_true q]; rfl
  · rw [if_pos q2, decide_eq_true q3, decide_eq_false q]; rfl
  · rw [if_pos q2, decide_eq_false q3, decide_eq_false q]; rfl
  · rw [if_neg q2, decide_eq_true q3, decide_eq_false q]; rfl
  · rw [if_neg q2, decide_eq_false q3, decide_eq_false q]; rfl
theorem d_isContext {π σ : mS} (h : PM π σ) (x : Int32) : MR M_M_isContext [.inr (25, 0), .inl x] σ (some (.inl (bI (cxOK π x)))) σ := by
  refine MU_of rfl rfl rfl (r_M_isContext_0 ?_)
  rw [h.2.2 18 (by decide), h.2.2 16 (by decide)]
  refine ⟨fun q => ⟨?_, rfl⟩, fun q => ⟨fun q2 => ⟨fun q3 => ⟨?_, rfl⟩, fun q3 => ⟨?_, rfl⟩⟩, fun q2 => ⟨fun q3 => ⟨?_, rfl⟩, fun q3 => ⟨?_, rfl⟩⟩⟩⟩ <;> unfold cxOK
  · rw [decide_eq_true q]; rfl
  · rw [if_neg q2, decide_eq_true q3, decide_eq_false q]; rfl
  · rw [if_neg q2, decide_eq_false q3, decide_eq_false q]; rfl
  · rw [if_pos q2, decide_eq_true q3, decide_eq_false q]; rfl
  · rw [if_pos q2, decide_eq_false q3, decide_eq_false q]; rfl
section
variable {π σ : mS} {N : Nat}
def okPo (π : mS) (x1 x2 x3 : Int32) : Prop := (rg x1 (π 25 4) && rg x3 (nI 6)) = true ∧ (x2 = -1 ∨ cxOK π x2 = true)
def anPo (π : mS) (N : Nat) (x1 x2 x3 : Int32) : Int32 := if x2 = -1 then al π N x1.toNatClampNeg x3.toNatClampNeg else it π N (126 * x1.toNatClampNeg + 6 * x2.toNatClampNeg + x3.toNatClampNeg)
theorem rg_M (hw : WM π) {x : Int32} (h : rg x (π 25 4) = true) : ∃ j, j < nM π ∧ x = nI j := rg_n (by rw [← hw.nM10.1]; exact h)
theorem rg_T (hw : WM π) {x : Int32} (h : rg x (π 25 16) = true) : ∃ j, j < nT π ∧ x = nI j := rg_n (by rw [← hw.nT20.1]; exact h)
theorem rg_F (hw : WM π) {x : Int32} (h : rg x (π 25 2) = true) : ∃ j, j < nF π ∧ x = nI j := rg_n (by rw [← hw.nF8.1]; exact h)
theorem rg_S (hw : WM π) {x : Int32} (h : rg x (π 25 7) = true) : ∃ j, j < nS π ∧ x = nI j := rg_n (by rw [← hw.nS60.1]; exact h)
theorem c_points (h : RC π σ) (hL : isLast π N) (x1 x2 x3 : Int32) : MU M_O_points [.inr (0, 0), .inl x1, .inl x2, .inl x3] σ (qC π N (okPo π x1 x2 x3) (anPo π N x1 x2 x3) (-1) σ) := by
  have hw := h.1.1
  have a := hw.nM10.2
  refine MU_of rfl rfl rfl (r_O_points_0 ((c_hasName σ x1 x3).i ?_))
  rw [h.1.2.1.2.2.1]
  refine br_b' (fun q => Or.inr ⟨(fun k => by rw [k.1] at q; cases q), rfl, rfl⟩) (fun q => ?_)
  have q' := q
  rw [Bool.and_eq_true] at q'
  obtain ⟨m, hm, e1⟩ := rg_M hw q'.1
  obtain ⟨n, hn, e3⟩ := rg_n q'.2
  have tail : (x2 = -1 ∨ cxOK π x2 = true) → J M_O_points (qC π N (okPo π x1 x2 x3) (anPo π N x1 x2 x3) (-1) σ) 32 [some (.inr (0, 0)), some (.inl x1), some (.inl x2), some (.inl x3)] [] σ := by
    intro q2
    refine r_O_points_32 (c_set h hL (fun τ hs => ⟨fun q3 => ?_, fun q3 => ?_⟩))
    · obtain ⟨c, hc, e2⟩ := cx_in hw (q2.resolve_left q3)
      have ea : anPo π N x1 x2 x3 = it π N (126 * m + 6 * c + n) := by unfold anPo; rw [if_neg q3, e1, e2, e3, cl_nI (by omega), cl_nI (by omega), cl_nI (by omega)]
      have ec := c_namesOf τ m c
      rw [← e1, ← e2] at ec
      refine ec.i ?_
      rw [e3, nI_add]
      exact (c_atS hs (by omega)).i (Or.inl ⟨⟨by rw [← e3]; exact q, q2⟩, by rw [← e3, ea], hs⟩)
    · have ea : anPo π N x1 x2 x3 = al π N m n := by unfold anPo; rw [if_pos q3, e1, e3, cl_nI (by omega), cl_nI (by omega)]
      have ec := c_al hs (m := m) (n := n) (by omega) hn
      rw [← e1, ← e3] at ec
      exact ec.i (Or.inl ⟨⟨q, q2⟩, by rw [ea], hs⟩)
  refine ⟨fun q2 => tail (Or.inl q2), fun q2 => (c_hasContext h.1 x2).i (br_b' (fun q3 => Or.inr ⟨fun k => ?_, rfl, rfl⟩) (fun q3 => tail (Or.inr q3)))⟩
  rcases k.2 with k | k
  · exact q2 k
  · rw [k] at q3; cases q3
theorem d_points (h : RMm π σ) (hL : isLast π N) (x1 x2 x3 : Int32) : MU M_M_points [.inr (25, 0), .inl x1, .inl x2, .inl x3] σ (qM π N (okPo π x1 x2 x3) (anPo π N x1 x2 x3) (-1) σ) := by
  have hw := h.1.1
  have a := hw.nM10.2
  refine MU_of rfl rfl rfl (r_M_points_0 ((d_isMethod σ x1).i ?_))
  rw [h.1.2.2 4 (by decide)]
  refine br_b (fun q => Or.inr ⟨(fun k => by have := k.1; rw [q] at this; cases this), rfl, rfl⟩) (fun q0 => (d_isName σ x3).i (br_b (fun q => Or.inr ⟨(fun k => by have := k.1; rw [q0, q] at this; cases this), rfl, rfl⟩) (fun q1 => ?_)))
  have q : (rg x1 (π 25 4) && rg x3 (nI 6)) = true := by rw [q0, q1]; rfl
  obtain ⟨m, hm, e1⟩ := rg_M hw q0
  obtain ⟨n, hn, e3⟩ := rg_n q1
  have tail : (x2 = -1 ∨ cxOK π x2 = true) → J M_M_points (qM π N (okPo π x1 x2 x3) (anPo π N x1 x2 x3) (-1) σ) 30 [some (.inr (25, 0)), some (.inl x1), some (.inl x2), some (.inl x3)] [] σ := by
    intro q2
    refine r_M_points_30 (d_set h hL (fun τ hs => ⟨fun q3 => ?_, fun q3 => ?_⟩))
    · have q4 : ¬ x2 = -1 := fun e => by rw [e] at q3; exact absurd q3 (by decide)
      obtain ⟨c, hc, e2⟩ := cx_in hw (q2.resolve_left q4)
      have ea : anPo π N x1 x2 x3 = it π N (126 * m + 6 * c + n) := by unfold anPo; rw [if_neg q4, e1, e2, e3, cl_nI (by omega), cl_nI (by omega), cl_nI (by omega)]
      have ec := d_nameAt τ m c n
      rw [← e1, ← e2, ← e3] at ec
      refine ec.i ⟨vp_in_nI (by omega) (by decide), Or.inl ⟨⟨q, q2⟩, ?_, hs⟩⟩
      rw [ea, cl_nI (by omega), hs.2.2.2.1.1, a0_at (by omega)]
    · have q4 : x2 = -1 := by
        rcases q2 with e | e
        · exact e
        · obtain ⟨c, hc, e2⟩ := cx_in hw e
          exact absurd (by rw [e2]; exact nI_pos' (by omega)) q3
      have ea : anPo π N x1 x2 x3 = al π N m n := by unfold anPo; rw [if_pos q4, e1, e3, cl_nI (by omega), cl_nI (by omega)]
      have ec := d_al hs (m := m) (n := n) (by omega) hn
      rw [← e1, ← e3] at ec
      exact ec.i (Or.inl ⟨⟨q, q2⟩, by rw [ea], hs⟩)
  refine ⟨fun q2 => tail (Or.inl q2), fun q2 => (d_isContext h.1 x2).i (br_b' (fun q3 => Or.inr ⟨fun k => ?_, rfl, rfl⟩) (fun q3 => tail (Or.inr q3)))⟩
  rcases k.2 with k | k
  · exact q2 k
  · rw [k] at q3; cases q3
def okFi (π : mS) (x1 x2 : Int32) : Prop := rg x1 (π 25 16) = true ∧ rg x2 (π 25 2) = true
def anFi (π : mS) (N : Nat) (x1 x2 : Int32) : Int32 := it π N (1260 + 9 * x1.toNatClampNeg + x2.toNatClampNeg)
theorem c_inField (h : RC π σ) (hL : isLast π N) (x1 x2 : Int32) : MU M_O_inField [.inr (0, 0), .inl x1, .inl x2] σ (qC π N (okFi π x1 x2) (anFi π N x1 x2) (-1) σ) := by
  have hw := h.1.1
  have a := hw.nT20.2
  have a' := hw.nF8.2
  refine MU_of rfl rfl rfl (r_O_inField_0 ((c_hasSite σ x1).i ?_))
  rw [h.1.2.1.2.2.2.2.1]
  refine br_b (fun q => Or.inr ⟨(fun k => by rw [k.1] at q; cases q), rfl, rfl⟩) (fun q => (c_hasField σ x2).i ?_)
  rw [h.1.2.1.2.1]
  refine br_b' (fun q2 => Or.inr ⟨(fun k => by rw [k.2] at q2; cases q2), rfl, rfl⟩) (fun q2 => c_set h hL (fun τ hs => ?_))
  have ok : okFi π x1 x2 := ⟨q, q2⟩
  obtain ⟨o, ho, rfl⟩ := rg_T hw q
  obtain ⟨f, hf, rfl⟩ := rg_F hw q2
  refine (c_slotPlace τ o f).i ((c_atS hs (by omega)).i (Or.inl ⟨ok, ?_, hs⟩))
  unfold anFi
  rw [cl_nI (by omega), cl_nI (by omega)]
theorem d_inField (h : RMm π σ) (hL : isLast π N) (x1 x2 : Int32) : MU M_M_inField [.inr (25, 0), .inl x1, .inl x2] σ (qM π N (okFi π x1 x2) (anFi π N x1 x2) (-1) σ) := by
  have hw := h.1.1
  have a := hw.nT20.2
  have a' := hw.nF8.2
  refine MU_of rfl rfl rfl (r_M_inField_0 ((d_isSite σ x1).i ?_))
  rw [h.1.2.2 16 (by decide)]
  refine br_b (fun q => Or.inr ⟨(fun k => by rw [k.1] at q; cases q), rfl, rfl⟩) (fun q => (d_isField σ x2).i ?_)
  rw [h.1.2.2 2 (by decide)]
  refine br_b' (fun q2 => Or.inr ⟨(fun k => by rw [k.2] at q2; cases q2), rfl, rfl⟩) (fun q2 => d_set h hL (fun τ hs => ?_))
  have ok : okFi π x1 x2 := ⟨q, q2⟩
  obtain ⟨o, ho, rfl⟩ := rg_T hw q
  obtain ⟨f, hf, rfl⟩ := rg_F hw q2
  rw [pk_mul, nI_add, cl_nI (by omega), hs.2.2.2.1.2.1, a1_at (by omega) (by omega)]
  refine ⟨vp_in_nI (by omega) (by decide), Or.inl ⟨ok, ?_, hs⟩⟩
  unfold anFi
  rw [cl_nI (by omega), cl_nI (by omega)]
def anEl (π : mS) (N : Nat) (x1 : Int32) : Int32 := it π N (1260 + 9 * x1.toNatClampNeg + 8)
theorem c_element (h : RC π σ) (hL : isLast π N) (x1 : Int32) : MU M_O_element [.inr (0, 0), .inl x1] σ (qC π N (rg x1 (π 25 16) = true) (anEl π N x1) (-1) σ) := by
  have hw := h.1.1
  have a := hw.nT20.2
  refine MU_of rfl rfl rfl (r_O_element_0 ((c_hasSite σ x1).i ?_))
  rw [h.1.2.1.2.2.2.2.1]
  refine br_b' (fun q => Or.inr ⟨(fun k => by rw [k] at q; cases q), rfl, rfl⟩) (fun q => c_set h hL (fun τ hs => ?_))
  have ok := q
  obtain ⟨o, ho, rfl⟩ := rg_T hw q
  refine (c_slotPlace τ o 8).i ((c_atS hs (by omega)).i (Or.inl ⟨ok, ?_, hs⟩))
  unfold anEl
  rw [cl_nI (by omega)]
theorem d_element (h : RMm π σ) (hL : isLast π N) (x1 : Int32) : MU M_M_element [.inr (25, 0), .inl x1] σ (qM π N (rg x1 (π 25 16) = true) (anEl π N x1) (-1) σ) := by
  have hw := h.1.1
  have a := hw.nT20.2
  refine MU_of rfl rfl rfl (r_M_element_0 ((d_isSite σ x1).i ?_))
  rw [h.1.2.2 16 (by decide)]
  refine br_b' (fun q => Or.inr ⟨(fun k => by rw [k] at q; cases q), rfl, rfl⟩) (fun q => d_set h hL (fun τ hs => ?_))
  have ok := q
  obtain ⟨o, ho, rfl⟩ := rg_T hw q
  rw [cl_nI (by omega), hs.2.2.2.1.2.2.1, a2_at (by omega)]
  refine ⟨vp_in_nI (by omega) (by decide), Or.inl ⟨ok, ?_, hs⟩⟩
  unfold anEl
  rw [cl_nI (by omega)]
def anSt (π : mS) (N : Nat) (x1 : Int32) : Int32 := it π N (1440 + x1.toNatClampNeg)
theorem c_inStatic (h : RC π σ) (hL : isLast π N) (x1 : Int32) : MU M_O_inStatic [.inr (0, 0), .inl x1] σ (qC π N (rg x1 (nI 4) = true) (anSt π N x1) (-1) σ) := by
  refine MU_of rfl rfl rfl (r_O_inStatic_0 ((c_isStatic σ x1).i ?_))
  refine br_b' (fun q => Or.inr ⟨(fun k => by rw [k] at q; cases q), rfl, rfl⟩) (fun q => c_set h hL (fun τ hs => ?_))
  have ok := q
  obtain ⟨o, ho, rfl⟩ := rg_n q
  rw [nI_add]
  refine (c_atS hs (by omega)).i (Or.inl ⟨ok, ?_, hs⟩)
  unfold anSt
  rw [cl_nI (by omega)]
theorem d_inStatic (h : RMm π σ) (hL : isLast π N) (x1 : Int32) : MU M_M_inStatic [.inr (25, 0), .inl x1] σ (qM π N (rg x1 (nI 4) = true) (anSt π N x1) (-1) σ) := by
  refine MU_of rfl rfl rfl (r_M_inStatic_0 ((d_isStatic σ x1).i ?_))
  refine br_b' (fun q => Or.inr ⟨(fun k => by rw [k] at q; cases q), rfl, rfl⟩) (fun q => d_set h hL (fun τ hs => ?_))
  have ok := q
  obtain ⟨o, ho, rfl⟩ := rg_n q
  rw [cl_nI (by omega), hs.2.2.2.1.2.2.2.1, a3_at (by omega)]
  refine ⟨vp_in_nI (by omega) (by decide), Or.inl ⟨ok, ?_, hs⟩⟩
  unfold anSt
  rw [cl_nI (by omega)]
def okAl (π : mS) (x1 x2 x3 x4 : Int32) : Prop := (rg x1 (π 25 4) && rg x2 (nI 6)) = true ∧ (rg x3 (π 25 4) && rg x4 (nI 6)) = true
def anAl (π : mS) (N : Nat) (x1 x2 x3 x4 : Int32) : Int32 := if (al π N x1.toNatClampNeg x2.toNatClampNeg &&& al π N x3.toNatClampNeg x4.toNatClampNeg) = 0 then 0 else 1
theorem c_alias (h : RC π σ) (hL : isLast π N) (x1 x2 x3 x4 : Int32) : MU M_O_alias [.inr (0, 0), .inl x1, .inl x2, .inl x3, .inl x4] σ (qC π N (okAl π x1 x2 x3 x4) (anAl π N x1 x2 x3 x4) (-1) σ) := by
  have hw := h.1.1
  have a := hw.nM10.2
  refine MU_of rfl rfl rfl (r_O_alias_0 ((c_hasName σ x1 x2).i ?_))
  rw [h.1.2.1.2.2.1]
  refine br_b (fun q => Or.inr ⟨(fun k => by rw [k.1] at q; cases q), rfl, rfl⟩) (fun q => (c_hasName σ x3 x4).i ?_)
  rw [h.1.2.1.2.2.1]
  refine br_b' (fun q2 => Or.inr ⟨(fun k => by rw [k.2] at q2; cases q2), rfl, rfl⟩) (fun q2 => c_set h hL (fun τ hs => ?_))
  have ok : okAl π x1 x2 x3 x4 := ⟨q, q2⟩
  rw [Bool.and_eq_true] at q q2
  obtain ⟨m, hm, rfl⟩ := rg_M hw q.1
  obtain ⟨n, hn, rfl⟩ := rg_n q.2
  obtain ⟨m', hm', rfl⟩ := rg_M hw q2.1
  obtain ⟨n', hn', rfl⟩ := rg_n q2.2
  refine (c_al hs (by omega) hn).i ((c_al hs (by omega) hn').i ?_)
  have ea : anAl π N (nI m) (nI n) (nI m') (nI n') = if (al π N m n &&& al π N m' n') = 0 then 0 else 1 := by unfold anAl; rw [cl_nI (by omega), cl_nI (by omega), cl_nI (by omega), cl_nI (by omega)]
  rintro _ rfl
  exact ⟨fun q3 => Or.inl ⟨ok, by rw [ea, if_pos q3], hs⟩, fun q3 => Or.inl ⟨ok, by rw [ea, if_neg q3], hs⟩⟩
theorem d_alias (h : RMm π σ) (hL : isLast π N) (x1 x2 x3 x4 : Int32) : MU M_M_alias [.inr (25, 0), .inl x1, .inl x2, .inl x3, .inl x4] σ (qM π N (okAl π x1 x2 x3 x4) (anAl π N x1 x2 x3 x4) (-1) σ) := by
  have hw := h.1.1
  have a := hw.nM10.2
  have e4 := h.1.2.2 4 (by decide)
  refine MU_of rfl rfl rfl (r_M_alias_0 ((d_isMethod σ x1).i ?_))
  rw [e4]
  refine br_b (fun q => Or.inr ⟨(fun k => by have := k.1; rw [q] at this; cases this), rfl, rfl⟩) (fun q1 => (d_isName σ x2).i (br_b (fun q => Or.inr ⟨(fun k => by have := k.1; rw [q1, q] at this; cases this), rfl, rfl⟩) (fun q2 => (d_isMethod σ x3).i ?_)))
  rw [e4]
  refine br_b (fun q => Or.inr ⟨(fun k => by have := k.2; rw [q] at this; cases this), rfl, rfl⟩) (fun q3 => (d_isName σ x4).i (br_b' (fun q => Or.inr ⟨(fun k => by have := k.2; rw [q3, q] at this; cases this), rfl, rfl⟩) (fun q4 => d_set h hL (fun τ hs => ?_))))
  have ok : okAl π x1 x2 x3 x4 := ⟨by rw [q1, q2]; rfl, by rw [q3, q4]; rfl⟩
  obtain ⟨m, hm, rfl⟩ := rg_M hw q1
  obtain ⟨n, hn, rfl⟩ := rg_n q2
  obtain ⟨m', hm', rfl⟩ := rg_M hw q3
  obtain ⟨n', hn', rfl⟩ := rg_n q4
  refine (d_al hs (by omega) hn).i ((d_al hs (by omega) hn').i ?_)
  have ea : anAl π N (nI m) (nI n) (nI m') (nI n') = if (al π N m n &&& al π N m' n') = 0 then 0 else 1 := by unfold anAl; rw [cl_nI (by omega), cl_nI (by omega), cl_nI (by omega), cl_nI (by omega)]
  exact ⟨fun q3 => Or.inl ⟨ok, by rw [ea, if_pos q3], hs⟩, fun q3 => Or.inl ⟨ok, by rw [ea, if_neg q3], hs⟩⟩
theorem c_rounds (h : RC π σ) (hL : isLast π N) : MU M_O_rounds [.inr (0, 0)] σ (qC π N True (nI N) (-1) σ) :=
  MU_of rfl rfl rfl (r_O_rounds_0 (c_set h hL (fun τ hs => Or.inl ⟨trivial, by rw [hs.2.2.2.1], hs⟩)))
theorem d_rounds (h : RMm π σ) (hL : isLast π N) : MU M_M_rounds [.inr (25, 0)] σ (qM π N True (nI N) (-1) σ) :=
  MU_of rfl rfl rfl (r_M_rounds_0 (d_set h hL (fun τ hs => Or.inl ⟨trivial, by rw [hs.2.2.1], hs⟩)))
def okWh (π : mS) (x1 x2 x3 : Int32) : Prop := (rg x1 (π 25 4) && rg x2 (nI 6)) = true ∧ rg x3 (π 25 16) = true
noncomputable def anWh (π : mS) (N : Nat) (x1 x2 x3 : Int32) : Int32 := if wN π N (120 * x1.toNatClampNeg + 20 * x2.toNatClampNeg + x3.toNatClampNeg) = 0 then -nI 3 else wN π N (120 * x1.toNatClampNeg + 20 * x2.toNatClampNeg + x3.toNatClampNeg)
theorem c_when (h : RC π σ) (hL : isLast π N) (x1 x2 x3 : Int32) : MU M_O_when [.inr (0, 0), .inl x1, .inl x2, .inl x3] σ (qC π N (okWh π x1 x2 x3) (anWh π N x1 x2 x3) (-1) σ) := by
  have hw := h.1.1
  have a := hw.nM10.2
  have a' := hw.nT20.2
  refine MU_of rfl rfl rfl (r_O_when_0 ((c_hasName σ x1 x2).i ?_))
  rw [h.1.2.1.2.2.1]
  refine br_b (fun q => Or.inr ⟨(fun k => by rw [k.1] at q; cases q), rfl, rfl⟩) (fun q => (c_hasSite σ x3).i ?_)
  rw [h.1.2.1.2.2.2.2.1]
  refine br_b' (fun q2 => Or.inr ⟨(fun k => by rw [k.2] at q2; cases q2), rfl, rfl⟩) (fun q2 => c_set h hL (fun τ hs => ?_))
  have ok : okWh π x1 x2 x3 := ⟨q, q2⟩
  rw [Bool.and_eq_true] at q
  obtain ⟨m, hm, rfl⟩ := rg_M hw q.1
  obtain ⟨n, hn, rfl⟩ := rg_n q.2
  obtain ⟨o, ho, rfl⟩ := rg_T hw q2
  have ea : anWh π N (nI m) (nI n) (nI o) = if wN π N (120 * m + 20 * n + o) = 0 then -nI 3 else wN π N (120 * m + 20 * n + o) := by unfold anWh; rw [cl_nI (by omega), cl_nI (by omega), cl_nI (by omega)]
  have fr : MR M_S_firstRound [.inr (2, 0), .inl (nI m), .inl (nI n), .inl (nI o)] τ (some (.inl (wN π N (120 * m + 20 * n + o)))) τ := by
    refine MU_of rfl rfl rfl (r_S_firstRound_0 ?_)
    rw [pk_mul, nI_add, pk_mul, nI_add, cl_nI (by omega), hs.2.2.2.2.2, show (m * 6 + n) * 20 + o = 120 * m + 20 * n + o by omega]
    exact ⟨vp_in_nI (by omega) (by decide), rfl, rfl⟩
  refine fr.i ⟨fun q3 => Or.inl ⟨ok, by rw [ea, if_neg q3], hs⟩, fun q3 => Or.inl ⟨ok, by rw [ea, if_pos q3], hs⟩⟩
theorem d_when (h : RMm π σ) (hN : N < 46528) (hL : isLast π N) (x1 x2 x3 : Int32) : MU M_M_when [.inr (25, 0), .inl x1, .inl x2, .inl x3] σ (qM π N (okWh π x1 x2 x3) (anWh π N x1 x2 x3) (-1) σ) := by
  have hw := h.1.1
  have a := hw.nM10.2
  have a' := hw.nT20.2
  refine MU_of rfl rfl rfl (r_M_when_0 ((d_isMethod σ x1).i ?_))
  rw [h.1.2.2 4 (by decide)]
  refine br_b (fun q => Or.inr ⟨(fun k => by have := k.1; rw [q] at this; cases this), rfl, rfl⟩) (fun q1 => (d_isName σ x2).i (br_b (fun q => Or.inr ⟨(fun k => by have := k.1; rw [q1, q] at this; cases this), rfl, rfl⟩) (fun q2 => (d_isSite σ x3).i ?_)))
  rw [h.1.2.2 16 (by decide)]
  refine br_b' (fun q => Or.inr ⟨(fun k => by have := k.2; rw [q] at this; cases this), rfl, rfl⟩) (fun q3 => d_set h hL (fun τ hs => ?_))
  have ok : okWh π x1 x2 x3 := ⟨by rw [q1, q2]; rfl, q3⟩
  obtain ⟨m, hm, rfl⟩ := rg_M hw q1
  obtain ⟨n, hn, rfl⟩ := rg_n q2
  obtain ⟨o, ho, rfl⟩ := rg_T hw q3
  have ea : anWh π N (nI m) (nI n) (nI o) = if wN π N (120 * m + 20 * n + o) = 0 then -nI 3 else wN π N (120 * m + 20 * n + o) := by unfold anWh; rw [cl_nI (by omega), cl_nI (by omega), cl_nI (by omega)]
  rw [pk_mul, pk_mul, nI_add, nI_add, cl_nI (by omega), hs.2.2.2.2, vN_wN hw hm hn ho N (by omega)]
  refine ⟨vp_in_nI (by omega) (by decide), ?_⟩
  rintro v rfl
  by_cases e : wN π N (120 * m + 20 * n + o) = 0
  · rw [if_pos e]
    exact ⟨fun q => absurd q (by decide), fun _ => Or.inl ⟨ok, by rw [ea, if_pos e], hs⟩⟩
  · rw [if_neg e]
    exact ⟨fun _ => Or.inl ⟨ok, by rw [ea, if_neg e], hs⟩, fun q => absurd (wN_pos N (by omega) _) q⟩
end
