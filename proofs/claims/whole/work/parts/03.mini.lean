/-! THE SMALL MACHINE. A value is an int or a reference to a cell by its number (base, offset); the state gives each cell's ints; J M Q pc ls st σ: the method M, at pc with the locals ls, the stack st and the state σ, comes to an end with Q. -/
abbrev mV : Type := Int32 ⊕ (Nat × Nat)
abbrev mS : Type := Nat → Nat → Int32
def m_v (ad : Nat → Nat) (v : mV) : Value := match v with
  | .inl x => .int x
  | .inr q => .ref (ad (m_cl q))
def m_up (σ : mS) (k j : Nat) (v : Int32) : mS := fun k' => if k' = k then upd (σ k) j v else σ k'
def m_cp (σ : mS) (a b sp dp n : Nat) : mS := fun k' => if k' = b then va_cpy (σ a) (σ b) sp dp n else σ k'
def m_ushr (x y : Int32) : Int32 := (x.toUInt32 >>> (y.toUInt32 &&& Int32.toUInt32 31)).toInt32
def m_rem (x y : Int32) : Int32 := x - x / y * y
def m_fv (ad : Nat → Nat) (σ : mS) (k j : Nat) : Value := match o_r k j with
  | some r => .ref (ad r)
  | none => .int (σ k j)
def m_cell (ad : Nat → Nat) (cI cS : ClassId) (σ : mS) (k : Nat) : va_E := match o_ci k with
  | some c => .inr (c, (List.range (o_n k)).map (m_fv ad σ k))
  | none => if k = 24 then .inl (cS, 60, .inr (.inr (.inr (.inr (fun j => some (ad (59 + j))))))) else .inl (cI, a_n k, .inl (σ k))
def m_ws (ad : Nat → Nat) (cI cS : ClassId) (σ : mS) : va_W := (List.range 119).map (fun k => (ad k, m_cell ad cI cS σ k))
abbrev m_ty (cI cS : ClassId) : List (ClassId × FieldType) := [(cI, .int), (cS, .object "PointsToRounds$Statement")]
theorem m_ws_at {ad : Nat → Nat} {cI cS : ClassId} {σ : mS} {k : Nat} (h : k < 119) : (m_ws ad cI cS σ)[k]? = some (ad k, m_cell ad cI cS σ k) := by
  unfold m_ws
  rw [List.getElem?_map, List.getElem?_range h]
  rfl
theorem m_ws_inv {ad : Nat → Nat} {cI cS : ClassId} {σ : mS} {k : Nat} {q : Nat × va_E} (h : (m_ws ad cI cS σ)[k]? = some q) : k < 119 ∧ q = (ad k, m_cell ad cI cS σ k) := by
  have hk : k < 119 := by
    have := (List.getElem?_eq_some_iff.mp h).1
    simpa [m_ws] using this
  rw [m_ws_at hk] at h
  exact ⟨hk, (Option.some.inj h).symm⟩
theorem m_cell_eq {ad : Nat → Nat} {cI cS : ClassId} {σ τ : mS} {k : Nat} (h : σ k = τ k) : m_cell ad cI cS σ k = m_cell ad cI cS τ k := by
  have e : m_fv ad σ k = m_fv ad τ k := by funext j; unfold m_fv; rw [h]
  unfold m_cell
  rw [h, e]
theorem m_ws_set {ad : Nat → Nat} {cI cS : ClassId} {σ τ : mS} {k : Nat} (hk : k < 119) (h : ∀ j, j ≠ k → σ j = τ j) : (m_ws ad cI cS σ).set k (ad k, m_cell ad cI cS τ k) = m_ws ad cI cS τ := by
  apply List.ext_getElem?
  intro j
  rw [List.getElem?_set]
  by_cases hj : k = j
  · subst hj
    rw [if_pos rfl, if_pos (by simpa [m_ws] using hk), m_ws_at hk]
  · rw [if_neg hj]
    by_cases h9 : j < 119
    · rw [m_ws_at h9, m_ws_at h9, m_cell_eq (h j (Ne.symm hj))]
    · rw [List.getElem?_eq_none (by simp [m_ws]; omega), List.getElem?_eq_none (by simp [m_ws]; omega)]
theorem m_up_o {σ : mS} {k j : Nat} {v : Int32} (i : Nat) (h : i ≠ k) : σ i = m_up σ k j v i := by unfold m_up; rw [if_neg h]
theorem m_up_s {σ : mS} {k j : Nat} {v : Int32} : m_up σ k j v k = upd (σ k) j v := by unfold m_up; rw [if_pos rfl]
theorem m_cp_o {σ : mS} {a b sp dp n : Nat} (i : Nat) (h : i ≠ b) : σ i = m_cp σ a b sp dp n i := by unfold m_cp; rw [if_neg h]
/-- the cells' addresses are apart, and may be written -/
def m_A (ad : Nat → Nat) (A : Nat → Prop) : Prop := (∀ i j, i < 119 → j < 119 → ad i = ad j → i = j) ∧ ∀ k, k < 119 → A (ad k)
theorem m_A.D {ad : Nat → Nat} {A : Nat → Prop} (h : m_A ad A) (cI cS : ClassId) (σ : mS) : va_D A (m_ws ad cI cS σ) := by
  refine ⟨fun i j p q hp hq e => ?_, fun k q hq => ?_⟩
  · obtain ⟨h1, rfl⟩ := m_ws_inv hp
    obtain ⟨h2, rfl⟩ := m_ws_inv hq
    exact h.1 i j h1 h2 e
  · obtain ⟨h1, rfl⟩ := m_ws_inv hq
    exact h.2 k h1
theorem m_A.of {ad : Nat → Nat} {A : Nat → Prop} {cI cS : ClassId} {σ : mS} (h : va_D A (m_ws ad cI cS σ)) : m_A ad A :=
  ⟨fun i j hi hj e => h.1 i j _ _ (m_ws_at hi) (m_ws_at hj) e, fun k hk => h.2 k _ (m_ws_at hk)⟩
theorem m_A_iff {ad : Nat → Nat} {cI cS : ClassId} {σ : mS} {sz q : Nat} : va_A (m_ws ad cI cS σ) sz q ↔ (∃ k, k < 119 ∧ q = ad k) ∨ sz ≤ q := by
  constructor
  · rintro (⟨k, e, h⟩ | h)
    · obtain ⟨h1, h2⟩ := m_ws_inv h
      exact Or.inl ⟨k, h1, (Prod.mk.inj h2).1⟩
    · exact Or.inr h
  · rintro (⟨k, hk, rfl⟩ | h)
    · exact Or.inl ⟨k, _, m_ws_at hk⟩
    · exact Or.inr h
/-- the locals: those that are told are held -/
def m_L (ad : Nat → Nat) (n : Nat) (ls : List (Option mV)) (lsA : Array Slot) : Prop := ∃ L, lv_has lsA n L ∧ ∀ i v, ls[i]? = some (some v) → (i, m_v ad v) ∈ L
theorem m_L.get {ad : Nat → Nat} {n : Nat} {ls : List (Option mV)} {lsA : Array Slot} (h : m_L ad n ls lsA) {i : Nat} {v : mV} (hi : ls[i]? = some (some v)) : lsA[i]? = some (.val (m_v ad v)) := by
  obtain ⟨L, h1, h2⟩ := h
  exact h1.2.2 _ (h2 i v hi)
theorem m_cat (ad : Nat → Nat) (v : mV) : (m_v ad v).category = 1 := by rcases v with x | q <;> rfl
theorem m_L.put {ad : Nat → Nat} {n i : Nat} {ls ls' : List (Option mV)} {v : mV} {L : List (Nat × Value)} (h : ∀ i v, ls[i]? = some (some v) → (i, m_v ad v) ∈ L) (he : ls.set i (some v) = ls') {lsA' : Array Slot} (h' : lv_has lsA' n ((i, m_v ad v) :: L.filter (fun q => !(q.1 == i) && !(q.1 + 1 == i && q.2.category == 2)))) : m_L ad n ls' lsA' := by
  subst he
  refine ⟨_, h', fun j w hj => ?_⟩
  rw [List.getElem?_set] at hj
  by_cases hij : i = j
  · subst hij
    rw [if_pos rfl] at hj
    split at hj
    · cases hj; exact List.mem_cons_self
    · cases hj
  · rw [if_neg hij] at hj
    refine List.mem_cons_of_mem _ (List.mem_filter.mpr ⟨h j w hj, ?_⟩)
    have h2 : ¬ j = i := fun q => hij q.symm
    simp [h2, m_cat]
/-- a return at pc that gives r -/
def m_ret (M : mM) (pc : Nat) (r : Option mV) : Prop := match r with
  | none => decode M.2.1 pc = .ok (.return_, 1) ∧ M.2.2.2.2 = none
  | some (.inl x) => decode M.2.1 pc = .ok (.ireturn, 1) ∧ ∃ ty, M.2.2.2.2 = some ty ∧ narrow ty (.int x) = .int x
  | some (.inr _) => decode M.2.1 pc = .ok (.areturn, 1) ∧ ∃ C, M.2.2.2.2 = some (.object C)
/-- what stands around a method's walk -/
def mX (M : mM) (Q : Option mV → mS → Prop) (p : Program) (l : Launch) (e : Env) (R : Room) (s : State) (m : MethodId) (args : Array Value) (below : List Frame) (meth : Method) (c : Code) (ad : Nat → Nat) (D : va_G) (cI cS : ClassId) (A : Nat → Prop) (cells slots : Nat) (QM : State → Prop) : Prop :=
  p.tables.exec = Jvm.exec ∧ c.code = M.2.1 ∧ c.maxLocals = M.2.2.1 ∧ s.vm.findClass M.1.cls = some m.cls ∧ (∀ w ∈ TB, w.before args s = true) ∧ m_N s ∧ va_K D vwCl (m_ty cI cS) s ∧ (M.2.2.2.1 ≤ R.frames ∧ mK * M.2.2.2.1 ≤ R.locals ∧ cells ≤ R.cells ∧ slots ≤ R.slots) ∧ m_A ad A ∧ (∀ q, s.heap.size ≤ q → A q) ∧
  (∀ (r : Option mV) (σ : mS) (H : Heap) (locs : List Loc) (lsA : Array Slot) (pc : Nat), Q r σ → m_ret M pc r → va_P D vwCl (m_ws ad cI cS σ) H → va_S A s.heap H locs → W p l e R s m args below meth c H locs cells slots QM (F0 m pc lsA (r.toList.map (m_v ad))))
def J (M : mM) (Q : Option mV → mS → Prop) (pc : Nat) (ls : List (Option mV)) (st : List mV) (σ : mS) : Prop :=
  ∀ (p : Program) (l : Launch) (e : Env) (R : Room) (s : State) (m : MethodId) (args : Array Value) (below : List Frame) (meth : Method) (c : Code) (ad : Nat → Nat) (D : va_G) (cI cS : ClassId) (A : Nat → Prop) (cells slots : Nat) (QM : State → Prop), mX M Q p l e R s m args below meth c ad D cI cS A cells slots QM →
    ∀ (H : Heap) (locs : List Loc) (lsA : Array Slot), va_P D vwCl (m_ws ad cI cS σ) H → va_S A s.heap H locs → m_L ad M.2.2.1 ls lsA → W p l e R s m args below meth c H locs cells slots QM (F0 m pc lsA (st.map (m_v ad)))
theorem J_names {M : mM} {Q : Option mV → mS → Prop} {pc : Nat} {ls : List (Option mV)} {st : List mV} {σ : mS} (k : ∀ τ, τ = σ → J M Q pc ls st τ) : J M Q pc ls st σ := k σ rfl
theorem J_namei {M : mM} {Q : Option mV → mS → Prop} {pc : Nat} {ls : List (Option mV)} {st : List mV} {σ : mS} {x : Int32} (k : ∀ y, y = x → J M Q pc ls (.inl y :: st) σ) : J M Q pc ls (.inl x :: st) σ := k x rfl
theorem J_iadd {M : mM} {Q : Option mV → mS → Prop} {pc : Nat} {ls : List (Option mV)} {st : List mV} {σ : mS} {x y : Int32} (d : decode M.2.1 pc = .ok (.iadd, 1)) (k : J M Q (pc + 1) ls (.inl (x + y) :: st) σ) : J M Q pc ls (.inl y :: .inl x :: st) σ := by
  intro p l e R s m args below meth c ad D cI cS A cells slots QM X H locs lsA hP hS hL
  exact lv_iadd X.1 X.2.1 d (k _ _ _ _ _ _ _ _ _ _ _ _ _ _ _ _ _ _ X _ _ _ hP hS hL)
theorem J_isub {M : mM} {Q : Option mV → mS → Prop} {pc : Nat} {ls : List (Option mV)} {st : List mV} {σ : mS} {x y : Int32} (d : decode M.2.1 pc = .ok (.isub, 1)) (k : J M Q (pc + 1) ls (.inl (x - y) :: st) σ) : J M Q pc ls (.inl y :: .inl x :: st) σ := by
  intro p l e R s m args below meth c ad D cI cS A cells slots QM X H locs lsA hP hS hL
  exact lv_isub X.1 X.2.1 d (k _ _ _ _ _ _ _ _ _ _ _ _ _ _ _ _ _ _ X _ _ _ hP hS hL)
theorem J_imul {M : mM} {Q : Option mV → mS → Prop} {pc : Nat} {ls : List (Option mV)} {st : List mV} {σ : mS} {x y : Int32} (d : decode M.2.1 pc = .ok (.imul, 1)) (k : J M Q (pc + 1) ls (.inl (x * y) :: st) σ) : J M Q pc ls (.inl y :: .inl x :: st) σ := by
  intro p l e R s m args below meth c ad D cI cS A cells slots QM X H locs lsA hP hS hL
  exact lv_imul X.1 X.2.1 d (k _ _ _ _ _ _ _ _ _ _ _ _ _ _ _ _ _ _ X _ _ _ hP hS hL)
theorem J_iand {M : mM} {Q : Option mV → mS → Prop} {pc : Nat} {ls : List (Option mV)} {st : List mV} {σ : mS} {x y : Int32} (d : decode M.2.1 pc = .ok (.iand, 1)) (k : J M Q (pc + 1) ls (.inl (x &&& y) :: st) σ) : J M Q pc ls (.inl y :: .inl x :: st) σ := by
  intro p l e R s m args below meth c ad D cI cS A cells slots QM X H locs lsA hP hS hL
  exact lv_iand X.1 X.2.1 d (k _ _ _ _ _ _ _ _ _ _ _ _ _ _ _ _ _ _ X _ _ _ hP hS hL)
theorem J_ior {M : mM} {Q : Option mV → mS → Prop} {pc : Nat} {ls : List (Option mV)} {st : List mV} {σ : mS} {x y : Int32} (d : decode M.2.1 pc = .ok (.ior, 1)) (k : J M Q (pc + 1) ls (.inl (x ||| y) :: st) σ) : J M Q pc ls (.inl y :: .inl x :: st) σ := by
  intro p l e R s m args below meth c ad D cI cS A cells slots QM X H locs lsA hP hS hL
  exact lv_ior X.1 X.2.1 d (k _ _ _ _ _ _ _ _ _ _ _ _ _ _ _ _ _ _ X _ _ _ hP hS hL)
theorem J_ixor {M : mM} {Q : Option mV → mS → Prop} {pc : Nat} {ls : List (Option mV)} {st : List mV} {σ : mS} {x y : Int32} (d : decode M.2.1 pc = .ok (.ixor, 1)) (k : J M Q (pc + 1) ls (.inl (x ^^^ y) :: st) σ) : J M Q pc ls (.inl y :: .inl x :: st) σ := by
  intro p l e R s m args below meth c ad D cI cS A cells slots QM X H locs lsA hP hS hL
  exact lv_ixor X.1 X.2.1 d (k _ _ _ _ _ _ _ _ _ _ _ _ _ _ _ _ _ _ X _ _ _ hP hS hL)
theorem J_ishl {M : mM} {Q : Option mV → mS → Prop} {pc : Nat} {ls : List (Option mV)} {st : List mV} {σ : mS} {x y : Int32} (d : decode M.2.1 pc = .ok (.ishl, 1)) (k : J M Q (pc + 1) ls (.inl (x <<< (y &&& 31)) :: st) σ) : J M Q pc ls (.inl y :: .inl x :: st) σ := by
  intro p l e R s m args below meth c ad D cI cS A cells slots QM X H locs lsA hP hS hL
  exact lv_ishl X.1 X.2.1 d (k _ _ _ _ _ _ _ _ _ _ _ _ _ _ _ _ _ _ X _ _ _ hP hS hL)
theorem J_ishr {M : mM} {Q : Option mV → mS → Prop} {pc : Nat} {ls : List (Option mV)} {st : List mV} {σ : mS} {x y : Int32} (d : decode M.2.1 pc = .ok (.ishr, 1)) (k : J M Q (pc + 1) ls (.inl (x >>> (y &&& 31)) :: st) σ) : J M Q pc ls (.inl y :: .inl x :: st) σ := by
  intro p l e R s m args below meth c ad D cI cS A cells slots QM X H locs lsA hP hS hL
  exact lv_ishr X.1 X.2.1 d (k _ _ _ _ _ _ _ _ _ _ _ _ _ _ _ _ _ _ X _ _ _ hP hS hL)
theorem J_iushr {M : mM} {Q : Option mV → mS → Prop} {pc : Nat} {ls : List (Option mV)} {st : List mV} {σ : mS} {x y : Int32} (d : decode M.2.1 pc = .ok (.iushr, 1)) (k : J M Q (pc + 1) ls (.inl (m_ushr x y) :: st) σ) : J M Q pc ls (.inl y :: .inl x :: st) σ := by
  intro p l e R s m args below meth c ad D cI cS A cells slots QM X H locs lsA hP hS hL
  exact lv_iushr X.1 X.2.1 d rfl (k _ _ _ _ _ _ _ _ _ _ _ _ _ _ _ _ _ _ X _ _ _ hP hS hL)
theorem J_irem {M : mM} {Q : Option mV → mS → Prop} {pc : Nat} {ls : List (Option mV)} {st : List mV} {σ : mS} {x y : Int32} (d : decode M.2.1 pc = .ok (.irem, 1)) (h : ¬ y = 0) (k : J M Q (pc + 1) ls (.inl (m_rem x y) :: st) σ) : J M Q pc ls (.inl y :: .inl x :: st) σ := by
  intro p l e R s m args below meth c ad D cI cS A cells slots QM X H locs lsA hP hS hL
  exact lv_irem X.1 X.2.1 d h (k _ _ _ _ _ _ _ _ _ _ _ _ _ _ _ _ _ _ X _ _ _ hP hS hL)
theorem J_idiv {M : mM} {Q : Option mV → mS → Prop} {pc : Nat} {ls : List (Option mV)} {st : List mV} {σ : mS} {x y : Int32} (d : decode M.2.1 pc = .ok (.idiv, 1)) (h : ¬ y = 0) (k : J M Q (pc + 1) ls (.inl (x / y) :: st) σ) : J M Q pc ls (.inl y :: .inl x :: st) σ := by
  intro p l e R s m args below meth c ad D cI cS A cells slots QM X H locs lsA hP hS hL
  exact lv_idiv X.1 X.2.1 d h (k _ _ _ _ _ _ _ _ _ _ _ _ _ _ _ _ _ _ X _ _ _ hP hS hL)
theorem J_iconst {M : mM} {Q : Option mV → mS → Prop} {pc : Nat} {ls : List (Option mV)} {st : List mV} {σ : mS} {n : Int} {v : Int32} (d : decode M.2.1 pc = .ok (.iconst n, 1)) (hv : Int32.ofInt n = v) (k : J M Q (pc + 1) ls (.inl v :: st) σ) : J M Q pc ls st σ := by
  intro p l e R s m args below meth c ad D cI cS A cells slots QM X H locs lsA hP hS hL
  exact lv_iconst X.1 X.2.1 d hv (k _ _ _ _ _ _ _ _ _ _ _ _ _ _ _ _ _ _ X _ _ _ hP hS hL)
theorem J_bipush {M : mM} {Q : Option mV → mS → Prop} {pc : Nat} {ls : List (Option mV)} {st : List mV} {σ : mS} {n : Int} {v : Int32} (d : decode M.2.1 pc = .ok (.bipush n, 2)) (hv : (Int8.ofInt n).toInt32 = v) (k : J M Q (pc + 2) ls (.inl v :: st) σ) : J M Q pc ls st σ := by
  intro p l e R s m args below meth c ad D cI cS A cells slots QM X H locs lsA hP hS hL
  exact lv_bipush X.1 X.2.1 d hv (k _ _ _ _ _ _ _ _ _ _ _ _ _ _ _ _ _ _ X _ _ _ hP hS hL)
theorem J_sipush {M : mM} {Q : Option mV → mS → Prop} {pc : Nat} {ls : List (Option mV)} {st : List mV} {σ : mS} {n : Int} {v : Int32} (d : decode M.2.1 pc = .ok (.sipush n, 3)) (hv : (Int16.ofInt n).toInt32 = v) (k : J M Q (pc + 3) ls (.inl v :: st) σ) : J M Q pc ls st σ := by
  intro p l e R s m args below meth c ad D cI cS A cells slots QM X H locs lsA hP hS hL
  exact lv_sipush X.1 X.2.1 d hv (k _ _ _ _ _ _ _ _ _ _ _ _ _ _ _ _ _ _ X _ _ _ hP hS hL)
theorem J_ldc {M : mM} {Q : Option mV → mS → Prop} {pc : Nat} {ls : List (Option mV)} {st : List mV} {σ : mS} {own : String} {index : Nat} {v : Int32} (hw : Cond.constant own index v ∈ TB) (ho : own = M.1.cls) (d : decode M.2.1 pc = .ok (.ldc index, 2)) (k : J M Q (pc + 2) ls (.inl v :: st) σ) : J M Q pc ls st σ := by
  intro p l e R s m args below meth c ad D cI cS A cells slots QM X H locs lsA hP hS hL
  exact lv_ldc X.1 X.2.1 (own := own) (by rw [ho]; exact X.2.2.2.1) (X.2.2.2.2.1 _ hw) d (k _ _ _ _ _ _ _ _ _ _ _ _ _ _ _ _ _ _ X _ _ _ hP hS hL)
theorem J_ldc_w {M : mM} {Q : Option mV → mS → Prop} {pc : Nat} {ls : List (Option mV)} {st : List mV} {σ : mS} {own : String} {index : Nat} {v : Int32} (hw : Cond.constant own index v ∈ TB) (ho : own = M.1.cls) (d : decode M.2.1 pc = .ok (.ldc_w index, 3)) (k : J M Q (pc + 3) ls (.inl v :: st) σ) : J M Q pc ls st σ := by
  intro p l e R s m args below meth c ad D cI cS A cells slots QM X H locs lsA hP hS hL
  exact lv_ldcw X.1 X.2.1 (own := own) (by rw [ho]; exact X.2.2.2.1) (X.2.2.2.2.1 _ hw) d (k _ _ _ _ _ _ _ _ _ _ _ _ _ _ _ _ _ _ X _ _ _ hP hS hL)
theorem J_iload_n {M : mM} {Q : Option mV → mS → Prop} {pc : Nat} {ls : List (Option mV)} {st : List mV} {σ : mS} {k4 : Fin 4} {i : Nat} {x : Int32} (hi : (k4 : Nat) = i) (hg : ls[i]? = some (some (.inl x))) (d : decode M.2.1 pc = .ok (.iload_n k4, 1)) (k : J M Q (pc + 1) ls (.inl x :: st) σ) : J M Q pc ls st σ := by
  intro p l e R s m args below meth c ad D cI cS A cells slots QM X H locs lsA hP hS hL
  exact lv_iload_n X.1 X.2.1 d hi (hL.get hg) (k _ _ _ _ _ _ _ _ _ _ _ _ _ _ _ _ _ _ X _ _ _ hP hS hL)
theorem J_iload {M : mM} {Q : Option mV → mS → Prop} {pc : Nat} {ls : List (Option mV)} {st : List mV} {σ : mS} {i : Nat} {x : Int32} (hg : ls[i]? = some (some (.inl x))) (d : decode M.2.1 pc = .ok (.iload i, 2)) (k : J M Q (pc + 2) ls (.inl x :: st) σ) : J M Q pc ls st σ := by
  intro p l e R s m args below meth c ad D cI cS A cells slots QM X H locs lsA hP hS hL
  exact lv_iload X.1 X.2.1 d (hL.get hg) (k _ _ _ _ _ _ _ _ _ _ _ _ _ _ _ _ _ _ X _ _ _ hP hS hL)
theorem J_istore_n {M : mM} {Q : Option mV → mS → Prop} {pc : Nat} {ls : List (Option mV)} {st : List mV} {σ : mS} {k4 : Fin 4} {i : Nat} {x : Int32} {ls' : List (Option mV)} (hi : (k4 : Nat) = i) (he : ls.set i (some (.inl x)) = ls') (hn : Nat.ble (i + 1) ls.length = true) (hm : ls.length = M.2.2.1) (d : decode M.2.1 pc = .ok (.istore_n k4, 1)) (k : J M Q (pc + 1) ls' st σ) : J M Q pc ls (.inl x :: st) σ := by
  intro p l e R s m args below meth c ad D cI cS A cells slots QM X H locs lsA hP hS hL
  obtain ⟨L, h1, h2⟩ := hL
  exact lv_istore_n X.1 X.2.1 d hi h1 (by rw [← hm]; exact Nat.le_of_ble_eq_true hn) rfl (fun lsA' h' => k _ _ _ _ _ _ _ _ _ _ _ _ _ _ _ _ _ _ X _ _ _ hP hS (m_L.put (v := .inl x) h2 he h'))
theorem J_istore {M : mM} {Q : Option mV → mS → Prop} {pc : Nat} {ls : List (Option mV)} {st : List mV} {σ : mS} {i : Nat} {x : Int32} {ls' : List (Option mV)} (he : ls.set i (some (.inl x)) = ls') (hn : Nat.ble (i + 1) ls.length = true) (hm : ls.length = M.2.2.1) (d : decode M.2.1 pc = .ok (.istore i, 2)) (k : J M Q (pc + 2) ls' st σ) : J M Q pc ls (.inl x :: st) σ := by
  intro p l e R s m args below meth c ad D cI cS A cells slots QM X H locs lsA hP hS hL
  obtain ⟨L, h1, h2⟩ := hL
  exact lv_istore X.1 X.2.1 d h1 (by rw [← hm]; exact Nat.le_of_ble_eq_true hn) rfl (fun lsA' h' => k _ _ _ _ _ _ _ _ _ _ _ _ _ _ _ _ _ _ X _ _ _ hP hS (m_L.put (v := .inl x) h2 he h'))
theorem J_aload_n {M : mM} {Q : Option mV → mS → Prop} {pc : Nat} {ls : List (Option mV)} {st : List mV} {σ : mS} {k4 : Fin 4} {i : Nat} {x : Nat × Nat} (hi : (k4 : Nat) = i) (hg : ls[i]? = some (some (.inr x))) (d : decode M.2.1 pc = .ok (.aload_n k4, 1)) (k : J M Q (pc + 1) ls (.inr x :: st) σ) : J M Q pc ls st σ := by
  intro p l e R s m args below meth c ad D cI cS A cells slots QM X H locs lsA hP hS hL
  exact lv_aload_n X.1 X.2.1 d hi (hL.get hg) (k _ _ _ _ _ _ _ _ _ _ _ _ _ _ _ _ _ _ X _ _ _ hP hS hL)
theorem J_aload {M : mM} {Q : Option mV → mS → Prop} {pc : Nat} {ls : List (Option mV)} {st : List mV} {σ : mS} {i : Nat} {x : Nat × Nat} (hg : ls[i]? = some (some (.inr x))) (d : decode M.2.1 pc = .ok (.aload i, 2)) (k : J M Q (pc + 2) ls (.inr x :: st) σ) : J M Q pc ls st σ := by
  intro p l e R s m args below meth c ad D cI cS A cells slots QM X H locs lsA hP hS hL
  exact lv_aload X.1 X.2.1 d (hL.get hg) (k _ _ _ _ _ _ _ _ _ _ _ _ _ _ _ _ _ _ X _ _ _ hP hS hL)
theorem J_astore_n {M : mM} {Q : Option mV → mS → Prop} {pc : Nat} {ls : List (Option mV)} {st : List mV} {σ : mS} {k4 : Fin 4} {i : Nat} {x : Nat × Nat} {ls' : List (Option mV)} (hi : (k4 : Nat) = i) (he : ls.set i (some (.inr x)) = ls') (hn : Nat.ble (i + 1) ls.length = true) (hm : ls.length = M.2.2.1) (d : decode M.2.1 pc = .ok (.astore_n k4, 1)) (k : J M Q (pc + 1) ls' st σ) : J M Q pc ls (.inr x :: st) σ := by
  intro p l e R s m args below meth c ad D cI cS A cells slots QM X H locs lsA hP hS hL
  obtain ⟨L, h1, h2⟩ := hL
  exact lv_astore_n X.1 X.2.1 d hi h1 (by rw [← hm]; exact Nat.le_of_ble_eq_true hn) rfl (fun lsA' h' => k _ _ _ _ _ _ _ _ _ _ _ _ _ _ _ _ _ _ X _ _ _ hP hS (m_L.put (v := .inr x) h2 he h'))
theorem J_astore {M : mM} {Q : Option mV → mS → Prop} {pc : Nat} {ls : List (Option mV)} {st : List mV} {σ : mS} {i : Nat} {x : Nat × Nat} {ls' : List (Option mV)} (he : ls.set i (some (.inr x)) = ls') (hn : Nat.ble (i + 1) ls.length = true) (hm : ls.length = M.2.2.1) (d : decode M.2.1 pc = .ok (.astore i, 2)) (k : J M Q (pc + 2) ls' st σ) : J M Q pc ls (.inr x :: st) σ := by
  intro p l e R s m args below meth c ad D cI cS A cells slots QM X H locs lsA hP hS hL
  obtain ⟨L, h1, h2⟩ := hL
  exact lv_astore X.1 X.2.1 d h1 (by rw [← hm]; exact Nat.le_of_ble_eq_true hn) rfl (fun lsA' h' => k _ _ _ _ _ _ _ _ _ _ _ _ _ _ _ _ _ _ X _ _ _ hP hS (m_L.put (v := .inr x) h2 he h'))
theorem J_iinc {M : mM} {Q : Option mV → mS → Prop} {pc : Nat} {ls : List (Option mV)} {st : List mV} {σ : mS} {i : Nat} {n : Int} {x v : Int32} {ls' : List (Option mV)} (hg : ls[i]? = some (some (.inl x))) (hv : x + Int32.ofInt n = v) (he : ls.set i (some (.inl v)) = ls') (hn : Nat.ble (i + 1) ls.length = true) (hm : ls.length = M.2.2.1) (d : decode M.2.1 pc = .ok (.iinc i n, 3)) (k : J M Q (pc + 3) ls' st σ) : J M Q pc ls st σ := by
  intro p l e R s m args below meth c ad D cI cS A cells slots QM X H locs lsA hP hS hL
  obtain ⟨L, h1, h2⟩ := hL
  obtain ⟨j, hj⟩ := List.getElem?_of_mem (h2 i _ hg)
  exact lv_iinc (k := j) X.1 X.2.1 d h1 hj hv (by rw [← hm]; exact Nat.le_of_ble_eq_true hn) rfl (fun lsA' h' => k _ _ _ _ _ _ _ _ _ _ _ _ _ _ _ _ _ _ X _ _ _ hP hS (m_L.put (v := .inl v) h2 he h'))
theorem J_dup {M : mM} {Q : Option mV → mS → Prop} {pc : Nat} {ls : List (Option mV)} {st : List mV} {σ : mS} {v : mV} (d : decode M.2.1 pc = .ok (.dup, 1)) (k : J M Q (pc + 1) ls (v :: v :: st) σ) : J M Q pc ls (v :: st) σ := by
  intro p l e R s m args below meth c ad D cI cS A cells slots QM X H locs lsA hP hS hL
  exact lv_dup X.1 X.2.1 d (m_cat _ _) (k _ _ _ _ _ _ _ _ _ _ _ _ _ _ _ _ _ _ X _ _ _ hP hS hL)
theorem J_dup2 {M : mM} {Q : Option mV → mS → Prop} {pc : Nat} {ls : List (Option mV)} {st : List mV} {σ : mS} {v w : mV} (d : decode M.2.1 pc = .ok (.dup2, 1)) (k : J M Q (pc + 1) ls (v :: w :: v :: w :: st) σ) : J M Q pc ls (v :: w :: st) σ := by
  intro p l e R s m args below meth c ad D cI cS A cells slots QM X H locs lsA hP hS hL
  exact lv_dup2_11 X.1 X.2.1 d (m_cat _ _) (m_cat _ _) (k _ _ _ _ _ _ _ _ _ _ _ _ _ _ _ _ _ _ X _ _ _ hP hS hL)
theorem J_dup_x1 {M : mM} {Q : Option mV → mS → Prop} {pc : Nat} {ls : List (Option mV)} {st : List mV} {σ : mS} {v w : mV} (d : decode M.2.1 pc = .ok (.dup_x1, 1)) (k : J M Q (pc + 1) ls (v :: w :: v :: st) σ) : J M Q pc ls (v :: w :: st) σ := by
  intro p l e R s m args below meth c ad D cI cS A cells slots QM X H locs lsA hP hS hL
  exact lv_dup_x1 X.1 X.2.1 d (m_cat _ _) (m_cat _ _) (k _ _ _ _ _ _ _ _ _ _ _ _ _ _ _ _ _ _ X _ _ _ hP hS hL)
theorem J_pop {M : mM} {Q : Option mV → mS → Prop} {pc : Nat} {ls : List (Option mV)} {st : List mV} {σ : mS} {v : mV} (d : decode M.2.1 pc = .ok (.pop, 1)) (k : J M Q (pc + 1) ls st σ) : J M Q pc ls (v :: st) σ := by
  intro p l e R s m args below meth c ad D cI cS A cells slots QM X H locs lsA hP hS hL
  exact lv_pop X.1 X.2.1 d (m_cat _ _) (k _ _ _ _ _ _ _ _ _ _ _ _ _ _ _ _ _ _ X _ _ _ hP hS hL)
theorem J_goto {M : mM} {Q : Option mV → mS → Prop} {pc : Nat} {ls : List (Option mV)} {st : List mV} {σ : mS} {off : Int} {tgt : Nat} (d : decode M.2.1 pc = .ok (.goto off, 3)) (ht : (pc : Int) + off = (tgt : Int)) (k : J M Q tgt ls st σ) : J M Q pc ls st σ := by
  intro p l e R s m args below meth c ad D cI cS A cells slots QM X H locs lsA hP hS hL
  exact lv_goto X.1 X.2.1 d ht (k _ _ _ _ _ _ _ _ _ _ _ _ _ _ _ _ _ _ X _ _ _ hP hS hL)
theorem J_icmp_eq {M : mM} {Q : Option mV → mS → Prop} {pc : Nat} {ls : List (Option mV)} {st : List mV} {σ : mS} {x y : Int32} {off : Int} {tgt : Nat} (d : decode M.2.1 pc = .ok (.if_icmp .eq off, 3)) (ht : (pc : Int) + off = (tgt : Int)) (kt : x = y → J M Q tgt ls st σ) (kf : ¬ x = y → J M Q (pc + 3) ls st σ) : J M Q pc ls (.inl y :: .inl x :: st) σ := by
  intro p l e R s m args below meth c ad D cI cS A cells slots QM X H locs lsA hP hS hL
  exact lv_icmp_eq X.1 X.2.1 d ht (fun q => kt q _ _ _ _ _ _ _ _ _ _ _ _ _ _ _ _ _ _ X _ _ _ hP hS hL) (fun q => kf q _ _ _ _ _ _ _ _ _ _ _ _ _ _ _ _ _ _ X _ _ _ hP hS hL)
theorem J_if_eq {M : mM} {Q : Option mV → mS → Prop} {pc : Nat} {ls : List (Option mV)} {st : List mV} {σ : mS} {x : Int32} {off : Int} {tgt : Nat} (d : decode M.2.1 pc = .ok (.ifCond .eq off, 3)) (ht : (pc : Int) + off = (tgt : Int)) (kt : x = 0 → J M Q tgt ls st σ) (kf : ¬ x = 0 → J M Q (pc + 3) ls st σ) : J M Q pc ls (.inl x :: st) σ := by
  intro p l e R s m args below meth c ad D cI cS A cells slots QM X H locs lsA hP hS hL
  exact lv_if_eq X.1 X.2.1 d ht (fun q => kt q _ _ _ _ _ _ _ _ _ _ _ _ _ _ _ _ _ _ X _ _ _ hP hS hL) (fun q => kf q _ _ _ _ _ _ _ _ _ _ _ _ _ _ _ _ _ _ X _ _ _ hP hS hL)
theorem J_icmp_ne {M : mM} {Q : Option mV → mS → Prop} {pc : Nat} {ls : List (Option mV)} {st : List mV} {σ : mS} {x y : Int32} {off : Int} {tgt : Nat} (d : decode M.2.1 pc = .ok (.if_icmp .ne off, 3)) (ht : (pc : Int) + off = (tgt : Int)) (kt : ¬ x = y → J M Q tgt ls st σ) (kf : x = y → J M Q (pc + 3) ls st σ) : J M Q pc ls (.inl y :: .inl x :: st) σ := by
  intro p l e R s m args below meth c ad D cI cS A cells slots QM X H locs lsA hP hS hL
  exact lv_icmp_ne X.1 X.2.1 d ht (fun q => kt q _ _ _ _ _ _ _ _ _ _ _ _ _ _ _ _ _ _ X _ _ _ hP hS hL) (fun q => kf q _ _ _ _ _ _ _ _ _ _ _ _ _ _ _ _ _ _ X _ _ _ hP hS hL)
theorem J_if_ne {M : mM} {Q : Option mV → mS → Prop} {pc : Nat} {ls : List (Option mV)} {st : List mV} {σ : mS} {x : Int32} {off : Int} {tgt : Nat} (d : decode M.2.1 pc = .ok (.ifCond .ne off, 3)) (ht : (pc : Int) + off = (tgt : Int)) (kt : ¬ x = 0 → J M Q tgt ls st σ) (kf : x = 0 → J M Q (pc + 3) ls st σ) : J M Q pc ls (.inl x :: st) σ := by
  intro p l e R s m args below meth c ad D cI cS A cells slots QM X H locs lsA hP hS hL
  exact lv_if_ne X.1 X.2.1 d ht (fun q => kt q _ _ _ _ _ _ _ _ _ _ _ _ _ _ _ _ _ _ X _ _ _ hP hS hL) (fun q => kf q _ _ _ _ _ _ _ _ _ _ _ _ _ _ _ _ _ _ X _ _ _ hP hS hL)
theorem J_icmp_lt {M : mM} {Q : Option mV → mS → Prop} {pc : Nat} {ls : List (Option mV)} {st : List mV} {σ : mS} {x y : Int32} {off : Int} {tgt : Nat} (d : decode M.2.1 pc = .ok (.if_icmp .lt off, 3)) (ht : (pc : Int) + off = (tgt : Int)) (kt : x < y → J M Q tgt ls st σ) (kf : ¬ x < y → J M Q (pc + 3) ls st σ) : J M Q pc ls (.inl y :: .inl x :: st) σ := by
  intro p l e R s m args below meth c ad D cI cS A cells slots QM X H locs lsA hP hS hL
  exact lv_icmp_lt X.1 X.2.1 d ht (fun q => kt q _ _ _ _ _ _ _ _ _ _ _ _ _ _ _ _ _ _ X _ _ _ hP hS hL) (fun q => kf q _ _ _ _ _ _ _ _ _ _ _ _ _ _ _ _ _ _ X _ _ _ hP hS hL)
theorem J_if_lt {M : mM} {Q : Option mV → mS → Prop} {pc : Nat} {ls : List (Option mV)} {st : List mV} {σ : mS} {x : Int32} {off : Int} {tgt : Nat} (d : decode M.2.1 pc = .ok (.ifCond .lt off, 3)) (ht : (pc : Int) + off = (tgt : Int)) (kt : x < 0 → J M Q tgt ls st σ) (kf : ¬ x < 0 → J M Q (pc + 3) ls st σ) : J M Q pc ls (.inl x :: st) σ := by
  intro p l e R s m args below meth c ad D cI cS A cells slots QM X H locs lsA hP hS hL
  exact lv_if_lt X.1 X.2.1 d ht (fun q => kt q _ _ _ _ _ _ _ _ _ _ _ _ _ _ _ _ _ _ X _ _ _ hP hS hL) (fun q => kf q _ _ _ _ _ _ _ _ _ _ _ _ _ _ _ _ _ _ X _ _ _ hP hS hL)
theorem J_icmp_ge {M : mM} {Q : Option mV → mS → Prop} {pc : Nat} {ls : List (Option mV)} {st : List mV} {σ : mS} {x y : Int32} {off : Int} {tgt : Nat} (d : decode M.2.1 pc = .ok (.if_icmp .ge off, 3)) (ht : (pc : Int) + off = (tgt : Int)) (kt : y ≤ x → J M Q tgt ls st σ) (kf : ¬ y ≤ x → J M Q (pc + 3) ls st σ) : J M Q pc ls (.inl y :: .inl x :: st) σ := by
  intro p l e R s m args below meth c ad D cI cS A cells slots QM X H locs lsA hP hS hL
  exact lv_icmp_ge X.1 X.2.1 d ht (fun q => kt q _ _ _ _ _ _ _ _ _ _ _ _ _ _ _ _ _ _ X _ _ _ hP hS hL) (fun q => kf q _ _ _ _ _ _ _ _ _ _ _ _ _ _ _ _ _ _ X _ _ _ hP hS hL)
theorem J_if_ge {M : mM} {Q : Option mV → mS → Prop} {pc : Nat} {ls : List (Option mV)} {st : List mV} {σ : mS} {x : Int32} {off : Int} {tgt : Nat} (d : decode M.2.1 pc = .ok (.ifCond .ge off, 3)) (ht : (pc : Int) + off = (tgt : Int)) (kt : 0 ≤ x → J M Q tgt ls st σ) (kf : ¬ 0 ≤ x → J M Q (pc + 3) ls st σ) : J M Q pc ls (.inl x :: st) σ := by
  intro p l e R s m args below meth c ad D cI cS A cells slots QM X H locs lsA hP hS hL
  exact lv_if_ge X.1 X.2.1 d ht (fun q => kt q _ _ _ _ _ _ _ _ _ _ _ _ _ _ _ _ _ _ X _ _ _ hP hS hL) (fun q => kf q _ _ _ _ _ _ _ _ _ _ _ _ _ _ _ _ _ _ X _ _ _ hP hS hL)
theorem J_icmp_gt {M : mM} {Q : Option mV → mS → Prop} {pc : Nat} {ls : List (Option mV)} {st : List mV} {σ : mS} {x y : Int32} {off : Int} {tgt : Nat} (d : decode M.2.1 pc = .ok (.if_icmp .gt off, 3)) (ht : (pc : Int) + off = (tgt : Int)) (kt : y < x → J M Q tgt ls st σ) (kf : ¬ y < x → J M Q (pc + 3) ls st σ) : J M Q pc ls (.inl y :: .inl x :: st) σ := by
  intro p l e R s m args below meth c ad D cI cS A cells slots QM X H locs lsA hP hS hL
  exact lv_icmp_gt X.1 X.2.1 d ht (fun q => kt q _ _ _ _ _ _ _ _ _ _ _ _ _ _ _ _ _ _ X _ _ _ hP hS hL) (fun q => kf q _ _ _ _ _ _ _ _ _ _ _ _ _ _ _ _ _ _ X _ _ _ hP hS hL)
theorem J_if_gt {M : mM} {Q : Option mV → mS → Prop} {pc : Nat} {ls : List (Option mV)} {st : List mV} {σ : mS} {x : Int32} {off : Int} {tgt : Nat} (d : decode M.2.1 pc = .ok (.ifCond .gt off, 3)) (ht : (pc : Int) + off = (tgt : Int)) (kt : 0 < x → J M Q tgt ls st σ) (kf : ¬ 0 < x → J M Q (pc + 3) ls st σ) : J M Q pc ls (.inl x :: st) σ := by
  intro p l e R s m args below meth c ad D cI cS A cells slots QM X H locs lsA hP hS hL
  exact lv_if_gt X.1 X.2.1 d ht (fun q => kt q _ _ _ _ _ _ _ _ _ _ _ _ _ _ _ _ _ _ X _ _ _ hP hS hL) (fun q => kf q _ _ _ _ _ _ _ _ _ _ _ _ _ _ _ _ _ _ X _ _ _ hP hS hL)
theorem J_icmp_le {M : mM} {Q : Option mV → mS → Prop} {pc : Nat} {ls : List (Option mV)} {st : List mV} {σ : mS} {x y : Int32} {off : Int} {tgt : Nat} (d : decode M.2.1 pc = .ok (.if_icmp .le off, 3)) (ht : (pc : Int) + off = (tgt : Int)) (kt : x ≤ y → J M Q tgt ls st σ) (kf : ¬ x ≤ y → J M Q (pc + 3) ls st σ) : J M Q pc ls (.inl y :: .inl x :: st) σ := by
  intro p l e R s m args below meth c ad D cI cS A cells slots QM X H locs lsA hP hS hL
  exact lv_icmp_le X.1 X.2.1 d ht (fun q => kt q _ _ _ _ _ _ _ _ _ _ _ _ _ _ _ _ _ _ X _ _ _ hP hS hL) (fun q => kf q _ _ _ _ _ _ _ _ _ _ _ _ _ _ _ _ _ _ X _ _ _ hP hS hL)
theorem J_if_le {M : mM} {Q : Option mV → mS → Prop} {pc : Nat} {ls : List (Option mV)} {st : List mV} {σ : mS} {x : Int32} {off : Int} {tgt : Nat} (d : decode M.2.1 pc = .ok (.ifCond .le off, 3)) (ht : (pc : Int) + off = (tgt : Int)) (kt : x ≤ 0 → J M Q tgt ls st σ) (kf : ¬ x ≤ 0 → J M Q (pc + 3) ls st σ) : J M Q pc ls (.inl x :: st) σ := by
  intro p l e R s m args below meth c ad D cI cS A cells slots QM X H locs lsA hP hS hL
  exact lv_if_le X.1 X.2.1 d ht (fun q => kt q _ _ _ _ _ _ _ _ _ _ _ _ _ _ _ _ _ _ X _ _ _ hP hS hL) (fun q => kf q _ _ _ _ _ _ _ _ _ _ _ _ _ _ _ _ _ _ X _ _ _ hP hS hL)
theorem J_tabIn {M : mM} {Q : Option mV → mS → Prop} {pc : Nat} {ls : List (Option mV)} {st : List mV} {σ : mS} {dflt lo hi : Int} {offs : Array Int} {len : Nat} {x v : Int32} {off : Int} {tgt : Nat} (hx : x = v) (d : decode M.2.1 pc = .ok (.tableswitch dflt lo hi offs, len)) (h1 : ¬ v.toInt < lo) (h2 : ¬ hi < v.toInt) (ho : offs[(v.toInt - lo).toNat]? = some off) (ht : (pc : Int) + off = (tgt : Int)) (k : J M Q tgt ls st σ) : J M Q pc ls (.inl x :: st) σ := by
  intro p l e R s m args below meth c ad D cI cS A cells slots QM X H locs lsA hP hS hL
  subst hx
  exact lv_tableIn X.1 X.2.1 d h1 h2 ho ht (k _ _ _ _ _ _ _ _ _ _ _ _ _ _ _ _ _ _ X _ _ _ hP hS hL)
theorem J_tabOut {M : mM} {Q : Option mV → mS → Prop} {pc : Nat} {ls : List (Option mV)} {st : List mV} {σ : mS} {dflt lo hi : Int} {offs : Array Int} {len : Nat} {x : Int32} {tgt : Nat} (h : x.toInt < lo ∨ hi < x.toInt) (d : decode M.2.1 pc = .ok (.tableswitch dflt lo hi offs, len)) (ht : (pc : Int) + dflt = (tgt : Int)) (k : J M Q tgt ls st σ) : J M Q pc ls (.inl x :: st) σ := by
  intro p l e R s m args below meth c ad D cI cS A cells slots QM X H locs lsA hP hS hL
  exact lv_tableOut X.1 X.2.1 d h ht (k _ _ _ _ _ _ _ _ _ _ _ _ _ _ _ _ _ _ X _ _ _ hP hS hL)
theorem J_vret {M : mM} {Q : Option mV → mS → Prop} {pc : Nat} {ls : List (Option mV)} {σ : mS} (hr : M.2.2.2.2 = none) (d : decode M.2.1 pc = .ok (.return_, 1)) (h : Q none σ) : J M Q pc ls [] σ := by
  intro p l e R s m args below meth c ad D cI cS A cells slots QM X H locs lsA hP hS hL
  exact X.2.2.2.2.2.2.2.2.2.2 none σ H locs lsA pc h ⟨d, hr⟩ hP hS
theorem J_iret {M : mM} {Q : Option mV → mS → Prop} {pc : Nat} {ls : List (Option mV)} {σ : mS} {x : Int32} (hr : M.2.2.2.2 = some .int) (d : decode M.2.1 pc = .ok (.ireturn, 1)) (h : Q (some (.inl x)) σ) : J M Q pc ls [.inl x] σ := by
  intro p l e R s m args below meth c ad D cI cS A cells slots QM X H locs lsA hP hS hL
  exact X.2.2.2.2.2.2.2.2.2.2 (some (.inl x)) σ H locs lsA pc h ⟨d, .int, hr, rfl⟩ hP hS
theorem J_zret {M : mM} {Q : Option mV → mS → Prop} {pc : Nat} {ls : List (Option mV)} {σ : mS} {x : Int32} (hr : M.2.2.2.2 = some .boolean) (hx : x = 0 ∨ x = 1) (d : decode M.2.1 pc = .ok (.ireturn, 1)) (h : Q (some (.inl x)) σ) : J M Q pc ls [.inl x] σ := by
  intro p l e R s m args below meth c ad D cI cS A cells slots QM X H locs lsA hP hS hL
  exact X.2.2.2.2.2.2.2.2.2.2 (some (.inl x)) σ H locs lsA pc h ⟨d, .boolean, hr, by rcases hx with rfl | rfl <;> decide⟩ hP hS
theorem J_aret {M : mM} {Q : Option mV → mS → Prop} {pc : Nat} {ls : List (Option mV)} {σ : mS} {C : String} {q : Nat × Nat} (hr : M.2.2.2.2 = some (.object C)) (d : decode M.2.1 pc = .ok (.areturn, 1)) (h : Q (some (.inr q)) σ) : J M Q pc ls [.inr q] σ := by
  intro p l e R s m args below meth c ad D cI cS A cells slots QM X H locs lsA hP hS hL
  exact X.2.2.2.2.2.2.2.2.2.2 (some (.inr q)) σ H locs lsA pc h ⟨d, C, hr⟩ hP hS
theorem m_cell_a {ad : Nat → Nat} {cI cS : ClassId} {σ : mS} {k : Nat} (h : 0 < a_n k) : k < 119 ∧ m_cell ad cI cS σ k = .inl (cI, a_n k, .inl (σ k)) := by
  obtain ⟨h1, h2, h3⟩ := a_n_pos k h
  refine ⟨h1, ?_⟩
  unfold m_cell
  rw [h2, if_neg h3]
theorem m_in_pos {x : Int32} {n : Nat} (h : vp_in x n) : 0 < n := by
  rcases Nat.eq_zero_or_pos n with q | q
  · subst q; exact absurd (Or.inr (Nat.zero_le _)) h
  · exact q
theorem J_iald {M : mM} {Q : Option mV → mS → Prop} {pc : Nat} {ls : List (Option mV)} {st : List mV} {σ : mS} {x : Int32} {q : Nat × Nat} (h : vp_in x (a_n (m_cl q))) (d : decode M.2.1 pc = .ok (.iaload, 1)) (k : J M Q (pc + 1) ls (.inl (σ (m_cl q) x.toNatClampNeg) :: st) σ) : J M Q pc ls (.inl x :: .inr q :: st) σ := by
  intro p l e R s m args below meth c ad D cI cS A cells slots QM X H locs lsA hP hS hL
  obtain ⟨h1, h2⟩ := m_cell_a (ad := ad) (cI := cI) (cS := cS) (σ := σ) (m_in_pos h)
  exact va_iald (D := D) (cl := vwCl) X.1 X.2.1 X.2.2.2.2.2.2.1 hP (m_cl q) 0 (by rw [m_ws_at h1, h2]) rfl h d (k _ _ _ _ _ _ _ _ _ _ _ _ _ _ _ _ _ _ X _ _ _ hP hS hL)
theorem J_iast {M : mM} {Q : Option mV → mS → Prop} {pc : Nat} {ls : List (Option mV)} {st : List mV} {σ : mS} {x v : Int32} {q : Nat × Nat} (h : vp_in x (a_n (m_cl q))) (d : decode M.2.1 pc = .ok (.iastore, 1)) (k : J M Q (pc + 1) ls st (m_up σ (m_cl q) x.toNatClampNeg v)) : J M Q pc ls (.inl v :: .inl x :: .inr q :: st) σ := by
  intro p l e R s m args below meth c ad D cI cS A cells slots QM X H locs lsA hP hS hL
  obtain ⟨h1, h2⟩ := m_cell_a (ad := ad) (cI := cI) (cS := cS) (σ := σ) (m_in_pos h)
  obtain ⟨-, h3⟩ := m_cell_a (ad := ad) (cI := cI) (cS := cS) (σ := m_up σ (m_cl q) x.toNatClampNeg v) (m_in_pos h)
  refine va_iast (D := D) (cl := vwCl) X.1 X.2.1 X.2.2.2.2.2.2.1 hP (X.2.2.2.2.2.2.2.2.1.D cI cS σ) hS (m_cl q) 0 (by rw [m_ws_at h1, h2]) rfl h d (fun H1 locs1 hP1 _ hS1 => ?_)
  rw [m_up_s] at h3
  rw [← h3, m_ws_set h1 (m_up_o)] at hP1
  exact k _ _ _ _ _ _ _ _ _ _ _ _ _ _ _ _ _ _ X _ _ _ hP1 hS1 hL
theorem J_alen {M : mM} {Q : Option mV → mS → Prop} {pc : Nat} {ls : List (Option mV)} {st : List mV} {σ : mS} {q : Nat × Nat} (h : 0 < a_n (m_cl q)) (d : decode M.2.1 pc = .ok (.arraylength, 1)) (k : J M Q (pc + 1) ls (.inl (nI (a_n (m_cl q))) :: st) σ) : J M Q pc ls (.inr q :: st) σ := by
  intro p l e R s m args below meth c ad D cI cS A cells slots QM X H locs lsA hP hS hL
  obtain ⟨h1, h2⟩ := m_cell_a (ad := ad) (cI := cI) (cS := cS) (σ := σ) h
  exact va_alen (D := D) (cl := vwCl) X.1 X.2.1 X.2.2.2.2.2.2.1 hP (m_cl q) 0 (x := (a_n (m_cl q), .inl (σ (m_cl q)))) (by rw [m_ws_at h1, h2]) rfl rfl d (k _ _ _ _ _ _ _ _ _ _ _ _ _ _ _ _ _ _ X _ _ _ hP hS hL)
theorem J_aald {M : mM} {Q : Option mV → mS → Prop} {pc : Nat} {ls : List (Option mV)} {st : List mV} {σ : mS} {x : Int32} (h : vp_in x 60) (d : decode M.2.1 pc = .ok (.aaload, 1)) (k : J M Q (pc + 1) ls (.inr (59, x.toNatClampNeg) :: st) σ) : J M Q pc ls (.inl x :: .inr (24, 0) :: st) σ := by
  intro p l e R s m args below meth c ad D cI cS A cells slots QM X H locs lsA hP hS hL
  have hlt : x.toNatClampNeg < 60 := Nat.not_le.mp fun q => h (Or.inr q)
  refine va_aldq (D := D) (cl := vwCl) (f := fun j => some (ad (59 + j))) (n := 60) (cA := cS) X.1 X.2.1 X.2.2.2.2.2.2.1 hP 24 1 (by rw [m_ws_at (by decide)]; rfl) rfl h d ?_
  have e : va_rf (some (ad (59 + x.toNatClampNeg))) = m_v ad (.inr (59, x.toNatClampNeg)) := by
    show Value.ref _ = Value.ref (ad (if (59 : Nat) = 59 then 59 + x.toNatClampNeg % 60 else 59))
    rw [if_pos rfl, Nat.mod_eq_of_lt hlt]
  show W _ _ _ _ _ _ _ _ _ _ _ _ _ _ _ (F0 m (pc + 1) lsA (va_rf (some (ad (59 + x.toNatClampNeg))) :: st.map (m_v ad)))
  rw [e]
  exact k _ _ _ _ _ _ _ _ _ _ _ _ _ _ _ _ _ _ X _ _ _ hP hS hL
theorem J_copy {M : mM} {Q : Option mV → mS → Prop} {pc : Nat} {ls : List (Option mV)} {st : List mV} {σ : mS} {own : String} {index : Nat} {q r : Nat × Nat} {sp dp n : Int32} (hw : m_cpw own index) (h : ¬ sp < 0 ∧ ¬ dp < 0 ∧ ¬ n < 0 ∧ sp.toNatClampNeg + n.toNatClampNeg ≤ a_n (m_cl q) ∧ dp.toNatClampNeg + n.toNatClampNeg ≤ a_n (m_cl r)) (hq : 0 < a_n (m_cl q)) (hr : 0 < a_n (m_cl r)) (ho : own = M.1.cls) (hR : 0 + (nativeFrameWords "java/lang/System" "arraycopy" 5 + 11) ≤ mK * M.2.2.2.1 ∧ 1 ≤ M.2.2.2.1) (hst : st = []) (d : decode M.2.1 pc = .ok (.invokestatic index, 3)) (k : J M Q (pc + 3) ls st (m_cp σ (m_cl q) (m_cl r) sp.toNatClampNeg dp.toNatClampNeg n.toNatClampNeg)) : J M Q pc ls (.inl n :: .inl dp :: .inr r :: .inl sp :: .inr q :: st) σ := by
  intro p l e R s m args below meth c ad D cI cS A cells slots QM X H locs lsA hP hS hL
  obtain ⟨h1, h2⟩ := m_cell_a (ad := ad) (cI := cI) (cS := cS) (σ := σ) hq
  obtain ⟨h3, h4⟩ := m_cell_a (ad := ad) (cI := cI) (cS := cS) (σ := σ) hr
  obtain ⟨-, h5⟩ := m_cell_a (ad := ad) (cI := cI) (cS := cS) (σ := m_cp σ (m_cl q) (m_cl r) sp.toNatClampNeg dp.toNatClampNeg n.toNatClampNeg) hr
  obtain ⟨L, l1, l2⟩ := hL
  have hL : m_L ad M.2.2.1 ls lsA := ⟨L, l1, l2⟩
  obtain ⟨hx1, hx2, hx3, hx4, hx5, hx6, hx7, hx8, hx9, hx10, hx11⟩ := id X
  subst hst
  refine va_copyi (D := D) (cl := vwCl) hx1 hx2 (by rw [hx3]; exact l1.1.symm) (own := own) (by rw [ho]; exact hx4) (hx5 _ hw.1) (hx5 _ hw.2.1) (hx5 _ hw.2.2.1) (hx5 _ hw.2.2.2) hx7 hP (hx9.D cI cS σ) hS (m_cl q) (m_cl r) 0 0 (by rw [m_ws_at h1, h2]) (by rw [m_ws_at h3, h4]) rfl rfl rfl h.1 h.2.1 h.2.2.1 h.2.2.2.1 h.2.2.2.2 (fun _ _ => rfl) (Nat.le_trans hR.2 hx8.1) (Nat.le_trans hR.1 hx8.2.1) d (fun H1 locs1 hP1 _ hS1 => ?_)
  have e9 : m_cp σ (m_cl q) (m_cl r) sp.toNatClampNeg dp.toNatClampNeg n.toNatClampNeg (m_cl r) = va_cpy (σ (m_cl q)) (σ (m_cl r)) sp.toNatClampNeg dp.toNatClampNeg n.toNatClampNeg := by unfold m_cp; rw [if_pos rfl]
  rw [e9] at h5
  rw [← h5, m_ws_set h3 (m_cp_o)] at hP1
  exact k _ _ _ _ _ _ _ _ _ _ _ _ _ _ _ _ _ _ X _ _ _ hP1 hS1 hL
/-- a field's words: of class number ci, its place j, by the link 'index' of class own -/
def m_F (own : String) (index ci j : Nat) : Prop := ∃ (C : String) (T : u_T) (N : Nat), vwCl[ci]? = some (C, T, N) ∧ (∀ w ∈ u_ws C T N, w ∈ TB) ∧ j < N ∧ Cond.fieldLink own index (T j).1 (T j).2.1 (T j).2.2.1 ∈ TB
/-- .. and it may be written, its type is ty -/
def m_Fw (own : String) (index ci j : Nat) (ty : FieldType) : Prop := ∃ (C : String) (T : u_T) (N : Nat) (ty0 : Nat → FieldType), vwCl[ci]? = some (C, T, N) ∧ (∀ w ∈ u_ws C T N, w ∈ TB) ∧ j < N ∧ Cond.fieldLink own index (T j).1 (T j).2.1 (T j).2.2.1 ∈ TB ∧ (∀ k, k < N → parseFieldDescriptor (T k).2.2.1 = some (ty0 k)) ∧ (∀ a, a < N → ∀ b, b < N → a ≠ b → (T a).2.1 ≠ (T b).2.1) ∧ (T j).2.2.2 = false ∧ parseFieldDescriptor (T j).2.2.1 = some ty
theorem m_cell_o {ad : Nat → Nat} {cI cS : ClassId} {σ : mS} {k ci : Nat} (h : o_ci k = some ci) : k < 119 ∧ m_cell ad cI cS σ k = .inr (ci, (List.range (o_n k)).map (m_fv ad σ k)) := by
  refine ⟨o_ci_lt h, ?_⟩
  unfold m_cell
  rw [h]
theorem m_fs_at {ad : Nat → Nat} {σ : mS} {k j n : Nat} (h : j < n) : ((List.range n).map (m_fv ad σ k))[j]? = some (m_fv ad σ k j) := by
  rw [List.getElem?_map, List.getElem?_range h]
  rfl
theorem m_fs_set {ad : Nat → Nat} {σ : mS} {k j n : Nat} {v : Int32} (hr : o_r k j = none) : ((List.range n).map (m_fv ad σ k)).set j (.int v) = (List.range n).map (m_fv ad (m_up σ k j v) k) := by
  apply List.ext_getElem?
  intro i
  rw [List.getElem?_set]
  by_cases hij : j = i
  · subst hij
    rw [if_pos rfl]
    by_cases hn : j < n
    · rw [if_pos (by simpa using hn), m_fs_at hn]
      unfold m_fv
      rw [hr, m_up_s]
      simp [upd]
    · rw [if_neg (by simpa using hn), List.getElem?_eq_none (by simp; omega)]
  · rw [if_neg hij]
    by_cases hn : i < n
    · rw [m_fs_at hn, m_fs_at hn]
      unfold m_fv
      rw [m_up_s]
      simp [upd, Ne.symm hij]
    · rw [List.getElem?_eq_none (by simp; omega), List.getElem?_eq_none (by simp; omega)]
theorem J_getI {M : mM} {Q : Option mV → mS → Prop} {pc : Nat} {ls : List (Option mV)} {st : List mV} {σ : mS} {own : String} {index ci j : Nat} {q : Nat × Nat} (hF : m_F own index ci j) (ho : own = M.1.cls) (hc : o_ci (m_cl q) = some ci) (hj : Nat.ble (j + 1) (o_n (m_cl q)) = true) (hr : o_r (m_cl q) j = none) (d : decode M.2.1 pc = .ok (.getfield index, 3)) (k : J M Q (pc + 3) ls (.inl (σ (m_cl q) j) :: st) σ) : J M Q pc ls (.inr q :: st) σ := by
  intro p l e R s m args below meth c ad D cI cS A cells slots QM X H locs lsA hP hS hL
  obtain ⟨C, T, N, h1, h2, h3, h4⟩ := hF
  obtain ⟨g1, g2⟩ := m_cell_o (ad := ad) (cI := cI) (cS := cS) (σ := σ) hc
  exact va_get (D := D) (v := .int (σ (m_cl q) j)) X.1 X.2.1 X.2.2.2.2.1 h2 (own := own) (by rw [ho]; exact X.2.2.2.1) X.2.2.2.2.2.2.1 hP (m_cl q) (by rw [m_ws_at g1, g2]) h1 j h3 (X.2.2.2.2.1 _ h4) (fun _ h => h) (by rw [m_fs_at (Nat.le_of_ble_eq_true hj)]; unfold m_fv; rw [hr]) d (k _ _ _ _ _ _ _ _ _ _ _ _ _ _ _ _ _ _ X _ _ _ hP hS hL)
theorem J_getR {M : mM} {Q : Option mV → mS → Prop} {pc : Nat} {ls : List (Option mV)} {st : List mV} {σ : mS} {own : String} {index ci j r : Nat} {q : Nat × Nat} (hF : m_F own index ci j) (ho : own = M.1.cls) (hc : o_ci (m_cl q) = some ci) (hj : Nat.ble (j + 1) (o_n (m_cl q)) = true) (hr : o_r (m_cl q) j = some r) (h9 : m_cl (r, 0) = r) (d : decode M.2.1 pc = .ok (.getfield index, 3)) (k : J M Q (pc + 3) ls (.inr (r, 0) :: st) σ) : J M Q pc ls (.inr q :: st) σ := by
  intro p l e R s m args below meth c ad D cI cS A cells slots QM X H locs lsA hP hS hL
  obtain ⟨C, T, N, h1, h2, h3, h4⟩ := hF
  obtain ⟨g1, g2⟩ := m_cell_o (ad := ad) (cI := cI) (cS := cS) (σ := σ) hc
  exact va_get (D := D) (v := m_v ad (.inr (r, 0))) X.1 X.2.1 X.2.2.2.2.1 h2 (own := own) (by rw [ho]; exact X.2.2.2.1) X.2.2.2.2.2.2.1 hP (m_cl q) (by rw [m_ws_at g1, g2]) h1 j h3 (X.2.2.2.2.1 _ h4) (fun _ h => h) (by rw [m_fs_at (Nat.le_of_ble_eq_true hj)]; unfold m_fv m_v; rw [hr]; simp only [h9]) d (k _ _ _ _ _ _ _ _ _ _ _ _ _ _ _ _ _ _ X _ _ _ hP hS hL)
theorem J_putI {M : mM} {Q : Option mV → mS → Prop} {pc : Nat} {ls : List (Option mV)} {st : List mV} {σ : mS} {own : String} {index ci j : Nat} {ty : FieldType} {v : Int32} {q : Nat × Nat} (hF : m_Fw own index ci j ty) (ho : own = M.1.cls) (hn : narrow ty (.int v) = .int v) (hf : fits ty (.int v) = true) (hc : o_ci (m_cl q) = some ci) (hj : Nat.ble (j + 1) (o_n (m_cl q)) = true) (hr : o_r (m_cl q) j = none) (d : decode M.2.1 pc = .ok (.putfield index, 3)) (k : J M Q (pc + 3) ls st (m_up σ (m_cl q) j v)) : J M Q pc ls (.inl v :: .inr q :: st) σ := by
  intro p l e R s m args below meth c ad D cI cS A cells slots QM X H locs lsA hP hS hL
  obtain ⟨C, T, N, ty0, h1, h2, h3, h4, h5, h6, h7, h8⟩ := hF
  obtain ⟨g1, g2⟩ := m_cell_o (ad := ad) (cI := cI) (cS := cS) (σ := σ) hc
  obtain ⟨-, g3⟩ := m_cell_o (ad := ad) (cI := cI) (cS := cS) (σ := m_up σ (m_cl q) j v) hc
  refine va_put (D := D) X.1 X.2.1 X.2.2.2.2.1 h2 ty0 h5 h6 (own := own) (by rw [ho]; exact X.2.2.2.1) X.2.2.2.2.2.2.1 hP (X.2.2.2.2.2.2.2.2.1.D cI cS σ) hS (m_cl q) (by rw [m_ws_at g1, g2]) h1 j h3 (X.2.2.2.2.1 _ h4) (fun _ h => h) h7 h8 hn hf (by rw [List.length_map, List.length_range]; exact Nat.le_of_ble_eq_true hj) d (fun H1 locs1 hP1 _ hS1 => ?_)
  rw [show m_v ad (Sum.inl v) = Value.int v from rfl, m_fs_set hr, ← g3, m_ws_set g1 (m_up_o)] at hP1
  exact k _ _ _ _ _ _ _ _ _ _ _ _ _ _ _ _ _ _ X _ _ _ hP1 hS1 hL
/-- a method's start, its end, its contract -/
def m_pre (ad : Nat → Nat) (D : va_G) (cI cS : ClassId) (σ : mS) (sz : Nat) (U : State) : Prop := U.heap.size = sz ∧ va_P D vwCl (m_ws ad cI cS σ) U.heap ∧ va_K D vwCl (m_ty cI cS) U ∧ m_N U ∧ m_A ad (fun _ => True)
def m_post (ad : Nat → Nat) (D : va_G) (cI cS : ClassId) (σ : mS) (sz : Nat) (Q : Option mV → mS → Prop) : Array Value → State → Outcome → State → Prop := fun _ st oc t => ∃ (r : Option mV) (τ : mS), oc = .returned (r.map (m_v ad)) ∧ Q r τ ∧ va_P D vwCl (m_ws ad cI cS τ) t.heap ∧ va_F (va_A (m_ws ad cI cS σ) sz) st t
abbrev m_rm (M : mM) : Room := { frames := M.2.2.2.1, cells := 0, slots := 0, locals := mK * M.2.2.2.1 }
def MU (M : mM) (as : List mV) (σ : mS) (Q : Option mV → mS → Prop) : Prop := ∀ (l : Launch) (ad : Nat → Nat) (D : va_G) (cI cS : ClassId) (sz : Nat), Met l M.1 (Cond.code M.1 M.2.1 M.2.2.1 M.2.2.2.2 :: TB) (m_rm M) (va_Pc (as.map (m_v ad)) (m_pre ad D cI cS σ sz)) (m_post ad D cI cS σ sz Q) 0 0 (va_A (m_ws ad cI cS σ) sz)
theorem m_sl (ad : Nat → Nat) (as : List mV) : lg_sl (as.map (m_v ad)) = (as.map (m_v ad)).map Slot.val := by
  induction as with
  | nil => rfl
  | cons a t ih =>
    show lg_sl (m_v ad a :: t.map (m_v ad)) = Slot.val (m_v ad a) :: (t.map (m_v ad)).map Slot.val
    rw [← ih]
    unfold lg_sl
    rw [List.flatMap_cons, if_neg (by rw [m_cat]; decide)]
    rfl
theorem m_args (ad : Nat → Nat) (as : List mV) : ∀ (n i : Nat) (v : mV), as[i]? = some v → (n + i, m_v ad v) ∈ lv_args n (as.map (m_v ad)) := by
  induction as with
  | nil => intro n i v h; simp at h
  | cons a t ih =>
    intro n i v h
    show _ ∈ (n, m_v ad a) :: lv_args (if (m_v ad a).category = 2 then n + 2 else n + 1) (t.map (m_v ad))
    rw [if_neg (by rw [m_cat]; decide)]
    cases i with
    | zero => simp at h; subst h; exact List.mem_cons_self
    | succ i =>
      rw [List.getElem?_cons_succ] at h
      have h2 := ih (n + 1) i v h
      rw [show n + (i + 1) = n + 1 + i by omega]
      exact List.mem_cons_of_mem _ h2
theorem MU_of {M : mM} {as : List mV} {σ : mS} {Q : Option mV → mS → Prop} {ls : List (Option mV)} (hy : plainName M.1.cls = true) (hn : Nat.ble as.length M.2.2.1 = true) (hls : ls = as.map some ++ List.replicate (M.2.2.1 - as.length) none) (h : J M Q 0 ls [] σ) : MU M as σ Q := by
  intro l ad D cI cS sz
  refine Met.ofW (cc := M.2.1) (maxL := M.2.2.1) (ret := M.2.2.2.2) hy rfl ?_
  intro p e s m args below meth c s₁ B hml hv
  obtain ⟨rfl, hsz, hP, hK, hN, hA0⟩ := hv
  have hts := atoms_spec (ws := Cond.code M.1 M.2.1 M.2.2.1 M.2.2.2.2 :: TB) B.pre
  have hown : s.vm.findClass M.1.cls = some m.cls := findClass_of_methodNamed B.named
  subst hsz
  have hl := lv_entry (as.map (m_v ad)) (n := M.2.2.1) (by rw [m_sl]; simpa using Nat.le_of_ble_eq_true hn)
  rw [lg_entry_eq]
  refine h p l e _ s m _ below meth c ad D cI cS (va_A (m_ws ad cI cS σ) s.heap.size) 0 0 _ ⟨B.exec, B.bytes, hml, hown, fun w hw => hts w (List.mem_cons_of_mem _ hw), hN, hK, ⟨Nat.le_refl _, Nat.le_refl _, Nat.le_refl _, Nat.le_refl _⟩, ⟨hA0.1, fun k hk => m_A_iff.mpr (Or.inl ⟨k, hk, rfl⟩)⟩, fun q hq => m_A_iff.mpr (Or.inr hq), ?_⟩ _ _ _ hP va_S.rf ⟨_, hl, ?_⟩
  · intro r τ H locs lsA pc hQ hret hP1 hS1
    rcases r with _ | (x | q)
    · obtain ⟨d, hr⟩ := hret
      exact W.vret B.exec B.bytes (B.returns.trans hr) (fun t ht hW => ⟨none, τ, rfl, hQ, by rw [ht]; exact hP1, hS1.F ht⟩) hS1.2.2 d
    · obtain ⟨d, ty, hr, hn9⟩ := hret
      exact W.zret (v := x) B.exec B.bytes (B.returns.trans hr) hn9 (fun t ht hW => ⟨some (.inl x), τ, rfl, hQ, by rw [ht]; exact hP1, hS1.F ht⟩) hS1.2.2 d
    · obtain ⟨d, C, hr⟩ := hret
      exact W.aret (v := m_v ad (.inr q)) B.exec B.bytes (B.returns.trans hr) (Or.inl ⟨C, rfl⟩) (Or.inr ⟨_, rfl⟩) (fun t ht hW => ⟨some (.inr q), τ, rfl, hQ, by rw [ht]; exact hP1, hS1.F ht⟩) hS1.2.2 d
  · intro i v hi
    subst hls
    have h3 : as[i]? = some v := by
      rw [List.getElem?_append] at hi
      split at hi
      · rw [List.getElem?_map] at hi
        cases h4 : as[i]? with
        | none => rw [h4] at hi; cases hi
        | some w => rw [h4] at hi; cases hi; rfl
      · rw [List.getElem?_replicate] at hi
        split at hi <;> cases hi
    have h5 := m_args ad as 0 i v h3
    rwa [Nat.zero_add] at h5
theorem MU.mono {M : mM} {as : List mV} {σ : mS} {Q Q' : Option mV → mS → Prop} (h : MU M as σ Q) (hq : ∀ r τ, Q r τ → Q' r τ) : MU M as σ Q' := by
  intro l ad D cI cS sz
  have h1 := h l ad D cI cS sz
  intro p e ha hc hk s m args below hf happ hP hK
  obtain ⟨t, o, a1, a2, a3, ⟨r, τ, b1, b2, b3⟩, a4⟩ := h1 p e ha hc hk s m args below hf happ hP hK
  exact ⟨t, o, a1, a2, a3, ⟨r, τ, b1, hq r τ b2, b3⟩, a4⟩
theorem m_N.same {u U : State} (h : u.vm = U.vm) (hN : m_N u) : m_N U := fun w hw => va_Nw.same (NW_on w hw) h (hN w hw)
theorem m_blind {ad : Nat → Nat} {D : va_G} {cI cS : ClassId} {σ : mS} {sz : Nat} {av : List Value} : FrameBlind (va_Pc av (m_pre ad D cI cS σ sz)) := by
  intro a U g mk q
  obtain ⟨q0, q1, qP, qK, qN, qA⟩ := q
  exact ⟨q0, q1, qP, va_K.moved (u := U) (U := U.calling g mk a) (Vm.Alike.refl U.vm) qK, m_N.same (u := U) (U := U.calling g mk a) rfl qN, qA⟩
theorem m_good {w : Cond} (h : w ∈ TB) : GoodIn TB (w :: TB) := by
  intro v hv
  have h1 : v ∈ TB := by
    rcases List.mem_cons.mp hv with rfl | h2
    · exact h
    · exact h2
  exact ⟨h1, good_of_word (TB_good v h1)⟩
theorem m_sum (ad : Nat → Nat) (st : List mV) : ((st.map (m_v ad)).map fun v => v.category).sum = st.length := by
  induction st with
  | nil => rfl
  | cons a t ih => simp only [List.map_cons, List.sum_cons, List.length_cons, m_cat]; simp only [List.map_map] at ih ⊢; omega
/-- behind a call -/
theorem m_after {M : mM} {Q : Option mV → mS → Prop} {pc : Nat} {ls : List (Option mV)} {st : List mV} {σ : mS} {Q' : Option mV → mS → Prop} {p : Program} {l : Launch} {e : Env} {R : Room} {s : State} {m : MethodId} {args : Array Value} {below : List Frame} {meth : Method} {c : Code} {ad : Nat → Nat} {D : va_G} {cI cS : ClassId} {A : Nat → Prop} {cells slots : Nat} {QM : State → Prop} {H : Heap} {locs : List Loc} {lsA : Array Slot} {st0 : List Value} {a : Array Value}
    (X : mX M Q p l e R s m args below meth c ad D cI cS A cells slots QM) (hS : va_S A s.heap H locs) (hL : m_L ad M.2.2.1 ls lsA)
    (hr : va_Run p l e R s m args below meth c H locs cells slots 0 0 (F0 m pc lsA st0) (st.map (m_v ad)) (m_post ad D cI cS σ H.size Q' a) (va_A (m_ws ad cI cS σ) H.size))
    (k : ∀ r τ, Q' r τ → J M Q (pc + 3) ls (r.toList ++ st) τ) : W p l e R s m args below meth c H locs cells slots QM (F0 m pc lsA st0) := by
  have hfree : ∀ q, va_A (m_ws ad cI cS σ) H.size q → A q := by
    intro q hq
    rcases m_A_iff.mp hq with ⟨k, hk, rfl⟩ | h
    · exact X.2.2.2.2.2.2.2.2.1.2 k hk
    · exact X.2.2.2.2.2.2.2.2.2.1 q (Nat.le_trans hS.1 h)
  intro T hT X0
  obtain ⟨v, st₀, t, T', L, h0, X', hL', e1, e2, ⟨r, τ, hv, hq, hP1, hz, hk⟩, stp⟩ := hr T hT X0
  cases hv
  rw [h0] at hz hk
  have hS1 : va_S A s.heap T'.heap (locs ++ L) := ⟨Nat.le_trans hS.1 (by rw [e1]; exact hz), fun q h1 h2 => by rw [e1, hk q (Nat.lt_of_lt_of_le h1 hS.1) (fun z => h2 (hfree q z))]; exact hS.2.1 q h1 h2, fun q hq => by
    rcases List.mem_append.mp hq with h | h
    · exact hS.2.2 q h
    · exact hfree _ (hL' q h)⟩
  obtain ⟨t2, a1, b1⟩ := k r τ hq _ _ _ _ _ _ _ _ _ _ _ _ _ _ _ _ _ _ X T'.heap (locs ++ L) lsA (by rw [e1]; exact hP1) hS1 hL T' rfl X'
  refine ⟨t2, stp t2 ?_, b1⟩
  rcases r with _ | r <;> exact a1
/-- a callee's words -/
def m_MW (M' : mM) (n : Nat) : Prop := Cond.code M'.1 M'.2.1 M'.2.2.1 M'.2.2.2.2 ∈ TB ∧ Cond.initialized M'.1.cls ∈ TB ∧ (M'.1.cls ≠ "java/lang/invoke/MethodHandle" ∧ M'.1.cls ≠ "java/lang/invoke/VarHandle" ∧ (parseMethodDescriptor M'.1.desc).map (fun d => d.parameters.length) = some n) ∧ 19 + M'.2.2.1 ≤ mK
def m_MI (M' : mM) (n ci : Nat) : Prop := m_MW M' n ∧ Cond.instanceMethod M'.1 ∈ TB ∧ Cond.selects M'.1.cls M'.1 M'.1 ∈ TB ∧ ∃ (T : u_T) (N : Nat), vwCl[ci]? = some (M'.1.cls, T, N)
def m_MS (M' : mM) (n : Nat) : Prop := m_MW M' n ∧ Cond.static M'.1 ∈ TB
theorem m_rooms {M M' : mM} {R : Room} (hd : M'.2.2.2.1 + 1 ≤ M.2.2.2.1) (hk : 19 + M'.2.2.1 ≤ mK) (h1 : M.2.2.2.1 ≤ R.frames) (h2 : mK * M.2.2.2.1 ≤ R.locals) : (m_rm M').frames + 1 ≤ R.frames ∧ 8 + (M'.2.2.1 + 11) + (m_rm M').locals ≤ R.locals := by
  refine ⟨Nat.le_trans hd h1, ?_⟩
  have h3 : mK * (M'.2.2.2.1 + 1) ≤ mK * M.2.2.2.1 := Nat.mul_le_mul_left _ hd
  rw [Nat.mul_add, Nat.mul_one] at h3
  show 8 + (M'.2.2.1 + 11) + mK * M'.2.2.2.1 ≤ R.locals
  omega
theorem J_callV {M : mM} {Q : Option mV → mS → Prop} {pc : Nat} {ls : List (Option mV)} {st : List mV} {σ : mS} {M' : mM} {Q' : Option mV → mS → Prop} {q : Nat × Nat} {as : List mV} {index n ci : Nat} (hM : MU M' (.inr q :: as) σ Q') (hi : m_MI M' n ci) (hl : Cond.methodLink M.1.cls index M'.1 ∈ TB) (hc : o_ci (m_cl q) = some ci) (hn : as.length = n) (hd : M'.2.2.2.1 + 1 ≤ M.2.2.2.1) (hst : Nat.ble st.length 8 = true) (d : decode M.2.1 pc = .ok (.invokevirtual index, 3)) (k : ∀ r τ, Q' r τ → J M Q (pc + 3) ls (r.toList ++ st) τ) : J M Q pc ls (as.reverse ++ .inr q :: st) σ := by
  intro p l e R s m args below meth c ad D cI cS A cells slots QM X H locs lsA hP hS hL
  obtain ⟨x1, x2, x3, x4, x5, x6, x7, x8, x9, x10, x11⟩ := id X
  obtain ⟨L, l1, l2⟩ := id hL
  obtain ⟨c1, c2, c3, c4⟩ := hi.1
  have hR := m_rooms (R := R) hd c4 x8.1 x8.2.1
  have hc0 : cells + 0 ≤ R.cells ∧ slots + 0 ≤ R.slots := ⟨x8.2.2.1, x8.2.2.2⟩
  obtain ⟨T, N, hcl⟩ := hi.2.2.2
  obtain ⟨g1, g2⟩ := m_cell_o (ad := ad) (cI := cI) (cS := cS) (σ := σ) hc
  exact m_after X hS hL (va_runV (C := M'.1.cls) (As := as.map (m_v ad)) (rest := st.map (m_v ad)) (n := n) (own := M.1.cls) (Ts := TB) ⟨x1, x2, x3, x4, x5⟩ (hM l ad D cI cS H.size) ⟨callB_of n x5 (m_good c1) rfl rfl rfl (x5 _ c2) (x5 _ hl) c3 hR, x5 _ hi.2.1, x5 _ hi.2.2.1⟩ ⟨m_blind, va_recv x7 hP hcl (q0 := m_cl q) (by rw [m_ws_at g1, g2]), fun U hU hW => ⟨rfl, by rw [hU], by rw [hU]; exact hP, va_K.moved hW.alike x7, m_N.warm hW x6, ⟨x9.1, fun _ _ => trivial⟩⟩⟩ rfl (by simpa using hn) l1.1 (by show (as.reverse ++ .inr q :: st).map (m_v ad) = _; rw [List.map_append, List.map_reverse]; rfl) (lv_room (by rw [m_sum]; exact Nat.le_of_ble_eq_true hst)) d hc0) k
theorem J_callVN {M : mM} {Q : Option mV → mS → Prop} {pc : Nat} {ls : List (Option mV)} {st : List mV} {σ : mS} {M' : mM} {Q' : Option mV → mS → Prop} {q : Nat × Nat} {as : List mV} {index n ci : Nat} {host : String} (hM : MU M' (.inr q :: as) σ Q') (hi : m_MI M' n ci) (hl : Cond.methodLinkNest M.1.cls index M'.1 host ∈ NW) (hc : o_ci (m_cl q) = some ci) (hn : as.length = n) (hd : M'.2.2.2.1 + 1 ≤ M.2.2.2.1) (hst : Nat.ble st.length 8 = true) (d : decode M.2.1 pc = .ok (.invokevirtual index, 3)) (k : ∀ r τ, Q' r τ → J M Q (pc + 3) ls (r.toList ++ st) τ) : J M Q pc ls (as.reverse ++ .inr q :: st) σ := by
  intro p l e R s m args below meth c ad D cI cS A cells slots QM X H locs lsA hP hS hL
  obtain ⟨x1, x2, x3, x4, x5, x6, x7, x8, x9, x10, x11⟩ := id X
  obtain ⟨L, l1, l2⟩ := id hL
  obtain ⟨c1, c2, c3, c4⟩ := hi.1
  have hR := m_rooms (R := R) hd c4 x8.1 x8.2.1
  have hc0 : cells + 0 ≤ R.cells ∧ slots + 0 ≤ R.slots := ⟨x8.2.2.1, x8.2.2.2⟩
  obtain ⟨T, N, hcl⟩ := hi.2.2.2
  obtain ⟨g1, g2⟩ := m_cell_o (ad := ad) (cI := cI) (cS := cS) (σ := σ) hc
  exact m_after X hS hL (va_runVN (C := M'.1.cls) (host := host) (As := as.map (m_v ad)) (rest := st.map (m_v ad)) (n := n) (own := M.1.cls) (Ts := TB) ⟨x1, x2, x3, x4, x5⟩ (hM l ad D cI cS H.size) ⟨va_cnB n x5 (m_good c1) rfl rfl rfl (x6 _ hl) (x5 _ c2) c3 hR, x5 _ hi.2.1, x5 _ hi.2.2.1⟩ ⟨m_blind, va_recv x7 hP hcl (q0 := m_cl q) (by rw [m_ws_at g1, g2]), fun U hU hW => ⟨rfl, by rw [hU], by rw [hU]; exact hP, va_K.moved hW.alike x7, m_N.warm hW x6, ⟨x9.1, fun _ _ => trivial⟩⟩⟩ rfl (by simpa using hn) l1.1 (by show (as.reverse ++ .inr q :: st).map (m_v ad) = _; rw [List.map_append, List.map_reverse]; rfl) (lv_room (by rw [m_sum]; exact Nat.le_of_ble_eq_true hst)) d hc0) k
theorem J_callS {M : mM} {Q : Option mV → mS → Prop} {pc : Nat} {ls : List (Option mV)} {st : List mV} {σ : mS} {M' : mM} {Q' : Option mV → mS → Prop} {as : List mV} {index n : Nat} (hM : MU M' as σ Q') (hi : m_MS M' n) (hl : Cond.methodLink M.1.cls index M'.1 ∈ TB) (hn : as.length = n) (hd : M'.2.2.2.1 + 1 ≤ M.2.2.2.1) (hst : Nat.ble st.length 8 = true) (d : decode M.2.1 pc = .ok (.invokestatic index, 3)) (k : ∀ r τ, Q' r τ → J M Q (pc + 3) ls (r.toList ++ st) τ) : J M Q pc ls (as.reverse ++ st) σ := by
  intro p l e R s m args below meth c ad D cI cS A cells slots QM X H locs lsA hP hS hL
  obtain ⟨x1, x2, x3, x4, x5, x6, x7, x8, x9, x10, x11⟩ := id X
  obtain ⟨L, l1, l2⟩ := id hL
  obtain ⟨c1, c2, c3, c4⟩ := hi.1
  have hR := m_rooms (R := R) hd c4 x8.1 x8.2.1
  have hc0 : cells + 0 ≤ R.cells ∧ slots + 0 ≤ R.slots := ⟨x8.2.2.1, x8.2.2.2⟩
  exact m_after X hS hL (va_runS (As := as.map (m_v ad)) (rest := st.map (m_v ad)) (n := n) (own := M.1.cls) (Ts := TB) ⟨x1, x2, x3, x4, x5⟩ (hM l ad D cI cS H.size) ⟨callB_of n x5 (m_good c1) rfl rfl rfl (x5 _ c2) (x5 _ hl) c3 hR, x5 _ hi.2⟩ ⟨m_blind, fun U hU hW => ⟨rfl, by rw [hU], by rw [hU]; exact hP, va_K.moved hW.alike x7, m_N.warm hW x6, ⟨x9.1, fun _ _ => trivial⟩⟩⟩ rfl (by simpa using hn) l1.1 (by show (as.reverse ++ st).map (m_v ad) = _; rw [List.map_append, List.map_reverse]) (lv_room (by rw [m_sum]; exact Nat.le_of_ble_eq_true hst)) d hc0) k
theorem J_callSN {M : mM} {Q : Option mV → mS → Prop} {pc : Nat} {ls : List (Option mV)} {st : List mV} {σ : mS} {M' : mM} {Q' : Option mV → mS → Prop} {as : List mV} {index n : Nat} {host : String} (hM : MU M' as σ Q') (hi : m_MS M' n) (hl : Cond.methodLinkNest M.1.cls index M'.1 host ∈ NW) (hn : as.length = n) (hd : M'.2.2.2.1 + 1 ≤ M.2.2.2.1) (hst : Nat.ble st.length 8 = true) (d : decode M.2.1 pc = .ok (.invokestatic index, 3)) (k : ∀ r τ, Q' r τ → J M Q (pc + 3) ls (r.toList ++ st) τ) : J M Q pc ls (as.reverse ++ st) σ := by
  intro p l e R s m args below meth c ad D cI cS A cells slots QM X H locs lsA hP hS hL
  obtain ⟨x1, x2, x3, x4, x5, x6, x7, x8, x9, x10, x11⟩ := id X
  obtain ⟨L, l1, l2⟩ := id hL
  obtain ⟨c1, c2, c3, c4⟩ := hi.1
  have hR := m_rooms (R := R) hd c4 x8.1 x8.2.1
  have hc0 : cells + 0 ≤ R.cells ∧ slots + 0 ≤ R.slots := ⟨x8.2.2.1, x8.2.2.2⟩
  exact m_after X hS hL (va_runSN (host := host) (As := as.map (m_v ad)) (rest := st.map (m_v ad)) (n := n) (own := M.1.cls) (Ts := TB) ⟨x1, x2, x3, x4, x5⟩ (hM l ad D cI cS H.size) ⟨va_cnB n x5 (m_good c1) rfl rfl rfl (x6 _ hl) (x5 _ c2) c3 hR, x5 _ hi.2, trivial⟩ ⟨m_blind, fun U hU hW => ⟨rfl, by rw [hU], by rw [hU]; exact hP, va_K.moved hW.alike x7, m_N.warm hW x6, ⟨x9.1, fun _ _ => trivial⟩⟩⟩ rfl (by simpa using hn) l1.1 (by show (as.reverse ++ st).map (m_v ad) = _; rw [List.map_append, List.map_reverse]) (lv_room (by rw [m_sum]; exact Nat.le_of_ble_eq_true hst)) d hc0) k
