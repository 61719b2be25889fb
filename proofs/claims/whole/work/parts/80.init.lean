/-! CONSTRUCTORS: worlds that grow -/
def z0 : mS := fun _ _ => 0
def wOrd (ad : Nat → Nat) (cI cS : ClassId) (ord : List Nat) : va_W := ord.map (fun k => (ad k, m_cell ad cI cS z0 k))
def kPre (D : va_G) (cI cS : ClassId) (x : Nat × va_E) (sz : Nat) (U : State) : Prop := U.heap.size = sz ∧ va_P D vwCl [x] U.heap ∧ va_K D vwCl (m_ty cI cS) U ∧ m_N U ∧ va_AO "PointsToRounds$Statement" U
def kPost (D : va_G) (x : Nat × va_E) (sz : Nat) (Fin : va_W → Prop) : Array Value → State → Outcome → State → Prop := va_Qv Fin (fun (w : va_W) t => va_P D vwCl w t.heap ∧ va_D (va_A [x] sz) w) (va_A [x] sz)
abbrev kRm (M : mM) (mc ms : Nat) : Room := { frames := M.2.2.2.1, cells := mc, slots := ms, locals := mK * M.2.2.2.1 }
def KI (M : mM) (mc ms : Nat) (l : Launch) (D : va_G) (cI cS : ClassId) (x : Nat × va_E) (As : List Value) (sz : Nat) (Fin : va_W → Prop) : Prop := Met l M.1 (Cond.code M.1 M.2.1 M.2.2.1 M.2.2.2.2 :: TB) (kRm M mc ms) (va_Pc (.ref x.1 :: As) (kPre D cI cS x sz)) (kPost D x sz Fin) mc ms (va_A [x] sz)
/-- what stands around a walk that makes cells -/
def kX (M : mM) (p : Program) (s : State) (m : MethodId) (args : Array Value) (c : Code) (D : va_G) (cI cS : ClassId) (A : Nat → Prop) : Prop :=
  p.tables.exec = Jvm.exec ∧ c.code = M.2.1 ∧ c.maxLocals = M.2.2.1 ∧ s.vm.findClass M.1.cls = some m.cls ∧ (∀ w ∈ TB, w.before args s = true) ∧ m_N s ∧ va_AO "PointsToRounds$Statement" s ∧ va_K D vwCl (m_ty cI cS) s ∧ ∀ q, s.heap.size ≤ q → A q
/-- a constructor's field: final, of the class itself -/
def m_Ff (own : String) (index ci j : Nat) (ty : FieldType) : Prop := ∃ (C : String) (T : u_T) (N : Nat) (ty0 : Nat → FieldType), vwCl[ci]? = some (C, T, N) ∧ (∀ w ∈ u_ws C T N, w ∈ TB) ∧ j < N ∧ Cond.fieldLink own index (T j).1 (T j).2.1 (T j).2.2.1 ∈ TB ∧ (∀ k, k < N → parseFieldDescriptor (T k).2.2.1 = some (ty0 k)) ∧ (∀ a, a < N → ∀ b, b < N → a ≠ b → (T a).2.1 ≠ (T b).2.1) ∧ (T j).2.2.2 = true ∧ (T j).1 = own ∧ parseFieldDescriptor (T j).2.2.1 = some ty
theorem k_blind {D : va_G} {cI cS : ClassId} {x : Nat × va_E} {sz : Nat} {av : List Value} : FrameBlind (va_Pc av (kPre D cI cS x sz)) := by
  intro a U g mk q
  obtain ⟨q0, q1, qP, qK, qN, qO⟩ := q
  exact ⟨q0, q1, qP, va_K.moved (u := U) (U := U.calling g mk a) (Vm.Alike.refl U.vm) qK, m_N.same (u := U) (U := U.calling g mk a) rfl qN, va_AO.moved (u := U) (U := U.calling g mk a) (Vm.Alike.refl U.vm) qO⟩
section
variable {p : Program} {l : Launch} {e : Env} {R : Room} {s : State} {m : MethodId} {args : Array Value} {below : List Frame} {meth : Method} {c : Code} {D : va_G} {cI cS : ClassId} {A : Nat → Prop} {H : Heap} {locs : List Loc} {cells slots : Nat} {QM : State → Prop} {ls : Array Slot} {M : mM} {pc : Nat} {rest : List Value}
theorem k_put (X : kX M p s m args c D cI cS A) (hin : meth.name = "<init>") {ws : va_W} {a : Nat} {fs : List Value} {idx ci j : Nat} {ty : FieldType} {v : Nat} (hF : m_Ff M.1.cls idx ci j ty) (hn : narrow ty (.ref v) = .ref v) (hf : fits ty (.ref v) = true) (hj : j < fs.length) (d : decode M.2.1 pc = .ok (.putfield idx, 3)) (hP : va_P D vwCl ((a, .inr (ci, fs)) :: ws) H) (hD : va_D A ((a, .inr (ci, fs)) :: ws)) (hS : va_S A s.heap H locs)
    (kk : ∀ (H1 : Heap) (locs1 : List Loc), va_P D vwCl ((a, .inr (ci, fs.set j (.ref v))) :: ws) H1 → va_D A ((a, .inr (ci, fs.set j (.ref v))) :: ws) → va_S A s.heap H1 locs1 → W p l e R s m args below meth c H1 locs1 cells slots QM (F0 m (pc + 3) ls rest)) : W p l e R s m args below meth c H locs cells slots QM (F0 m pc ls (.ref v :: .ref a :: rest)) := by
  obtain ⟨C, T, N, ty0, h1, h2, h3, h4, h5, h6, h7, h8, h9⟩ := hF
  obtain ⟨x1, x2, x3, x4, x5, x6, x7, x8, x9⟩ := X
  exact va_putF (D := D) x1 x2 x5 h2 ty0 h5 h6 (own := M.1.cls) x4 x8 hP hD hS 0 rfl h1 j h3 (x5 _ h4) (fun _ h => h) h7 hin h8 h9 hn hf hj d (fun H1 locs1 hP1 hD1 hS1 => kk H1 locs1 hP1 hD1 hS1)
theorem k_newa (X : kX M p s m args c D cI cS A) {ws : va_W} {n : Nat} (hn : n ≤ 2000) (hc : cells + 1 ≤ R.cells) (hs : slots + n ≤ R.slots) (d : decode M.2.1 pc = .ok (.newarray .int, 2)) (hP : va_P D vwCl ws H) (hD : va_D A ws) (hS : va_S A s.heap H locs) (hw : Cond.arrayClass .int ∈ TB)
    (kk : ∀ (q : Nat) (H1 : Heap), va_P D vwCl (ws ++ [(q, .inl (cI, n, .inl (fun _ => 0)))]) H1 → va_D A (ws ++ [(q, .inl (cI, n, .inl (fun _ => 0)))]) → va_S A s.heap H1 locs → W p l e R s m args below meth c H1 locs (cells + 1) (slots + n) QM (F0 m (pc + 2) ls (.ref q :: rest))) : W p l e R s m args below meth c H locs cells slots QM (F0 m pc ls (.int (nI n) :: rest)) := by
  obtain ⟨x1, x2, x3, x4, x5, x6, x7, x8, x9⟩ := X
  refine va_newa (D := D) (atype := .int) (ty := .int) (a0 := (n, .inl (fun _ => 0))) x1 x2 (x5 _ hw) rfl x8 hP hD hS x9 (fun _ => rfl) (nI_pos (by omega)) (cl_nI (by omega)) (by show n * 4 ≤ 536870912; omega) hc hs d (fun q cA H1 hK hP hD hS => ?_)
  have e1 : s.vm.findClass ("[" ++ (FieldType.int).toString) = some cA := (hK.2 2 _ rfl).2
  have e2 : s.vm.findClass ("[" ++ (FieldType.int).toString) = some cI := (x8.2 0 _ rfl).2
  have : cA = cI := Option.some.inj (e1.symm.trans e2)
  subst this
  exact kk q H1 hP hD hS
theorem k_newq (X : kX M p s m args c D cI cS A) {ws : va_W} {n idx : Nat} (hn : n ≤ 2000) (hc : cells + 1 ≤ R.cells) (hs : slots + n ≤ R.slots) (hcl : Cond.classLink M.1.cls idx "PointsToRounds$Statement" ∈ TB) (d : decode M.2.1 pc = .ok (.anewarray idx, 3)) (hP : va_P D vwCl ws H) (hD : va_D A ws) (hS : va_S A s.heap H locs)
    (kk : ∀ (q : Nat) (H1 : Heap), va_P D vwCl (ws ++ [(q, .inl (cS, n, .inr (.inr (.inr (.inr (fun _ => none))))))]) H1 → va_D A (ws ++ [(q, .inl (cS, n, .inr (.inr (.inr (.inr (fun _ => none))))))]) → va_S A s.heap H1 locs → W p l e R s m args below meth c H1 locs (cells + 1) (slots + n) QM (F0 m (pc + 3) ls (.ref q :: rest))) : W p l e R s m args below meth c H locs cells slots QM (F0 m pc ls (.int (nI n) :: rest)) := by
  obtain ⟨x1, x2, x3, x4, x5, x6, x7, x8, x9⟩ := X
  refine va_newq (D := D) (own := M.1.cls) (C := "PointsToRounds$Statement") x1 x2 x4 (x5 _ hcl) x7 x8 hP hD hS x9 (nI_pos (by omega)) (cl_nI (by omega)) (by omega) hc hs d (fun q cA H1 hK hP hD hS => ?_)
  obtain ⟨kA, comp, -, -, -, e1⟩ := (hK.2 2 _ rfl).2
  obtain ⟨kA', comp', -, -, -, e2⟩ := (x8.2 1 _ rfl).2
  have : cA = cS := Option.some.inj (e1.symm.trans e2)
  subst this
  exact kk q H1 hP hD hS
theorem k_new (X : kX M p s m args c D cI cS A) {ws : va_W} {idx ci N : Nat} {C : String} {T : u_T} {ty : Nat → FieldType} {fs : List Value} (h1 : vwCl[ci]? = some (C, T, N)) (h2 : ∀ w ∈ u_ws C T N, w ∈ TB) (hty : ∀ k, k < N → parseFieldDescriptor (T k).2.2.1 = some (ty k)) (hcl : Cond.classLink M.1.cls idx C ∈ TB) (hi : Cond.instantiable C N ∈ TB) (hini : Cond.initialized C ∈ TB) (hfs : ∀ j, j < N → defaultValue (ty j) = vp_V fs j) (hc : cells + 1 ≤ R.cells) (hs : slots + N ≤ R.slots) (d : decode M.2.1 pc = .ok (.new idx, 3)) (hP : va_P D vwCl ws H) (hD : va_D A ws) (hS : va_S A s.heap H locs)
    (kk : ∀ (q : Nat) (H1 : Heap), va_P D vwCl (ws ++ [(q, .inr (ci, fs))]) H1 → va_D A (ws ++ [(q, .inr (ci, fs))]) → va_S A s.heap H1 locs → W p l e R s m args below meth c H1 locs (cells + 1) (slots + N) QM (F0 m (pc + 3) ls (.ref q :: rest))) : W p l e R s m args below meth c H locs cells slots QM (F0 m pc ls rest) := by
  obtain ⟨x1, x2, x3, x4, x5, x6, x7, x8, x9⟩ := X
  exact va_new (D := D) (own := M.1.cls) (ci := ci) (fs := fs) x1 x2 x5 h2 ty hty x4 (x5 _ hcl) (x5 _ hi) (x5 _ hini) x8 hP hD hS x9 h1 hfs hc hs d kk
/-- aload_0, a length, newarray, putfield -/
theorem k_arr0 (X : kX M p s m args c D cI cS A) (hin : meth.name = "<init>") {ws : va_W} {a : Nat} {fs : List Value} {idx ci j n : Nat} (hF : m_Ff M.1.cls idx ci j (.array .int)) (hn : n ≤ 2000) (hj : j < fs.length) (hc : cells + 1 ≤ R.cells) (hs : slots + n ≤ R.slots) (hw : Cond.arrayClass .int ∈ TB) (d1 : decode M.2.1 pc = .ok (.newarray .int, 2)) (d2 : decode M.2.1 (pc + 2) = .ok (.putfield idx, 3)) (hP : va_P D vwCl ((a, .inr (ci, fs)) :: ws) H) (hD : va_D A ((a, .inr (ci, fs)) :: ws)) (hS : va_S A s.heap H locs)
    (kk : ∀ (q : Nat) (H1 : Heap) (locs1 : List Loc), va_P D vwCl ((a, .inr (ci, fs.set j (.ref q))) :: (ws ++ [(q, .inl (cI, n, .inl (fun _ => 0)))])) H1 → va_D A ((a, .inr (ci, fs.set j (.ref q))) :: (ws ++ [(q, .inl (cI, n, .inl (fun _ => 0)))])) → va_S A s.heap H1 locs1 → W p l e R s m args below meth c H1 locs1 (cells + 1) (slots + n) QM (F0 m (pc + 5) ls rest)) : W p l e R s m args below meth c H locs cells slots QM (F0 m pc ls (.int (nI n) :: .ref a :: rest)) :=
  k_newa X hn hc hs d1 hP hD hS hw (fun q H1 hP hD hS => k_put X hin hF rfl rfl hj d2 hP hD hS (fun H2 locs2 hP hD hS => kk q H2 locs2 hP hD hS))
theorem k_arrb (X : kX M p s m args c D cI cS A) (hin : meth.name = "<init>") {ws : va_W} {a : Nat} {fs : List Value} {idx ci j n nL : Nat} {z : Int} {lv : List (Nat × Value)} (hl : lv_has ls nL ((0, .ref a) :: lv)) (hF : m_Ff M.1.cls idx ci j (.array .int)) (hn : n ≤ 2000) (hj : j < fs.length) (hc : cells + 1 ≤ R.cells) (hs : slots + n ≤ R.slots) (hw : Cond.arrayClass .int ∈ TB) (d0 : decode M.2.1 pc = .ok (.aload_n 0, 1)) (d9 : decode M.2.1 (pc + 1) = .ok (.bipush z, 2)) (hz : (Int8.ofInt z).toInt32 = nI n) (d1 : decode M.2.1 (pc + 3) = .ok (.newarray .int, 2)) (d2 : decode M.2.1 (pc + 5) = .ok (.putfield idx, 3)) (hP : va_P D vwCl ((a, .inr (ci, fs)) :: ws) H) (hD : va_D A ((a, .inr (ci, fs)) :: ws)) (hS : va_S A s.heap H locs)
    (kk : ∀ (q : Nat) (H1 : Heap) (locs1 : List Loc), va_P D vwCl ((a, .inr (ci, fs.set j (.ref q))) :: (ws ++ [(q, .inl (cI, n, .inl (fun _ => 0)))])) H1 → va_D A ((a, .inr (ci, fs.set j (.ref q))) :: (ws ++ [(q, .inl (cI, n, .inl (fun _ => 0)))])) → va_S A s.heap H1 locs1 → W p l e R s m args below meth c H1 locs1 (cells + 1) (slots + n) QM (F0 m (pc + 8) ls rest)) : W p l e R s m args below meth c H locs cells slots QM (F0 m pc ls rest) :=
  lv_aload_n X.1 X.2.1 d0 rfl (lv_at hl 0 rfl) (lv_bipush X.1 X.2.1 d9 hz (k_arr0 X hin hF hn hj hc hs hw d1 d2 hP hD hS kk))
theorem k_arrs (X : kX M p s m args c D cI cS A) (hin : meth.name = "<init>") {ws : va_W} {a : Nat} {fs : List Value} {idx ci j n nL : Nat} {z : Int} {lv : List (Nat × Value)} (hl : lv_has ls nL ((0, .ref a) :: lv)) (hF : m_Ff M.1.cls idx ci j (.array .int)) (hn : n ≤ 2000) (hj : j < fs.length) (hc : cells + 1 ≤ R.cells) (hs : slots + n ≤ R.slots) (hw : Cond.arrayClass .int ∈ TB) (d0 : decode M.2.1 pc = .ok (.aload_n 0, 1)) (d9 : decode M.2.1 (pc + 1) = .ok (.sipush z, 3)) (hz : (Int16.ofInt z).toInt32 = nI n) (d1 : decode M.2.1 (pc + 4) = .ok (.newarray .int, 2)) (d2 : decode M.2.1 (pc + 6) = .ok (.putfield idx, 3)) (hP : va_P D vwCl ((a, .inr (ci, fs)) :: ws) H) (hD : va_D A ((a, .inr (ci, fs)) :: ws)) (hS : va_S A s.heap H locs)
    (kk : ∀ (q : Nat) (H1 : Heap) (locs1 : List Loc), va_P D vwCl ((a, .inr (ci, fs.set j (.ref q))) :: (ws ++ [(q, .inl (cI, n, .inl (fun _ => 0)))])) H1 → va_D A ((a, .inr (ci, fs.set j (.ref q))) :: (ws ++ [(q, .inl (cI, n, .inl (fun _ => 0)))])) → va_S A s.heap H1 locs1 → W p l e R s m args below meth c H1 locs1 (cells + 1) (slots + n) QM (F0 m (pc + 9) ls rest)) : W p l e R s m args below meth c H locs cells slots QM (F0 m pc ls rest) :=
  lv_aload_n X.1 X.2.1 d0 rfl (lv_at hl 0 rfl) (lv_sipush X.1 X.2.1 d9 hz (k_arr0 X hin hF hn hj hc hs hw d1 d2 hP hD hS kk))
theorem k_arri (X : kX M p s m args c D cI cS A) (hin : meth.name = "<init>") {ws : va_W} {a : Nat} {fs : List Value} {idx ci j n nL : Nat} {z : Int} {lv : List (Nat × Value)} (hl : lv_has ls nL ((0, .ref a) :: lv)) (hF : m_Ff M.1.cls idx ci j (.array .int)) (hn : n ≤ 2000) (hj : j < fs.length) (hc : cells + 1 ≤ R.cells) (hs : slots + n ≤ R.slots) (hw : Cond.arrayClass .int ∈ TB) (d0 : decode M.2.1 pc = .ok (.aload_n 0, 1)) (d9 : decode M.2.1 (pc + 1) = .ok (.iconst z, 1)) (hz : Int32.ofInt z = nI n) (d1 : decode M.2.1 (pc + 2) = .ok (.newarray .int, 2)) (d2 : decode M.2.1 (pc + 4) = .ok (.putfield idx, 3)) (hP : va_P D vwCl ((a, .inr (ci, fs)) :: ws) H) (hD : va_D A ((a, .inr (ci, fs)) :: ws)) (hS : va_S A s.heap H locs)
    (kk : ∀ (q : Nat) (H1 : Heap) (locs1 : List Loc), va_P D vwCl ((a, .inr (ci, fs.set j (.ref q))) :: (ws ++ [(q, .inl (cI, n, .inl (fun _ => 0)))])) H1 → va_D A ((a, .inr (ci, fs.set j (.ref q))) :: (ws ++ [(q, .inl (cI, n, .inl (fun _ => 0)))])) → va_S A s.heap H1 locs1 → W p l e R s m args below meth c H1 locs1 (cells + 1) (slots + n) QM (F0 m (pc + 7) ls rest)) : W p l e R s m args below meth c H locs cells slots QM (F0 m pc ls rest) :=
  lv_aload_n X.1 X.2.1 d0 rfl (lv_at hl 0 rfl) (lv_iconst X.1 X.2.1 d9 hz (k_arr0 X hin hF hn hj hc hs hw d1 d2 hP hD hS kk))
/-- Object's constructor -/
theorem k_obj (X : kX M p s m args c D cI cS A) {a idx : Nat} {nL : Nat} {lv : List (Nat × Value)} (hl : lv_has ls nL lv) (hnL : nL = M.2.2.1) (hlk : Cond.methodLink M.1.cls idx Lib.objectInit ∈ TB) (hi : Cond.instanceMethod Lib.objectInit ∈ TB) (hc : Cond.code Lib.objectInit ⟨#[0xb1]⟩ 1 none ∈ TB) (hf : 1 ≤ R.frames) (hlo : 12 ≤ R.locals) (d : decode M.2.1 pc = .ok (.invokespecial idx, 3)) (kk : W p l e R s m args below meth c H locs cells slots QM (F0 m (pc + 3) ls [])) : W p l e R s m args below meth c H locs cells slots QM (F0 m pc ls [.ref a]) := by
  obtain ⟨x1, x2, x3, x4, x5, x6, x7, x8, x9⟩ := X
  exact W.objInit x1 x2 x4 (x5 _ hlk) (x5 _ hi) (x5 _ hc) rfl (by rw [x3, ← hnL]; exact hl.1) rfl d hf (by show 0 + 0 + 12 ≤ _; omega) kk
/-- the cell at the end, and the rest -/
theorem k_join {wr w1 : va_W} {x : Nat × va_E} {H1 : Heap} (hP : va_P D vwCl (wr ++ [x]) H) (hD : va_D A (wr ++ [x])) (hk : ∀ q : Nat, q < H.size → ¬ va_A [x] H.size q → H1[q]? = H[q]?) (hF : ∀ q, va_A [x] H.size q → A q) (hP1 : va_P D vwCl w1 H1) (hD1 : va_D (va_A [x] H.size) w1) : va_P D vwCl (wr ++ w1) H1 ∧ va_D A (wr ++ w1) := by
  have inl : ∀ (k : Nat) (q : Nat × va_E), wr[k]? = some q → (wr ++ [x])[k]? = some q := fun k q hq => by
    rw [List.getElem?_append_left (List.getElem?_eq_some_iff.mp hq).1]; exact hq
  have hx : (wr ++ [x])[wr.length]? = some x := by rw [List.getElem?_append_right (Nat.le_refl _), Nat.sub_self]; rfl
  have apart : ∀ (k : Nat) (q : Nat × va_E), wr[k]? = some q → q.1 < H.size ∧ ¬ va_A [x] H.size q.1 := by
    intro k q hq
    have hl := (hP k q (inl k q hq)).lt
    refine ⟨hl, fun h => ?_⟩
    rcases h with ⟨k2, e, h⟩ | h
    · have h2 : (q.1, e) = x := by
        have h3 := List.mem_of_getElem? h
        exact List.mem_singleton.mp h3
      have := hD.1 k wr.length q x (inl k q hq) hx (by rw [← h2])
      have := (List.getElem?_eq_some_iff.mp hq).1
      omega
    · omega
  refine ⟨va_P.app (fun k q hq => ?_) hP1, va_D.app ⟨fun i j y z hy hz e => hD.1 i j y z (inl i y hy) (inl j z hz) e, fun k q hq => hD.2 k q (inl k q hq)⟩ (hD1.weaken (fun k q _ h => hF q.1 h)) (fun i j y z hy hz hyz => ?_)⟩
  · obtain ⟨g1, g2⟩ := apart k q hq
    exact (hP k q (inl k q hq)).kept (hk q.1 g1 g2)
  · exact (apart i y hy).2 (by rw [hyz]; exact hD1.2 j z hz)
/-- a constructor's words -/
def m_MC (M' : mM) (n : Nat) : Prop := m_MW M' n ∧ Cond.instanceMethod M'.1 ∈ TB ∧ M'.1.name = "<init>" ∧ M'.2.2.2.2 = none
theorem k_after {wr : va_W} {x : Nat × va_E} {mc ms : Nat} {Fin : va_W → Prop} {st0 : List Value} {a : Array Value} (X : kX M p s m args c D cI cS A) (hP : va_P D vwCl (wr ++ [x]) H) (hD : va_D A (wr ++ [x])) (hS : va_S A s.heap H locs)
    (hr : va_Run p l e R s m args below meth c H locs cells slots mc ms (F0 m pc ls st0) rest (kPost D x H.size Fin a) (va_A [x] H.size))
    (kk : ∀ (w : va_W) (H1 : Heap) (locs1 : List Loc), Fin w → va_P D vwCl (wr ++ w) H1 → va_D A (wr ++ w) → va_S A s.heap H1 locs1 → W p l e R s m args below meth c H1 locs1 (cells + mc) (slots + ms) QM (F0 m (pc + 3) ls rest)) : W p l e R s m args below meth c H locs cells slots QM (F0 m pc ls st0) := by
  have hx : (wr ++ [x])[wr.length]? = some x := by rw [List.getElem?_append_right (Nat.le_refl _), Nat.sub_self]; rfl
  have hfree : ∀ q, va_A [x] H.size q → A q := by
    rintro q (⟨k, e, h⟩ | h)
    · have h2 : (q, e) = x := List.mem_singleton.mp (List.mem_of_getElem? h)
      have := hD.2 wr.length x hx
      rw [← h2] at this
      exact this
    · exact X.2.2.2.2.2.2.2.2 q (Nat.le_trans hS.1 h)
  refine va_callv hr hS (fun q _ h => hfree q h) hfree (fun w t H1 locs1 ht hvm hw hB hz1 hk1 hS1 => ?_)
  obtain ⟨b1, b2⟩ := hB
  rw [ht] at b1
  obtain ⟨j1, j2⟩ := k_join hP hD hk1 hfree b1 b2
  exact kk w H1 locs1 hw j1 j2 hS1
theorem k_callI {M' : mM} {wr : va_W} {x : Nat × va_E} {mc ms n idx nL : Nat} {Fin : va_W → Prop} {As : List Value} {lv : List (Nat × Value)} (X : kX M p s m args c D cI cS A) (hM : KI M' mc ms l D cI cS x As H.size Fin) (hi : m_MC M' n) (hlk : Cond.methodLink M.1.cls idx M'.1 ∈ TB) (hn : As.length = n) (hR : M'.2.2.2.1 + 1 ≤ R.frames ∧ 8 + (M'.2.2.1 + 11) + mK * M'.2.2.2.1 ≤ R.locals) (hc : cells + mc ≤ R.cells ∧ slots + ms ≤ R.slots) (hst : (rest.map fun v => v.category).sum ≤ 8) (hl : lv_has ls nL lv) (hnL : nL = M.2.2.1) (d : decode M.2.1 pc = .ok (.invokespecial idx, 3)) (hP : va_P D vwCl (wr ++ [x]) H) (hD : va_D A (wr ++ [x])) (hS : va_S A s.heap H locs)
    (kk : ∀ (w : va_W) (H1 : Heap) (locs1 : List Loc), Fin w → va_P D vwCl (wr ++ w) H1 → va_D A (wr ++ w) → va_S A s.heap H1 locs1 → W p l e R s m args below meth c H1 locs1 (cells + mc) (slots + ms) QM (F0 m (pc + 3) ls rest)) : W p l e R s m args below meth c H locs cells slots QM (F0 m pc ls (As.reverse ++ .ref x.1 :: rest)) := by
  obtain ⟨x1, x2, x3, x4, x5, x6, x7, x8, x9⟩ := id X
  obtain ⟨⟨c1, c2, c3, c4⟩, h2, h3, h4⟩ := hi
  have hx : (wr ++ [x])[wr.length]? = some x := by rw [List.getElem?_append_right (Nat.le_refl _), Nat.sub_self]; rfl
  have hPx : va_P D vwCl [x] H := fun k q hq => by
    have : q = x := List.mem_singleton.mp (List.mem_of_getElem? hq)
    rw [this]; exact hP wr.length x hx
  unfold KI at hM
  rw [h4] at hM c1
  exact k_after X hP hD hS (va_runI (As := As) (rest := rest) (n := n) (own := M.1.cls) (Ts := TB) ⟨x1, x2, x3, x4, x5⟩ hM ⟨callB_of n x5 (m_good c1) rfl rfl rfl (x5 _ c2) (x5 _ hlk) c3 hR, h3, x5 _ h2⟩ ⟨k_blind, fun U hU hW => ⟨rfl, by rw [hU], by rw [hU]; exact hPx, va_K.moved hW.alike x8, m_N.warm hW x6, va_AO.moved hW.alike x7⟩⟩ rfl hn (by rw [← hnL]; exact hl.1) rfl (lv_room hst) d hc) kk
theorem k_callN {M' : mM} {wr : va_W} {x : Nat × va_E} {mc ms n idx nL : Nat} {Fin : va_W → Prop} {As : List Value} {host : String} {lv : List (Nat × Value)} (X : kX M p s m args c D cI cS A) (hM : KI M' mc ms l D cI cS x As H.size Fin) (hi : m_MC M' n) (hlk : Cond.methodLinkNest M.1.cls idx M'.1 host ∈ NW) (hn : As.length = n) (hR : M'.2.2.2.1 + 1 ≤ R.frames ∧ 8 + (M'.2.2.1 + 11) + mK * M'.2.2.2.1 ≤ R.locals) (hc : cells + mc ≤ R.cells ∧ slots + ms ≤ R.slots) (hst : (rest.map fun v => v.category).sum ≤ 8) (hl : lv_has ls nL lv) (hnL : nL = M.2.2.1) (d : decode M.2.1 pc = .ok (.invokespecial idx, 3)) (hP : va_P D vwCl (wr ++ [x]) H) (hD : va_D A (wr ++ [x])) (hS : va_S A s.heap H locs)
    (kk : ∀ (w : va_W) (H1 : Heap) (locs1 : List Loc), Fin w → va_P D vwCl (wr ++ w) H1 → va_D A (wr ++ w) → va_S A s.heap H1 locs1 → W p l e R s m args below meth c H1 locs1 (cells + mc) (slots + ms) QM (F0 m (pc + 3) ls rest)) : W p l e R s m args below meth c H locs cells slots QM (F0 m pc ls (As.reverse ++ .ref x.1 :: rest)) := by
  obtain ⟨x1, x2, x3, x4, x5, x6, x7, x8, x9⟩ := id X
  obtain ⟨⟨c1, c2, c3, c4⟩, h2, h3, h4⟩ := hi
  have hx : (wr ++ [x])[wr.length]? = some x := by rw [List.getElem?_append_right (Nat.le_refl _), Nat.sub_self]; rfl
  have hPx : va_P D vwCl [x] H := fun k q hq => by
    have : q = x := List.mem_singleton.mp (List.mem_of_getElem? hq)
    rw [this]; exact hP wr.length x hx
  unfold KI at hM
  rw [h4] at hM c1
  exact k_after X hP hD hS (va_runIN (host := host) (As := As) (rest := rest) (n := n) (own := M.1.cls) (Ts := TB) ⟨x1, x2, x3, x4, x5⟩ hM ⟨va_cnB n x5 (m_good c1) rfl rfl rfl (x6 _ hlk) (x5 _ c2) c3 hR, h3, x5 _ h2⟩ ⟨k_blind, fun U hU hW => ⟨rfl, by rw [hU], by rw [hU]; exact hPx, va_K.moved hW.alike x8, m_N.warm hW x6, va_AO.moved hW.alike x7⟩⟩ rfl hn (by rw [← hnL]; exact hl.1) rfl (lv_room hst) d hc) kk
end
/-- a constructor's contract out of its walk -/
theorem KI_of {M : mM} {mc ms : Nat} {l : Launch} {D : va_G} {cI cS : ClassId} {x : Nat × va_E} {As : List Value} {sz : Nat} {Fin : va_W → Prop} (hy : plainName M.1.cls = true) (hret : M.2.2.2.2 = none) (hnm : M.1.name = "<init>") (hlen : (lg_sl (.ref x.1 :: As)).length ≤ M.2.2.1)
    (h : ∀ (p : Program) (e : Env) (s : State) (m : MethodId) (args : Array Value) (below : List Frame) (meth : Method) (c : Code) (A : Nat → Prop) (QM : State → Prop) (ls : Array Slot), kX M p s m args c D cI cS A → meth.name = "<init>" → va_P D vwCl [x] s.heap → va_D A [x] → lv_has ls M.2.2.1 (lv_args 0 (.ref x.1 :: As)) →
      (∀ (w : va_W) (H : Heap) (locs : List Loc) (ls : Array Slot) (pc : Nat), Fin w → decode M.2.1 pc = .ok (.return_, 1) → va_P D vwCl w H → va_D A w → va_S A s.heap H locs → W p l e (kRm M mc ms) s m args below meth c H locs mc ms QM (F0 m pc ls [])) →
      W p l e (kRm M mc ms) s m args below meth c s.heap [] 0 0 QM (F0 m 0 ls [])) : KI M mc ms l D cI cS x As sz Fin := by
  refine Met.ofW (cc := M.2.1) (maxL := M.2.2.1) (ret := M.2.2.2.2) hy rfl ?_
  intro p e s m args below meth c s₁ B hml hv
  obtain ⟨rfl, hsz, hP, hK, hN, hO⟩ := hv
  have hts := atoms_spec (ws := Cond.code M.1 M.2.1 M.2.2.1 M.2.2.2.2 :: TB) B.pre
  have hown : s.vm.findClass M.1.cls = some m.cls := findClass_of_methodNamed B.named
  have hin : meth.name = "<init>" := (name_of_methodNamed B.named B.method).1.trans hnm
  subst hsz
  have hl := lv_entry (.ref x.1 :: As) (n := M.2.2.1) hlen
  rw [lg_entry_eq]
  have hD : va_D (va_A [x] s.heap.size) [x] := by
    refine ⟨fun i j y z hy hz _ => ?_, fun k q hq => va_A.in hq⟩
    have a := (List.getElem?_eq_some_iff.mp hy).1
    have b := (List.getElem?_eq_some_iff.mp hz).1
    have a : i < 1 := a
    have b : j < 1 := b
    omega
  refine h p e s m _ below meth c (va_A [x] s.heap.size) _ _ ⟨B.exec, B.bytes, hml, hown, fun w hw => hts w (List.mem_cons_of_mem _ hw), hN, hO, hK, fun q hq => Or.inr hq⟩ hin hP hD hl ?_
  intro w H locs ls pc hF d hP1 hD1 hS1
  exact W.vret B.exec B.bytes (B.returns.trans hret) (fun t ht hW => ⟨⟨w, rfl, hF, by rw [ht]; exact hP1, hD1⟩, hS1.F ht⟩) hS1.2.2 d
