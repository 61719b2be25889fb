/-! THE LAW: what stands around its walk; a load out of the script; a call -/
abbrev LA (s : State) : Nat → Prop := fun q => s.heap.size ≤ q
def lX (p : Program) (s : State) (m : MethodId) (meth : Method) (c : Code) (b L : Nat) (xs : Nat → Int32) (ad : Nat → Nat) (D : va_G) (cI cS : ClassId) : Prop :=
  p.tables.exec = Jvm.exec ∧ c.code = code ∧ c.maxLocals = 4 ∧ s.vm.findClass R_law = some m.cls ∧ (∀ w ∈ TB, w.before #[Value.ref b] s = true) ∧ m_N s ∧ va_K D vwCl (m_ty cI cS) s ∧ m_A ad (LA s) ∧ va_X b L xs s s.heap ∧ b < s.heap.size ∧ meth.locks = false ∧ meth.sig.returnType = ret
abbrev lL (b : Nat) (ad : Nat → Nat) (j : Nat) : List (Nat × Value) := [(3, .int (nI (8 * j))), (2, .ref (ad 25)), (1, .ref (ad 0)), (0, .ref b)]
section
variable {p : Program} {l : Launch} {e : Env} {s : State} {m : MethodId} {below : List Frame} {meth : Method} {c : Code} {b L : Nat} {xs : Nat → Int32} {ad : Nat → Nat} {D : va_G} {cI cS : ClassId} {H : Heap} {locs : List Loc} {ls : Array Slot} {j : Nat} {σ : mS} {cells slots : Nat} {QM : State → Prop}
theorem lw_ld0 (X : lX p s m meth c b L xs ad D cI cS) {pc k : Nat} {rest : List Value} (hj : 8 * j + k < L) (hL : L ≤ 4096) (hS : va_S (LA s) s.heap H locs) (d3 : decode code pc = .ok (.iadd, 1)) (d4 : decode code (pc + 1) = .ok (.iaload, 1))
    (kk : W p l e room_1 s m #[Value.ref b] below meth c H locs cells slots QM (F0 m (pc + 2) ls (.int (xs (8 * j + k)) :: rest))) : W p l e room_1 s m #[Value.ref b] below meth c H locs cells slots QM (F0 m pc ls (.int (nI k) :: .int (nI (8 * j)) :: .ref b :: rest)) := by
  refine lv_iadd X.1 X.2.1 d3 ?_
  rw [nI_add]
  refine va_sld X.1 X.2.1 X.2.2.2.2.2.2.2.2.1 X.2.2.2.2.2.2.2.2.2.1 (Nat.not_le.mpr X.2.2.2.2.2.2.2.2.2.1) hS (vp_in_nI hj (by omega)) d4 ?_
  rw [cl_nI (by omega)]
  exact kk
theorem lw_ld (X : lX p s m meth c b L xs ad D cI cS) {pc k : Nat} {n : Int} {rest : List Value} (hj : 8 * j + k < L) (hL : L ≤ 4096) (d0 : decode code pc = .ok (.aload_n 0, 1)) (d1 : decode code (pc + 1) = .ok (.iload_n 3, 1)) (d2 : decode code (pc + 2) = .ok (.iconst n, 1)) (hv : Int32.ofInt n = nI k) (d3 : decode code (pc + 3) = .ok (.iadd, 1)) (d4 : decode code (pc + 4) = .ok (.iaload, 1)) (hl : lv_has ls 4 (lL b ad j)) (hS : va_S (LA s) s.heap H locs)
    (kk : W p l e room_1 s m #[Value.ref b] below meth c H locs cells slots QM (F0 m (pc + 5) ls (.int (xs (8 * j + k)) :: rest))) : W p l e room_1 s m #[Value.ref b] below meth c H locs cells slots QM (F0 m pc ls rest) :=
  lv_aload_n X.1 X.2.1 d0 rfl (lv_at hl 3 rfl) (lv_iload_n X.1 X.2.1 d1 rfl (lv_at hl 0 rfl) (lv_iconst X.1 X.2.1 d2 hv (lw_ld0 X hj hL hS d3 d4 kk)))
theorem lw_ldb (X : lX p s m meth c b L xs ad D cI cS) {pc k : Nat} {n : Int} {rest : List Value} (hj : 8 * j + k < L) (hL : L ≤ 4096) (d0 : decode code pc = .ok (.aload_n 0, 1)) (d1 : decode code (pc + 1) = .ok (.iload_n 3, 1)) (d2 : decode code (pc + 2) = .ok (.bipush n, 2)) (hv : (Int8.ofInt n).toInt32 = nI k) (d3 : decode code (pc + 4) = .ok (.iadd, 1)) (d4 : decode code (pc + 5) = .ok (.iaload, 1)) (hl : lv_has ls 4 (lL b ad j)) (hS : va_S (LA s) s.heap H locs)
    (kk : W p l e room_1 s m #[Value.ref b] below meth c H locs cells slots QM (F0 m (pc + 6) ls (.int (xs (8 * j + k)) :: rest))) : W p l e room_1 s m #[Value.ref b] below meth c H locs cells slots QM (F0 m pc ls rest) :=
  lv_aload_n X.1 X.2.1 d0 rfl (lv_at hl 3 rfl) (lv_iload_n X.1 X.2.1 d1 rfl (lv_at hl 0 rfl) (lv_bipush X.1 X.2.1 d2 hv (lw_ld0 X hj hL hS d3 d4 kk)))
/-- a call of class or model -/
theorem lw_call (X : lX p s m meth c b L xs ad D cI cS) {pc index n ci : Nat} {M' : mM} {Q' : Option mV → mS → Prop} {q : Nat × Nat} {as : List mV} {st : List Value} {lv : List (Nat × Value)} (hM : MU M' (.inr q :: as) σ Q') (hi : m_MI M' n ci) (hlk : Cond.methodLink "PointsToRoundsLaw" index M'.1 ∈ TB) (hc : o_ci (m_cl q) = some ci) (hn : as.length = n) (hf : M'.2.2.2.1 + 1 ≤ 10) (hf2 : 8 + (M'.2.2.1 + 11) + mK * M'.2.2.2.1 ≤ 384) (d : decode code pc = .ok (.invokevirtual index, 3)) (hP : va_P D vwCl (m_ws ad cI cS σ) H) (hS : va_S (LA s) s.heap H locs) (hl : lv_has ls 4 lv) (hst : (st.map fun v => v.category).sum ≤ 8)
    (kk : ∀ (r : Option mV) (τ : mS) (H1 : Heap) (locs1 : List Loc), Q' r τ → va_P D vwCl (m_ws ad cI cS τ) H1 → va_S (LA s) s.heap H1 locs1 → W p l e room_1 s m #[Value.ref b] below meth c H1 locs1 600000 7302250 QM (F0 m (pc + 3) ls ((r.map (m_v ad)).toList ++ st))) :
    W p l e room_1 s m #[Value.ref b] below meth c H locs 600000 7302250 QM (F0 m pc ls ((as.map (m_v ad)).reverse ++ .ref (ad (m_cl q)) :: st)) := by
  obtain ⟨x1, x2, x3, x4, x5, x6, x7, x8, -⟩ := id X
  obtain ⟨c1, c2, c3, c4⟩ := hi.1
  obtain ⟨T, N, hcl⟩ := hi.2.2.2
  obtain ⟨g1, g2⟩ := m_cell_o (ad := ad) (cI := cI) (cS := cS) (σ := σ) hc
  have hr := va_runV (locs := locs) (cells := 600000) (slots := 7302250) (p := p) (l := l) (e := e) (R := room_1) (s := s) (m := m) (args := #[Value.ref b]) (below := below) (meth := meth) (c := c) (H := H) (g := F0 m pc ls ((as.map (m_v ad)).reverse ++ .ref (ad (m_cl q)) :: st)) (C := M'.1.cls) (As := as.map (m_v ad)) (rest := st) (n := n) (own := R_law) (Ts := TB) (index := index) (cc := code) (nL := 4) ⟨x1, x2, x3, x4, x5⟩ (hM l ad D cI cS H.size) ⟨callB_of n x5 (m_good c1) rfl rfl rfl (x5 _ c2) (x5 _ hlk) c3 ⟨hf, hf2⟩, x5 _ hi.2.1, x5 _ hi.2.2.1⟩ ⟨m_blind, va_recv x7 hP hcl (q0 := m_cl q) (by rw [m_ws_at g1, g2]), fun U hU hW => ⟨rfl, by rw [hU], by rw [hU]; exact hP, va_K.moved hW.alike x7, m_N.warm hW x6, ⟨x8.1, fun _ _ => trivial⟩⟩⟩ rfl (by simpa using hn) hl.1 rfl (lv_room hst) d ⟨Nat.le_refl _, Nat.le_refl _⟩
  have hfree : ∀ q, va_A (m_ws ad cI cS σ) H.size q → LA s q := by
    intro q hq
    rcases m_A_iff.mp hq with ⟨k, hk, rfl⟩ | h
    · exact x8.2 k hk
    · exact Nat.le_trans hS.1 h
  intro T hT X0
  obtain ⟨v, st₀, t, T', L', h0, X', hL', e1, e2, ⟨r, τ, hv, hq, hP1, hz, hk⟩, stp⟩ := hr T hT X0
  cases hv
  rw [h0] at hz hk
  have hS1 : va_S (LA s) s.heap T'.heap (locs ++ L') := ⟨Nat.le_trans hS.1 (by rw [e1]; exact hz), fun q h1 h2 => by rw [e1, hk q (Nat.lt_of_lt_of_le h1 hS.1) (fun z => h2 (hfree q z))]; exact hS.2.1 q h1 h2, fun q hq => by
    rcases List.mem_append.mp hq with h | h
    · exact hS.2.2 q h
    · exact hfree _ (hL' q h)⟩
  obtain ⟨t2, a1, b1⟩ := kk r τ T'.heap (locs ++ L') hq (by rw [e1]; exact hP1) hS1 T' rfl X'
  exact ⟨t2, stp t2 a1, b1⟩
end
