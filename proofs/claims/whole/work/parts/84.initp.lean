/-! CONSTRUCTOR of Program: arrays, and a loop that makes 60 statements -/
abbrev sgE : va_E := .inr (4, fsG)
def plG (sq : Nat → Nat) (i : Nat) : va_W := (List.range i).map (fun j => (sq j, sgE))
def nuF (sq : Nat → Nat) (i : Nat) : Nat → Option Nat := fun j => if j < i then some (sq j) else none
abbrev nuE (cS : ClassId) (f : Nat → Option Nat) : va_E := .inl (cS, 60, .inr (.inr (.inr (.inr f))))
theorem plG_s {sq : Nat → Nat} {i q : Nat} : plG sq i ++ [(q, sgE)] = plG (fun j => if j = i then q else sq j) (i + 1) := by
  unfold plG
  rw [List.range_succ, List.map_append]
  congr 1
  · apply List.map_congr_left
    intro j hj
    have := List.mem_range.mp hj
    show (sq j, sgE) = ((if j = i then q else sq j), sgE)
    rw [if_neg (by omega)]
  · show [(q, sgE)] = [((if i = i then q else sq i), sgE)]
    rw [if_pos rfl]
theorem nuF_s {sq : Nat → Nat} {i q : Nat} : va_up (nuF sq i) i (some q) = nuF (fun j => if j = i then q else sq j) (i + 1) := by
  funext j
  show va_up (nuF sq i) i (some q) j = if j < i + 1 then some (if j = i then q else sq j) else none
  by_cases e : j = i
  · subst e
    rw [va_up_self, if_pos (by omega), if_pos rfl]
  · rw [va_up_ne _ _ e, if_neg e]
    show (if j < i then some (sq j) else none) = _
    by_cases h : j < i
    · rw [if_pos h, if_pos (by omega)]
    · rw [if_neg h, if_neg (by omega)]
theorem plG_at {sq : Nat → Nat} {i q : Nat} : (plG sq i ++ [(q, sgE)])[i]? = some (q, sgE) := by
  have hl : (plG sq i).length = i := by unfold plG; rw [List.length_map, List.length_range]
  rw [List.getElem?_append_right (by omega), hl, Nat.sub_self]
  rfl
set_option maxRecDepth 20000 in
theorem l_P {p : Program} {l : Launch} {e : Env} {s : State} {m : MethodId} {args : Array Value} {below : List Frame} {meth : Method} {c : Code} {D : va_G} {cI cS : ClassId} {A : Nat → Prop} {QM : State → Prop} (X : kX M_P_init p s m args c D cI cS A) {h0 a24 : Nat} {fs : List Value} (h12 : fs[12]? = some (.ref a24)) (c4 c5 c6 c7 c8 c9 c10 c11 c12 : Nat × va_E)
    (fin : ∀ (sq : Nat → Nat) (H : Heap) (locs : List Loc) (ls : Array Slot), va_P D vwCl ((h0, .inr (1, fs)) :: c4 :: c5 :: c6 :: c7 :: c8 :: c9 :: c10 :: (a24, nuE cS (nuF sq 60)) :: c11 :: c12 :: plG sq 60) H → va_D A ((h0, .inr (1, fs)) :: c4 :: c5 :: c6 :: c7 :: c8 :: c9 :: c10 :: (a24, nuE cS (nuF sq 60)) :: c11 :: c12 :: plG sq 60) → va_S A s.heap H locs → W p l e (kRm M_P_init 70 1266) s m args below meth c H locs 70 1266 QM (F0 m 113 ls [])) :
    ∀ (d i : Nat), 60 - i = d → i ≤ 60 → ∀ (sq : Nat → Nat) (H : Heap) (locs : List Loc) (ls : Array Slot), va_P D vwCl ((h0, .inr (1, fs)) :: c4 :: c5 :: c6 :: c7 :: c8 :: c9 :: c10 :: (a24, nuE cS (nuF sq i)) :: c11 :: c12 :: plG sq i) H → va_D A ((h0, .inr (1, fs)) :: c4 :: c5 :: c6 :: c7 :: c8 :: c9 :: c10 :: (a24, nuE cS (nuF sq i)) :: c11 :: c12 :: plG sq i) → va_S A s.heap H locs → lv_has ls 2 [(1, .int (nI i)), (0, .ref h0)] → W p l e (kRm M_P_init 70 1266) s m args below meth c H locs (10 + i) (786 + 8 * i) QM (F0 m 88 ls []) := by
  intro d
  induction d with
  | zero =>
    intro i h1 h2 sq H locs ls hP hD hS hl
    have : i = 60 := by omega
    subst this
    exact lv_iload_n X.1 X.2.1 di_P_88 rfl (lv_at hl 0 rfl) (lv_bipush (v := nI 60) X.1 X.2.1 di_P_89 rfl (lv_icmp_ge (tgt := 113) X.1 X.2.1 di_P_91 (by decide) (fun _ => fin sq H locs ls hP hD hS) (fun q => absurd (nI_le (Nat.le_refl _) (by decide)) q)))
  | succ d ih =>
    intro i h1 h2 sq H locs ls hP hD hS hl
    refine lv_iload_n X.1 X.2.1 di_P_88 rfl (lv_at hl 0 rfl) (lv_bipush (v := nI 60) X.1 X.2.1 di_P_89 rfl (lv_icmp_ge (tgt := 113) X.1 X.2.1 di_P_91 (by decide) (fun q => absurd q (nI_ge (by omega) (by decide))) (fun _ => ?_)))
    refine lv_aload_n X.1 X.2.1 di_P_94 rfl (lv_at hl 1 rfl) ?_
    obtain ⟨C, T, N, ty0, f1, f2, f3, f4, -⟩ := mff_P_35
    refine va_get (D := D) (v := .ref a24) (own := "PointsToRounds$Program") X.1 X.2.1 X.2.2.2.2.1 f2 X.2.2.2.1 X.2.2.2.2.2.2.2.1 hP 0 rfl f1 12 f3 (X.2.2.2.2.1 _ f4) (fun _ h => h) h12 di_P_95 ?_
    refine lv_iload_n X.1 X.2.1 di_P_98 rfl (lv_at hl 0 rfl) ?_
    refine k_new X (ci := 4) (fs := fsG) rfl inG tyG_ok wcl_P_33 wz_G wi_G fd_G (show 10 + i + 1 ≤ 70 by omega) (show 786 + 8 * i + 8 ≤ 1266 by omega) di_P_99 hP hD hS (fun q H1 hP hD hS => ?_)
    refine lv_dup X.1 X.2.1 di_P_102 rfl ?_
    refine k_callN (As := []) (x := (q, sgE)) (rest := [.ref q, .int (nI i), .ref a24]) X (kI_G l D cI cS q H1.size) mc_G wki_P_45 rfl ⟨Nat.le_of_ble_eq_true rfl, Nat.le_of_ble_eq_true rfl⟩ ⟨show 10 + i + 1 + 0 ≤ 70 by omega, show 786 + 8 * i + 8 + 0 ≤ 1266 by omega⟩ (Nat.le_of_ble_eq_true rfl) hl rfl di_P_103 hP hD hS (fun w H2 locs2 hw hP hD hS => ?_)
    subst hw
    have hP : va_P D vwCl ((h0, .inr (1, fs)) :: c4 :: c5 :: c6 :: c7 :: c8 :: c9 :: c10 :: (a24, nuE cS (nuF sq i)) :: c11 :: c12 :: (plG sq i ++ [(q, sgE)])) H2 := hP
    have hD : va_D A ((h0, .inr (1, fs)) :: c4 :: c5 :: c6 :: c7 :: c8 :: c9 :: c10 :: (a24, nuE cS (nuF sq i)) :: c11 :: c12 :: (plG sq i ++ [(q, sgE)])) := hD
    refine va_astq (vs := fsG) (v := q) X.1 X.2.1 X.2.2.2.2.2.2.2.1 hP hD hS 8 1 (11 + i) 4 rfl rfl ?_ rfl (vp_in_nI (by omega) (by decide)) di_P_106 (fun H3 locs3 hP hD hS => ?_)
    · rw [show 11 + i = i + 11 by omega]
      exact plG_at
    · rw [cl_nI (by omega)] at hP hD
      have hP : va_P D vwCl ((h0, .inr (1, fs)) :: c4 :: c5 :: c6 :: c7 :: c8 :: c9 :: c10 :: (a24, nuE cS (va_up (nuF sq i) i (some q))) :: c11 :: c12 :: (plG sq i ++ [(q, sgE)])) H3 := hP
      have hD : va_D A ((h0, .inr (1, fs)) :: c4 :: c5 :: c6 :: c7 :: c8 :: c9 :: c10 :: (a24, nuE cS (va_up (nuF sq i) i (some q))) :: c11 :: c12 :: (plG sq i ++ [(q, sgE)])) := hD
      rw [nuF_s, plG_s] at hP hD
      refine lv_iinc (k := 0) (v := nI (i + 1)) (lv' := [(1, .int (nI (i + 1))), (0, .ref h0)]) X.1 X.2.1 di_P_107 hl rfl (nI_1 i) (by decide) rfl (fun ls' hl' => ?_)
      have key := ih (i + 1) (by omega) (by omega) (fun j => if j = i then q else sq j) H3 locs3 ls' hP hD hS hl'
      exact lv_goto (tgt := 88) X.1 X.2.1 di_P_110 (by decide) key
/-- the cells of Program by their numbers -/
def ordP : List Nat := [1, 4, 5, 6, 7, 8, 9, 10, 24, 11, 12] ++ (List.range 60).map (fun j => 59 + j)
def adP (h0 q0 q1 q2 q3 q4 q5 q6 a24 q7 q8 : Nat) (sq : Nat → Nat) : Nat → Nat := fun k => if k < 59 then (if k = 1 then h0 else if k = 24 then a24 else ([q0, q1, q2, q3, q4, q5, q6, q7, q8] : List Nat).getD (k - 4) 0) else sq (k - 59)
theorem adP_s {h0 q0 q1 q2 q3 q4 q5 q6 a24 q7 q8 : Nat} {sq : Nat → Nat} {j : Nat} : adP h0 q0 q1 q2 q3 q4 q5 q6 a24 q7 q8 sq (59 + j) = sq j := by
  unfold adP
  rw [if_neg (by omega)]
  congr 1
  omega
theorem m_cell_st {ad : Nat → Nat} {cI cS : ClassId} {j : Nat} (hj : j < 60) : m_cell ad cI cS z0 (59 + j) = sgE := by
  have hc : o_ci (59 + j) = some 4 := by
    unfold o_ci
    rw [if_neg (by omega), if_pos (by omega)]
  have hn : o_n (59 + j) = 8 := by
    unfold o_n
    rw [if_neg (by omega)]
  have hr : ∀ i, o_r (59 + j) i = none := by
    intro i
    have := o_r_st j i
    rw [m_cl_st, Nat.mod_eq_of_lt hj] at this
    exact this
  have hf : m_fv ad z0 (59 + j) = fun _ => .int 0 := by
    funext i
    unfold m_fv
    rw [hr]
    rfl
  obtain ⟨-, g⟩ := m_cell_o (ad := ad) (cI := cI) (cS := cS) (σ := z0) hc
  rw [g, hn, hf]
  rfl
set_option maxRecDepth 20000 in
theorem wP_eq {h0 q0 q1 q2 q3 q4 q5 q6 a24 q7 q8 : Nat} {sq : Nat → Nat} {cI cS : ClassId} : wOrd (adP h0 q0 q1 q2 q3 q4 q5 q6 a24 q7 q8 sq) cI cS ordP = (h0, .inr (1, [.int 0, .int 0, .int 0, .int 0, .int 0, .ref q0, .ref q1, .ref q2, .ref q3, .ref q4, .ref q5, .ref q6, .ref a24, .ref q7, .ref q8])) :: (q0, .inl (cI, 8, .inl (fun _ => 0))) :: (q1, .inl (cI, 8, .inl (fun _ => 0))) :: (q2, .inl (cI, 8, .inl (fun _ => 0))) :: (q3, .inl (cI, 32, .inl (fun _ => 0))) :: (q4, .inl (cI, 32, .inl (fun _ => 0))) :: (q5, .inl (cI, 8, .inl (fun _ => 0))) :: (q6, .inl (cI, 20, .inl (fun _ => 0))) :: (a24, nuE cS (fun j => some (sq j))) :: (q7, .inl (cI, 10, .inl (fun _ => 0))) :: (q8, .inl (cI, 600, .inl (fun _ => 0))) :: plG sq 60 := by
  unfold wOrd ordP
  rw [List.map_append, List.map_map]
  have e1 : (List.range 60).map ((fun k => (adP h0 q0 q1 q2 q3 q4 q5 q6 a24 q7 q8 sq k, m_cell (adP h0 q0 q1 q2 q3 q4 q5 q6 a24 q7 q8 sq) cI cS z0 k)) ∘ (fun j => 59 + j)) = plG sq 60 := by
    unfold plG
    apply List.map_congr_left
    intro j hj
    have := List.mem_range.mp hj
    show (adP h0 q0 q1 q2 q3 q4 q5 q6 a24 q7 q8 sq (59 + j), m_cell _ cI cS z0 (59 + j)) = _
    rw [adP_s, m_cell_st this]
  have e2 : (fun j => some (adP h0 q0 q1 q2 q3 q4 q5 q6 a24 q7 q8 sq (59 + j))) = fun j => some (sq j) := by
    funext j
    rw [adP_s]
  have e3 : m_cell (adP h0 q0 q1 q2 q3 q4 q5 q6 a24 q7 q8 sq) cI cS z0 24 = nuE cS (fun j => some (sq j)) := by
    rw [← e2]
    rfl
  rw [e1]
  show (h0, m_cell (adP h0 q0 q1 q2 q3 q4 q5 q6 a24 q7 q8 sq) cI cS z0 1) :: (q0, m_cell (adP h0 q0 q1 q2 q3 q4 q5 q6 a24 q7 q8 sq) cI cS z0 4) :: (q1, m_cell (adP h0 q0 q1 q2 q3 q4 q5 q6 a24 q7 q8 sq) cI cS z0 5) :: (q2, m_cell (adP h0 q0 q1 q2 q3 q4 q5 q6 a24 q7 q8 sq) cI cS z0 6) :: (q3, m_cell (adP h0 q0 q1 q2 q3 q4 q5 q6 a24 q7 q8 sq) cI cS z0 7) :: (q4, m_cell (adP h0 q0 q1 q2 q3 q4 q5 q6 a24 q7 q8 sq) cI cS z0 8) :: (q5, m_cell (adP h0 q0 q1 q2 q3 q4 q5 q6 a24 q7 q8 sq) cI cS z0 9) :: (q6, m_cell (adP h0 q0 q1 q2 q3 q4 q5 q6 a24 q7 q8 sq) cI cS z0 10) :: (a24, m_cell (adP h0 q0 q1 q2 q3 q4 q5 q6 a24 q7 q8 sq) cI cS z0 24) :: (q7, m_cell (adP h0 q0 q1 q2 q3 q4 q5 q6 a24 q7 q8 sq) cI cS z0 11) :: (q8, m_cell (adP h0 q0 q1 q2 q3 q4 q5 q6 a24 q7 q8 sq) cI cS z0 12) :: plG sq 60 = _
  rw [e3]
  rfl
theorem arrV_c {cA : ClassId} {n : Nat} {f g : Nat → Value} (h : ∀ j, j < n → f j = g j) : arrV cA n f = arrV cA n g := by
  unfold arrV
  congr 2
  funext j
  exact h j.val j.isLt
set_option maxRecDepth 20000 in
set_option maxHeartbeats 4000000 in
theorem kI_P (l : Launch) (D : va_G) (cI cS : ClassId) (h0 : Nat) (sz : Nat) : KI M_P_init 70 1266 l D cI cS (h0, .inr (1, fsP)) [] sz (fun w => ∃ L : Nat → Nat, L 1 = h0 ∧ w = wOrd L cI cS ordP) := by
  refine KI_of (by decide) rfl rfl (Nat.le_of_ble_eq_true rfl) ?_
  intro p e s m args below meth c A QM ls X hin hP hD hl fin
  have hl : lv_has ls 2 [(0, .ref h0)] := hl
  have hS : va_S A s.heap s.heap [] := va_S.rf
  refine lv_aload_n X.1 X.2.1 di_P_0 rfl (lv_at hl 0 rfl) ?_
  refine k_obj X hl rfl wki_P_3 wo_i wo_c (by decide) (by decide) di_P_1 ?_
  refine k_arrb X hin (n := 8) hl mff_P_9 (by decide) (Nat.le_of_ble_eq_true rfl) (Nat.le_of_ble_eq_true rfl) (Nat.le_of_ble_eq_true rfl) wa_I di_P_4 di_P_5 rfl di_P_7 di_P_9 hP hD hS (fun q0 H locs hP hD hS => ?_)
  refine k_arrb X hin (n := 8) hl mff_P_15 (by decide) (Nat.le_of_ble_eq_true rfl) (Nat.le_of_ble_eq_true rfl) (Nat.le_of_ble_eq_true rfl) wa_I di_P_12 di_P_13 rfl di_P_15 di_P_17 hP hD hS (fun q1 H locs hP hD hS => ?_)
  refine k_arrb X hin (n := 8) hl mff_P_18 (by decide) (Nat.le_of_ble_eq_true rfl) (Nat.le_of_ble_eq_true rfl) (Nat.le_of_ble_eq_true rfl) wa_I di_P_20 di_P_21 rfl di_P_23 di_P_25 hP hD hS (fun q2 H locs hP hD hS => ?_)
  refine k_arrb X hin (n := 32) hl mff_P_21 (by decide) (Nat.le_of_ble_eq_true rfl) (Nat.le_of_ble_eq_true rfl) (Nat.le_of_ble_eq_true rfl) wa_I di_P_28 di_P_29 rfl di_P_31 di_P_33 hP hD hS (fun q3 H locs hP hD hS => ?_)
  refine k_arrb X hin (n := 32) hl mff_P_24 (by decide) (Nat.le_of_ble_eq_true rfl) (Nat.le_of_ble_eq_true rfl) (Nat.le_of_ble_eq_true rfl) wa_I di_P_36 di_P_37 rfl di_P_39 di_P_41 hP hD hS (fun q4 H locs hP hD hS => ?_)
  refine k_arrb X hin (n := 8) hl mff_P_27 (by decide) (Nat.le_of_ble_eq_true rfl) (Nat.le_of_ble_eq_true rfl) (Nat.le_of_ble_eq_true rfl) wa_I di_P_44 di_P_45 rfl di_P_47 di_P_49 hP hD hS (fun q5 H locs hP hD hS => ?_)
  refine k_arrb X hin (n := 20) hl mff_P_30 (by decide) (Nat.le_of_ble_eq_true rfl) (Nat.le_of_ble_eq_true rfl) (Nat.le_of_ble_eq_true rfl) wa_I di_P_52 di_P_53 rfl di_P_55 di_P_57 hP hD hS (fun q6 H locs hP hD hS => ?_)
  refine lv_aload_n X.1 X.2.1 di_P_60 rfl (lv_at hl 0 rfl) (lv_bipush (v := nI 60) X.1 X.2.1 di_P_61 rfl ?_)
  refine k_newq X (n := 60) (by decide) (Nat.le_of_ble_eq_true rfl) (Nat.le_of_ble_eq_true rfl) wcl_P_33 di_P_63 hP hD hS (fun a24 H hP hD hS => ?_)
  refine k_put X hin mff_P_35 rfl rfl (Nat.le_of_ble_eq_true rfl) di_P_66 hP hD hS (fun H locs hP hD hS => ?_)
  refine k_arrb X hin (n := 10) hl mff_P_39 (by decide) (Nat.le_of_ble_eq_true rfl) (Nat.le_of_ble_eq_true rfl) (Nat.le_of_ble_eq_true rfl) wa_I di_P_69 di_P_70 rfl di_P_72 di_P_74 hP hD hS (fun q7 H locs hP hD hS => ?_)
  refine k_arrs X hin (n := 600) hl mff_P_42 (by decide) (Nat.le_of_ble_eq_true rfl) (Nat.le_of_ble_eq_true rfl) (Nat.le_of_ble_eq_true rfl) wa_I di_P_77 di_P_78 rfl di_P_81 di_P_83 hP hD hS (fun q8 H locs hP hD hS => ?_)
  refine lv_iconst (v := nI 0) X.1 X.2.1 di_P_86 rfl (lv_istore_n (lv' := [(1, .int (nI 0)), (0, .ref h0)]) X.1 X.2.1 di_P_87 rfl hl (by decide) rfl (fun ls hl => ?_))
  have n0 : nuF (fun _ => 0) 0 = fun _ => none := by
    funext j
    unfold nuF
    rw [if_neg (by omega)]
  refine l_P X (h0 := h0) (a24 := a24) (fs := [.int 0, .int 0, .int 0, .int 0, .int 0, .ref q0, .ref q1, .ref q2, .ref q3, .ref q4, .ref q5, .ref q6, .ref a24, .ref q7, .ref q8]) rfl (q0, .inl (cI, 8, .inl (fun _ => 0))) (q1, .inl (cI, 8, .inl (fun _ => 0))) (q2, .inl (cI, 8, .inl (fun _ => 0))) (q3, .inl (cI, 32, .inl (fun _ => 0))) (q4, .inl (cI, 32, .inl (fun _ => 0))) (q5, .inl (cI, 8, .inl (fun _ => 0))) (q6, .inl (cI, 20, .inl (fun _ => 0))) (q7, .inl (cI, 10, .inl (fun _ => 0))) (q8, .inl (cI, 600, .inl (fun _ => 0))) ?_ 60 0 rfl (by decide) (fun _ => 0) H locs ls (by rw [n0]; exact hP) (by rw [n0]; exact hD) hS hl
  intro sq H locs ls hP hD hS
  have h8 : H[a24]? = some (vp_cell cS (60, .inr (.inr (.inr (.inr (nuF sq 60)))))) := hP 8 _ rfl
  have hat : va_at D vwCl (a24, nuE cS (fun j => some (sq j))) H := by
    show H[a24]? = some (vp_cell cS (60, .inr (.inr (.inr (.inr (fun j => some (sq j)))))))
    rw [h8, vp_cell_q, vp_cell_q]
    have ea : arrV cS 60 (fun j => va_rf (nuF sq 60 j)) = arrV cS 60 (fun j => va_rf (some (sq j))) := by
      apply arrV_c
      intro j hj
      unfold nuF
      rw [if_pos hj]
    exact congrArg some ea
  have hP2 := hP.set hD (p := 8) (a := a24) (e := nuE cS (fun j => some (sq j))) rfl hat (fun _ _ => rfl)
  have hD2 := hD.set (p := 8) (a := a24) (e := nuE cS (fun j => some (sq j))) rfl
  refine fin _ H locs ls 113 ⟨adP h0 q0 q1 q2 q3 q4 q5 q6 a24 q7 q8 sq, rfl, rfl⟩ di_P_113 ?_ ?_ hS
  · rw [wP_eq]; exact hP2
  · rw [wP_eq]; exact hD2
