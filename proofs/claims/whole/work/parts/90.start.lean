/-! THE START: the law from its entry -/
def ordM : List Nat := [25, 26, 27, 28, 29, 30, 31, 32, 33, 34, 35, 36, 37, 38, 39, 40, 41, 42, 43, 44, 45, 46, 47, 48, 49, 50, 51, 52, 53, 54, 55, 56, 57, 58]
def inM' (k : Nat) : Bool := decide (25 ≤ k) && decide (k ≤ 58)
def adA (L1 L2 : Nat → Nat) : Nat → Nat := fun k => if inM' k = true then L2 k else L1 k
set_option maxRecDepth 20000 in
theorem okO' : ∀ k ∈ ordO, rOk (fun k => !inM' k) k = true := by decide +kernel
theorem okM' : ∀ k ∈ ordM, rOk inM' k = true := by decide +kernel
set_option maxRecDepth 20000 in
theorem all119 : ∀ k, k < 119 → k ∈ ordO ++ ordM := by decide +kernel
set_option maxRecDepth 20000 in
theorem in119 : ∀ k ∈ ordO ++ ordM, k < 119 := by decide +kernel
theorem wA_eq {L1 L2 : Nat → Nat} {cI cS : ClassId} : wOrd (adA L1 L2) cI cS (ordO ++ ordM) = wOrd L1 cI cS ordO ++ wOrd L2 cI cS ordM := by
  have wa : wOrd (adA L1 L2) cI cS (ordO ++ ordM) = wOrd (adA L1 L2) cI cS ordO ++ wOrd (adA L1 L2) cI cS ordM := List.map_append
  have w1 : wOrd (adA L1 L2) cI cS ordO = wOrd L1 cI cS ordO := by
    refine wOrd_c (fun k => !inM' k) (fun k hk => ?_) (fun k hk => rOk_of (okO' k hk)) (fun _ j => ?_)
    · unfold adA
      rw [if_neg (fun q => by rw [q] at hk; cases hk)]
    · unfold inM'
      rw [decide_eq_false (show ¬ 59 + j ≤ 58 by omega), Bool.and_false]
      rfl
  have w2 : wOrd (adA L1 L2) cI cS ordM = wOrd L2 cI cS ordM := by
    refine wOrd_c inM' (fun k hk => ?_) (fun k hk => rOk_of (okM' k hk)) (fun h => absurd h (by decide))
    unfold adA
    rw [if_pos hk]
  rw [wa, w1, w2]
/-- a world by the cells' numbers, in any order, is the small machine's world -/
theorem ws_of {ad : Nat → Nat} {cI cS : ClassId} {D : va_G} {H : Heap} {A : Nat → Prop} (hP : va_P D vwCl (wOrd ad cI cS (ordO ++ ordM)) H) (hD : va_D A (wOrd ad cI cS (ordO ++ ordM))) : va_P D vwCl (m_ws ad cI cS z0) H ∧ m_A ad A := by
  have at1 : ∀ k, k < 119 → ∃ i : Nat, (ordO ++ ordM)[i]? = some k ∧ (wOrd ad cI cS (ordO ++ ordM))[i]? = some (ad k, m_cell ad cI cS z0 k) := by
    intro k hk
    obtain ⟨i, hi⟩ := List.getElem?_of_mem (all119 k hk)
    refine ⟨i, hi, ?_⟩
    unfold wOrd
    rw [List.getElem?_map, hi]
    rfl
  refine ⟨fun k q hq => ?_, fun i j hi hj e => ?_, fun k hk => ?_⟩
  · obtain ⟨hk, rfl⟩ := m_ws_inv hq
    obtain ⟨i, -, h⟩ := at1 k hk
    exact hP i _ h
  · obtain ⟨a, a1, a2⟩ := at1 i hi
    obtain ⟨b, b1, b2⟩ := at1 j hj
    have := hD.1 a b _ _ a2 b2 e
    subst this
    exact Option.some.inj (a1.symm.trans b1)
  · obtain ⟨i, -, h⟩ := at1 k hk
    exact hD.2 i _ h
abbrev M_law : mM := (⟨"PointsToRoundsLaw", "law", "([I)Z"⟩, code, 4, 10, some .boolean)
set_option maxRecDepth 20000 in
theorem wAO : Cond.arrayOver (.object "PointsToRounds$Statement") ∈ tables_1_1 := List.mem_of_getElem? (i := 25) (by decide +kernel)
set_option maxHeartbeats 4000000 in
set_option maxRecDepth 20000 in
theorem whole_start {p : Program} {e : Env} {s : State} {m : MethodId} {below : List Frame} {meth : Method} {c : Code} (l : Launch) {b L : Nat} {xs : Nat → Int32} (hL : L ≤ 4096) (C0 : lw_At p s m meth c b L xs) : W p l e room_1 s m #[Value.ref b] below meth c s.heap [] 0 0 (lw_Z below #[Value.ref b] s) (entryFrame m ([Value.ref b] : List Value).toArray 4) := by
  obtain ⟨hx, hb, hr, hml, hown, hts, hX, hbl, hlocks, hgv⟩ := id C0
  have hT : ∀ w ∈ TB, w.before #[Value.ref b] s = true := fun w hw => hts w (List.mem_filter.mp hw).1
  have ht1 : ∀ w ∈ tables_1, w.before #[Value.ref b] s = true := fun w hw => hts w (List.mem_append_right _ hw)
  have hN : m_N s := fun w hw => va_Nw.of (NW_on w hw) (ht1 w (NW_tb w hw))
  have hO : va_AO "PointsToRounds$Statement" s := va_AO.of (ht1 _ (List.mem_append_left _ wAO))
  -- classes and array classes
  obtain ⟨cO, iO, kO⟩ := u_known (C := RO) (T := TO) (N := 3) (n := 3) hT inO (hT _ wz_O)
  obtain ⟨cP, iP, kP⟩ := u_known (C := RP) (T := TP) (N := 15) (n := 15) hT inP (hT _ wz_P)
  obtain ⟨cS', iS, kS⟩ := u_known (C := RS) (T := TS) (N := 9) (n := 9) hT inS (hT _ wz_S)
  obtain ⟨cT, iT, kT⟩ := u_known (C := RT) (T := TT) (N := 14) (n := 14) hT inT (hT _ wz_T)
  obtain ⟨cG, iG, kG⟩ := u_known (C := RG) (T := TG) (N := 8) (n := 8) hT inG (hT _ wz_G)
  obtain ⟨cM, iM, kM⟩ := u_known (C := RM) (T := TM) (N := 44) (n := 44) hT inM (hT _ wz_M)
  obtain ⟨D, hKc⟩ : ∃ D : va_G, ∀ (k : Nat) (q : vw_C), vwCl[k]? = some q → u_Kn s q.1 q.2.1 q.2.2 (D.1 k) (D.2 k) := by
    refine ⟨(fun k => if k = 0 then cO else if k = 1 then cP else if k = 2 then cS' else if k = 3 then cT else if k = 4 then cG else cM, fun k => if k = 0 then iO else if k = 1 then iP else if k = 2 then iS else if k = 3 then iT else if k = 4 then iG else iM), ?_⟩
    intro k q hq
    match k, hq with
    | 0, hq => cases hq; exact kO
    | 1, hq => cases hq; exact kP
    | 2, hq => cases hq; exact kS
    | 3, hq => cases hq; exact kT
    | 4, hq => cases hq; exact kG
    | 5, hq => cases hq; exact kM
    | k + 6, hq => simp [vwCl] at hq
  obtain ⟨cI, kI, compI, i1, i2, i3⟩ := Cond.arrayClass_spec (hT _ wa_I)
  obtain ⟨compS, cS, kS9, s1, -, s3, s4, s5⟩ := Cond.arrayOver_spec (ht1 _ (List.mem_append_left _ wAO))
  have hK : va_K D vwCl (m_ty cI cS) s := by
    refine ⟨hKc, fun k q hq => ?_⟩
    match k, hq with
    | 0, hq => cases hq; exact ⟨fun n z => ⟨(fun k h => by cases h), kI, i2, compI, i3⟩, i1⟩
    | 1, hq => cases hq; exact ⟨fun n z => ⟨(fun k h => by cases h), kS9, s3, compS, s4⟩, kS9, compS, s3, s4, s1, s5⟩
    | k + 2, hq => simp at hq
  have X : kX M_law p s m #[Value.ref b] c D cI cS (LA s) := ⟨hx, hb, hml, hown, hT, hN, hO, hK, fun q h => h⟩
  have hS : va_S (LA s) s.heap s.heap [] := va_S.rf
  have hP : va_P D vwCl [] s.heap := fun k q h => by simp at h
  have hD : va_D (LA s) [] := ⟨fun i j p q h => by simp at h, fun k q h => by simp at h⟩
  have hl := lv_entry ([.ref b]) (n := 4) (Nat.le_of_ble_eq_true rfl)
  rw [lg_entry_eq]
  generalize (lg_sl ([.ref b]) ++ List.replicate (4 - (lg_sl ([.ref b])).length) Slot.unset).toArray = ls at hl ⊢
  have hl : lv_has ls 4 [(0, .ref b)] := hl
  refine k_new X (ci := 0) (fs := fsO) rfl inO tyO_ok wcl_L_7 wz_O wi_O fd_O (Nat.le_of_ble_eq_true rfl) (Nat.le_of_ble_eq_true rfl) dl_0 hP hD hS (fun h0 H hP hD hS => ?_)
  refine lv_dup hx hb dl_3 rfl ?_
  refine k_callI (As := []) (x := (h0, .inr (0, fsO))) (wr := []) (rest := [.ref h0]) X (kI_O l D cI cS h0 H.size) mc_O wki_L_9 rfl ⟨Nat.le_of_ble_eq_true rfl, Nat.le_of_ble_eq_true rfl⟩ ⟨Nat.le_of_ble_eq_true rfl, Nat.le_of_ble_eq_true rfl⟩ (Nat.le_of_ble_eq_true rfl) hl rfl dl_4 hP hD hS (fun w1 H locs hw hP hD hS => ?_)
  obtain ⟨L1, e10, e1w⟩ := hw
  refine lv_astore_n (lv' := [(1, .ref h0), (0, .ref b)]) hx hb dl_7 rfl hl (by decide) rfl (fun ls hl => ?_)
  have hP : va_P D vwCl w1 H := hP
  have hD : va_D (LA s) w1 := hD
  refine k_new X (ci := 5) (fs := fsM) rfl inM tyM_ok wcl_L_10 wz_M wi_M fd_M (Nat.le_of_ble_eq_true rfl) (Nat.le_of_ble_eq_true rfl) dl_8 hP hD hS (fun h1 H hP hD hS => ?_)
  refine lv_dup hx hb dl_11 rfl ?_
  refine k_callI (As := []) (x := (h1, .inr (5, fsM))) (wr := w1) (rest := [.ref h1]) X (kI_M l D cI cS h1 H.size) mc_M wki_L_12 rfl ⟨Nat.le_of_ble_eq_true rfl, Nat.le_of_ble_eq_true rfl⟩ ⟨Nat.le_of_ble_eq_true rfl, Nat.le_of_ble_eq_true rfl⟩ (Nat.le_of_ble_eq_true rfl) hl rfl dl_12 hP hD hS (fun w2 H locs hw hP hD hS => ?_)
  obtain ⟨L2, e25, e2w⟩ := hw
  have ew := wA_eq (L1 := L1) (L2 := L2) (cI := cI) (cS := cS)
  rw [← e1w] at ew
  have ew : wOrd (adA L1 L2) cI cS (ordO ++ ordM) = w1 ++ w2 := by rw [ew, e2w]; rfl
  rw [← ew] at hP hD
  obtain ⟨hP, hA⟩ := ws_of hP hD
  have a0 : adA L1 L2 0 = h0 := e10
  have a25 : adA L1 L2 25 = h1 := e25
  refine lv_astore_n (lv' := [(2, .ref h1), (1, .ref h0), (0, .ref b)]) hx hb dl_15 rfl hl (by decide) rfl (fun ls hl => ?_)
  refine W.widen (k := 600000) (n := 7302250) (Nat.le_of_ble_eq_true rfl) (Nat.le_of_ble_eq_true rfl) ?_
  refine lv_iconst (v := nI 0) hx hb dl_16 rfl (lv_istore_n (lv' := [(3, .int (nI 0)), (2, .ref h1), (1, .ref h0), (0, .ref b)]) hx hb dl_17 rfl hl (by decide) rfl (fun ls hl => ?_))
  have XL : lX p s m meth c b L xs (adA L1 L2) D cI cS := ⟨hx, hb, hml, hown, hT, hN, hK, hA, hX, hbl, hlocks, hr⟩
  exact lw_loop XL hL (L + 1) 0 (by omega) (by omega) z0 H locs ls (RR_0 (fun _ _ _ => rfl)) hP hS (by show lv_has ls 4 [(3, .int (nI 0)), (2, .ref (adA L1 L2 25)), (1, .ref (adA L1 L2 0)), (0, .ref b)]; rw [a0, a25]; exact hl)
