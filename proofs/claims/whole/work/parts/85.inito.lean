/-! CONSTRUCTOR of the class; all cells by their numbers -/
theorem o_r_60 {k j r : Nat} (h : o_r k j = some r) : j < 60 := by
  rcases Nat.lt_or_ge j 60 with q | q
  · exact q
  · exfalso
    unfold o_r at h
    have hl : (oR.getD k []).length ≤ 60 := by
      rw [List.getD_eq_getElem?_getD]
      cases e : oR[k]? with
      | none => exact Nat.zero_le _
      | some l => exact (by decide +kernel : ∀ l ∈ oR, l.length ≤ 60) l (List.mem_of_getElem? e)
    rw [List.getD_eq_getElem?_getD, List.getElem?_eq_none (by omega)] at h
    cases h
theorem m_cell_c {ad ad' : Nat → Nat} {cI cS : ClassId} {σ : mS} {k : Nat} (h1 : ∀ j r, o_r k j = some r → ad r = ad' r) (h2 : k = 24 → ∀ j, ad (59 + j) = ad' (59 + j)) : m_cell ad cI cS σ k = m_cell ad' cI cS σ k := by
  have ef : m_fv ad σ k = m_fv ad' σ k := by
    funext j
    unfold m_fv
    cases e : o_r k j with
    | none => rfl
    | some r => show Value.ref (ad r) = Value.ref (ad' r); rw [h1 j r e]
  unfold m_cell
  rw [ef]
  by_cases e : k = 24
  · have eg : (fun j => some (ad (59 + j))) = fun j => some (ad' (59 + j)) := by
      funext j
      rw [h2 e j]
    rw [eg]
  · rw [if_neg e, if_neg e]
theorem wOrd_c {ad ad' : Nat → Nat} {cI cS : ClassId} {ord : List Nat} (B : Nat → Bool) (hB : ∀ k, B k = true → ad k = ad' k) (ho : ∀ k ∈ ord, B k = true ∧ ∀ j, j < 60 → ∀ r, o_r k j = some r → B r = true) (h24 : 24 ∈ ord → ∀ j, B (59 + j) = true) : wOrd ad cI cS ord = wOrd ad' cI cS ord := by
  unfold wOrd
  apply List.map_congr_left
  intro k hk
  obtain ⟨a, b⟩ := ho k hk
  rw [hB k a, m_cell_c (fun j r hr => hB r (b j (o_r_60 hr) r hr)) (fun e j => hB _ (h24 (by rw [← e]; exact hk) j))]
def inPp (k : Nat) : Bool := decide (k = 1) || (decide (4 ≤ k) && decide (k ≤ 12)) || decide (k = 24) || decide (59 ≤ k)
def inSs (k : Nat) : Bool := decide (k = 2) || (decide (13 ≤ k) && decide (k ≤ 15))
def inTt (k : Nat) : Bool := decide (k = 3) || (decide (16 ≤ k) && decide (k ≤ 23))
def adO (h0 : Nat) (L1 L2 L3 : Nat → Nat) : Nat → Nat := fun k => if k = 0 then h0 else if inSs k = true then L2 k else if inTt k = true then L3 k else L1 k
def rOk (B : Nat → Bool) (k : Nat) : Bool := B k && (List.range 60).all (fun j => match o_r k j with | some r => B r | none => true)
theorem rOk_of {B : Nat → Bool} {k : Nat} (h : rOk B k = true) : B k = true ∧ ∀ j, j < 60 → ∀ r, o_r k j = some r → B r = true := by
  unfold rOk at h
  rw [Bool.and_eq_true, List.all_eq_true] at h
  refine ⟨h.1, fun j hj r hr => ?_⟩
  have := h.2 j (List.mem_range.mpr hj)
  rw [hr] at this
  exact this
theorem inP_x {k : Nat} (h : inPp k = true) : ¬ k = 0 ∧ ¬ inSs k = true ∧ ¬ inTt k = true := by
  unfold inPp at h
  unfold inSs inTt
  simp only [Bool.or_eq_true, Bool.and_eq_true, decide_eq_true_eq] at *
  omega
def ordO : List Nat := 0 :: ((ordP ++ [2, 13, 14, 15]) ++ [3, 16, 17, 18, 19, 20, 21, 22, 23])
set_option maxRecDepth 20000 in
theorem okP' : ∀ k ∈ ordP, rOk inPp k = true := by decide +kernel
theorem wO_eq {h0 h1 h2 h3 : Nat} {L1 L2 L3 : Nat → Nat} {cI cS : ClassId} (e11 : L1 1 = h1) (e22 : L2 2 = h2) (e21 : L2 1 = h1) (e33 : L3 3 = h3) (e31 : L3 1 = h1) (e32 : L3 2 = h2) : wOrd (adO h0 L1 L2 L3) cI cS ordO = (h0, .inr (0, [.ref h1, .ref h2, .ref h3])) :: ((wOrd L1 cI cS ordP ++ wOrd L2 cI cS [2, 13, 14, 15]) ++ wOrd L3 cI cS [3, 16, 17, 18, 19, 20, 21, 22, 23]) := by
  have a1 : adO h0 L1 L2 L3 1 = h1 := by rw [← e11]; rfl
  have a2 : adO h0 L1 L2 L3 2 = h2 := by rw [← e22]; rfl
  have a3 : adO h0 L1 L2 L3 3 = h3 := by rw [← e33]; rfl
  have w1 : wOrd (adO h0 L1 L2 L3) cI cS ordP = wOrd L1 cI cS ordP := by
    refine wOrd_c inPp (fun k hk => ?_) (fun k hk => rOk_of (okP' k hk)) (fun _ j => ?_)
    · obtain ⟨x, y, z⟩ := inP_x hk
      unfold adO
      rw [if_neg x, if_neg y, if_neg z]
    · unfold inPp
      rw [decide_eq_true (show 59 ≤ 59 + j by omega), Bool.or_true]
  have w2 : wOrd (adO h0 L1 L2 L3) cI cS [2, 13, 14, 15] = wOrd L2 cI cS [2, 13, 14, 15] := by
    refine wOrd_c (fun k => decide (k = 1) || inSs k) (fun k hk => ?_) (fun k hk => rOk_of ((by decide +kernel : ∀ k ∈ [2, 13, 14, 15], rOk (fun k => decide (k = 1) || inSs k) k = true) k hk)) (fun h => absurd h (by decide))
    rw [Bool.or_eq_true] at hk
    rcases hk with hk | hk
    · have := of_decide_eq_true hk
      subst this
      rw [a1, e21]
    · unfold adO
      rw [if_neg (fun q => by rw [q] at hk; exact absurd hk (by decide)), if_pos hk]
  have w3 : wOrd (adO h0 L1 L2 L3) cI cS [3, 16, 17, 18, 19, 20, 21, 22, 23] = wOrd L3 cI cS [3, 16, 17, 18, 19, 20, 21, 22, 23] := by
    refine wOrd_c (fun k => decide (k = 1) || (decide (k = 2) || inTt k)) (fun k hk => ?_) (fun k hk => rOk_of ((by decide +kernel : ∀ k ∈ [3, 16, 17, 18, 19, 20, 21, 22, 23], rOk (fun k => decide (k = 1) || (decide (k = 2) || inTt k)) k = true) k hk)) (fun h => absurd h (by decide))
    rw [Bool.or_eq_true, Bool.or_eq_true] at hk
    rcases hk with hk | hk | hk
    · have := of_decide_eq_true hk
      subst this
      rw [a1, e31]
    · have := of_decide_eq_true hk
      subst this
      rw [a2, e32]
    · have x : ¬ inSs k = true := by
        unfold inTt at hk
        unfold inSs
        simp only [Bool.or_eq_true, Bool.and_eq_true, decide_eq_true_eq] at *
        omega
      unfold adO
      rw [if_neg (fun q => by rw [q] at hk; exact absurd hk (by decide)), if_neg x, if_pos hk]
  have w0 : wOrd (adO h0 L1 L2 L3) cI cS ordO = (adO h0 L1 L2 L3 0, m_cell (adO h0 L1 L2 L3) cI cS z0 0) :: wOrd (adO h0 L1 L2 L3) cI cS ((ordP ++ [2, 13, 14, 15]) ++ [3, 16, 17, 18, 19, 20, 21, 22, 23]) := rfl
  have m0 : m_cell (adO h0 L1 L2 L3) cI cS z0 0 = .inr (0, [.ref (adO h0 L1 L2 L3 1), .ref (adO h0 L1 L2 L3 2), .ref (adO h0 L1 L2 L3 3)]) := rfl
  have wa : ∀ x y : List Nat, wOrd (adO h0 L1 L2 L3) cI cS (x ++ y) = wOrd (adO h0 L1 L2 L3) cI cS x ++ wOrd (adO h0 L1 L2 L3) cI cS y := fun x y => List.map_append
  rw [w0, m0, a1, a2, a3, wa, wa, w1, w2, w3]
  rfl
set_option maxRecDepth 20000 in
set_option maxHeartbeats 4000000 in
theorem kI_O (l : Launch) (D : va_G) (cI cS : ClassId) (h0 : Nat) (sz : Nat) : KI M_O_init 84 5866 l D cI cS (h0, .inr (0, fsO)) [] sz (fun w => ∃ L : Nat → Nat, L 0 = h0 ∧ w = wOrd L cI cS ordO) := by
  refine KI_of (by decide) rfl rfl (Nat.le_of_ble_eq_true rfl) ?_
  intro p e s m args below meth c A QM ls X hin hP hD hl fin
  have hl : lv_has ls 1 [(0, .ref h0)] := hl
  have hS : va_S A s.heap s.heap [] := va_S.rf
  obtain ⟨C1, T1, N1, f1, f2, f3, f4⟩ := mfO_12
  obtain ⟨C2, T2, N2, g1, g2, g3, g4⟩ := mfO_21
  refine lv_aload_n X.1 X.2.1 di_O_0 rfl (lv_at hl 0 rfl) ?_
  refine k_obj X hl rfl wki_O_3 wo_i wo_c (by decide) (by decide) di_O_1 ?_
  refine lv_aload_n X.1 X.2.1 di_O_4 rfl (lv_at hl 0 rfl) ?_
  refine k_new X (ci := 1) (fs := fsP) rfl inP tyP_ok wcl_O_9 wz_P wi_P fd_P (Nat.le_of_ble_eq_true rfl) (Nat.le_of_ble_eq_true rfl) di_O_5 hP hD hS (fun h1 H hP hD hS => ?_)
  refine lv_dup X.1 X.2.1 di_O_8 rfl ?_
  refine k_callI (As := []) (x := (h1, .inr (1, fsP))) (rest := [.ref h1, .ref h0]) X (kI_P l D cI cS h1 H.size) mc_P wki_O_11 rfl ⟨Nat.le_of_ble_eq_true rfl, Nat.le_of_ble_eq_true rfl⟩ ⟨Nat.le_of_ble_eq_true rfl, Nat.le_of_ble_eq_true rfl⟩ (Nat.le_of_ble_eq_true rfl) hl rfl di_O_9 hP hD hS (fun w1 H locs hw hP hD hS => ?_)
  obtain ⟨L1, e11, e1w⟩ := hw
  have hP : va_P D vwCl ((h0, .inr (0, [.null, .null, .null])) :: w1) H := hP
  have hD : va_D A ((h0, .inr (0, [.null, .null, .null])) :: w1) := hD
  refine k_put X hin mff_O_12 rfl rfl (Nat.le_of_ble_eq_true rfl) di_O_12 hP hD hS (fun H locs hP hD hS => ?_)
  have hP : va_P D vwCl ((h0, .inr (0, [.ref h1, .null, .null])) :: w1) H := hP
  have hD : va_D A ((h0, .inr (0, [.ref h1, .null, .null])) :: w1) := hD
  refine lv_aload_n X.1 X.2.1 di_O_15 rfl (lv_at hl 0 rfl) ?_
  refine k_new X (ci := 2) (fs := fsS) rfl inS tyS_ok wcl_O_16 wz_S wi_S fd_S (Nat.le_of_ble_eq_true rfl) (Nat.le_of_ble_eq_true rfl) di_O_16 hP hD hS (fun h2 H hP hD hS => ?_)
  refine lv_dup X.1 X.2.1 di_O_19 rfl (lv_aload_n X.1 X.2.1 di_O_20 rfl (lv_at hl 0 rfl) ?_)
  refine va_get (D := D) (v := .ref h1) (own := "PointsToRounds") X.1 X.2.1 X.2.2.2.2.1 f2 X.2.2.2.1 X.2.2.2.2.2.2.2.1 hP 0 rfl f1 0 f3 (X.2.2.2.2.1 _ f4) (fun _ h => h) rfl di_O_21 ?_
  refine k_callI (As := [.ref h1]) (x := (h2, .inr (2, fsS))) (wr := (h0, .inr (0, [.ref h1, .null, .null])) :: w1) (rest := [.ref h2, .ref h0]) X (kI_S l D cI cS h2 h1 H.size) mc_S wki_O_18 rfl ⟨Nat.le_of_ble_eq_true rfl, Nat.le_of_ble_eq_true rfl⟩ ⟨Nat.le_of_ble_eq_true rfl, Nat.le_of_ble_eq_true rfl⟩ (Nat.le_of_ble_eq_true rfl) hl rfl di_O_24 hP hD hS (fun w2 H locs hw hP hD hS => ?_)
  obtain ⟨L2, e21, e22, e2w⟩ := hw
  have hP : va_P D vwCl ((h0, .inr (0, [.ref h1, .null, .null])) :: (w1 ++ w2)) H := hP
  have hD : va_D A ((h0, .inr (0, [.ref h1, .null, .null])) :: (w1 ++ w2)) := hD
  refine k_put X hin mff_O_21 rfl rfl (Nat.le_of_ble_eq_true rfl) di_O_27 hP hD hS (fun H locs hP hD hS => ?_)
  have hP : va_P D vwCl ((h0, .inr (0, [.ref h1, .ref h2, .null])) :: (w1 ++ w2)) H := hP
  have hD : va_D A ((h0, .inr (0, [.ref h1, .ref h2, .null])) :: (w1 ++ w2)) := hD
  refine lv_aload_n X.1 X.2.1 di_O_30 rfl (lv_at hl 0 rfl) ?_
  refine k_new X (ci := 3) (fs := fsT) rfl inT tyT_ok wcl_O_25 wz_T wi_T fd_T (Nat.le_of_ble_eq_true rfl) (Nat.le_of_ble_eq_true rfl) di_O_31 hP hD hS (fun h3 H hP hD hS => ?_)
  refine lv_dup X.1 X.2.1 di_O_34 rfl (lv_aload_n X.1 X.2.1 di_O_35 rfl (lv_at hl 0 rfl) ?_)
  refine va_get (D := D) (v := .ref h1) (own := "PointsToRounds") X.1 X.2.1 X.2.2.2.2.1 f2 X.2.2.2.1 X.2.2.2.2.2.2.2.1 hP 0 rfl f1 0 f3 (X.2.2.2.2.1 _ f4) (fun _ h => h) rfl di_O_36 ?_
  refine lv_aload_n X.1 X.2.1 di_O_39 rfl (lv_at hl 0 rfl) ?_
  refine va_get (D := D) (v := .ref h2) (own := "PointsToRounds") X.1 X.2.1 X.2.2.2.2.1 g2 X.2.2.2.1 X.2.2.2.2.2.2.2.1 hP 0 rfl g1 1 g3 (X.2.2.2.2.1 _ g4) (fun _ h => h) rfl di_O_40 ?_
  refine k_callI (As := [.ref h1, .ref h2]) (x := (h3, .inr (3, fsT))) (wr := (h0, .inr (0, [.ref h1, .ref h2, .null])) :: (w1 ++ w2)) (rest := [.ref h3, .ref h0]) X (kI_T l D cI cS h3 h1 h2 H.size) mc_T wki_O_27 rfl ⟨Nat.le_of_ble_eq_true rfl, Nat.le_of_ble_eq_true rfl⟩ ⟨Nat.le_of_ble_eq_true rfl, Nat.le_of_ble_eq_true rfl⟩ (Nat.le_of_ble_eq_true rfl) hl rfl di_O_43 hP hD hS (fun w3 H locs hw hP hD hS => ?_)
  obtain ⟨L3, e31, e32, e33, e3w⟩ := hw
  have hP : va_P D vwCl ((h0, .inr (0, [.ref h1, .ref h2, .null])) :: ((w1 ++ w2) ++ w3)) H := hP
  have hD : va_D A ((h0, .inr (0, [.ref h1, .ref h2, .null])) :: ((w1 ++ w2) ++ w3)) := hD
  refine k_put X hin mff_O_30 rfl rfl (Nat.le_of_ble_eq_true rfl) di_O_46 hP hD hS (fun H locs hP hD hS => ?_)
  have hP : va_P D vwCl ((h0, .inr (0, [.ref h1, .ref h2, .ref h3])) :: ((w1 ++ w2) ++ w3)) H := hP
  have hD : va_D A ((h0, .inr (0, [.ref h1, .ref h2, .ref h3])) :: ((w1 ++ w2) ++ w3)) := hD
  have ew := wO_eq (h0 := h0) (cI := cI) (cS := cS) e11 e22 e21 e33 e31 e32
  rw [← e1w, ← e2w, ← e3w] at ew
  rw [← ew] at hP hD
  exact fin _ H locs ls 49 ⟨adO h0 L1 L2 L3, rfl, rfl⟩ di_O_49 hP hD hS
