/-! THE LAW: its loop -/
theorem and31 (y : Int32) : ∃ k, k < 32 ∧ y &&& 31 = nI k := by
  have h31 : ∀ i, i < 32 → bt (31 : Int32) i = decide (i < 5) := by decide +kernel
  obtain ⟨X, hX, e⟩ := nI_bits (x := y &&& 31) (k := 5) (by decide) (fun i hi => by
    rw [b_and, Bool.and_eq_true] at hi
    rcases Nat.lt_or_ge i 32 with q | q
    · have := hi.2
      rw [h31 i q] at this
      exact of_decide_eq_true this
    · rw [b_big q] at hi
      cases hi.1)
  exact ⟨X, hX, e⟩
theorem l_8 {L j : Nat} (hL : L ≤ 4096) (hj : 8 * j ≤ 8192) : nI L - nI 8 < nI (8 * j) ↔ L < 8 * j + 8 := by
  rcases Nat.lt_or_ge L 8 with q | q
  · have h0 : ∀ L, L < 8 → nI L - nI 8 < 0 := by decide
    constructor
    · intro _; omega
    · intro _
      have a := h0 L q
      have b := nI_pos' (n := 8 * j) (by omega)
      rw [i_lt] at a ⊢
      rw [i_le] at b
      omega
  · rw [nI_sub q]
    constructor
    · intro h
      rcases Nat.lt_or_ge L (8 * j + 8) with a | a
      · exact a
      · exact absurd h (nI_nlt (by omega) (by omega))
    · intro h
      exact nI_lt (by omega) (by omega)
theorem lw_loop {p : Program} {l : Launch} {e : Env} {s : State} {m : MethodId} {below : List Frame} {meth : Method} {c : Code} {b L : Nat} {xs : Nat → Int32} {ad : Nat → Nat} {D : va_G} {cI cS : ClassId} (X : lX p s m meth c b L xs ad D cI cS) (hL : L ≤ 4096) :
    ∀ (n j : Nat), L < 8 * (j + n) → 8 * j ≤ 8192 → ∀ (σ : mS) (H : Heap) (locs : List Loc) (ls : Array Slot), (∃ π, RR π σ) → va_P D vwCl (m_ws ad cI cS σ) H → va_S (LA s) s.heap H locs → lv_has ls 4 (lL b ad j) → W p l e room_1 s m #[Value.ref b] below meth c H locs 600000 7302250 (lw_Z below #[Value.ref b] s) (F0 m 18 ls []) := by
  intro n
  induction n with
  | zero =>
    intro j h1 h2 σ H locs ls hR hP hS hl
    refine lv_iload_n X.1 X.2.1 dl_18 rfl (lv_at hl 0 rfl) (lv_aload_n X.1 X.2.1 dl_19 rfl (lv_at hl 3 rfl) ?_)
    refine va_slen X.1 X.2.1 X.2.2.2.2.2.2.2.2.1 X.2.2.2.2.2.2.2.2.2.1 (Nat.not_le.mpr X.2.2.2.2.2.2.2.2.2.1) hS dl_20 (lv_bipush (v := nI 8) X.1 X.2.1 dl_21 rfl (lv_isub X.1 X.2.1 dl_23 (lv_icmp_gt (tgt := 694) X.1 X.2.1 dl_24 (by decide) (fun _ => ?_) (fun q => ?_))))
    · refine va_forget hS.2.2 (lv_iconst (v := 1) X.1 X.2.1 dl_694 rfl ?_)
      exact lw_ret X.1 X.2.1 X.2.2.2.2.2.2.2.2.2.2.2 X.2.2.2.2.2.2.2.2.2.2.1 dl_695
    · exact absurd ((l_8 hL h2).mpr (by omega)) q
  | succ n ih =>
    intro j h1 h2 σ H locs ls hR hP hS hl
    refine lv_iload_n X.1 X.2.1 dl_18 rfl (lv_at hl 0 rfl) (lv_aload_n X.1 X.2.1 dl_19 rfl (lv_at hl 3 rfl) ?_)
    refine va_slen X.1 X.2.1 X.2.2.2.2.2.2.2.2.1 X.2.2.2.2.2.2.2.2.2.1 (Nat.not_le.mpr X.2.2.2.2.2.2.2.2.2.1) hS dl_20 (lv_bipush (v := nI 8) X.1 X.2.1 dl_21 rfl (lv_isub X.1 X.2.1 dl_23 (lv_icmp_gt (tgt := 694) X.1 X.2.1 dl_24 (by decide) (fun _ => ?_) (fun q => ?_))))
    · refine va_forget hS.2.2 (lv_iconst (v := 1) X.1 X.2.1 dl_694 rfl ?_)
      exact lw_ret X.1 X.2.1 X.2.2.2.2.2.2.2.2.2.2.2 X.2.2.2.2.2.2.2.2.2.2.1 dl_695
    · have hj : 8 * j + 8 ≤ L := by
        rcases Nat.lt_or_ge L (8 * j + 8) with a | a
        · exact absurd ((l_8 hL h2).mpr a) q
        · exact a
      have kk : ∀ (τ : mS) (H1 : Heap) (locs1 : List Loc), (∃ π, RR π τ) → va_P D vwCl (m_ws ad cI cS τ) H1 → va_S (LA s) s.heap H1 locs1 → W p l e room_1 s m #[Value.ref b] below meth c H1 locs1 600000 7302250 (lw_Z below #[Value.ref b] s) (F0 m 688 ls []) := by
        intro τ H1 locs1 hR hP hS
        refine lv_iinc (k := 0) (v := nI (8 * (j + 1))) (lv' := lL b ad (j + 1)) X.1 X.2.1 dl_688 hl rfl (by rw [show Int32.ofInt 8 = nI 8 from rfl, nI_add]; congr 1) (by decide) rfl (fun ls' hl' => ?_)
        exact lv_goto (tgt := 18) X.1 X.2.1 dl_691 (by decide) (ih (j + 1) (by omega) (by omega) τ H1 locs1 ls' hR hP hS hl')
      refine lv_aload_n X.1 X.2.1 dl_27 rfl (lv_at hl 3 rfl) (lv_iload_n X.1 X.2.1 dl_28 rfl (lv_at hl 0 rfl) ?_)
      refine va_sld X.1 X.2.1 X.2.2.2.2.2.2.2.2.1 X.2.2.2.2.2.2.2.2.2.1 (Nat.not_le.mpr X.2.2.2.2.2.2.2.2.2.1) hS (vp_in_nI (by omega) (by omega)) dl_29 (lv_bipush (v := 31) X.1 X.2.1 dl_30 rfl (lv_iand X.1 X.2.1 dl_32 ?_))
      obtain ⟨k, hk, ek⟩ := and31 (xs (nI (8 * j)).toNatClampNeg)
      rw [ek]
      have tk : (nI k).toInt = (k : Int) := nI_toInt (by omega)
      rcases Nat.lt_or_ge 17 k with a | a
      · exact lv_tableOut (tgt := 688) X.1 X.2.1 dl_33 (Or.inr (by rw [tk]; omega)) (by decide) (kk σ H locs hR hP hS)
      · rcases (show k = 0 ∨ k = 1 ∨ k = 2 ∨ k = 3 ∨ k = 4 ∨ k = 5 ∨ k = 6 ∨ k = 7 ∨ k = 8 ∨ k = 9 ∨ k = 10 ∨ k = 11 ∨ k = 12 ∨ k = 13 ∨ k = 14 ∨ k = 15 ∨ k = 16 ∨ k = 17 by omega) with rfl | rfl | rfl | rfl | rfl | rfl | rfl | rfl | rfl | rfl | rfl | rfl | rfl | rfl | rfl | rfl | rfl | rfl
        · exact lv_tableIn (tgt := 120) X.1 X.2.1 dl_33 (by decide) (by decide) (by rfl) (by decide) (lc_0 X hL hj hl hP hS hR kk)
        · exact lv_tableIn (tgt := 143) X.1 X.2.1 dl_33 (by decide) (by decide) (by rfl) (by decide) (lc_1 X hL hj hl hP hS hR kk)
        · exact lv_tableIn (tgt := 166) X.1 X.2.1 dl_33 (by decide) (by decide) (by rfl) (by decide) (lc_2 X hL hj hl hP hS hR kk)
        · exact lv_tableIn (tgt := 199) X.1 X.2.1 dl_33 (by decide) (by decide) (by rfl) (by decide) (lc_3 X hL hj hl hP hS hR kk)
        · exact lv_tableIn (tgt := 286) X.1 X.2.1 dl_33 (by decide) (by decide) (by rfl) (by decide) (lc_4 X hL hj hl hP hS hR kk)
        · exact lv_tableIn (tgt := 309) X.1 X.2.1 dl_33 (by decide) (by decide) (by rfl) (by decide) (lc_5 X hL hj hl hP hS hR kk)
        · exact lv_tableIn (tgt := 322) X.1 X.2.1 dl_33 (by decide) (by decide) (by rfl) (by decide) (lc_6 X hL hj hl hP hS hR kk)
        · exact lv_tableIn (tgt := 365) X.1 X.2.1 dl_33 (by decide) (by decide) (by rfl) (by decide) (lc_7 X hL hj hl hP hS hR kk)
        · exact lv_tableIn (tgt := 398) X.1 X.2.1 dl_33 (by decide) (by decide) (by rfl) (by decide) (lc_8 X hL hj hl hP hS hR kk)
        · exact lv_tableIn (tgt := 421) X.1 X.2.1 dl_33 (by decide) (by decide) (by rfl) (by decide) (lc_9 X hL hj hl hP hS hR kk)
        · exact lv_tableIn (tgt := 444) X.1 X.2.1 dl_33 (by decide) (by decide) (by rfl) (by decide) (lc_10 X hL hj hl hP hS hR kk)
        · exact lv_tableIn (tgt := 467) X.1 X.2.1 dl_33 (by decide) (by decide) (by rfl) (by decide) (lc_11 X hL hj hl hP hS hR kk)
        · exact lv_tableIn (tgt := 490) X.1 X.2.1 dl_33 (by decide) (by decide) (by rfl) (by decide) (lc_12 X hL hj hl hP hS hR kk)
        · exact lv_tableIn (tgt := 543) X.1 X.2.1 dl_33 (by decide) (by decide) (by rfl) (by decide) (lc_13 X hL hj hl hP hS hR kk)
        · exact lv_tableIn (tgt := 556) X.1 X.2.1 dl_33 (by decide) (by decide) (by rfl) (by decide) (lc_14 X hL hj hl hP hS hR kk)
        · exact lv_tableIn (tgt := 599) X.1 X.2.1 dl_33 (by decide) (by decide) (by rfl) (by decide) (lc_15 X hL hj hl hP hS hR kk)
        · exact lv_tableIn (tgt := 632) X.1 X.2.1 dl_33 (by decide) (by decide) (by rfl) (by decide) (lc_16 X hL hj hl hP hS hR kk)
        · exact lv_tableIn (tgt := 665) X.1 X.2.1 dl_33 (by decide) (by decide) (by rfl) (by decide) (lc_17 X hL hj hl hP hS hR kk)
