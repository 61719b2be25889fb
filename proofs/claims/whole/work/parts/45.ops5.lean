/-! CALLS THAT CHANGE THE PROGRAM: statement -/
def stN (π : mS) (x1 x2 x3 x4 x5 x6 x7 : Int32) : mS := fun c => if c = 30 then upd (π 30) (nS π) x1 else if c = 31 then upd (π 31) (nS π) x2 else if c = 32 then upd (π 32) (nS π) x3 else if c = 33 then upd (π 33) (nS π) x4 else if c = 34 then upd (π 34) (nS π) x5 else if c = 35 then upd (π 35) (nS π) x6 else if c = 36 then upd (π 36) (nS π) x7 else if c = 37 then upd (π 37) (nS π) (if x2 = 0 then nI (nT π) else -1) else if c = 38 then (if x2 = 0 then upd (π 38) (nT π) x4 else π 38) else if c = 25 then upd (if x2 = 0 then upd (π 25) 16 (nI (nT π + 1)) else π 25) 7 (nI (nS π + 1)) else π c
section
variable {π : mS} {x1 x2 x3 x4 x5 x6 x7 : Int32}
theorem sn_30 : stN π x1 x2 x3 x4 x5 x6 x7 30 = upd (π 30) (nS π) x1 := rfl
theorem sn_31 : stN π x1 x2 x3 x4 x5 x6 x7 31 = upd (π 31) (nS π) x2 := rfl
theorem sn_32 : stN π x1 x2 x3 x4 x5 x6 x7 32 = upd (π 32) (nS π) x3 := rfl
theorem sn_33 : stN π x1 x2 x3 x4 x5 x6 x7 33 = upd (π 33) (nS π) x4 := rfl
theorem sn_34 : stN π x1 x2 x3 x4 x5 x6 x7 34 = upd (π 34) (nS π) x5 := rfl
theorem sn_35 : stN π x1 x2 x3 x4 x5 x6 x7 35 = upd (π 35) (nS π) x6 := rfl
theorem sn_36 : stN π x1 x2 x3 x4 x5 x6 x7 36 = upd (π 36) (nS π) x7 := rfl
theorem sn_37 : stN π x1 x2 x3 x4 x5 x6 x7 37 = upd (π 37) (nS π) (if x2 = 0 then nI (nT π) else -1) := rfl
theorem sn_38 : stN π x1 x2 x3 x4 x5 x6 x7 38 = if x2 = 0 then upd (π 38) (nT π) x4 else π 38 := rfl
theorem sn_25 : stN π x1 x2 x3 x4 x5 x6 x7 25 = upd (if x2 = 0 then upd (π 25) 16 (nI (nT π + 1)) else π 25) 7 (nI (nS π + 1)) := rfl
theorem sn_26 : stN π x1 x2 x3 x4 x5 x6 x7 26 = π 26 := rfl
theorem sn_27 : stN π x1 x2 x3 x4 x5 x6 x7 27 = π 27 := rfl
theorem sn_28 : stN π x1 x2 x3 x4 x5 x6 x7 28 = π 28 := rfl
theorem sn_29 : stN π x1 x2 x3 x4 x5 x6 x7 29 = π 29 := rfl
theorem sn_j {j : Nat} (h1 : j ≠ 7) (h2 : j ≠ 16) : stN π x1 x2 x3 x4 x5 x6 x7 25 j = π 25 j := by
  rw [sn_25, upd_o h1]
  split
  · rw [upd_o h2]
  · rfl
theorem sn_7 : stN π x1 x2 x3 x4 x5 x6 x7 25 7 = nI (nS π + 1) := by rw [sn_25, upd_s]
theorem sn_16 (hw : WM π) : stN π x1 x2 x3 x4 x5 x6 x7 25 16 = if x2 = 0 then nI (nT π + 1) else nI (nT π) := by
  rw [sn_25, upd_o (by decide)]
  split
  · rw [upd_s]
  · rw [hw.nT20.1]
theorem sn_g {j : Nat} (h1 : j ≠ 7) (h2 : j ≠ 16) : gN (stN π x1 x2 x3 x4 x5 x6 x7) 25 j = gN π 25 j := by unfold gN; rw [sn_j h1 h2]
theorem sn_nS (h : nS π < 60) : nS (stN π x1 x2 x3 x4 x5 x6 x7) = nS π + 1 := by
  show (stN π x1 x2 x3 x4 x5 x6 x7 25 7).toNatClampNeg = _
  rw [sn_7, cl_nI (by omega)]
theorem sn_nT (hw : WM π) : nT (stN π x1 x2 x3 x4 x5 x6 x7) = if x2 = 0 then nT π + 1 else nT π := by
  have := hw.nT20.2
  show (stN π x1 x2 x3 x4 x5 x6 x7 25 16).toNatClampNeg = _
  rw [sn_16 hw]
  split
  · rw [cl_nI (by omega)]
  · rw [cl_nI (by omega)]
theorem opOK_i {π' : mS} {i : Nat} (h31 : π' 31 i = π 31 i) (h32 : π' 32 i = π 32 i) (h33 : π' 33 i = π 33 i) (h34 : π' 34 i = π 34 i) (h35 : π' 35 i = π 35 i) (h36 : π' 36 i = π 36 i) (h37 : π' 37 i = π 37 i) (hC : nC π ≤ nC π') (hF : nF π ≤ nF π') (hT : nT π ≤ nT π') (h : opOK π i) : opOK π' i := by
  have e : kd π' i = kd π i := by show (π' 31 i).toNatClampNeg = (π 31 i).toNatClampNeg; rw [h31]
  unfold opOK at *
  rw [e, h32, h33, h34, h35, h36, h37]
  split at h
  · exact ⟨h.1, h.2.1.mono hC, h.2.2.mono hT⟩
  · exact ⟨h.1, h.2.1, h.2.2.mono hF⟩
  · exact ⟨h.1, h.2.1, h.2.2.mono hF⟩
  · exact ⟨h.1, h.2.1, h.2.2.mono hC⟩
  · exact h
  · exact h
  · exact h
  · exact h
theorem rg_in {x : Int32} {n : Nat} (h : rg x (nI n) = true) : IN x n := rg_n h
/-- what a good statement has -/
def okO (π : mS) (x2 x3 x4 x5 x6 x7 : Int32) : Prop := IN x2 10 ∧ hop (π 25 0) (π 25 2) x2 x3 x4 x5 x6 x7 = true ∧ (x2 = nI 7 → rg x5 (nI 4) = true) ∧ nS π < 60 ∧ (x2 = 0 → nT π < 20)
theorem sn_op (hw : WM π) (h : okO π x2 x3 x4 x5 x6 x7) : opOK (stN π x1 x2 x3 x4 x5 x6 x7) (nS π) := by
  obtain ⟨⟨j, hj, rfl⟩, h1, h2, h3, h4⟩ := h
  have e31 : kd (stN π x1 (nI j) x3 x4 x5 x6 x7) (nS π) = j := by
    show (stN π x1 (nI j) x3 x4 x5 x6 x7 31 (nS π)).toNatClampNeg = j
    rw [sn_31, upd_s, cl_nI (by omega)]
  have eC : nC (stN π x1 (nI j) x3 x4 x5 x6 x7) = nC π := sn_g (by decide) (by decide)
  have eF : nF (stN π x1 (nI j) x3 x4 x5 x6 x7) = nF π := sn_g (by decide) (by decide)
  rw [hw.nC8.1, hw.nF8.1] at h1
  unfold opOK
  rw [e31, sn_32, sn_33, sn_34, sn_35, sn_36, sn_37, upd_s, upd_s, upd_s, upd_s, upd_s, upd_s, eC, eF]
  rcases (show j = 0 ∨ j = 1 ∨ j = 2 ∨ j = 3 ∨ j = 4 ∨ j = 5 ∨ j = 6 ∨ j = 7 ∨ j = 8 ∨ j = 9 by omega) with rfl | rfl | rfl | rfl | rfl | rfl | rfl | rfl | rfl | rfl
  · have h1 : (rg x3 (nI 6) && rg x4 (nI (nC π))) = true := h1
    rw [Bool.and_eq_true] at h1
    refine ⟨rg_in h1.1, rg_in h1.2, nT π, ?_, ?_⟩
    · rw [sn_nT hw, if_pos nI_0]; omega
    · rw [if_pos nI_0]
  · have h1 : (rg x3 (nI 6) && rg x4 (nI 6)) = true := h1
    rw [Bool.and_eq_true] at h1
    exact ⟨rg_in h1.1, rg_in h1.2⟩
  · have h1 : (rg x3 (nI 6) && (rg x4 (nI 6) && rg x5 (nI (nF π)))) = true := h1
    rw [Bool.and_eq_true, Bool.and_eq_true] at h1
    exact ⟨rg_in h1.1, rg_in h1.2.1, rg_in h1.2.2⟩
  · have h1 : (rg x3 (nI 6) && (rg x4 (nI 6) && rg x5 (nI (nF π)))) = true := h1
    rw [Bool.and_eq_true, Bool.and_eq_true] at h1
    exact ⟨rg_in h1.1, rg_in h1.2.1, rg_in h1.2.2⟩
  · have h1 : (rg x3 (nI 6) && (rg x4 (nI 6) && rg x5 (nI (nC π)))) = true := h1
    rw [Bool.and_eq_true, Bool.and_eq_true] at h1
    exact ⟨rg_in h1.1, rg_in h1.2.1, rg_in h1.2.2⟩
  · have h1 : (rg x3 (nI 6) && rg x4 (nI 4)) = true := h1
    rw [Bool.and_eq_true] at h1
    exact ⟨rg_in h1.1, rg_in h1.2⟩
  · have h1 : (rg x3 (nI 4) && rg x4 (nI 6)) = true := h1
    rw [Bool.and_eq_true] at h1
    exact ⟨rg_in h1.1, rg_in h1.2⟩
  · have h1 : (rg x3 (nI 6) && (rg x4 (nI 6) && (rg x6 (nI 6) && rg x7 (nI 6)))) = true := h1
    rw [Bool.and_eq_true, Bool.and_eq_true, Bool.and_eq_true] at h1
    exact ⟨rg_in h1.1, rg_in h1.2.1, rg_in (h2 rfl), rg_in h1.2.2.1, rg_in h1.2.2.2⟩
  · have h1 : (rg x3 (nI 6) && rg x4 (nI 6)) = true := h1
    rw [Bool.and_eq_true] at h1
    exact ⟨rg_in h1.1, rg_in h1.2⟩
  · have h1 : (rg x3 (nI 6) && rg x4 (nI 6)) = true := h1
    rw [Bool.and_eq_true] at h1
    exact ⟨rg_in h1.1, rg_in h1.2⟩
theorem okO_q (hw : WM π) (h : okO π x2 x3 x4 x5 x6 x7) (h0 : x2 = 0) : IN x4 (nC π) := by
  have h1 := h.2.1
  subst h0
  rw [hw.nC8.1] at h1
  have h1 : (rg x3 (nI 6) && rg x4 (nI (nC π))) = true := h1
  rw [Bool.and_eq_true] at h1
  exact rg_in h1.2
theorem sn_wm (hw : WM π) (hm : IN x1 (nM π)) (h : okO π x2 x3 x4 x5 x6 x7) : WM (stN π x1 x2 x3 x4 x5 x6 x7) := by
  have hop := sn_op (x1 := x1) hw h
  have hq := okO_q hw h
  obtain ⟨h1, h2, h3⟩ := hw
  have hw : WM π := ⟨h1, h2, h3⟩
  have eC : nC (stN π x1 x2 x3 x4 x5 x6 x7) = nC π := sn_g (by decide) (by decide)
  have eF : nF (stN π x1 x2 x3 x4 x5 x6 x7) = nF π := sn_g (by decide) (by decide)
  have eM : nM (stN π x1 x2 x3 x4 x5 x6 x7) = nM π := sn_g (by decide) (by decide)
  have hS := h.2.2.2.1
  have hT := h.2.2.2.2
  have eS := sn_nS (x1 := x1) (x2 := x2) (x3 := x3) (x4 := x4) (x5 := x5) (x6 := x6) (x7 := x7) hS
  have eT := sn_nT (x1 := x1) (x2 := x2) (x3 := x3) (x4 := x4) (x5 := x5) (x6 := x6) (x7 := x7) hw
  have a20 := hw.nT20
  have leT : nT π ≤ nT (stN π x1 x2 x3 x4 x5 x6 x7) := by rw [eT]; split <;> omega
  refine ⟨?_, ?_, ?_⟩
  · unfold WM1 at *
    rw [sn_7, sn_16 hw, sn_j (by decide) (by decide), sn_j (by decide) (by decide), sn_j (by decide) (by decide), sn_j (by decide) (by decide)]
    refine ⟨h1.1, h1.2.1, h1.2.2.1, ⟨nS π + 1, by omega, rfl⟩, ?_, h1.2.2.2.2.2⟩
    by_cases e : x2 = 0
    · rw [if_pos e]; have := hT e; exact ⟨nT π + 1, by omega, rfl⟩
    · rw [if_neg e]; exact ⟨nT π, by omega, rfl⟩
  · unfold WM2
    rw [eC, eF, eM, eT, sn_26, sn_27, sn_28, sn_29, sn_38]
    refine ⟨h2.1, h2.2.1, h2.2.2.1, fun o ho => ?_⟩
    by_cases e : x2 = 0
    · rw [if_pos e] at ho ⊢
      by_cases eo : o = nT π
      · subst eo; rw [upd_s]; exact hq e
      · rw [upd_o eo]; exact h2.2.2.2 o (by omega)
    · rw [if_neg e] at ho ⊢; exact h2.2.2.2 o ho
  · intro i hi
    rw [eS] at hi
    rw [eM]
    by_cases e : i = nS π
    · subst e
      exact ⟨by rw [sn_30, upd_s]; exact hm, by rw [sn_31, upd_s]; exact h.1, hop⟩
    · obtain ⟨q1, q2, q3⟩ := h3 i (by omega)
      exact ⟨by rw [sn_30, upd_o e]; exact q1, by rw [sn_31, upd_o e]; exact q2, opOK_i (by rw [sn_31, upd_o e]) (by rw [sn_32, upd_o e]) (by rw [sn_33, upd_o e]) (by rw [sn_34, upd_o e]) (by rw [sn_35, upd_o e]) (by rw [sn_36, upd_o e]) (by rw [sn_37, upd_o e]) (Nat.le_of_eq eC.symm) (Nat.le_of_eq eF.symm) leT q3⟩
theorem sn_sts (hS : nS π < 60) {m : Nat} (m' : Nat) (hm : m < 2 ^ 30) (hm' : m' < 2 ^ 30) : sts (stN π (nI m) x2 x3 x4 x5 x6 x7) m' = sts π m' ++ (if m' = m then [nS π] else []) := by
  unfold sts
  rw [sn_nS hS, List.range_succ, List.filter_append, sn_30]
  congr 1
  · apply List.filter_congr
    intro i hi
    have := List.mem_range.mp hi
    rw [upd_o (by omega)]
  · by_cases e : m' = m
    · subst e
      rw [if_pos rfl, List.filter_cons_of_pos (by rw [upd_s]; exact decide_eq_true rfl)]
      rfl
    · rw [if_neg e, List.filter_cons_of_neg (by
        rw [upd_s, decide_eq_true_eq]
        intro q
        exact e (nI_inj (by omega) (by omega) q).symm)]
      rfl
/-- the class's cells behind a new statement -/
theorem sn_rc {σ τ : mS} (h : RCp π σ) {m : Nat} (hm : m < nM π) (hO : okO π x2 x3 x4 x5 x6 x7) (t13 : τ 1 3 = nI (nS π + 1)) (t14 : τ 1 4 = if x2 = 0 then nI (nT π + 1) else nI (nT π)) (t1 : ∀ j, j < 3 → τ 1 j = σ 1 j) (t28 : τ 2 8 = σ 2 8)
    (tk : ∀ k, k = 4 ∨ k = 5 ∨ k = 7 ∨ k = 8 ∨ k = 9 → τ k = σ k) (t6 : ∀ c, c < nC π → ∀ o, bt (τ 6 c) o = (bt (σ 6 c) o || (decide (x2 = 0) && (decide (o = nT π) && und π x4.toNatClampNeg c)))) (t10 : τ 10 = if x2 = 0 then upd (σ 10) (nT π) x4 else σ 10)
    (t11 : τ 11 = upd (σ 11) m (nI (cnt π m + 1))) (t12 : τ 12 = upd (σ 12) (60 * m + cnt π m) (nI (nS π))) (tS : ∀ i, i < nS π → τ (59 + i) = σ (59 + i))
    (tN : τ (59 + nS π) 0 = nI m ∧ τ (59 + nS π) 2 = x2 ∧ τ (59 + nS π) 3 = x3 ∧ τ (59 + nS π) 4 = x4 ∧ τ (59 + nS π) 5 = x5 ∧ τ (59 + nS π) 6 = x6 ∧ τ (59 + nS π) 7 = x7 ∧ (x2 = 0 → τ (59 + nS π) 1 = nI (nT π))) : RCp (stN π (nI m) x2 x3 x4 x5 x6 x7) τ := by
  obtain ⟨hw, h1, h2, h3⟩ := h
  have aM := hw.nM10.2
  have aT := hw.nT20
  have hS := hO.2.2.2.1
  have eC : nC (stN π (nI m) x2 x3 x4 x5 x6 x7) = nC π := sn_g (by decide) (by decide)
  have eF : nF (stN π (nI m) x2 x3 x4 x5 x6 x7) = nF π := sn_g (by decide) (by decide)
  have eM : nM (stN π (nI m) x2 x3 x4 x5 x6 x7) = nM π := sn_g (by decide) (by decide)
  have eS := sn_nS (x1 := nI m) (x2 := x2) (x3 := x3) (x4 := x4) (x5 := x5) (x6 := x6) (x7 := x7) hS
  have eT := sn_nT (x1 := nI m) (x2 := x2) (x3 := x3) (x4 := x4) (x5 := x5) (x6 := x6) (x7 := x7) hw
  refine ⟨sn_wm hw ⟨m, hm, rfl⟩ hO, ?_, ?_, ?_⟩
  · unfold RC1 at *
    rw [t13, t14, t28, t1 0 (by decide), t1 1 (by decide), t1 2 (by decide), sn_7, sn_16 hw, sn_j (by decide) (by decide), sn_j (by decide) (by decide), sn_j (by decide) (by decide), sn_j (by decide) (by decide)]
    exact ⟨h1.1, h1.2.1, h1.2.2.1, rfl, rfl, h1.2.2.2.2.2⟩
  · unfold RC2
    rw [eC, eF, eT, sn_26, sn_27, sn_38, tk 4 (by omega), tk 5 (by omega), tk 7 (by omega), tk 8 (by omega), tk 9 (by omega), t10]
    refine ⟨h2.1, fun c hc a => ?_, fun c hc o => ?_, fun c hc s hs => ?_, h2.2.2.2.2.1, fun o ho => ?_⟩
    · rw [und_c sn_26]; exact h2.2.1 c hc a
    · rw [und_c sn_26, t6 c hc o, h2.2.2.1 c hc o]
      have scE : sc (stN π (nI m) x2 x3 x4 x5 x6 x7) o = if x2 = 0 ∧ o = nT π then x4.toNatClampNeg else sc π o := by
        show (stN π (nI m) x2 x3 x4 x5 x6 x7 38 o).toNatClampNeg = _
        rw [sn_38]
        by_cases e : x2 = 0
        · rw [if_pos e]
          by_cases eo : o = nT π
          · subst eo; rw [upd_s, if_pos ⟨e, rfl⟩]
          · rw [upd_o eo, if_neg (fun q => eo q.2)]; rfl
        · rw [if_neg e, if_neg (fun q => e q.1)]; rfl
      rw [scE]
      by_cases e : x2 = 0
      · by_cases eo : o = nT π
        · subst eo
          rw [if_pos e, if_pos ⟨e, rfl⟩, decide_eq_true e, decide_eq_false (Nat.lt_irrefl _), decide_eq_true rfl, decide_eq_true (Nat.lt_succ_self _)]
          simp
        · rw [if_pos e, if_neg (fun q => eo q.2), decide_eq_false eo, Bool.false_and, Bool.and_false, Bool.or_false]
          congr 1
          exact decide_eq_decide.mpr ⟨fun q => by omega, fun q => by omega⟩
      · rw [if_neg e, if_neg (fun q => e q.1), decide_eq_false e, Bool.false_and, Bool.or_false]
    · rw [mW_c sn_28 sn_29 eM, fnd_c sn_28 sn_29 eM sn_26]
      exact h2.2.2.2.1 c hc s hs
    · by_cases e : x2 = 0
      · rw [if_pos e] at ho ⊢
        rw [if_pos e]
        by_cases eo : o = nT π
        · subst eo; rw [upd_s, upd_s]
        · rw [upd_o eo, upd_o eo]; exact h2.2.2.2.2.2 o (by omega)
      · rw [if_neg e] at ho ⊢
        rw [if_neg e]
        exact h2.2.2.2.2.2 o ho
  · unfold RC3 cnt sth at *
    rw [eM, eS, t11, t12]
    refine ⟨fun m' hm' => ?_, fun m' hm' t ht => ?_, fun i hi => ?_⟩
    · rw [sn_sts hS m' (by omega) (by omega), List.length_append]
      by_cases e : m' = m
      · subst e; rw [upd_s, if_pos rfl]; rfl
      · rw [upd_o e, if_neg e]; exact h3.1 m' hm'
    · rw [sn_sts hS m' (by omega) (by omega)] at ht ⊢
      have le := sts_le (π := π) m
      have le' := sts_le (π := π) m'
      unfold cnt at le le'
      by_cases e : m' = m
      · subst e
        rw [if_pos rfl] at ht ⊢
        rw [List.length_append] at ht
        have ht : t < (sts π m').length + 1 := ht
        by_cases et : t = (sts π m').length
        · subst et
          rw [upd_s, List.getD_eq_getElem?_getD, List.getElem?_append_right (Nat.le_refl _), Nat.sub_self]
          rfl
        · rw [upd_o (by omega), h3.2.1 m' hm' t (by omega), List.getD_eq_getElem?_getD, List.getD_eq_getElem?_getD, List.getElem?_append_left (by omega)]
      · rw [if_neg e, List.append_nil] at ht ⊢
        rw [upd_o (by omega)]
        exact h3.2.1 m' hm' t ht
    · rw [sn_30, sn_31, sn_32, sn_33, sn_34, sn_35, sn_36, sn_37]
      by_cases e : i = nS π
      · subst e
        rw [upd_s, upd_s, upd_s, upd_s, upd_s, upd_s, upd_s, upd_s]
        refine ⟨tN.1, tN.2.1, tN.2.2.1, tN.2.2.2.1, tN.2.2.2.2.1, tN.2.2.2.2.2.1, tN.2.2.2.2.2.2.1, fun q => ?_⟩
        rw [if_pos q]; exact tN.2.2.2.2.2.2.2 q
      · rw [upd_o e, upd_o e, upd_o e, upd_o e, upd_o e, upd_o e, upd_o e, upd_o e, tS i (by omega)]
        exact h3.2.2 i (by omega)
end
