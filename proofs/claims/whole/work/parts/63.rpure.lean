/-! RUNS: what stands in the sets -/
def oSt (π : mS) (N : Nat) (ρ : RnS) (s : Nat) : Prop := inR ρ (ρ.st s) (it π N (1440 + s)) = true
def oSl (π : mS) (N : Nat) (ρ : RnS) (o f : Nat) : Prop := inR ρ (ρ.sl (9 * o + f)) (it π N (1260 + 9 * (ρ.os o).toNatClampNeg + f)) = true
def sOK (π : mS) (N : Nat) (ρ : RnS) : Prop := (∀ s, s < 4 → oSt π N ρ s) ∧ ∀ o, o < ρ.ob → ∀ f, (f < nF π ∨ f = 8) → oSl π N ρ o f
section
variable {π : mS} {N : Nat} {ρ : RnS}
theorem sok_same {ρ' : RnS} (e : sOK π N ρ' = sOK π N ρ) (h : sOK π N ρ) : sOK π N ρ' ↔ true = true := by rw [e]; exact ⟨fun _ => rfl, fun _ => h⟩
theorem sok_set {a : Nat} {v : Int32} : sOK π N (setN ρ a v) = sOK π N ρ := rfl
theorem sok_rd {a f : Nat} {v : Int32} : sOK π N (rdF π ρ a v f) = sOK π N ρ := by unfold rdF; split <;> rfl
theorem sok_ca {a r : Nat} {v : Int32} : sOK π N (caF π ρ a v r) = sOK π N ρ := by unfold caF; split <;> rfl
theorem sok_en {r : Nat} {v s t p : Int32} : sOK π N (enF π ρ v r s t p) = sOK π N ρ := by unfold enF; split <;> rfl
theorem sok_le : sOK π N (leF ρ) = sOK π N ρ := by unfold leF; split <;> rfl
theorem sok_me {f : Nat → Int32} : sOK π N (wMe ρ f) = sOK π N ρ := rfl
theorem sok_mk (w : Wr π ρ) (h : sOK π N ρ) {s : Int32} {a : Nat} : sOK π N (mkF ρ s a) := by
  unfold mkF
  split
  · exact h
  · rename_i hn
    have o30 := w.1
    have inv : ∀ v S, VN ρ.ob v → inR ρ v S = true → inR (rK (ρ.ob + 1) ρ.fr ρ.ca (upd ρ.os ρ.ob s) (fun j => if 9 * ρ.ob ≤ j then -1 else ρ.sl j) ρ.st (upd ρ.nm a (nI ρ.ob)) ρ.fm ρ.fc ρ.ft ρ.me) v S = true := by
      intro v S hv hi
      rcases hv with e | ⟨o, ho, e⟩
      · unfold inR; rw [decide_eq_true e]; rfl
      · unfold inR at hi ⊢
        have : siO (rK (ρ.ob + 1) ρ.fr ρ.ca (upd ρ.os ρ.ob s) (fun j => if 9 * ρ.ob ≤ j then -1 else ρ.sl j) ρ.st (upd ρ.nm a (nI ρ.ob)) ρ.fm ρ.fc ρ.ft ρ.me) v = siO ρ v := by
          show (upd ρ.os ρ.ob s v.toNatClampNeg).toNatClampNeg = (ρ.os v.toNatClampNeg).toNatClampNeg
          rw [e, cl_nI (by omega), upd_o (by omega)]
        rw [this]; exact hi
    refine ⟨fun s' hs' => inv _ _ (w.2.2.2.2.1 s' hs') (h.1 s' hs'), fun o ho f hf => ?_⟩
    have ho : o < ρ.ob + 1 := ho
    unfold oSl
    show inR _ (if 9 * ρ.ob ≤ 9 * o + f then -1 else ρ.sl (9 * o + f)) (it π N (1260 + 9 * (upd ρ.os ρ.ob s o).toNatClampNeg + f)) = true
    by_cases e : o = ρ.ob
    · rw [if_pos (by omega)]
      unfold inR
      rw [decide_eq_true rfl]; rfl
    · by_cases hf9 : 9 * ρ.ob ≤ 9 * o + f
      · rw [if_pos hf9]
        unfold inR
        rw [decide_eq_true rfl]; rfl
      · rw [if_neg hf9, upd_o e]
        exact inv _ _ (w.2.2.2.1 _ (by omega)) (h.2 o (by omega) f hf)
theorem sok_wr (hw : WM π) (w : Wr π ρ) (h : sOK π N ρ) {v x : Int32} (hv : VN ρ.ob v) {f : Nat} (hf : f < nF π ∨ f = 8) : sOK π N (wrF π ρ v f x) ↔ wck π N ρ v f x = true := by
  have aF := hw.nF8.2
  unfold wrF wck
  by_cases q : hsl π ρ v f = true
  · rw [if_pos q, q, Bool.not_true, Bool.false_or]
    obtain ⟨o, ho, rfl, co, o30, os, si⟩ := wr_si hw w hv (hsl_v q).1
    have es : siO ρ (nI o) = (ρ.os o).toNatClampNeg := by unfold siO; rw [co]
    rw [co]
    constructor
    · intro k
      have := k.2 o ho f hf
      unfold oSl at this
      have this : inR ρ (upd ρ.sl (9 * o + f) x (9 * o + f)) (it π N (1260 + 9 * (ρ.os o).toNatClampNeg + f)) = true := this
      rw [upd_s] at this
      rw [es]; exact this
    · intro k
      refine ⟨h.1, fun o' ho' f' hf' => ?_⟩
      show inR ρ (upd ρ.sl (9 * o + f) x (9 * o' + f')) (it π N (1260 + 9 * (ρ.os o').toNatClampNeg + f')) = true
      by_cases e : o' = o ∧ f' = f
      · obtain ⟨rfl, rfl⟩ := e
        rw [upd_s, ← es]; exact k
      · rw [upd_o (by omega)]; exact h.2 o' ho' f' hf'
  · have q' : hsl π ρ v f = false := by
      cases e : hsl π ρ v f with
      | false => rfl
      | true => exact absurd e q
    rw [if_neg q, q', Bool.not_false, Bool.true_or]
    exact ⟨fun _ => rfl, fun _ => h⟩
theorem sok_act (hw : WM π) (w : Wr π ρ) (h : sOK π N ρ) {i : Nat} (hi : i < nS π) : sOK π N (actF π ρ i) ↔ wOK π N ρ i = true := by
  have hop := hw.op hi
  have aF := hw.nF8.2
  have hf := w.2.1
  have nV : ∀ n, n < 6 → VN ρ.ob (ρ.nm (bas ρ + n)) := fun n hn => w.2.2.2.2.2.1 _ (by show 6 * (ρ.fr - 1) + n < _; omega)
  rcases kd_cases hw hi with k | k | k | k | k | k | k | k | k | k
  · rw [act_0 k, wok_t (by omega) (by omega) (by omega)]
    exact ⟨fun _ => rfl, fun _ => sok_mk w h⟩
  · rw [act_1 k, wok_t (by omega) (by omega) (by omega)]
    exact sok_same sok_set h
  · rw [act_2 k, wok_t (by omega) (by omega) (by omega)]
    exact sok_same sok_rd h
  · rw [act_3 k, wok_3 k]
    obtain ⟨q1, q2, q3⟩ := op_3 hop k
    exact sok_wr hw w h (nV _ (q1.g (by decide)).2) (Or.inl (q3.g (by omega)).2)
  · rw [act_4 k, wok_t (by omega) (by omega) (by omega)]
    exact sok_same sok_ca h
  · rw [act_5 k, wok_t (by omega) (by omega) (by omega)]
    exact sok_same sok_set h
  · rw [act_6 k, wok_6 k]
    obtain ⟨q1, q2⟩ := op_6 hop k
    have q1 : pp π i < 4 := (q1.g (by decide)).2
    constructor
    · intro a
      have := a.1 (pp π i) q1
      have this : inR ρ (upd ρ.st (pp π i) (ρ.nm (bas ρ + qq π i)) (pp π i)) (it π N (1440 + pp π i)) = true := this
      rw [upd_s] at this
      exact this
    · intro a
      refine ⟨fun s hs => ?_, h.2⟩
      show inR ρ (upd ρ.st (pp π i) (ρ.nm (bas ρ + qq π i)) s) (it π N (1440 + s)) = true
      by_cases e : s = pp π i
      · subst e; rw [upd_s]; exact a
      · rw [upd_o e]; exact h.1 s hs
  · rw [act_7 k, wok_t (by omega) (by omega) (by omega)]
    exact sok_same sok_en h
  · rw [act_8 k, wok_t (by omega) (by omega) (by omega)]
    exact sok_same sok_rd h
  · rw [act_9 k, wok_9 k]
    obtain ⟨q1, q2⟩ := op_9 hop k
    exact sok_wr hw w h (nV _ (q1.g (by decide)).2) (Or.inr rfl)
theorem pre_cases (hw : WM π) (z : Int32) : (preF π z ρ = leF ρ ∧ pOK π N z ρ = true) ∨ ∃ i, i < nS π ∧ preF π z ρ = actF π ρ i ∧ pOK π N z ρ = wOK π N ρ i := by
  have aS := hw.nS60.2
  have le := sts_le (π := π) (toM ρ)
  obtain ⟨t, ht, et⟩ := tD_eq (π := π) (ρ := ρ) z (by omega)
  by_cases q : nI (cnt π (toM ρ)) ≤ tD π z ρ
  · left
    unfold preF pOK
    rw [if_pos q, if_pos q]
    exact ⟨rfl, rfl⟩
  · right
    have htl : t < cnt π (toM ρ) := by
      rcases Nat.lt_or_ge t (cnt π (toM ρ)) with a | a
      · exact a
      · exact absurd (by rw [et]; exact nI_le a (by omega)) q
    refine ⟨sth π (toM ρ) t, (sts_lt htl).1, ?_, ?_⟩
    · unfold preF; rw [if_neg q, et, cl_nI (by omega)]
    · unfold pOK; rw [if_neg q, et, cl_nI (by omega)]
theorem wr_pre (hw : WM π) (w : Wr π ρ) (z : Int32) : Wr π (preF π z ρ) := by
  rcases pre_cases (N := 0) (ρ := ρ) hw z with ⟨e, -⟩ | ⟨i, hi, e, -⟩
  · rw [e]; exact wr_le w
  · rw [e]; exact wr_act hw w hi
theorem sok_pre (hw : WM π) (w : Wr π ρ) (h : sOK π N ρ) (z : Int32) : sOK π N (preF π z ρ) ↔ pOK π N z ρ = true := by
  rcases pre_cases (N := N) (ρ := ρ) hw z with ⟨e, e2⟩ | ⟨i, hi, e, e2⟩
  · rw [e, e2]; exact sok_same sok_le h
  · rw [e, e2]; exact sok_act hw w h hi
end
/-- a run, step by step -/
def zS' (seed : Int32) : Nat → Int32
  | 0 => seed
  | k + 1 => zS' seed k * nI 1664525 + nI 1013904223
def r0 : RnS := rK 0 1 0 (fun _ => 0) (fun _ => -1) (fun _ => -1) (fun _ => -1) (fun _ => 0) (fun _ => 0) (fun _ => 0) (fun _ => 0)
def rN (π : mS) (seed : Int32) : Nat → RnS
  | 0 => r0
  | k + 1 => meF (preF π (zS' seed (k + 1)) (rN π seed k))
def hOK (π : mS) (N : Nat) (ρ : RnS) : Prop := nOK π N ρ 6 ∧ sOK π N ρ
def gP (π : mS) (N : Nat) (seed : Int32) (k : Nat) : Prop := ∀ j, j < k → hOK π N (preF π (zS' seed (j + 1)) (rN π seed j))
theorem rN_s (π : mS) (seed : Int32) (k : Nat) : rN π seed (k + 1) = meF (preF π (zS' seed (k + 1)) (rN π seed k)) := by rw [rN]
theorem rN_0 (π : mS) (seed : Int32) : rN π seed 0 = r0 := by rw [rN]
theorem wr_me {π : mS} {ρ : RnS} (w : Wr π ρ) : Wr π (meF ρ) := w
theorem sok_meF {π : mS} {N : Nat} {ρ : RnS} (w : sOK π N ρ) : sOK π N (meF ρ) := w
theorem wr_0 {π : mS} (hM : 0 < nM π) : Wr π r0 := by
  refine ⟨?_, ⟨?_, ?_⟩, fun o ho => ?_, fun j hj => Or.inl rfl, fun s hs => Or.inl rfl, fun j hj => Or.inl rfl, fun k hk => ⟨⟨0, hM, nI_0.symm⟩, ⟨0, by decide, nI_0.symm⟩, ⟨0, by decide, nI_0.symm⟩⟩⟩
  · show 0 ≤ 30; decide
  · show 1 ≤ 1; decide
  · show 1 ≤ 10; decide
  · have ho : o < 0 := ho
    omega
theorem sok_0 {π : mS} {N : Nat} : sOK π N r0 := by
  refine ⟨fun s hs => ?_, fun o ho => ?_⟩
  · show inR r0 (-1) _ = true
    unfold inR
    rw [decide_eq_true rfl]; rfl
  · have ho : o < 0 := ho
    omega
theorem rN_wr {π : mS} (hw : WM π) (hM : 0 < nM π) (seed : Int32) (k : Nat) : Wr π (rN π seed k) := by
  induction k with
  | zero => rw [rN_0]; exact wr_0 hM
  | succ k ih => rw [rN_s]; exact wr_me (wr_pre hw ih _)
theorem rN_ok {π : mS} {N : Nat} (seed : Int32) (k : Nat) (h : gP π N seed k) : sOK π N (rN π seed k) := by
  cases k with
  | zero => rw [rN_0]; exact sok_0
  | succ k => rw [rN_s]; exact sok_meF (h k (Nat.lt_succ_self _)).2
theorem gP_s {π : mS} {N : Nat} {seed : Int32} {k : Nat} : gP π N seed (k + 1) ↔ gP π N seed k ∧ hOK π N (preF π (zS' seed (k + 1)) (rN π seed k)) := by
  constructor
  · intro h
    exact ⟨fun j hj => h j (by omega), h k (Nat.lt_succ_self _)⟩
  · rintro ⟨h1, h2⟩ j hj
    by_cases e : j = k
    · subst e; exact h2
    · exact h1 j (by omega)
