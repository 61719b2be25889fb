/-! RUNS: a state that stands for class and model -/
def RnS : Type := Nat × Nat × Int32 × (Nat → Int32) × (Nat → Int32) × (Nat → Int32) × (Nat → Int32) × (Nat → Int32) × (Nat → Int32) × (Nat → Int32) × (Nat → Int32)
def rK (ob fr : Nat) (ca : Int32) (os sl st nm fm fc ft me : Nat → Int32) : RnS := (ob, fr, ca, os, sl, st, nm, fm, fc, ft, me)
def RnS.ob (ρ : RnS) : Nat := ρ.1
def RnS.fr (ρ : RnS) : Nat := ρ.2.1
def RnS.ca (ρ : RnS) : Int32 := ρ.2.2.1
def RnS.os (ρ : RnS) : Nat → Int32 := ρ.2.2.2.1
def RnS.sl (ρ : RnS) : Nat → Int32 := ρ.2.2.2.2.1
def RnS.st (ρ : RnS) : Nat → Int32 := ρ.2.2.2.2.2.1
def RnS.nm (ρ : RnS) : Nat → Int32 := ρ.2.2.2.2.2.2.1
def RnS.fm (ρ : RnS) : Nat → Int32 := ρ.2.2.2.2.2.2.2.1
def RnS.fc (ρ : RnS) : Nat → Int32 := ρ.2.2.2.2.2.2.2.2.1
def RnS.ft (ρ : RnS) : Nat → Int32 := ρ.2.2.2.2.2.2.2.2.2.1
def RnS.me (ρ : RnS) : Nat → Int32 := ρ.2.2.2.2.2.2.2.2.2.2
def VN (n : Nat) (v : Int32) : Prop := v = -1 ∨ IN v n
theorem VN.mono {n m : Nat} {v : Int32} (h : VN n v) (hm : n ≤ m) : VN m v := h.elim Or.inl (fun k => Or.inr (k.mono hm))
def Wr (π : mS) (ρ : RnS) : Prop := ρ.ob ≤ 30 ∧ (1 ≤ ρ.fr ∧ ρ.fr ≤ 10) ∧ (∀ o, o < ρ.ob → IN (ρ.os o) (nT π)) ∧ (∀ j, j < 9 * ρ.ob → VN ρ.ob (ρ.sl j)) ∧ (∀ s, s < 4 → VN ρ.ob (ρ.st s)) ∧ (∀ j, j < 6 * ρ.fr → VN ρ.ob (ρ.nm j)) ∧ ∀ k, k < ρ.fr → IN (ρ.fm k) (nM π) ∧ IN (ρ.fc k) 21 ∧ IN (ρ.ft k) 6
abbrev siO (ρ : RnS) (v : Int32) : Nat := (ρ.os v.toNatClampNeg).toNatClampNeg
def hsl (π : mS) (ρ : RnS) (v : Int32) (f : Nat) : Bool := !decide (v = -1) && hasS π (siO ρ v) f
def setN (ρ : RnS) (j : Nat) (v : Int32) : RnS := rK ρ.ob ρ.fr ρ.ca ρ.os ρ.sl ρ.st (upd ρ.nm j v) ρ.fm ρ.fc ρ.ft ρ.me
def rdF (π : mS) (ρ : RnS) (a : Nat) (v : Int32) (f : Nat) : RnS := if hsl π ρ v f = true then setN ρ a (ρ.sl (9 * v.toNatClampNeg + f)) else ρ
def wrF (π : mS) (ρ : RnS) (v : Int32) (f : Nat) (x : Int32) : RnS := if hsl π ρ v f = true then rK ρ.ob ρ.fr ρ.ca ρ.os (upd ρ.sl (9 * v.toNatClampNeg + f) x) ρ.st ρ.nm ρ.fm ρ.fc ρ.ft ρ.me else ρ
def mkF (ρ : RnS) (s : Int32) (a : Nat) : RnS := if ρ.ob = 30 then ρ else rK (ρ.ob + 1) ρ.fr ρ.ca (upd ρ.os ρ.ob s) (fun j => if 9 * ρ.ob ≤ j then -1 else ρ.sl j) ρ.st (upd ρ.nm a (nI ρ.ob)) ρ.fm ρ.fc ρ.ft ρ.me
def enN (ρ : RnS) (v s t : Int32) : Nat → Int32 := fun j => if j = 6 * ρ.fr then v else if j = 6 * ρ.fr + 1 then s else if j = 6 * ρ.fr + 2 then t else if 6 * ρ.fr ≤ j then -1 else ρ.nm j
def enF (π : mS) (ρ : RnS) (v : Int32) (r : Nat) (s t p : Int32) : RnS := if v = -1 ∨ ρ.fr = 10 ∨ fnd π (sc π (siO ρ v)) r = -1 then ρ else rK ρ.ob (ρ.fr + 1) (ρ.ca + 1) ρ.os ρ.sl ρ.st (enN ρ v s t) (upd ρ.fm ρ.fr (fnd π (sc π (siO ρ v)) r)) (upd ρ.fc ρ.fr (nI (ctx π (siO ρ v)))) (upd ρ.ft ρ.fr p) ρ.me
def leF (ρ : RnS) : RnS := if ρ.fr = 1 then ρ else rK ρ.ob (ρ.fr - 1) ρ.ca ρ.os ρ.sl ρ.st (upd ρ.nm (6 * (ρ.fr - 2) + (ρ.ft (ρ.fr - 1)).toNatClampNeg) (ρ.nm (6 * (ρ.fr - 1) + 5))) ρ.fm ρ.fc ρ.ft ρ.me
def caF (π : mS) (ρ : RnS) (a : Nat) (v : Int32) (r : Nat) : RnS := if v = -1 ∨ und π (sc π (siO ρ v)) r = true then setN ρ a v else ρ
abbrev bas (ρ : RnS) : Nat := 6 * (ρ.fr - 1)
def actF (π : mS) (ρ : RnS) (i : Nat) : RnS := match kd π i with
  | 0 => mkF ρ (π 37 i) (bas ρ + pp π i)
  | 1 => setN ρ (bas ρ + pp π i) (ρ.nm (bas ρ + qq π i))
  | 2 => rdF π ρ (bas ρ + pp π i) (ρ.nm (bas ρ + qq π i)) (rr π i)
  | 3 => wrF π ρ (ρ.nm (bas ρ + pp π i)) (rr π i) (ρ.nm (bas ρ + qq π i))
  | 4 => caF π ρ (bas ρ + pp π i) (ρ.nm (bas ρ + qq π i)) (rr π i)
  | 5 => setN ρ (bas ρ + pp π i) (ρ.st (qq π i))
  | 6 => rK ρ.ob ρ.fr ρ.ca ρ.os ρ.sl (upd ρ.st (pp π i) (ρ.nm (bas ρ + qq π i))) ρ.nm ρ.fm ρ.fc ρ.ft ρ.me
  | 7 => enF π ρ (ρ.nm (bas ρ + qq π i)) (rr π i) (ρ.nm (bas ρ + ss π i)) (ρ.nm (bas ρ + tt π i)) (π 32 i)
  | 8 => rdF π ρ (bas ρ + pp π i) (ρ.nm (bas ρ + qq π i)) 8
  | _ => wrF π ρ (ρ.nm (bas ρ + pp π i)) 8 (ρ.nm (bas ρ + qq π i))
section
variable {π : mS} {ρ : RnS} {i : Nat}
theorem act_0 (h : kd π i = 0) : actF π ρ i = mkF ρ (π 37 i) (bas ρ + pp π i) := by unfold actF; rw [h] <;> rfl
theorem act_1 (h : kd π i = 1) : actF π ρ i = setN ρ (bas ρ + pp π i) (ρ.nm (bas ρ + qq π i)) := by unfold actF; rw [h] <;> rfl
theorem act_2 (h : kd π i = 2) : actF π ρ i = rdF π ρ (bas ρ + pp π i) (ρ.nm (bas ρ + qq π i)) (rr π i) := by unfold actF; rw [h] <;> rfl
theorem act_3 (h : kd π i = 3) : actF π ρ i = wrF π ρ (ρ.nm (bas ρ + pp π i)) (rr π i) (ρ.nm (bas ρ + qq π i)) := by unfold actF; rw [h] <;> rfl
theorem act_4 (h : kd π i = 4) : actF π ρ i = caF π ρ (bas ρ + pp π i) (ρ.nm (bas ρ + qq π i)) (rr π i) := by unfold actF; rw [h] <;> rfl
theorem act_5 (h : kd π i = 5) : actF π ρ i = setN ρ (bas ρ + pp π i) (ρ.st (qq π i)) := by unfold actF; rw [h] <;> rfl
theorem act_6 (h : kd π i = 6) : actF π ρ i = rK ρ.ob ρ.fr ρ.ca ρ.os ρ.sl (upd ρ.st (pp π i) (ρ.nm (bas ρ + qq π i))) ρ.nm ρ.fm ρ.fc ρ.ft ρ.me := by unfold actF; rw [h] <;> rfl
theorem act_7 (h : kd π i = 7) : actF π ρ i = enF π ρ (ρ.nm (bas ρ + qq π i)) (rr π i) (ρ.nm (bas ρ + ss π i)) (ρ.nm (bas ρ + tt π i)) (π 32 i) := by unfold actF; rw [h] <;> rfl
theorem act_8 (h : kd π i = 8) : actF π ρ i = rdF π ρ (bas ρ + pp π i) (ρ.nm (bas ρ + qq π i)) 8 := by unfold actF; rw [h] <;> rfl
theorem act_9 (h : kd π i = 9) : actF π ρ i = wrF π ρ (ρ.nm (bas ρ + pp π i)) 8 (ρ.nm (bas ρ + qq π i)) := by unfold actF; rw [h] <;> rfl
theorem wr_set (h : Wr π ρ) {j : Nat} {v : Int32} (hv : VN ρ.ob v) : Wr π (setN ρ j v) := by
  obtain ⟨h1, h2, h3, h4, h5, h6, h7⟩ := h
  refine ⟨h1, h2, h3, h4, h5, fun k hk => ?_, h7⟩
  show VN ρ.ob (upd ρ.nm j v k)
  by_cases e : k = j
  · subst e; rw [upd_s]; exact hv
  · rw [upd_o e]; exact h6 k hk
theorem hsl_v {v : Int32} {f : Nat} (h : hsl π ρ v f = true) : ¬ v = -1 ∧ hasS π (siO ρ v) f = true := by
  unfold hsl at h
  rw [Bool.and_eq_true, Bool.not_eq_true', decide_eq_false_iff_not] at h
  exact h
theorem wr_rd (h : Wr π ρ) {a f : Nat} {v : Int32} (hv : VN ρ.ob v) (hf : f < 9) : Wr π (rdF π ρ a v f) := by
  unfold rdF
  split
  · rename_i q
    obtain ⟨o, ho, rfl⟩ := hv.resolve_left (hsl_v q).1
    have := h.1
    rw [cl_nI (by omega)]
    exact wr_set h (h.2.2.2.1 _ (by omega))
  · exact h
theorem wr_wr (h : Wr π ρ) {f : Nat} {v x : Int32} (hx : VN ρ.ob x) : Wr π (wrF π ρ v f x) := by
  unfold wrF
  split
  · obtain ⟨h1, h2, h3, h4, h5, h6, h7⟩ := h
    refine ⟨h1, h2, h3, fun k hk => ?_, h5, h6, h7⟩
    show VN ρ.ob (upd ρ.sl _ x k)
    by_cases e : k = 9 * v.toNatClampNeg + f
    · subst e; rw [upd_s]; exact hx
    · rw [upd_o e]; exact h4 k hk
  · exact h
theorem wr_mk (h : Wr π ρ) {s : Int32} {a : Nat} (hs : IN s (nT π)) : Wr π (mkF ρ s a) := by
  unfold mkF
  split
  · exact h
  · obtain ⟨h1, h2, h3, h4, h5, h6, h7⟩ := h
    refine ⟨by show ρ.ob + 1 ≤ 30; omega, h2, fun o ho => ?_, fun j hj => ?_, fun s hs => (h5 s hs).mono (Nat.le_succ _), fun j hj => ?_, h7⟩
    · show IN (upd ρ.os ρ.ob s o) _
      have ho : o < ρ.ob + 1 := ho
      by_cases e : o = ρ.ob
      · subst e; rw [upd_s]; exact hs
      · rw [upd_o e]; exact h3 o (by omega)
    · show VN (ρ.ob + 1) (if 9 * ρ.ob ≤ j then -1 else ρ.sl j)
      split
      · exact Or.inl rfl
      · exact (h4 j (by omega)).mono (Nat.le_succ _)
    · show VN (ρ.ob + 1) (upd ρ.nm a (nI ρ.ob) j)
      by_cases e : j = a
      · subst e; rw [upd_s]; exact Or.inr ⟨ρ.ob, Nat.lt_succ_self _, rfl⟩
      · rw [upd_o e]; exact (h6 j hj).mono (Nat.le_succ _)
theorem wr_en (hw : WM π) (h : Wr π ρ) {v s t p : Int32} {r : Nat} (hv : VN ρ.ob v) (hs : VN ρ.ob s) (ht : VN ρ.ob t) (hp : IN p 6) : Wr π (enF π ρ v r s t p) := by
  unfold enF
  split
  · exact h
  · rename_i q
    obtain ⟨h1, h2, h3, h4, h5, h6, h7⟩ := h
    have q2 : ¬ ρ.fr = 10 := fun e => q (Or.inr (Or.inl e))
    refine ⟨h1, ⟨by show 1 ≤ ρ.fr + 1; omega, by show ρ.fr + 1 ≤ 10; omega⟩, h3, h4, h5, fun j hj => ?_, fun k hk => ?_⟩
    · show VN ρ.ob (enN ρ v s t j)
      have hj : j < 6 * (ρ.fr + 1) := hj
      unfold enN
      split
      · exact hv
      · split
        · exact hs
        · split
          · exact ht
          · split
            · exact Or.inl rfl
            · exact h6 j (by omega)
    · have hk : k < ρ.fr + 1 := hk
      show IN (upd ρ.fm ρ.fr _ k) _ ∧ IN (upd ρ.fc ρ.fr _ k) _ ∧ IN (upd ρ.ft ρ.fr _ k) _
      by_cases e : k = ρ.fr
      · subst e
        rw [upd_s, upd_s, upd_s]
        have hsi : siO ρ v < nT π := by
          obtain ⟨o, ho, rfl⟩ := hv.resolve_left (fun e => q (Or.inl e))
          have := h3 o ho
          rw [show siO ρ (nI o) = (ρ.os o).toNatClampNeg by unfold siO; rw [cl_nI (by omega)]]
          exact (this.eq (by have := hw.nT20.2; omega)).2
        have := ctx_le (π := π) (siO ρ v)
        have := hw.nT20.2
        refine ⟨?_, ⟨_, by omega, rfl⟩, hp⟩
        rcases fnd_cases π (sc π (siO ρ v)) r with e | ⟨m, hm, e⟩
        · exact absurd (Or.inr (Or.inr e)) q
        · exact ⟨m, hm, e⟩
      · rw [upd_o e, upd_o e, upd_o e]; exact h7 k (by omega)
theorem wr_ca (h : Wr π ρ) {a r : Nat} {v : Int32} (hv : VN ρ.ob v) : Wr π (caF π ρ a v r) := by
  unfold caF
  split
  · exact wr_set h hv
  · exact h
theorem wr_le (h : Wr π ρ) : Wr π (leF ρ) := by
  unfold leF
  split
  · exact h
  · rename_i q
    obtain ⟨h1, h2, h3, h4, h5, h6, h7⟩ := h
    refine ⟨h1, ⟨by show 1 ≤ ρ.fr - 1; omega, by show ρ.fr - 1 ≤ 10; omega⟩, h3, h4, h5, fun j hj => ?_, fun k hk => h7 k (by have hk : k < ρ.fr - 1 := hk; omega)⟩
    have hj : j < 6 * (ρ.fr - 1) := hj
    show VN ρ.ob (upd ρ.nm _ _ j)
    by_cases e : j = 6 * (ρ.fr - 2) + (ρ.ft (ρ.fr - 1)).toNatClampNeg
    · rw [e, upd_s]; exact h6 _ (by omega)
    · rw [upd_o e]; exact h6 j (by omega)
theorem wr_act (hw : WM π) (h : Wr π ρ) (hi : i < nS π) : Wr π (actF π ρ i) := by
  have hop := hw.op hi
  have a4 := hw.nF8.2
  have hf := h.2.1
  have nV : ∀ n, n < 6 → VN ρ.ob (ρ.nm (bas ρ + n)) := fun n hn => h.2.2.2.2.2.1 _ (by show 6 * (ρ.fr - 1) + n < _; omega)
  rcases kd_cases hw hi with k | k | k | k | k | k | k | k | k | k
  · rw [act_0 k]
    obtain ⟨q1, q2, q3⟩ := op_0 hop k
    exact wr_mk h q3
  · rw [act_1 k]
    obtain ⟨q1, q2⟩ := op_1 hop k
    exact wr_set h (nV _ (q2.g (by decide)).2)
  · rw [act_2 k]
    obtain ⟨q1, q2, q3⟩ := op_2 hop k
    have : rr π i < nF π := (q3.g (by omega)).2
    exact wr_rd h (nV _ (q2.g (by decide)).2) (by omega)
  · rw [act_3 k]
    obtain ⟨q1, q2, q3⟩ := op_3 hop k
    exact wr_wr h (nV _ (q2.g (by decide)).2)
  · rw [act_4 k]
    obtain ⟨q1, q2, q3⟩ := op_4 hop k
    exact wr_ca h (nV _ (q2.g (by decide)).2)
  · rw [act_5 k]
    obtain ⟨q1, q2⟩ := op_5 hop k
    exact wr_set h (h.2.2.2.2.1 _ (q2.g (by decide)).2)
  · rw [act_6 k]
    obtain ⟨q1, q2⟩ := op_6 hop k
    have hv := nV _ (q2.g (by decide)).2
    obtain ⟨h1, h2, h3, h4, h5, h6, h7⟩ := h
    refine ⟨h1, h2, h3, h4, fun s hs => ?_, h6, h7⟩
    show VN ρ.ob (upd ρ.st _ _ s)
    by_cases e : s = pp π i
    · subst e; rw [upd_s]; exact hv
    · rw [upd_o e]; exact h5 s hs
  · rw [act_7 k]
    obtain ⟨q1, q2, q3, q4, q5⟩ := op_7 hop k
    exact wr_en hw h (nV _ (q2.g (by decide)).2) (nV _ (q4.g (by decide)).2) (nV _ (q5.g (by decide)).2) q1
  · rw [act_8 k]
    obtain ⟨q1, q2⟩ := op_8 hop k
    exact wr_rd h (nV _ (q2.g (by decide)).2) (by decide)
  · rw [act_9 k]
    obtain ⟨q1, q2⟩ := op_9 hop k
    exact wr_wr h (nV _ (q2.g (by decide)).2)
end
