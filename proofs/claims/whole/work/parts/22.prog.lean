/-! THE PROGRAM, as the model's cells hold it: numbers, UNDER, FOUND, statements, what a statement brings -/
def gN (π : mS) (k j : Nat) : Nat := (π k j).toNatClampNeg
abbrev nC (π : mS) : Nat := gN π 25 0
abbrev nF (π : mS) : Nat := gN π 25 2
abbrev nM (π : mS) : Nat := gN π 25 4
abbrev nS (π : mS) : Nat := gN π 25 7
abbrev nT (π : mS) : Nat := gN π 25 16
abbrev fO (π : mS) (f : Nat) : Nat := gN π 27 f
abbrev ow (π : mS) (i : Nat) : Nat := gN π 30 i
abbrev kd (π : mS) (i : Nat) : Nat := gN π 31 i
abbrev pp (π : mS) (i : Nat) : Nat := gN π 32 i
abbrev qq (π : mS) (i : Nat) : Nat := gN π 33 i
abbrev rr (π : mS) (i : Nat) : Nat := gN π 34 i
abbrev ss (π : mS) (i : Nat) : Nat := gN π 35 i
abbrev tt (π : mS) (i : Nat) : Nat := gN π 36 i
abbrev sit (π : mS) (i : Nat) : Nat := gN π 37 i
abbrev sc (π : mS) (o : Nat) : Nat := gN π 38 o
def undF (π : mS) : Nat → Nat → Nat → Bool
  | 0, c, a => decide (c = a)
  | f + 1, c, a => decide (c = a) || (!decide (π 26 c = -1) && undF π f (gN π 26 c) a)
def und (π : mS) (c a : Nat) : Bool := undF π c c a
def mwP (π : mS) (c s m : Nat) : Bool := decide (π 28 m = nI c) && decide (π 29 m = nI s)
def mW (π : mS) (c s : Nat) : Int32 := match (List.range (nM π)).find? (mwP π c s) with
  | some m => nI m
  | none => -1
def fndF (π : mS) : Nat → Nat → Nat → Int32
  | 0, c, s => mW π c s
  | f + 1, c, s => if mW π c s = -1 then (if π 26 c = -1 then -1 else fndF π f (gN π 26 c) s) else mW π c s
def fnd (π : mS) (c s : Nat) : Int32 := fndF π c c s
def sts (π : mS) (m : Nat) : List Nat := (List.range (nS π)).filter (fun i => decide (π 30 i = nI m))
def cnt (π : mS) (m : Nat) : Nat := (sts π m).length
def sth (π : mS) (m t : Nat) : Nat := (sts π m).getD t 0
def opOK (π : mS) (i : Nat) : Prop := match kd π i with
  | 0 => IN (π 32 i) 6 ∧ IN (π 33 i) (nC π) ∧ IN (π 37 i) (nT π)
  | 2 => IN (π 32 i) 6 ∧ IN (π 33 i) 6 ∧ IN (π 34 i) (nF π)
  | 3 => IN (π 32 i) 6 ∧ IN (π 33 i) 6 ∧ IN (π 34 i) (nF π)
  | 4 => IN (π 32 i) 6 ∧ IN (π 33 i) 6 ∧ IN (π 34 i) (nC π)
  | 5 => IN (π 32 i) 6 ∧ IN (π 33 i) 4
  | 6 => IN (π 32 i) 4 ∧ IN (π 33 i) 6
  | 7 => IN (π 32 i) 6 ∧ IN (π 33 i) 6 ∧ IN (π 34 i) 4 ∧ IN (π 35 i) 6 ∧ IN (π 36 i) 6
  | _ => IN (π 32 i) 6 ∧ IN (π 33 i) 6
/-- the model's program is well formed -/
def WM1 (π : mS) : Prop := IN (π 25 0) 9 ∧ IN (π 25 2) 9 ∧ IN (π 25 4) 11 ∧ IN (π 25 7) 61 ∧ IN (π 25 16) 21 ∧ (π 25 18 = 0 ∨ π 25 18 = 1)
def WM2 (π : mS) : Prop := (∀ c, c < nC π → π 26 c = -1 ∨ IN (π 26 c) c) ∧ (∀ f, f < nF π → IN (π 27 f) (nC π)) ∧ (∀ m, m < nM π → IN (π 28 m) (nC π) ∧ IN (π 29 m) 4) ∧ (∀ o, o < nT π → IN (π 38 o) (nC π))
def WM3 (π : mS) : Prop := ∀ i, i < nS π → IN (π 30 i) (nM π) ∧ IN (π 31 i) 10 ∧ opOK π i
def WM (π : mS) : Prop := WM1 π ∧ WM2 π ∧ WM3 π
theorem IN.g {π : mS} {k j n : Nat} (h : IN (π k j) n) (hn : n ≤ 2 ^ 30) : π k j = nI (gN π k j) ∧ gN π k j < n := h.eq hn
theorem WM.nC8 {π : mS} (h : WM π) : π 25 0 = nI (nC π) ∧ nC π ≤ 8 := ⟨(h.1.1.g (by decide)).1, Nat.le_of_lt_succ (h.1.1.g (by decide)).2⟩
theorem WM.nF8 {π : mS} (h : WM π) : π 25 2 = nI (nF π) ∧ nF π ≤ 8 := ⟨(h.1.2.1.g (by decide)).1, Nat.le_of_lt_succ (h.1.2.1.g (by decide)).2⟩
theorem WM.nM10 {π : mS} (h : WM π) : π 25 4 = nI (nM π) ∧ nM π ≤ 10 := ⟨(h.1.2.2.1.g (by decide)).1, Nat.le_of_lt_succ (h.1.2.2.1.g (by decide)).2⟩
theorem WM.nS60 {π : mS} (h : WM π) : π 25 7 = nI (nS π) ∧ nS π ≤ 60 := ⟨(h.1.2.2.2.1.g (by decide)).1, Nat.le_of_lt_succ (h.1.2.2.2.1.g (by decide)).2⟩
theorem WM.nT20 {π : mS} (h : WM π) : π 25 16 = nI (nT π) ∧ nT π ≤ 20 := ⟨(h.1.2.2.2.2.1.g (by decide)).1, Nat.le_of_lt_succ (h.1.2.2.2.2.1.g (by decide)).2⟩
theorem WM.par {π : mS} (h : WM π) {c : Nat} (hc : c < nC π) : π 26 c = -1 ∨ (π 26 c = nI (gN π 26 c) ∧ gN π 26 c < c) := by
  have h8 := h.nC8.2
  rcases h.2.1.1 c hc with e | e
  · exact Or.inl e
  · exact Or.inr (e.g (by omega))
theorem WM.fO {π : mS} (h : WM π) {f : Nat} (hf : f < nF π) : π 27 f = nI (fO π f) ∧ fO π f < nC π := (h.2.1.2.1 f hf).g (by have := h.nC8.2; omega)
theorem WM.sc {π : mS} (h : WM π) {o : Nat} (ho : o < nT π) : π 38 o = nI (sc π o) ∧ sc π o < nC π := (h.2.1.2.2.2 o ho).g (by have := h.nC8.2; omega)
theorem WM.ow {π : mS} (h : WM π) {i : Nat} (hi : i < nS π) : π 30 i = nI (ow π i) ∧ ow π i < nM π := (h.2.2 i hi).1.g (by have := h.nM10.2; omega)
theorem WM.kd {π : mS} (h : WM π) {i : Nat} (hi : i < nS π) : π 31 i = nI (kd π i) ∧ kd π i < 10 := (h.2.2 i hi).2.1.g (by decide)
theorem WM.op {π : mS} (h : WM π) {i : Nat} (hi : i < nS π) : opOK π i := (h.2.2 i hi).2.2
/-- UNDER by one step up -/
theorem undF_le {π : mS} (h : WM π) {a : Nat} : ∀ c f, c < nC π → c ≤ f → undF π f c a = undF π c c a := by
  intro c
  induction c using Nat.strongRecOn with
  | ind c ih =>
    intro f hc hf
    cases f with
    | zero =>
      have : c = 0 := by omega
      subst this
      rfl
    | succ f =>
      cases c with
      | zero =>
        show (decide (0 = a) || (!decide (π 26 0 = -1) && undF π f (gN π 26 0) a)) = decide (0 = a)
        rcases h.par hc with e | ⟨-, e⟩
        · rw [e]; simp
        · omega
      | succ c =>
        show (decide (c + 1 = a) || (!decide (π 26 (c + 1) = -1) && undF π f (gN π 26 (c + 1)) a)) = (decide (c + 1 = a) || (!decide (π 26 (c + 1) = -1) && undF π c (gN π 26 (c + 1)) a))
        rcases h.par hc with e | ⟨-, e⟩
        · rw [e]; simp
        · rw [ih _ e f (by omega) (by omega), ih _ e c (by omega) (by omega)]
theorem und_eq {π : mS} (h : WM π) {c a : Nat} (hc : c < nC π) : und π c a = (decide (c = a) || (!decide (π 26 c = -1) && und π (gN π 26 c) a)) := by
  unfold und
  rw [← undF_le h c (c + 1) hc (by omega)]
  show (decide (c = a) || (!decide (π 26 c = -1) && undF π c (gN π 26 c) a)) = _
  rcases h.par hc with e | ⟨-, e⟩
  · rw [e]; simp
  · rw [undF_le h _ c (by omega) (by omega)]
theorem und_le {π : mS} (h : WM π) {a : Nat} : ∀ c, c < nC π → und π c a = true → a ≤ c := by
  intro c
  induction c using Nat.strongRecOn with
  | ind c ih =>
    intro hc hu
    rw [und_eq h hc, Bool.or_eq_true, Bool.and_eq_true] at hu
    rcases hu with hu | ⟨h1, h2⟩
    · have := of_decide_eq_true hu
      omega
    · rcases h.par hc with e | ⟨-, e⟩
      · rw [e] at h1; simp at h1
      · have := ih _ e (by omega) h2
        omega
theorem mW_cases (π : mS) (c s : Nat) : mW π c s = -1 ∨ ∃ m, m < nM π ∧ mW π c s = nI m := by
  unfold mW
  cases e : (List.range (nM π)).find? (mwP π c s) with
  | none => exact Or.inl rfl
  | some m =>
    have := List.mem_of_find?_eq_some e
    exact Or.inr ⟨m, List.mem_range.mp this, rfl⟩
theorem fndF_cases (π : mS) (s : Nat) : ∀ f c, fndF π f c s = -1 ∨ ∃ m, m < nM π ∧ fndF π f c s = nI m := by
  intro f
  induction f with
  | zero => intro c; exact mW_cases π c s
  | succ f ih =>
    intro c
    show (if mW π c s = -1 then (if π 26 c = -1 then -1 else fndF π f (gN π 26 c) s) else mW π c s) = -1 ∨ ∃ m, m < nM π ∧ (if mW π c s = -1 then (if π 26 c = -1 then -1 else fndF π f (gN π 26 c) s) else mW π c s) = nI m
    by_cases h1 : mW π c s = -1
    · rw [if_pos h1]
      by_cases h2 : π 26 c = -1
      · rw [if_pos h2]; exact Or.inl rfl
      · rw [if_neg h2]; exact ih _
    · rw [if_neg h1]; exact mW_cases π c s
theorem fnd_cases (π : mS) (c s : Nat) : fnd π c s = -1 ∨ ∃ m, m < nM π ∧ fnd π c s = nI m := fndF_cases π s c c
theorem fndF_le {π : mS} (h : WM π) {s : Nat} : ∀ c f, c < nC π → c ≤ f → fndF π f c s = fndF π c c s := by
  intro c
  induction c using Nat.strongRecOn with
  | ind c ih =>
    intro f hc hf
    cases f with
    | zero =>
      have : c = 0 := by omega
      subst this
      rfl
    | succ f =>
      cases c with
      | zero =>
        show (if mW π 0 s = -1 then (if π 26 0 = -1 then -1 else fndF π f (gN π 26 0) s) else mW π 0 s) = mW π 0 s
        rcases h.par hc with e | ⟨-, e⟩
        · rw [if_pos e]
          by_cases h1 : mW π 0 s = -1
          · rw [if_pos h1, h1]
          · rw [if_neg h1]
        · omega
      | succ c =>
        show (if mW π (c + 1) s = -1 then (if π 26 (c + 1) = -1 then -1 else fndF π f (gN π 26 (c + 1)) s) else mW π (c + 1) s) = (if mW π (c + 1) s = -1 then (if π 26 (c + 1) = -1 then -1 else fndF π c (gN π 26 (c + 1)) s) else mW π (c + 1) s)
        rcases h.par hc with e | ⟨-, e⟩
        · rw [if_pos e, if_pos e]
        · rw [ih _ e f (by omega) (by omega), ih _ e c (by omega) (by omega)]
theorem fnd_eq {π : mS} (h : WM π) {c s : Nat} (hc : c < nC π) : fnd π c s = if mW π c s = -1 then (if π 26 c = -1 then -1 else fnd π (gN π 26 c) s) else mW π c s := by
  unfold fnd
  rw [← fndF_le h c (c + 1) hc (by omega)]
  show (if mW π c s = -1 then (if π 26 c = -1 then -1 else fndF π c (gN π 26 c) s) else mW π c s) = _
  rcases h.par hc with e | ⟨-, e⟩
  · rw [if_pos e, if_pos e]
  · rw [fndF_le h _ c (by omega) (by omega)]
/-- what a statement brings, by the row T of the round before -/
def hasS (π : mS) (o f : Nat) : Bool := decide (f = 8) || und π (sc π o) (fO π f)
def fsl (π : mS) (x : Int32) (f : Nat) : List Nat := (List.range (nT π)).filter (fun o => bt x o && hasS π o f)
def orR (f : Nat → Int32) : Nat → Int32
  | 0 => 0
  | n + 1 => orR f n ||| f n
def su (π : mS) (c : Nat) : Int32 := orR (fun o => if und π (sc π o) c = true then (1 : Int32) <<< (nI o &&& 31) else 0) (nT π)
def ctx (π : mS) (o : Nat) : Nat := if π 25 18 = 0 then 0 else 1 + o
def conC (π : mS) (T : Nat → Int32) (i c o : Nat) : List (Nat × Int32) :=
  if fnd π (sc π o) (rr π i) = -1 then [] else
    [(1444 + (fnd π (sc π o) (rr π i)).toNatClampNeg, (1 : Int32) <<< (nI (ctx π o) &&& 31)),
     (126 * (fnd π (sc π o) (rr π i)).toNatClampNeg + 6 * ctx π o, (1 : Int32) <<< (nI o &&& 31)),
     (126 * (fnd π (sc π o) (rr π i)).toNatClampNeg + 6 * ctx π o + 1, T (126 * ow π i + 6 * c + ss π i)),
     (126 * (fnd π (sc π o) (rr π i)).toNatClampNeg + 6 * ctx π o + 2, T (126 * ow π i + 6 * c + tt π i)),
     (126 * ow π i + 6 * c + pp π i, T (126 * (fnd π (sc π o) (rr π i)).toNatClampNeg + 6 * ctx π o + 5))]
def conS (π : mS) (T : Nat → Int32) (i c : Nat) : List (Nat × Int32) := match kd π i with
  | 0 => [(126 * ow π i + 6 * c + pp π i, (1 : Int32) <<< (nI (sit π i) &&& 31))]
  | 1 => [(126 * ow π i + 6 * c + pp π i, T (126 * ow π i + 6 * c + qq π i))]
  | 2 => (fsl π (T (126 * ow π i + 6 * c + qq π i)) (rr π i)).map (fun o => (126 * ow π i + 6 * c + pp π i, T (1260 + 9 * o + rr π i)))
  | 3 => (fsl π (T (126 * ow π i + 6 * c + pp π i)) (rr π i)).map (fun o => (1260 + 9 * o + rr π i, T (126 * ow π i + 6 * c + qq π i)))
  | 4 => [(126 * ow π i + 6 * c + pp π i, T (126 * ow π i + 6 * c + qq π i) &&& su π (rr π i))]
  | 5 => [(126 * ow π i + 6 * c + pp π i, T (1440 + qq π i))]
  | 6 => [(1440 + pp π i, T (126 * ow π i + 6 * c + qq π i))]
  | 7 => (List.range (nT π)).flatMap (fun o => if bt (T (126 * ow π i + 6 * c + qq π i)) o = true then conC π T i c o else [])
  | 8 => (fsl π (T (126 * ow π i + 6 * c + qq π i)) 8).map (fun o => (126 * ow π i + 6 * c + pp π i, T (1260 + 9 * o + 8)))
  | _ => (fsl π (T (126 * ow π i + 6 * c + pp π i)) 8).map (fun o => (1260 + 9 * o + 8, T (126 * ow π i + 6 * c + qq π i)))
def orAll (T : Nat → Int32) (L : List (Nat × Int32)) : Nat → Int32 := L.foldl (fun T e => orT T e.1 e.2) T
theorem orAll_nil (T : Nat → Int32) : orAll T [] = T := rfl
theorem orAll_app (T : Nat → Int32) (L K : List (Nat × Int32)) : orAll T (L ++ K) = orAll (orAll T L) K := List.foldl_append
theorem orAll_one (T : Nat → Int32) (p : Nat) (b : Int32) : orAll T [(p, b)] = orT T p b := rfl
theorem orAll_cons (T : Nat → Int32) (e : Nat × Int32) (L : List (Nat × Int32)) : orAll T (e :: L) = orAll (orT T e.1 e.2) L := rfl
theorem subR.all {B T : Nat → Int32} (h : subR B T) (L : List (Nat × Int32)) : subR B (orAll T L) := by
  induction L generalizing T with
  | nil => exact h
  | cons e L ih => exact ih (h.or e.1 e.2)
theorem subR.rf (B : Nat → Int32) : subR B B := fun _ _ _ h => h
/-- the round: for each method, context, statement -/
def lT (π : mS) (B : Nat → Int32) (m c : Nat) : List (Nat × Int32) := (sts π m).flatMap (fun i => conS π B i c)
def lC (π : mS) (B : Nat → Int32) (m : Nat) : List (Nat × Int32) := (List.range 21).flatMap (fun c => if bt (B (1444 + m)) c = true then lT π B m c else [])
def lM (π : mS) (B : Nat → Int32) : List (Nat × Int32) := (List.range (nM π)).flatMap (lC π B)
def rnd (π : mS) (B : Nat → Int32) : Nat → Int32 := orAll B (lM π B)
/-- filters of ranges -/
theorem flt_succ (p : Nat → Bool) (n : Nat) : (List.range (n + 1)).filter p = (List.range n).filter p ++ (if p n = true then [n] else []) := by
  rw [List.range_succ, List.filter_append]
  congr 1
  by_cases h : p n = true
  · rw [if_pos h]; simp [h]
  · rw [if_neg h]; simp [h]
theorem flt_stop {p : Nat → Bool} {i : Nat} (h : ∀ o, i ≤ o → p o = false) : ∀ n, i ≤ n → (List.range n).filter p = (List.range i).filter p := by
  intro n hn
  induction n with
  | zero => have : i = 0 := by omega
            subst this; rfl
  | succ n ih =>
    by_cases e : i = n + 1
    · rw [e]
    · rw [flt_succ, ih (by omega), if_neg (by rw [h n (by omega)]; decide), List.append_nil]
theorem flt_lt {p : Nat → Bool} {k : Nat} : ∀ n, k ≤ n → (List.range n).filter (fun o => decide (o < k) && p o) = (List.range k).filter p := by
  intro n hn
  rw [flt_stop (i := k) (fun o ho => by rw [decide_eq_false (by omega)]; rfl) n hn]
  apply List.filter_congr
  intro o ho
  rw [decide_eq_true (List.mem_range.mp ho), Bool.true_and]
theorem bt_orR {f : Nat → Int32} {i : Nat} : ∀ n, bt (orR f n) i = true ↔ ∃ k, k < n ∧ bt (f k) i = true := by
  intro n
  induction n with
  | zero =>
    show bt 0 i = true ↔ _
    rw [b_0]
    constructor
    · intro h; cases h
    · rintro ⟨k, hk, _⟩; omega
  | succ n ih =>
    show bt (orR f n ||| f n) i = true ↔ _
    rw [b_or, Bool.or_eq_true, ih]
    constructor
    · rintro (⟨k, hk, h⟩ | h)
      · exact ⟨k, by omega, h⟩
      · exact ⟨n, by omega, h⟩
    · rintro ⟨k, hk, h⟩
      by_cases e : k = n
      · subst e; exact Or.inr h
      · exact Or.inl ⟨k, by omega, h⟩
theorem bt_su {π : mS} (h : WM π) (c o : Nat) : bt (su π c) o = (decide (o < nT π) && und π (sc π o) c) := by
  have h20 := h.nT20.2
  rw [Bool.eq_iff_iff]
  unfold su
  rw [bt_orR, Bool.and_eq_true]
  constructor
  · rintro ⟨k, hk, hb⟩
    by_cases hu : und π (sc π k) c = true
    · rw [if_pos hu, bt_1shl (by omega)] at hb
      have : o = k := of_decide_eq_true hb
      subst this
      exact ⟨decide_eq_true hk, hu⟩
    · rw [if_neg hu, b_0] at hb
      cases hb
  · rintro ⟨h1, h2⟩
    have h1 := of_decide_eq_true h1
    refine ⟨o, h1, ?_⟩
    rw [if_pos h2, bt_1shl (by omega)]
    exact decide_eq_true rfl
