/-! THE ROUNDS: places and bits stay in bounds; there is a last round -/
def bOK (π : mS) (T : Nat → Int32) : Prop := ∀ p, p < 1454 → ∀ b, bt (T p) b = true → b < 21 ∧ (p < 1444 → b < nT π)
def eOK (π : mS) (e : Nat × Int32) : Prop := e.1 < 1454 ∧ ∀ b, bt e.2 b = true → b < 21 ∧ (e.1 < 1444 → b < nT π)
theorem eOK_T {π : mS} {T : Nat → Int32} (h : bOK π T) {p q : Nat} (hp : p < 1454) (hq : q < 1444) : eOK π (p, T q) := ⟨hp, fun b hb => by have := h q (by omega) b hb; exact ⟨this.1, fun _ => this.2 hq⟩⟩
theorem eOK_1 {π : mS} {p k : Nat} (hp : p < 1454) (hk : k < 21) (h : p < 1444 → k < nT π) : eOK π (p, (1 : Int32) <<< (nI k &&& 31)) := by
  refine ⟨hp, fun b hb => ?_⟩
  rw [bt_1shl (by omega)] at hb
  have := of_decide_eq_true hb
  subst this
  exact ⟨hk, h⟩
theorem fsl_mem {π : mS} {x : Int32} {f o : Nat} (h : o ∈ fsl π x f) : o < nT π ∧ bt x o = true ∧ hasS π o f = true := by
  obtain ⟨a, b⟩ := List.mem_filter.mp h
  rw [Bool.and_eq_true] at b
  exact ⟨List.mem_range.mp a, b.1, b.2⟩
theorem kd_cases {π : mS} (h : WM π) {i : Nat} (hi : i < nS π) : kd π i = 0 ∨ kd π i = 1 ∨ kd π i = 2 ∨ kd π i = 3 ∨ kd π i = 4 ∨ kd π i = 5 ∨ kd π i = 6 ∨ kd π i = 7 ∨ kd π i = 8 ∨ kd π i = 9 := by
  have := (h.kd hi).2
  omega
theorem conS_ok {π : mS} (hw : WM π) {T : Nat → Int32} (hT : bOK π T) {i c : Nat} (hi : i < nS π) (hc : c < 21) : ∀ e ∈ conS π T i c, eOK π e := by
  have a1 := hw.nT20.2
  have a2 := hw.nM10.2
  have a4 := hw.nF8.2
  have a5 := hw.nC8.2
  have o2 := (hw.ow hi).2
  have hop := hw.op hi
  intro e he
  rcases kd_cases hw hi with k | k | k | k | k | k | k | k | k | k
  · rw [con_0 k] at he
    obtain ⟨q1, q2, q3⟩ := op_0 hop k
    have q1 : pp π i < 6 := (q1.g (by decide)).2
    have q3 : sit π i < nT π := (q3.g (by omega)).2
    rw [List.mem_singleton.mp he]
    exact eOK_1 (by omega) (by omega) (fun _ => q3)
  · rw [con_1 k] at he
    obtain ⟨q1, q2⟩ := op_1 hop k
    have q1 : pp π i < 6 := (q1.g (by decide)).2
    have q2 : qq π i < 6 := (q2.g (by decide)).2
    rw [List.mem_singleton.mp he]
    exact eOK_T hT (by omega) (by omega)
  · rw [con_2 k] at he
    obtain ⟨q1, q2, q3⟩ := op_2 hop k
    have q1 : pp π i < 6 := (q1.g (by decide)).2
    have q3 : rr π i < nF π := (q3.g (by omega)).2
    obtain ⟨o, ho, rfl⟩ := List.mem_map.mp he
    have := (fsl_mem ho).1
    exact eOK_T hT (by omega) (by omega)
  · rw [con_3 k] at he
    obtain ⟨q1, q2, q3⟩ := op_3 hop k
    have q2 : qq π i < 6 := (q2.g (by decide)).2
    have q3 : rr π i < nF π := (q3.g (by omega)).2
    obtain ⟨o, ho, rfl⟩ := List.mem_map.mp he
    have := (fsl_mem ho).1
    exact eOK_T hT (by omega) (by omega)
  · rw [con_4 k] at he
    obtain ⟨q1, q2, q3⟩ := op_4 hop k
    have q1 : pp π i < 6 := (q1.g (by decide)).2
    have q2 : qq π i < 6 := (q2.g (by decide)).2
    rw [List.mem_singleton.mp he]
    refine ⟨by show 126 * ow π i + 6 * c + pp π i < 1454; omega, fun b hb => ?_⟩
    rw [b_and, Bool.and_eq_true] at hb
    have := hT _ (by omega) b hb.1
    exact ⟨this.1, fun _ => this.2 (by omega)⟩
  · rw [con_5 k] at he
    obtain ⟨q1, q2⟩ := op_5 hop k
    have q1 : pp π i < 6 := (q1.g (by decide)).2
    have q2 : qq π i < 4 := (q2.g (by decide)).2
    rw [List.mem_singleton.mp he]
    exact eOK_T hT (by omega) (by omega)
  · rw [con_6 k] at he
    obtain ⟨q1, q2⟩ := op_6 hop k
    have q1 : pp π i < 4 := (q1.g (by decide)).2
    have q2 : qq π i < 6 := (q2.g (by decide)).2
    rw [List.mem_singleton.mp he]
    exact eOK_T hT (by omega) (by omega)
  · rw [con_7 k] at he
    obtain ⟨q1, q2, q3, q4, q5⟩ := op_7 hop k
    have q1 : pp π i < 6 := (q1.g (by decide)).2
    have q4 : ss π i < 6 := (q4.g (by decide)).2
    have q5 : tt π i < 6 := (q5.g (by decide)).2
    obtain ⟨o, ho, he⟩ := List.mem_flatMap.mp he
    have ho := List.mem_range.mp ho
    have hcx := ctx_le (π := π) o
    split at he
    · unfold conC at he
      rcases fnd_cases π (sc π o) (rr π i) with ef | ⟨m', hm', ef⟩
      · rw [if_pos ef] at he; cases he
      · rw [ef, cl_nI (by omega)] at he
        split at he
        · cases he
        · simp only [List.mem_cons, List.not_mem_nil, or_false] at he
          rcases he with rfl | rfl | rfl | rfl | rfl
          · exact eOK_1 (by omega) (by omega) (fun q => by omega)
          · exact eOK_1 (by omega) (by omega) (fun _ => ho)
          · exact eOK_T hT (by omega) (by omega)
          · exact eOK_T hT (by omega) (by omega)
          · exact eOK_T hT (by omega) (by omega)
    · cases he
  · rw [con_8 k] at he
    obtain ⟨q1, q2⟩ := op_8 hop k
    have q1 : pp π i < 6 := (q1.g (by decide)).2
    obtain ⟨o, ho, rfl⟩ := List.mem_map.mp he
    have := (fsl_mem ho).1
    exact eOK_T hT (by omega) (by omega)
  · rw [con_9 k] at he
    obtain ⟨q1, q2⟩ := op_9 hop k
    have q2 : qq π i < 6 := (q2.g (by decide)).2
    obtain ⟨o, ho, rfl⟩ := List.mem_map.mp he
    have := (fsl_mem ho).1
    exact eOK_T hT (by omega) (by omega)
theorem lM_mem {π : mS} (hw : WM π) {B : Nat → Int32} {e : Nat × Int32} : e ∈ lM π B ↔ ∃ i c, i < nS π ∧ c < 21 ∧ bt (B (1444 + ow π i)) c = true ∧ e ∈ conS π B i c := by
  unfold lM lC lT
  rw [List.mem_flatMap]
  constructor
  · rintro ⟨m, hm, he⟩
    rw [List.mem_flatMap] at he
    obtain ⟨c, hc, he⟩ := he
    split at he
    · rename_i hb
      rw [List.mem_flatMap] at he
      obtain ⟨i, hi, he⟩ := he
      obtain ⟨h1, h2⟩ := List.mem_filter.mp hi
      have h1 := List.mem_range.mp h1
      have h2 := of_decide_eq_true h2
      have h3 := hw.ow h1
      have h4 := List.mem_range.mp hm
      have h5 := hw.nM10.2
      have : ow π i = m := nI_inj (by omega) (by omega) (h3.1.symm.trans h2)
      exact ⟨i, c, h1, List.mem_range.mp hc, by rw [this]; exact hb, he⟩
    · cases he
  · rintro ⟨i, c, hi, hc, hb, he⟩
    have h3 := hw.ow hi
    refine ⟨ow π i, List.mem_range.mpr h3.2, List.mem_flatMap.mpr ⟨c, List.mem_range.mpr hc, ?_⟩⟩
    rw [if_pos hb]
    exact List.mem_flatMap.mpr ⟨i, List.mem_filter.mpr ⟨List.mem_range.mpr hi, decide_eq_true h3.1⟩, he⟩
theorem lM_ok {π : mS} (hw : WM π) {B : Nat → Int32} (hB : bOK π B) : ∀ e ∈ lM π B, eOK π e := by
  intro e he
  obtain ⟨i, c, hi, hc, -, h⟩ := (lM_mem hw).mp he
  exact conS_ok hw hB hi hc e h
/-- one place of a row behind many entries -/
theorem bt_orAll (L : List (Nat × Int32)) : ∀ (T : Nat → Int32) (p b : Nat), bt (orAll T L p) b = true ↔ bt (T p) b = true ∨ ∃ e ∈ L, e.1 = p ∧ bt e.2 b = true := by
  induction L with
  | nil => intro T p b; simp [orAll_nil]
  | cons e L ih =>
    intro T p b
    rw [orAll_cons, ih]
    unfold orT
    by_cases h : p = e.1
    · subst h
      rw [upd_s, b_or, Bool.or_eq_true]
      constructor
      · rintro ((h | h) | ⟨e', h1, h2⟩)
        · exact Or.inl h
        · exact Or.inr ⟨e, List.mem_cons_self, rfl, h⟩
        · exact Or.inr ⟨e', List.mem_cons_of_mem _ h1, h2⟩
      · rintro (h | ⟨e', h1, h2⟩)
        · exact Or.inl (Or.inl h)
        · rcases List.mem_cons.mp h1 with rfl | h1
          · exact Or.inl (Or.inr h2.2)
          · exact Or.inr ⟨e', h1, h2⟩
    · rw [upd_o h]
      constructor
      · rintro (h1 | ⟨e', h1, h2⟩)
        · exact Or.inl h1
        · exact Or.inr ⟨e', List.mem_cons_of_mem _ h1, h2⟩
      · rintro (h1 | ⟨e', h1, h2⟩)
        · exact Or.inl h1
        · rcases List.mem_cons.mp h1 with rfl | h1
          · exact absurd h2.1.symm h
          · exact Or.inr ⟨e', h1, h2⟩
theorem row_ext {T S : Nat → Int32} (h : ∀ p b, bt (T p) b = true ↔ bt (S p) b = true) : T = S := by
  funext p
  apply b_ext
  intro b _
  rw [Bool.eq_iff_iff]
  exact h p b
/-- the same entries in any order -/
theorem orAll_same {L K : List (Nat × Int32)} (h : ∀ e, e ∈ L ↔ e ∈ K) (T : Nat → Int32) : orAll T L = orAll T K := by
  apply row_ext
  intro p b
  rw [bt_orAll, bt_orAll]
  constructor
  · rintro (h1 | ⟨e, h1, h2⟩)
    · exact Or.inl h1
    · exact Or.inr ⟨e, (h e).mp h1, h2⟩
  · rintro (h1 | ⟨e, h1, h2⟩)
    · exact Or.inl h1
    · exact Or.inr ⟨e, (h e).mpr h1, h2⟩
def T0 (π : mS) : Nat → Int32 := fun p => if p = 1444 ∧ 0 < nM π then 1 else 0
def it (π : mS) : Nat → Nat → Int32
  | 0 => T0 π
  | n + 1 => rnd π (it π n)
def zR (T : Nat → Int32) : Prop := ∀ p, 1454 ≤ p → T p = 0
theorem T0_ok (π : mS) : bOK π (T0 π) ∧ zR (T0 π) := by
  constructor
  · intro p hp b hb
    unfold T0 at hb
    split at hb
    · rename_i h
      have : b = 0 := by
        have g := bt_1shl (k := 0) (by decide) b
        rw [show (1 : Int32) <<< (nI 0 &&& 31) = 1 by decide] at g
        rw [g] at hb
        exact of_decide_eq_true hb
      subst this
      exact ⟨by decide, fun q => by omega⟩
    · rw [b_0] at hb; cases hb
  · intro p hp
    unfold T0
    rw [if_neg (by omega)]
theorem rnd_ok {π : mS} (hw : WM π) {B : Nat → Int32} (hB : bOK π B) (hz : zR B) : bOK π (rnd π B) ∧ zR (rnd π B) := by
  have hL := lM_ok hw hB
  constructor
  · intro p hp b hb
    unfold rnd at hb
    rcases (bt_orAll _ _ _ _).mp hb with h | ⟨e, h1, rfl, h3⟩
    · exact hB p hp b h
    · exact (hL e h1).2 b h3
  · intro p hp
    apply b_ext
    intro b _
    rw [b_0, ← Bool.not_eq_true]
    intro hb
    unfold rnd at hb
    rcases (bt_orAll _ _ _ _).mp hb with h | ⟨e, h1, rfl, h3⟩
    · rw [hz p hp, b_0] at h; cases h
    · have := (hL e h1).1; omega
theorem it_ok {π : mS} (hw : WM π) : ∀ n, bOK π (it π n) ∧ zR (it π n)
  | 0 => T0_ok π
  | n + 1 => rnd_ok hw (it_ok hw n).1 (it_ok hw n).2
theorem it_sub {π : mS} (n : Nat) : subR (it π n) (it π (n + 1)) := (subR.rf _).all _
/-- how many bits are not there -/
def zc (x : Int32) : Nat := ((List.range 32).filter (fun i => !bt x i)).length
def zS (T : Nat → Int32) : Nat → Nat
  | 0 => 0
  | n + 1 => zS T n + zc (T n)
theorem flt_len_le {p q : Nat → Bool} (h : ∀ i, p i = true → q i = true) : ∀ n, ((List.range n).filter p).length ≤ ((List.range n).filter q).length := by
  intro n
  induction n with
  | zero => exact Nat.le_refl _
  | succ n ih =>
    rw [flt_succ, flt_succ, List.length_append, List.length_append]
    by_cases hp : p n = true
    · rw [if_pos hp, if_pos (h n hp)]; simpa using ih
    · rw [if_neg hp]
      simp only [List.length_nil, Nat.add_zero]
      omega
theorem flt_len_lt {p q : Nat → Bool} (h : ∀ i, p i = true → q i = true) {k : Nat} (hp : p k = false) (hq : q k = true) : ∀ n, k < n → ((List.range n).filter p).length + 1 ≤ ((List.range n).filter q).length := by
  intro n hn
  induction n with
  | zero => omega
  | succ n ih =>
    rw [flt_succ, flt_succ, List.length_append, List.length_append]
    by_cases e : k = n
    · subst e
      rw [if_neg (by rw [hp]; decide), if_pos hq]
      have := flt_len_le h k
      simpa using this
    · have := ih (by omega)
      by_cases hp2 : p n = true
      · rw [if_pos hp2, if_pos (h n hp2)]; simp only [List.length_singleton]; omega
      · rw [if_neg hp2]
        simp only [List.length_nil, Nat.add_zero]
        omega
theorem zc_32 (x : Int32) : zc x ≤ 32 := by
  have := List.length_filter_le (fun i => !bt x i) (List.range 32)
  rwa [List.length_range] at this
theorem zc_le {x y : Int32} (h : ∀ b, bt x b = true → bt y b = true) : zc y ≤ zc x := flt_len_le (fun i hi => by
  rw [Bool.not_eq_true'] at hi ⊢
  rw [← Bool.not_eq_true]
  intro q
  rw [h i q] at hi
  cases hi) 32
theorem zc_lt {x y : Int32} (h : ∀ b, bt x b = true → bt y b = true) (hne : x ≠ y) : zc y + 1 ≤ zc x := by
  have : ∃ b, b < 32 ∧ bt x b ≠ bt y b := by
    apply Classical.byContradiction
    intro q
    apply hne
    apply b_ext
    intro b hb
    apply Classical.byContradiction
    intro q2
    exact q ⟨b, hb, q2⟩
  obtain ⟨b, hb, hd⟩ := this
  have h1 : bt x b = false := by
    cases e : bt x b with
    | false => rfl
    | true => rw [h b e, e] at hd; exact absurd rfl hd
  have h2 : bt y b = true := by
    cases e : bt y b with
    | true => rfl
    | false => rw [h1, e] at hd; exact absurd rfl hd
  exact flt_len_lt (fun i hi => by
    rw [Bool.not_eq_true'] at hi ⊢
    rw [← Bool.not_eq_true]
    intro q
    rw [h i q] at hi
    cases hi) (k := b) (by rw [h2]; rfl) (by rw [h1]; rfl) 32 hb
theorem zS_le {T S : Nat → Int32} : ∀ n, (∀ p, p < n → ∀ b, bt (T p) b = true → bt (S p) b = true) → zS S n ≤ zS T n := by
  intro n
  induction n with
  | zero => intro _; exact Nat.le_refl _
  | succ n ih =>
    intro h
    have h1 := ih (fun p hp => h p (by omega))
    have h2 := zc_le (h n (by omega))
    show zS S n + zc (S n) ≤ zS T n + zc (T n)
    omega
theorem zS_lt {T S : Nat → Int32} {q : Nat} (hne : T q ≠ S q) : ∀ n, q < n → (∀ p, p < n → ∀ b, bt (T p) b = true → bt (S p) b = true) → zS S n + 1 ≤ zS T n := by
  intro n
  induction n with
  | zero => intro h; omega
  | succ n ih =>
    intro hq h
    show zS S n + zc (S n) + 1 ≤ zS T n + zc (T n)
    by_cases e : q = n
    · subst e
      have h1 := zS_le q (fun p hp => h p (by omega))
      have h2 := zc_lt (h q (by omega)) hne
      omega
    · have h1 := ih (by omega) (fun p hp => h p (by omega))
      have h2 := zc_le (h n (by omega))
      omega
theorem zS_max (T : Nat → Int32) : ∀ n, zS T n ≤ 32 * n := by
  intro n
  induction n with
  | zero => exact Nat.le_refl _
  | succ n ih =>
    show zS T n + zc (T n) ≤ 32 * (n + 1)
    have := zc_32 (T n)
    omega
def isLast (π : mS) (N : Nat) : Prop := it π (N + 1) = it π N ∧ ∀ n, n < N → it π (n + 1) ≠ it π n
theorem isLast.eq {π : mS} {N K : Nat} (h : isLast π N) (k : isLast π K) : N = K := by
  rcases Nat.lt_trichotomy N K with q | q | q
  · exact absurd h.1 (k.2 N q)
  · exact q
  · exact absurd k.1 (h.2 K q)
theorem row_ne {T S : Nat → Int32} (hT : zR T) (hS : zR S) (h : T ≠ S) : ∃ p, p < 1454 ∧ T p ≠ S p := by
  apply Classical.byContradiction
  intro q
  apply h
  funext p
  rcases Nat.lt_or_ge p 1454 with hp | hp
  · apply Classical.byContradiction
    intro q2
    exact q ⟨p, hp, q2⟩
  · rw [hT p hp, hS p hp]
theorem ex_last {π : mS} (hw : WM π) : ∃ N, N < 46528 ∧ isLast π N := by
  have key : ∀ n, (∀ k, k < n → it π (k + 1) ≠ it π k) → zS (it π n) 1454 + n ≤ 46528 := by
    intro n
    induction n with
    | zero => intro _; have := zS_max (it π 0) 1454; omega
    | succ n ih =>
      intro h
      have h1 := ih (fun k hk => h k (by omega))
      obtain ⟨p, hp, hne⟩ := row_ne (it_ok hw (n + 1)).2 (it_ok hw n).2 (h n (by omega))
      have h2 := zS_lt (T := it π n) (S := it π (n + 1)) (q := p) (fun e => hne e.symm) 1454 hp (fun q hq b hb => it_sub n q hq b hb)
      omega
  have pos : ∀ n, 1 ≤ zS (it π n) 1454 := by
    intro n
    have h0 : 1 ≤ zc (it π n 0) := by
      have hb : bt (it π n 0) 31 = false := by
        rw [← Bool.not_eq_true]
        intro q
        have := ((it_ok hw n).1 0 (by decide) 31 q).1
        omega
      have := flt_len_lt (p := fun _ => false) (q := fun i => !bt (it π n 0) i) (fun i hi => by cases hi) (k := 31) rfl (by rw [hb]; rfl) 32 (by decide)
      unfold zc
      omega
    have h1 : ∀ m, 0 < m → zc (it π n 0) ≤ zS (it π n) m := by
      intro m
      induction m with
      | zero => intro h; omega
      | succ m ih =>
        intro _
        show zc (it π n 0) ≤ zS (it π n) m + zc (it π n m)
        rcases Nat.eq_zero_or_pos m with e | e
        · subst e; omega
        · have := ih e; omega
    have := h1 1454 (by decide)
    omega
  have ex : ∃ k, k < 46528 ∧ it π (k + 1) = it π k := by
    apply Classical.byContradiction
    intro q
    have h := key 46528 (fun k hk e => q ⟨k, hk, e⟩)
    have := pos 46528
    omega
  obtain ⟨k, ⟨hk, he⟩, hmin⟩ := pk_least (fun k => k < 46528 ∧ it π (k + 1) = it π k) ex
  exact ⟨k, hk, he, fun n hn e => hmin n hn ⟨by omega, e⟩⟩
/-- the rounds at which sites came to names -/
noncomputable def wN (π : mS) : Nat → Nat → Int32
  | 0 => fun _ => 0
  | n + 1 => wOf (wN π n) (it π (n + 1)) (nI (n + 1))
theorem wN_any {π : mS} {j : Nat} (hj : j < 1200) : ∀ n, n < 2 ^ 30 → wN π n j = 0 → ¬ anyC (it π n) j := by
  intro n hn h ha
  cases n with
  | zero =>
    obtain ⟨c, hc, hb⟩ := ha
    have e : it π 0 (126 * (j / 120) + 6 * c + j / 20 % 6) = 0 := by
      show T0 π _ = 0
      unfold T0
      rw [if_neg (by omega)]
    rw [e, b_0] at hb
    cases hb
  | succ n =>
    have e : wN π (n + 1) j = cIf (j < 1200 ∧ wN π n j = 0 ∧ anyC (it π (n + 1)) j) (nI (n + 1)) (wN π n j) := rfl
    by_cases h0 : wN π n j = 0
    · rw [cIf_t ⟨hj, h0, ha⟩] at e
      rw [e] at h
      exact nI_ne0 (by omega) (by omega) h
    · rw [cIf_f (fun q => h0 q.2.1)] at e
      rw [e] at h
      exact h0 h
theorem wN_last {π : mS} {N : Nat} (hN : N < 2 ^ 30) (r : Int32) : wOf (wN π N) (it π N) r = wN π N := by
  funext j
  unfold wOf
  exact cIf_f (fun q => wN_any q.1 N hN q.2.1 q.2.2)
