/-! THE CLASS'S SETS: rows of places, and what 'add' does to them -/
noncomputable def cIf {α : Type} (P : Prop) (a b : α) : α := @ite α P (Classical.propDecidable P) a b
theorem cIf_t {α : Type} {P : Prop} {a b : α} (h : P) : cIf P a b = a := if_pos h
theorem cIf_f {α : Type} {P : Prop} {a b : α} (h : ¬ P) : cIf P a b = b := if_neg h
theorem cIf_c {α : Type} {P Q : Prop} {a b : α} (h : P ↔ Q) : cIf P a b = cIf Q a b := by
  by_cases hp : P
  · rw [cIf_t hp, cIf_t (h.mp hp)]
  · rw [cIf_f hp, cIf_f (fun q => hp (h.mpr q))]
theorem upd_s {f : Nat → Int32} {k : Nat} {x : Int32} : upd f k x k = x := pk_us
theorem upd_o {f : Nat → Int32} {k j : Nat} {x : Int32} (h : j ≠ k) : upd f k x j = f j := pk_un h
theorem m_up_at {σ : mS} {k j k' j' : Nat} {v : Int32} : m_up σ k j v k' j' = if k' = k ∧ j' = j then v else σ k' j' := by
  unfold m_up
  by_cases hk : k' = k
  · subst hk
    rw [if_pos rfl]
    unfold upd
    by_cases hj : j' = j
    · rw [if_pos hj, if_pos ⟨rfl, hj⟩]
    · rw [if_neg hj, if_neg (fun q => hj q.2)]
  · rw [if_neg hk, if_neg (fun q => hk q.1)]
theorem m_up_ne {σ : mS} {k j k' : Nat} {v : Int32} (h : k' ≠ k) : m_up σ k j v k' = σ k' := by unfold m_up; rw [if_neg h]
/-- cameAt, when 'round' is noted for the sites below i -/
def ntW (W : Nat → Int32) (base : Nat) (fresh r : Int32) (i : Nat) : Nat → Int32 := fun j => if base ≤ j ∧ j < base + i ∧ bt fresh (j - base) = true ∧ W j = 0 then r else W j
def st15 (σ : mS) (W : Nat → Int32) : mS := fun k => if k = 15 then W else σ k
theorem st15_15 {σ : mS} {W : Nat → Int32} : st15 σ W 15 = W := if_pos rfl
theorem st15_o {σ : mS} {W : Nat → Int32} {k : Nat} (h : k ≠ 15) : st15 σ W k = σ k := if_neg h
theorem ntW_0 (W : Nat → Int32) (base : Nat) (fresh r : Int32) : ntW W base fresh r 0 = W := by
  funext j
  unfold ntW
  rw [if_neg (by omega)]
theorem ntW_skip {W : Nat → Int32} {base i : Nat} {fresh r : Int32} (h : bt fresh i = false ∨ W (base + i) ≠ 0) : ntW W base fresh r (i + 1) = ntW W base fresh r i := by
  funext j
  unfold ntW
  by_cases hj : j = base + i
  · subst hj
    rw [if_neg, if_neg]
    · rintro ⟨-, h2, -⟩; omega
    · rintro ⟨-, -, h3, h4⟩
      rw [Nat.add_sub_cancel_left] at h3
      rcases h with h | h
      · rw [h] at h3; cases h3
      · exact h h4
  · by_cases hp : base ≤ j ∧ j < base + i ∧ bt fresh (j - base) = true ∧ W j = 0
    · rw [if_pos hp, if_pos ⟨hp.1, by omega, hp.2.2⟩]
    · rw [if_neg hp, if_neg (fun q => hp ⟨q.1, by omega, q.2.2⟩)]
theorem ntW_set {W : Nat → Int32} {base i : Nat} {fresh r : Int32} (h : bt fresh i = true) (h0 : W (base + i) = 0) : upd (ntW W base fresh r i) (base + i) r = ntW W base fresh r (i + 1) := by
  funext j
  by_cases hj : j = base + i
  · subst hj
    rw [upd_s]
    unfold ntW
    rw [if_pos ⟨by omega, by omega, by rw [Nat.add_sub_cancel_left]; exact h, h0⟩]
  · rw [upd_o hj]
    unfold ntW
    by_cases hp : base ≤ j ∧ j < base + i ∧ bt fresh (j - base) = true ∧ W j = 0
    · rw [if_pos hp, if_pos ⟨hp.1, by omega, hp.2.2⟩]
    · rw [if_neg hp, if_neg (fun q => hp ⟨q.1, by omega, q.2.2⟩)]
theorem ntW_at {W : Nat → Int32} {base i : Nat} {fresh r : Int32} : ntW W base fresh r i (base + i) = W (base + i) := by
  unfold ntW
  rw [if_neg (by omega)]
theorem l_note (Q : Option mV → mS → Prop) (σ : mS) (base : Nat) (hb : base + 20 ≤ 1200) (fresh : Int32) (u1 u3 : Option mV) (hq : Q none (st15 σ (ntW (σ 15) base fresh (σ 2 4) 20))) : ∀ n i, 20 - i = n → i ≤ 20 → J M_S_noteRound Q 22 [some (.inr (2, 0)), u1, some (.inl fresh), u3, some (.inl (nI base)), some (.inl (nI i))] [] (st15 σ (ntW (σ 15) base fresh (σ 2 4) i)) := by
  intro n
  induction n with
  | zero =>
    intro i h1 h2
    have : i = 20 := by omega
    subst this
    exact r_S_noteRound_22 ⟨fun _ => hq, fun a => absurd (nI_le (Nat.le_refl _) (by omega)) a⟩
  | succ n ih =>
    intro i h1 h2
    have key := ih (i + 1) (by omega) (by omega)
    rw [← nI_1] at key
    refine r_S_noteRound_22 ⟨fun a => absurd a (nI_ge (by omega) (by omega)), fun _ => ⟨fun a => ?_, fun a => ?_⟩⟩
    · rw [ntW_skip (Or.inl ((bt_and1 (by omega)).mp a))] at key
      exact key
    · have hbit : bt fresh i = true := (Bool.not_eq_false _).mp (fun q => a ((bt_and1 (by omega)).mpr q))
      rw [nI_add, cl_nI (by omega), st15_15, ntW_at]
      refine ⟨vp_in_nI (by omega) (by decide), fun b => ?_, fun b => ⟨vp_in_nI (by omega) (by decide), ?_⟩⟩
      · rw [ntW_skip (Or.inr b)] at key
        exact key
      · rw [← ntW_set hbit b] at key
        have e : m_up (st15 σ (ntW (σ 15) base fresh (σ 2 4) i)) 15 (base + i) (st15 σ (ntW (σ 15) base fresh (σ 2 4) i) 2 4) = st15 σ (upd (ntW (σ 15) base fresh (σ 2 4) i) (base + i) (σ 2 4)) := by
          funext k
          by_cases hk : k = 15
          · subst hk
            rw [m_up_s, st15_15, st15_15, st15_o (by decide)]
          · rw [m_up_ne hk, st15_o hk, st15_o hk]
        rw [e]
        exact key
theorem c_note (σ : mS) {m c n : Nat} (hm : m < 10) (hc : c < 21) (hn : n < 6) (fresh : Int32) : MR M_S_noteRound [.inr (2, 0), .inl (nI (126 * m + 6 * c + n)), .inl fresh] σ none (st15 σ (ntW (σ 15) (120 * m + 20 * n) fresh (σ 2 4) 20)) := by
  refine MU_of rfl rfl rfl (r_S_noteRound_0 ?_)
  rintro _ rfl
  have e1 : nI (126 * m + 6 * c + n) / nI 126 = nI m := by
    rw [pk_div (by omega) (by decide) (by decide)]
    congr 1
    omega
  have e2 : m_rem (nI (126 * m + 6 * c + n)) (nI 6) = nI n := by
    unfold m_rem
    rw [pk_rem (by omega) (by decide) (by decide)]
    congr 1
    omega
  have e3 : (nI m * nI 6 + nI n) * nI 20 = nI (120 * m + 20 * n) := by
    rw [pk_mul, nI_add, pk_mul]
    congr 1
    omega
  rw [e1, e2, e3]
  have h := l_note (qR none (st15 σ (ntW (σ 15) (120 * m + 20 * n) fresh (σ 2 4) 20))) σ (120 * m + 20 * n) (by omega) fresh (some (.inl (nI (126 * m + 6 * c + n)))) (some (.inl (nI m))) ⟨rfl, rfl⟩ 20 0 rfl (by decide)
  rw [ntW_0] at h
  have e4 : st15 σ (σ 15) = σ := by
    funext k
    by_cases hk : k = 15
    · subst hk; exact st15_15
    · exact st15_o hk
  rw [e4] at h
  exact h
/-- a site is in a name's set in some context; cameAt when the row is T -/
def anyC (T : Nat → Int32) (j : Nat) : Prop := ∃ c, c < 21 ∧ bt (T (126 * (j / 120) + 6 * c + j / 20 % 6)) (j % 20) = true
noncomputable def wOf (W T : Nat → Int32) (r : Int32) : Nat → Int32 := fun j => cIf (j < 1200 ∧ W j = 0 ∧ anyC T j) r (W j)
def orT (T : Nat → Int32) (p : Nat) (b : Int32) : Nat → Int32 := upd T p (T p ||| b)
def grew (B T : Nat → Int32) : Prop := ∃ p, p < 1454 ∧ T p ≠ B p
def subR (B T : Nat → Int32) : Prop := ∀ p, p < 1454 → ∀ b, bt (B p) b = true → bt (T p) b = true
theorem subR.or {B T : Nat → Int32} (h : subR B T) (p : Nat) (b : Int32) : subR B (orT T p b) := by
  intro q hq i hi
  unfold orT
  by_cases e : q = p
  · subst e
    rw [upd_s, b_or, h q hq i hi, Bool.true_or]
  · rw [upd_o e]
    exact h q hq i hi
theorem orT_same {T : Nat → Int32} {p : Nat} {b : Int32} (h : b &&& (T p ^^^ (-1 : Int32)) = 0) : orT T p b = T := by
  have e : T p ||| b = T p := by
    apply b_ext
    intro i hi
    have h1 : bt (b &&& (T p ^^^ (-1 : Int32))) i = false := by rw [h, b_0]
    rw [b_and, b_xor, b_m1 i hi] at h1
    rw [b_or]
    cases h2 : bt (T p) i <;> cases h3 : bt b i <;> simp_all
  unfold orT
  rw [e]
  funext q
  by_cases hq : q = p
  · subst hq; rw [upd_s]
  · rw [upd_o hq]
theorem orT_fresh {T : Nat → Int32} {p : Nat} {b : Int32} : T p ||| (b &&& (T p ^^^ (-1 : Int32))) = T p ||| b := by
  apply b_ext
  intro i hi
  rw [b_or, b_or, b_and, b_xor, b_m1 i hi]
  cases bt (T p) i <;> cases bt b i <;> rfl
theorem wOf_name {W T : Nat → Int32} {r b : Int32} {m c n : Nat} (hm : m < 10) (hc : c < 21) (hn : n < 6) (hr : r ≠ 0) : ntW (wOf W T r) (120 * m + 20 * n) (b &&& (T (126 * m + 6 * c + n) ^^^ (-1 : Int32))) r 20 = wOf W (orT T (126 * m + 6 * c + n) b) r := by
  funext j
  unfold ntW
  by_cases hj : 120 * m + 20 * n ≤ j ∧ j < 120 * m + 20 * n + 20
  · obtain ⟨o, ho, rfl⟩ : ∃ o, o < 20 ∧ j = 120 * m + 20 * n + o := ⟨j - (120 * m + 20 * n), by omega, by omega⟩
    have e1 : (120 * m + 20 * n + o) / 120 = m := by omega
    have e2 : (120 * m + 20 * n + o) / 20 % 6 = n := by omega
    have e3 : (120 * m + 20 * n + o) % 20 = o := by omega
    have e4 : 120 * m + 20 * n + o - (120 * m + 20 * n) = o := by omega
    have hb : bt (b &&& (T (126 * m + 6 * c + n) ^^^ (-1 : Int32))) o = (bt b o && !bt (T (126 * m + 6 * c + n)) o) := by
      rw [b_and, b_xor, b_m1 o (by omega), Bool.xor_true]
    have ha : anyC (orT T (126 * m + 6 * c + n) b) (120 * m + 20 * n + o) ↔ anyC T (120 * m + 20 * n + o) ∨ (bt b o && !bt (T (126 * m + 6 * c + n)) o) = true := by
      unfold anyC
      rw [e1, e2, e3]
      constructor
      · rintro ⟨c', hc', h⟩
        unfold orT at h
        by_cases e : 126 * m + 6 * c' + n = 126 * m + 6 * c + n
        · rw [e, upd_s, b_or] at h
          cases h5 : bt (T (126 * m + 6 * c + n)) o with
          | true => exact Or.inl ⟨c, hc, h5⟩
          | false =>
            rw [h5, Bool.false_or] at h
            exact Or.inr (by rw [h]; rfl)
        · rw [upd_o e] at h
          exact Or.inl ⟨c', hc', h⟩
      · rintro (⟨c', hc', h⟩ | h)
        · refine ⟨c', hc', ?_⟩
          unfold orT
          by_cases e : 126 * m + 6 * c' + n = 126 * m + 6 * c + n
          · rw [e, upd_s, b_or, ← e, h, Bool.true_or]
          · rw [upd_o e]; exact h
        · refine ⟨c, hc, ?_⟩
          unfold orT
          rw [Bool.and_eq_true] at h
          rw [upd_s, b_or, h.1, Bool.or_true]
    rw [e4, hb]
    unfold wOf
    by_cases hW : W (120 * m + 20 * n + o) = 0
    · by_cases hf : (bt b o && !bt (T (126 * m + 6 * c + n)) o) = true
      · rw [cIf_t (P := _ ∧ _ ∧ anyC (orT T (126 * m + 6 * c + n) b) _) ⟨by omega, hW, ha.mpr (Or.inr hf)⟩]
        by_cases hA : anyC T (120 * m + 20 * n + o)
        · rw [cIf_t ⟨by omega, hW, hA⟩, ite_self]
        · rw [cIf_f (fun q => hA q.2.2), if_pos ⟨by omega, by omega, hf, hW⟩]
      · rw [if_neg (fun q => hf q.2.2.1)]
        exact cIf_c ⟨fun q => ⟨q.1, q.2.1, ha.mpr (Or.inl q.2.2)⟩, fun q => ⟨q.1, q.2.1, (ha.mp q.2.2).resolve_right hf⟩⟩
    · rw [cIf_f (fun q => hW q.2.1), cIf_f (fun q => hW q.2.1), if_neg (fun q => hW q.2.2.2)]
  · rw [if_neg (fun q => hj ⟨q.1, q.2.1⟩)]
    unfold wOf
    refine cIf_c ?_
    constructor
    · rintro ⟨h1, h2, h3⟩
      refine ⟨h1, h2, ?_⟩
      obtain ⟨c', hc', h⟩ := h3
      refine ⟨c', hc', ?_⟩
      unfold orT
      rw [upd_o (by omega)]
      exact h
    · rintro ⟨h1, h2, h3⟩
      refine ⟨h1, h2, ?_⟩
      obtain ⟨c', hc', h⟩ := h3
      refine ⟨c', hc', ?_⟩
      unfold orT at h
      rw [upd_o (by omega)] at h
      exact h
