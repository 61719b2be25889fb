/-! ROWS ON NUMBERS AND CONTRACTS (the first family is the kit's BITS.to-paste, pasted) -/
/-! ===== Int32 by its bits: bt x i ===== -/
def bt (x : Int32) (i : Nat) : Bool := x.toBitVec.getLsbD i
theorem b_ext {x y : Int32} (h : ∀ i, i < 32 → bt x i = bt y i) : x = y := Int32.toBitVec_inj.mp (BitVec.eq_of_getLsbD_eq (fun i hi => h i hi))
theorem b_or (x y : Int32) (i : Nat) : bt (x ||| y) i = (bt x i || bt y i) := by unfold bt; rw [Int32.toBitVec_or, BitVec.getLsbD_or]
theorem b_and (x y : Int32) (i : Nat) : bt (x &&& y) i = (bt x i && bt y i) := by unfold bt; rw [Int32.toBitVec_and, BitVec.getLsbD_and]
theorem b_xor (x y : Int32) (i : Nat) : bt (x ^^^ y) i = (bt x i ^^ bt y i) := by unfold bt; rw [Int32.toBitVec_xor, BitVec.getLsbD_xor]
theorem b_big {x : Int32} {i : Nat} (h : 32 ≤ i) : bt x i = false := BitVec.getLsbD_of_ge _ _ h
theorem b_255 (i : Nat) : bt 255 i = decide (i < 8) := by
  rcases Nat.lt_or_ge i 32 with h | h
  · exact (by decide +kernel : ∀ i, i < 32 → bt 255 i = decide (i < 8)) i h
  · rw [b_big h, decide_eq_false (by omega)]
theorem b_65535 (i : Nat) : bt 65535 i = decide (i < 16) := by
  rcases Nat.lt_or_ge i 32 with h | h
  · exact (by decide +kernel : ∀ i, i < 32 → bt 65535 i = decide (i < 16)) i h
  · rw [b_big h, decide_eq_false (by omega)]
theorem b_m1 : ∀ i, i < 32 → bt (-1) i = true := by decide +kernel
theorem b_0 (i : Nat) : bt 0 i = false := BitVec.getLsbD_zero
theorem s_l : ∀ n, n < 32 → ((nI n &&& 31).toBitVec.smod 32).toNat = n := by decide +kernel
theorem s_u : ∀ n, n < 32 → (((nI n).toUInt32 &&& Int32.toUInt32 31).toBitVec % 32).toNat = n := by decide +kernel
theorem b_shl (n : Nat) (hn : n < 32) (x : Int32) {i : Nat} (hi : i < 32) : bt (x <<< (nI n &&& 31)) i = (decide (n ≤ i) && bt x (i - n)) := by
  unfold bt
  rw [Int32.toBitVec_shiftLeft]
  show (x.toBitVec <<< ((nI n &&& 31).toBitVec.smod 32).toNat).getLsbD i = _
  rw [s_l n hn, BitVec.getLsbD_shiftLeft]
  rcases Nat.lt_or_ge i n with h | h
  · simp [h, Nat.not_le.mpr h]
  · simp [hi, h, Nat.not_lt.mpr h]
theorem b_ushr (n : Nat) (hn : n < 32) (x : Int32) (i : Nat) : bt ((x.toUInt32 >>> ((nI n).toUInt32 &&& Int32.toUInt32 31)).toInt32) i = bt x (n + i) := by
  show (x.toUInt32 >>> ((nI n).toUInt32 &&& Int32.toUInt32 31)).toBitVec.getLsbD i = x.toUInt32.toBitVec.getLsbD (n + i)
  rw [UInt32.toBitVec_shiftRight]
  show (x.toUInt32.toBitVec >>> (((nI n).toUInt32 &&& Int32.toUInt32 31).toBitVec % 32).toNat).getLsbD i = _
  rw [s_u n hn, BitVec.getLsbD_ushiftRight]
theorem b_sshr (n : Nat) (hn : n < 32) (x : Int32) {i : Nat} (hi : i < 32) : bt (x >>> (nI n &&& 31)) i = if n + i < 32 then bt x (n + i) else bt x 31 := by
  unfold bt
  rw [Int32.toBitVec_shiftRight]
  show (x.toBitVec.sshiftRight ((nI n &&& 31).toBitVec.smod 32).toNat).getLsbD i = _
  rw [s_l n hn, BitVec.getLsbD_sshiftRight, BitVec.msb_eq_getLsbD_last]
  simp [hi]
theorem b_shl8 (x : Int32) {i : Nat} (hi : i < 32) : bt (x <<< ((8 : Int32) &&& 31)) i = (decide (8 ≤ i) && bt x (i - 8)) := b_shl 8 (by omega) x hi
theorem b_shl16 (x : Int32) {i : Nat} (hi : i < 32) : bt (x <<< ((16 : Int32) &&& 31)) i = (decide (16 ≤ i) && bt x (i - 16)) := b_shl 16 (by omega) x hi
theorem b_shl24 (x : Int32) {i : Nat} (hi : i < 32) : bt (x <<< ((24 : Int32) &&& 31)) i = (decide (24 ≤ i) && bt x (i - 24)) := b_shl 24 (by omega) x hi
theorem b_sshr8 (x : Int32) {i : Nat} (hi : i < 32) : bt (x >>> ((8 : Int32) &&& 31)) i = if 8 + i < 32 then bt x (8 + i) else bt x 31 := b_sshr 8 (by omega) x hi
def bI (b : Bool) : Int32 := if b = true then 1 else 0
theorem bI_0 {b : Bool} : bI b = 0 ↔ b = false := by cases b <;> simp [bI]
theorem bI_n0 {b : Bool} : ¬ bI b = 0 ↔ b = true := by cases b <;> simp [bI]
theorem bI_01 (b : Bool) : bI b = 0 ∨ bI b = 1 := by cases b <;> simp [bI]
theorem bI_t : bI true = 1 := rfl
theorem bI_f : bI false = 0 := rfl
/-- 0 ≤ x < y -/
def rg (x y : Int32) : Bool := !decide (x < 0) && !decide (y ≤ x)
theorem rg_iff {x y : Int32} : rg x y = true ↔ ¬ x < 0 ∧ ¬ y ≤ x := by
  unfold rg
  rw [Bool.and_eq_true, Bool.not_eq_true', Bool.not_eq_true', decide_eq_false_iff_not, decide_eq_false_iff_not]
theorem rg_n {x : Int32} {n : Nat} (h : rg x (nI n) = true) : ∃ j, j < n ∧ x = nI j := by
  obtain ⟨h1, h2⟩ := rg_iff.mp h
  obtain ⟨j, hj, rfl⟩ := nI_of h1
  refine ⟨j, ?_, rfl⟩
  rcases Nat.lt_or_ge j n with q | q
  · exact q
  · exact absurd (nI_le q hj) h2
theorem rg_t {j n : Nat} (h : j < n) (hn : n < 2 ^ 31) : rg (nI j) (nI n) = true := rg_iff.mpr ⟨nI_pos (by omega), nI_ge h hn⟩
theorem nI_inj {a b : Nat} (ha : a < 2 ^ 31) (hb : b < 2 ^ 31) (h : nI a = nI b) : a = b := (nI_eq ha hb).mp h
/-- a contract with one answer and one end -/
abbrev qR (r0 : Option mV) (τ0 : mS) : Option mV → mS → Prop := fun r τ => r = r0 ∧ τ = τ0
abbrev MR (M : mM) (as : List mV) (σ : mS) (r0 : Option mV) (τ0 : mS) : Prop := MU M as σ (qR r0 τ0)
theorem MR.i {M : mM} {as : List mV} {σ τ0 : mS} {v : Int32} {P : Int32 → mS → Prop} (h : MR M as σ (some (.inl v)) τ0) (hp : P v τ0) : MU M as σ (fun r τ => ∃ x, r = some (.inl x) ∧ P x τ) := h.mono (fun r τ q => ⟨v, q.1, by rw [q.2]; exact hp⟩)
theorem MR.v {M : mM} {as : List mV} {σ τ0 : mS} {P : mS → Prop} (h : MR M as σ none τ0) (hp : P τ0) : MU M as σ (fun r τ => r = none ∧ P τ) := h.mono (fun r τ q => ⟨q.1, by rw [q.2]; exact hp⟩)
theorem MR.r {M : mM} {as : List mV} {σ τ0 : mS} {n : Nat} {P : Nat → mS → Prop} (h : MR M as σ (some (.inr (59, n))) τ0) (hp : P n τ0) : MU M as σ (fun r τ => ∃ x, r = some (.inr (59, x)) ∧ P x τ) := h.mono (fun r τ q => ⟨n, q.1, by rw [q.2]; exact hp⟩)
/-- a number below n -/
def IN (x : Int32) (n : Nat) : Prop := ∃ j, j < n ∧ x = nI j
theorem IN.in {x : Int32} {n : Nat} (h : IN x n) (hn : n ≤ 2 ^ 30) : vp_in x n := by
  obtain ⟨j, hj, rfl⟩ := h
  exact vp_in_nI hj (by omega)
theorem IN.eq {x : Int32} {n : Nat} (h : IN x n) (hn : n ≤ 2 ^ 30) : x = nI x.toNatClampNeg ∧ x.toNatClampNeg < n := by
  obtain ⟨j, hj, rfl⟩ := h
  rw [nI_clamp (by omega)]
  exact ⟨rfl, hj⟩
theorem IN.mono {x : Int32} {n m : Nat} (h : IN x n) (hm : n ≤ m) : IN x m := by
  obtain ⟨j, hj, rfl⟩ := h
  exact ⟨j, by omega, rfl⟩
theorem cl_nI {n : Nat} (h : n ≤ 2 ^ 30) : (nI n).toNatClampNeg = n := nI_clamp (by omega)
/-- branches -/
theorem rg_rule {Q : Option mV → mS → Prop} {σ : mS} {x y : Int32} (h : Q (some (.inl (bI (rg x y)))) σ) : (x < (0 : Int32) → Q (some (.inl (0 : Int32))) σ) ∧ (¬ x < (0 : Int32) → ((y ≤ x → Q (some (.inl (0 : Int32))) σ) ∧ (¬ y ≤ x → Q (some (.inl (1 : Int32))) σ))) := by
  refine ⟨fun a => ?_, fun a => ⟨fun b => ?_, fun b => ?_⟩⟩
  · have e : rg x y = false := by simp [rg, a]
    rwa [e] at h
  · have e : rg x y = false := by simp [rg, b]
    rwa [e] at h
  · have e : rg x y = true := rg_iff.mpr ⟨a, b⟩
    rwa [e] at h
theorem br_b {b : Bool} {A B : Prop} (ha : b = false → A) (hb : b = true → B) : (bI b = (0 : Int32) → A) ∧ (¬ bI b = (0 : Int32) → B) := ⟨fun h => ha (bI_0.mp h), fun h => hb (bI_n0.mp h)⟩
theorem br_b' {b : Bool} {A B : Prop} (ha : b = false → A) (hb : b = true → B) : (¬ bI b = (0 : Int32) → B) ∧ (bI b = (0 : Int32) → A) := ⟨fun h => hb (bI_n0.mp h), fun h => ha (bI_0.mp h)⟩
theorem end_b {Q : Option mV → mS → Prop} {σ : mS} {b : Bool} (h : Q (some (.inl (bI b))) σ) : (bI b = (0 : Int32) → Q (some (.inl (0 : Int32))) σ) ∧ (¬ bI b = (0 : Int32) → Q (some (.inl (1 : Int32))) σ) := br_b (fun e => by rwa [e] at h) (fun e => by rwa [e] at h)
theorem ch2 {M1 M2 : mM} {as1 as2 : List mV} {σ : mS} {b1 b2 : Bool} {Q : Option mV → mS → Prop} (h1 : MR M1 as1 σ (some (.inl (bI b1))) σ) (h2 : MR M2 as2 σ (some (.inl (bI b2))) σ) (h : Q (some (.inl (bI (b1 && b2)))) σ) : MU M1 as1 σ (fun r s1 => ∃ r3, r = some (.inl r3) ∧ ((r3 = (0 : Int32) → Q (some (.inl (0 : Int32))) s1) ∧ (¬ r3 = (0 : Int32) → MU M2 as2 s1 (fun r s4 => ∃ r6, r = some (.inl r6) ∧ ((r6 = (0 : Int32) → Q (some (.inl (0 : Int32))) s4) ∧ (¬ r6 = (0 : Int32) → Q (some (.inl (1 : Int32))) s4)))))) :=
  h1.i (br_b (fun e => by subst e; exact h) (fun e => by subst e; exact h2.i (end_b h)))
theorem ch3 {M1 M2 M3 : mM} {as1 as2 as3 : List mV} {σ : mS} {b1 b2 b3 : Bool} {Q : Option mV → mS → Prop} (h1 : MR M1 as1 σ (some (.inl (bI b1))) σ) (h2 : MR M2 as2 σ (some (.inl (bI b2))) σ) (h3 : MR M3 as3 σ (some (.inl (bI b3))) σ) (h : Q (some (.inl (bI (b1 && (b2 && b3))))) σ) : MU M1 as1 σ (fun r s1 => ∃ r3, r = some (.inl r3) ∧ ((r3 = (0 : Int32) → Q (some (.inl (0 : Int32))) s1) ∧ (¬ r3 = (0 : Int32) → MU M2 as2 s1 (fun r s1 => ∃ r3, r = some (.inl r3) ∧ ((r3 = (0 : Int32) → Q (some (.inl (0 : Int32))) s1) ∧ (¬ r3 = (0 : Int32) → MU M3 as3 s1 (fun r s4 => ∃ r6, r = some (.inl r6) ∧ ((r6 = (0 : Int32) → Q (some (.inl (0 : Int32))) s4) ∧ (¬ r6 = (0 : Int32) → Q (some (.inl (1 : Int32))) s4))))))))) :=
  h1.i (br_b (fun e => by subst e; exact h) (fun e => by subst e; exact ch2 h2 h3 h))
theorem ch4 {M1 M2 M3 M4 : mM} {as1 as2 as3 as4 : List mV} {σ : mS} {b1 b2 b3 b4 : Bool} {Q : Option mV → mS → Prop} (h1 : MR M1 as1 σ (some (.inl (bI b1))) σ) (h2 : MR M2 as2 σ (some (.inl (bI b2))) σ) (h3 : MR M3 as3 σ (some (.inl (bI b3))) σ) (h4 : MR M4 as4 σ (some (.inl (bI b4))) σ) (h : Q (some (.inl (bI (b1 && (b2 && (b3 && b4)))))) σ) : MU M1 as1 σ (fun r s1 => ∃ r3, r = some (.inl r3) ∧ ((r3 = (0 : Int32) → Q (some (.inl (0 : Int32))) s1) ∧ (¬ r3 = (0 : Int32) → MU M2 as2 s1 (fun r s1 => ∃ r3, r = some (.inl r3) ∧ ((r3 = (0 : Int32) → Q (some (.inl (0 : Int32))) s1) ∧ (¬ r3 = (0 : Int32) → MU M3 as3 s1 (fun r s1 => ∃ r3, r = some (.inl r3) ∧ ((r3 = (0 : Int32) → Q (some (.inl (0 : Int32))) s1) ∧ (¬ r3 = (0 : Int32) → MU M4 as4 s1 (fun r s4 => ∃ r6, r = some (.inl r6) ∧ ((r6 = (0 : Int32) → Q (some (.inl (0 : Int32))) s4) ∧ (¬ r6 = (0 : Int32) → Q (some (.inl (1 : Int32))) s4)))))))))))) :=
  h1.i (br_b (fun e => by subst e; exact h) (fun e => by subst e; exact ch3 h2 h3 h4 h))
/-- the numbers that a statement must have -/
def hop (nC nF kind p q r s t : Int32) : Bool :=
  if kind = 0 then rg p (nI 6) && rg q nC
  else if kind = nI 2 then rg p (nI 6) && (rg q (nI 6) && rg r nF)
  else if kind = nI 3 then rg p (nI 6) && (rg q (nI 6) && rg r nF)
  else if kind = nI 4 then rg p (nI 6) && (rg q (nI 6) && rg r nC)
  else if kind = nI 5 then rg p (nI 6) && rg q (nI 4)
  else if kind = nI 6 then rg p (nI 4) && rg q (nI 6)
  else if kind = nI 7 then rg p (nI 6) && (rg q (nI 6) && (rg s (nI 6) && rg t (nI 6)))
  else rg p (nI 6) && rg q (nI 6)
/-- one bit -/
theorem bt_and1 {x : Int32} {k : Nat} (hk : k < 32) : ((m_ushr x (nI k)) &&& (1 : Int32)) = 0 ↔ bt x k = false := by
  constructor
  · intro h
    have e : bt ((m_ushr x (nI k)) &&& (1 : Int32)) 0 = bt (0 : Int32) 0 := by rw [h]
    rw [b_and, b_0, show bt (1 : Int32) 0 = true by decide, Bool.and_true] at e
    rw [show bt (m_ushr x (nI k)) 0 = bt x (k + 0) from b_ushr k hk x 0] at e
    simpa using e
  · intro h
    apply b_ext
    intro i hi
    rw [b_and, b_0]
    by_cases h0 : i = 0
    · subst h0
      rw [show bt (m_ushr x (nI k)) 0 = bt x (k + 0) from b_ushr k hk x 0]
      simp [h]
    · have : bt (1 : Int32) i = false := (by decide +kernel : ∀ i, i < 32 → ¬ i = 0 → bt (1 : Int32) i = false) i hi h0
      rw [this, Bool.and_false]
theorem bt_shr1 {x : Int32} {k : Nat} (hk : k < 31) : ((x >>> (nI k &&& 31)) &&& (1 : Int32)) = 0 ↔ bt x k = false := by
  constructor
  · intro h
    have e : bt ((x >>> (nI k &&& 31)) &&& (1 : Int32)) 0 = bt (0 : Int32) 0 := by rw [h]
    rw [b_and, b_0, show bt (1 : Int32) 0 = true by decide, Bool.and_true, b_sshr k (by omega) x (by omega), if_pos (by omega)] at e
    simpa using e
  · intro h
    apply b_ext
    intro i hi
    rw [b_and, b_0]
    by_cases h0 : i = 0
    · subst h0
      rw [b_sshr k (by omega) x (by omega), if_pos (by omega)]
      simp [h]
    · have : bt (1 : Int32) i = false := (by decide +kernel : ∀ i, i < 32 → ¬ i = 0 → bt (1 : Int32) i = false) i hi h0
      rw [this, Bool.and_false]
theorem bt_1shl {k : Nat} (hk : k < 32) (i : Nat) : bt ((1 : Int32) <<< (nI k &&& 31)) i = decide (i = k) := by
  rcases Nat.lt_or_ge i 32 with hi | hi
  · rw [b_shl k hk 1 hi]
    by_cases h : i = k
    · subst h
      simp [show bt (1 : Int32) 0 = true by decide]
    · rw [decide_eq_false h]
      rcases Nat.lt_or_ge i k with q | q
      · simp [Nat.not_le.mpr q]
      · have : bt (1 : Int32) (i - k) = false := (by decide +kernel : ∀ i, i < 32 → ¬ i = 0 → bt (1 : Int32) i = false) (i - k) (by omega) (by omega)
        rw [this, Bool.and_false]
  · rw [b_big hi, decide_eq_false (by omega)]
