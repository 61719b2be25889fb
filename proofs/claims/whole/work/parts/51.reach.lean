/-! reached: Integer.bitCount -/
theorem bt_nI (n i : Nat) : bt (nI n) i = (decide (i < 32) && n.testBit i) := by
  unfold bt nI
  show (BitVec.ofNat 32 n).getLsbD i = _
  rw [BitVec.getLsbD_ofNat]
theorem nI_and (a b : Nat) : nI a &&& nI b = nI (a &&& b) := by
  apply b_ext
  intro i hi
  rw [b_and, bt_nI, bt_nI, bt_nI, Nat.testBit_and, decide_eq_true hi, Bool.true_and, Bool.true_and, Bool.true_and]
theorem nI_ushr {n k : Nat} (hn : n < 2 ^ 32) (hk : k < 32) : m_ushr (nI n) (nI k) = nI (n >>> k) := by
  apply b_ext
  intro i hi
  rw [show bt (m_ushr (nI n) (nI k)) i = bt (nI n) (k + i) from b_ushr k hk _ i, bt_nI, bt_nI, Nat.testBit_shiftRight, decide_eq_true hi, Bool.true_and]
  rcases Nat.lt_or_ge (k + i) 32 with q | q
  · rw [decide_eq_true q, Bool.true_and]
  · rw [decide_eq_false (by omega), Bool.false_and]
    exact (Nat.testBit_lt_two_pow (Nat.lt_of_lt_of_le hn (Nat.pow_le_pow_right (by decide) q))).symm
theorem nI_sub {a b : Nat} (h : b ≤ a) : nI a - nI b = nI (a - b) := by
  have e : nI a = nI (a - b) + nI b := by rw [nI_add]; congr 1; omega
  rw [e, Int32.add_sub_cancel]
theorem land16 {d c : Nat} (hd : d < 16) (hc : c < 16) (r C : Nat) : (d + 16 * r) &&& (c + 16 * C) = (d &&& c) + 16 * (r &&& C) := by
  have hdc : d &&& c < 2 ^ 4 := Nat.and_lt_two_pow _ (by omega)
  apply Nat.eq_of_testBit_eq
  intro i
  rw [Nat.testBit_and, Nat.add_comm d, Nat.add_comm c, Nat.add_comm (d &&& c), show (16 : Nat) = 2 ^ 4 from rfl, Nat.testBit_two_pow_mul_add _ (by omega), Nat.testBit_two_pow_mul_add _ (by omega), Nat.testBit_two_pow_mul_add _ hdc]
  by_cases h : i < 4
  · rw [if_pos h, if_pos h, if_pos h, Nat.testBit_and]
  · rw [if_neg h, if_neg h, if_neg h, Nat.testBit_and]
theorem dg5 {d : Nat} (hd : d < 16) (r C : Nat) : ((d + 16 * r) / 2) &&& (5 + 16 * C) = ((d / 2) &&& 5) + 16 * ((r / 2) &&& C) := by
  have e : (d + 16 * r) / 2 = (d / 2 + 8 * (r % 2)) + 16 * (r / 2) := by omega
  rw [e, land16 (by omega) (by decide)]
  congr 1
  have : ∀ d, d < 16 → ∀ k, k < 2 → (d / 2 + 8 * k) &&& 5 = (d / 2) &&& 5 := by decide
  exact this d hd (r % 2) (by omega)
theorem dg3 {d : Nat} (hd : d < 16) (r C : Nat) : ((d + 16 * r) / 4) &&& (3 + 16 * C) = ((d / 4) &&& 3) + 16 * ((r / 4) &&& C) := by
  have e : (d + 16 * r) / 4 = (d / 4 + 4 * (r % 4)) + 16 * (r / 4) := by omega
  rw [e, land16 (by omega) (by decide)]
  congr 1
  have : ∀ d, d < 16 → ∀ k, k < 4 → (d / 4 + 4 * k) &&& 3 = (d / 4) &&& 3 := by decide
  exact this d hd (r % 4) (by omega)
def e1 (d : Nat) : Nat := d - ((d / 2) &&& 5)
def f1 (d : Nat) : Nat := (e1 d &&& 3) + ((e1 d / 4) &&& 3)
theorem e1_lt : ∀ d, d < 16 → (d / 2 &&& 5) ≤ d ∧ e1 d < 16 ∧ f1 d ≤ 4 ∧ f1 d = d % 2 + d / 2 % 2 + d / 4 % 2 + d / 8 % 2 := by decide
theorem nI_and1 {n : Nat} (v M : Nat) (h : v &&& M = n) : nI v &&& nI M = nI n := by rw [nI_and, h]
section
variable {d0 d1 d2 d3 d4 d5 : Nat}
theorem bc1 (h0 : d0 < 16) (h1 : d1 < 16) (h2 : d2 < 16) (h3 : d3 < 16) (h4 : d4 < 16) (h5 : d5 < 16) : ((d0 + 16 * (d1 + 16 * (d2 + 16 * (d3 + 16 * (d4 + 16 * d5))))) / 2) &&& 1431655765 = (d0 / 2 &&& 5) + 16 * ((d1 / 2 &&& 5) + 16 * ((d2 / 2 &&& 5) + 16 * ((d3 / 2 &&& 5) + 16 * ((d4 / 2 &&& 5) + 16 * (d5 / 2 &&& 5))))) := by
  rw [show 1431655765 = 5 + 16 * (5 + 16 * (5 + 16 * (5 + 16 * (5 + 16 * (5 + 16 * 85))))) from rfl, dg5 h0, dg5 h1, dg5 h2, dg5 h3, dg5 h4]
  have := dg5 h5 0 85
  rw [Nat.mul_zero, Nat.add_zero] at this
  rw [this, show (0 / 2 &&& 85) = 0 from rfl, Nat.mul_zero, Nat.add_zero]
theorem bc2 (h0 : d0 < 16) (h1 : d1 < 16) (h2 : d2 < 16) (h3 : d3 < 16) (h4 : d4 < 16) (h5 : d5 < 16) : ((d0 + 16 * (d1 + 16 * (d2 + 16 * (d3 + 16 * (d4 + 16 * d5))))) / 4) &&& 858993459 = (d0 / 4 &&& 3) + 16 * ((d1 / 4 &&& 3) + 16 * ((d2 / 4 &&& 3) + 16 * ((d3 / 4 &&& 3) + 16 * ((d4 / 4 &&& 3) + 16 * (d5 / 4 &&& 3))))) := by
  rw [show 858993459 = 3 + 16 * (3 + 16 * (3 + 16 * (3 + 16 * (3 + 16 * (3 + 16 * 51))))) from rfl, dg3 h0, dg3 h1, dg3 h2, dg3 h3, dg3 h4]
  have := dg3 h5 0 51
  rw [Nat.mul_zero, Nat.add_zero] at this
  rw [this, show (0 / 4 &&& 51) = 0 from rfl, Nat.mul_zero, Nat.add_zero]
theorem bc3 (h0 : d0 < 16) (h1 : d1 < 16) (h2 : d2 < 16) (h3 : d3 < 16) (h4 : d4 < 16) (h5 : d5 < 16) : (d0 + 16 * (d1 + 16 * (d2 + 16 * (d3 + 16 * (d4 + 16 * d5))))) &&& 858993459 = (d0 &&& 3) + 16 * ((d1 &&& 3) + 16 * ((d2 &&& 3) + 16 * ((d3 &&& 3) + 16 * ((d4 &&& 3) + 16 * (d5 &&& 3))))) := by
  rw [show 858993459 = 3 + 16 * (3 + 16 * (3 + 16 * (3 + 16 * (3 + 16 * (3 + 16 * 51))))) from rfl, land16 h0 (by decide), land16 h1 (by decide), land16 h2 (by decide), land16 h3 (by decide), land16 h4 (by decide)]
  have := land16 h5 (c := 3) (by decide) 0 51
  rw [Nat.mul_zero, Nat.add_zero] at this
  rw [this, Nat.zero_and, Nat.mul_zero, Nat.add_zero]
theorem bc4 (h0 : d0 < 16) (h1 : d1 < 16) (h2 : d2 < 16) (h3 : d3 < 16) (h4 : d4 < 16) (h5 : d5 < 16) : (d0 + 16 * (d1 + 16 * (d2 + 16 * (d3 + 16 * (d4 + 16 * d5))))) &&& 252645135 = d0 + 16 * (0 + 16 * (d2 + 16 * (0 + 16 * (d4 + 16 * 0)))) := by
  have f15 : ∀ d, d < 16 → d &&& 15 = d := by decide
  have f0 : ∀ d, d &&& 0 = 0 := fun d => Nat.and_zero d
  rw [show 252645135 = 15 + 16 * (0 + 16 * (15 + 16 * (0 + 16 * (15 + 16 * (0 + 16 * 15))))) from rfl, land16 h0 (by decide), land16 h1 (by decide), land16 h2 (by decide), land16 h3 (by decide), land16 h4 (by decide)]
  have := land16 h5 (c := 0) (by decide) 0 15
  rw [Nat.mul_zero, Nat.add_zero] at this
  rw [this, Nat.zero_and, f15 d0 h0, f15 d2 h2, f15 d4 h4, f0, f0, f0]
end
theorem c_bitCount (σ : mS) {X : Nat} (hX : X < 2 ^ 24) : MR M_I_bitCount [.inl (nI X)] σ (some (.inl (nI (f1 (X % 16) + f1 (X / 16 % 16) + f1 (X / 256 % 16) + f1 (X / 4096 % 16) + f1 (X / 65536 % 16) + f1 (X / 1048576))))) σ := by
  generalize h0 : X % 16 = d0
  generalize h1 : X / 16 % 16 = d1
  generalize h2 : X / 256 % 16 = d2
  generalize h3 : X / 4096 % 16 = d3
  generalize h4 : X / 65536 % 16 = d4
  generalize h5 : X / 1048576 = d5
  have l0 : d0 < 16 := by omega
  have l1 : d1 < 16 := by omega
  have l2 : d2 < 16 := by omega
  have l3 : d3 < 16 := by omega
  have l4 : d4 < 16 := by omega
  have l5 : d5 < 16 := by omega
  have eX : X = d0 + 16 * (d1 + 16 * (d2 + 16 * (d3 + 16 * (d4 + 16 * d5)))) := by omega
  clear h0 h1 h2 h3 h4 h5
  subst eX
  obtain ⟨a0, b0, c0, -⟩ := e1_lt d0 l0
  obtain ⟨a1, b1, c1, -⟩ := e1_lt d1 l1
  obtain ⟨a2, b2, c2, -⟩ := e1_lt d2 l2
  obtain ⟨a3, b3, c3, -⟩ := e1_lt d3 l3
  obtain ⟨a4, b4, c4, -⟩ := e1_lt d4 l4
  obtain ⟨a5, b5, c5, -⟩ := e1_lt d5 l5
  refine MU_of rfl rfl rfl (r_I_bitCount_0 ?_)
  have p1 : m_ushr (nI (d0 + 16 * (d1 + 16 * (d2 + 16 * (d3 + 16 * (d4 + 16 * d5)))))) (1 : Int32) = nI ((d0 + 16 * (d1 + 16 * (d2 + 16 * (d3 + 16 * (d4 + 16 * d5))))) / 2) := by
    rw [show (1 : Int32) = nI 1 from rfl, nI_ushr (by omega) (by decide), Nat.shiftRight_eq_div_pow]
  rw [p1, nI_and, bc1 l0 l1 l2 l3 l4 l5]
  have s1 : nI (d0 + 16 * (d1 + 16 * (d2 + 16 * (d3 + 16 * (d4 + 16 * d5))))) - nI ((d0 / 2 &&& 5) + 16 * ((d1 / 2 &&& 5) + 16 * ((d2 / 2 &&& 5) + 16 * ((d3 / 2 &&& 5) + 16 * ((d4 / 2 &&& 5) + 16 * (d5 / 2 &&& 5)))))) = nI (e1 d0 + 16 * (e1 d1 + 16 * (e1 d2 + 16 * (e1 d3 + 16 * (e1 d4 + 16 * e1 d5))))) := by
    rw [nI_sub (by omega)]
    congr 1
    unfold e1
    omega
  rw [s1]
  rintro v1 rfl
  have p2 : m_ushr (nI (e1 d0 + 16 * (e1 d1 + 16 * (e1 d2 + 16 * (e1 d3 + 16 * (e1 d4 + 16 * e1 d5)))))) (nI 2) = nI ((e1 d0 + 16 * (e1 d1 + 16 * (e1 d2 + 16 * (e1 d3 + 16 * (e1 d4 + 16 * e1 d5))))) / 4) := by
    rw [nI_ushr (by omega) (by decide), Nat.shiftRight_eq_div_pow]
  rw [p2, nI_and, nI_and, bc2 b0 b1 b2 b3 b4 b5, bc3 b0 b1 b2 b3 b4 b5, nI_add]
  have s2 : (e1 d0 &&& 3) + 16 * ((e1 d1 &&& 3) + 16 * ((e1 d2 &&& 3) + 16 * ((e1 d3 &&& 3) + 16 * ((e1 d4 &&& 3) + 16 * (e1 d5 &&& 3))))) + ((e1 d0 / 4 &&& 3) + 16 * ((e1 d1 / 4 &&& 3) + 16 * ((e1 d2 / 4 &&& 3) + 16 * ((e1 d3 / 4 &&& 3) + 16 * ((e1 d4 / 4 &&& 3) + 16 * (e1 d5 / 4 &&& 3)))))) = f1 d0 + 16 * (f1 d1 + 16 * (f1 d2 + 16 * (f1 d3 + 16 * (f1 d4 + 16 * f1 d5)))) := by
    unfold f1
    omega
  rw [s2]
  generalize f1 d0 = g0 at c0 ⊢
  generalize f1 d1 = g1 at c1 ⊢
  generalize f1 d2 = g2 at c2 ⊢
  generalize f1 d3 = g3 at c3 ⊢
  generalize f1 d4 = g4 at c4 ⊢
  generalize f1 d5 = g5 at c5 ⊢
  rintro v2 rfl
  have p3 : m_ushr (nI (g0 + 16 * (g1 + 16 * (g2 + 16 * (g3 + 16 * (g4 + 16 * g5)))))) (nI 4) = nI (g1 + 16 * (g2 + 16 * (g3 + 16 * (g4 + 16 * g5)))) := by
    rw [nI_ushr (by omega) (by decide), Nat.shiftRight_eq_div_pow]
    congr 1
    omega
  have s3 : g0 + 16 * (g1 + 16 * (g2 + 16 * (g3 + 16 * (g4 + 16 * g5)))) + (g1 + 16 * (g2 + 16 * (g3 + 16 * (g4 + 16 * g5)))) = (g0 + g1) + 16 * ((g1 + g2) + 16 * ((g2 + g3) + 16 * ((g3 + g4) + 16 * ((g4 + g5) + 16 * g5)))) := by omega
  rw [p3, nI_add, s3, nI_and, bc4 (by omega) (by omega) (by omega) (by omega) (by omega) (by omega)]
  rintro v3 rfl
  have p4 : m_ushr (nI (g0 + g1 + 16 * (0 + 16 * (g2 + g3 + 16 * (0 + 16 * (g4 + g5 + 16 * 0)))))) (nI 8) = nI (g2 + g3 + 256 * (g4 + g5)) := by
    rw [nI_ushr (by omega) (by decide), Nat.shiftRight_eq_div_pow]
    congr 1
    omega
  rw [p4, nI_add]
  rintro v4 rfl
  have p5 : m_ushr (nI (g0 + g1 + 16 * (0 + 16 * (g2 + g3 + 16 * (0 + 16 * (g4 + g5 + 16 * 0)))) + (g2 + g3 + 256 * (g4 + g5)))) (nI 16) = nI (g4 + g5) := by
    rw [nI_ushr (by omega) (by decide), Nat.shiftRight_eq_div_pow]
    congr 1
    omega
  rw [p5, nI_add, nI_and, show (63 : Nat) = 2 ^ 6 - 1 from rfl, Nat.and_two_pow_sub_one_eq_mod]
  refine ⟨?_, rfl⟩
  congr 3
  omega
/-- how many bits below n -/
def cB (x : Int32) : Nat → Nat
  | 0 => 0
  | n + 1 => cB x n + (bt x n).toNat
theorem nI_bits {x : Int32} {k : Nat} (hk : k ≤ 31) (h : ∀ i, bt x i = true → i < k) : ∃ X, X < 2 ^ k ∧ x = nI X := by
  have e : x = nI x.toBitVec.toNat := by
    apply b_ext
    intro i hi
    rw [bt_nI, decide_eq_true hi, Bool.true_and]
    rfl
  refine ⟨x.toBitVec.toNat, ?_, e⟩
  apply Nat.lt_pow_two_of_testBit
  intro i hi
  rw [← Bool.not_eq_true]
  intro q
  have := h i q
  omega
theorem cB_21 {X : Nat} (hX : X < 2 ^ 21) : cB (nI X) 21 = f1 (X % 16) + f1 (X / 16 % 16) + f1 (X / 256 % 16) + f1 (X / 4096 % 16) + f1 (X / 65536 % 16) + f1 (X / 1048576) := by
  have b : ∀ i, i < 32 → (bt (nI X) i).toNat = X / 2 ^ i % 2 := fun i hi => by rw [bt_nI, decide_eq_true hi, Bool.true_and, Nat.toNat_testBit]
  have hd : ∀ n, f1 (n % 16) = n % 2 + n / 2 % 2 + n / 4 % 2 + n / 8 % 2 := fun n => by
    rw [(e1_lt (n % 16) (Nat.mod_lt _ (by decide))).2.2.2]
    omega
  have h5 : f1 (X / 1048576) = X / 1048576 % 2 := by
    have : X / 1048576 < 2 := by omega
    have g : ∀ d, d < 2 → f1 d = d % 2 := by decide
    exact g _ this
  rw [hd, hd, hd, hd, hd, h5]
  rw [Nat.div_div_eq_div_mul, Nat.div_div_eq_div_mul, Nat.div_div_eq_div_mul, Nat.div_div_eq_div_mul, Nat.div_div_eq_div_mul, Nat.div_div_eq_div_mul, Nat.div_div_eq_div_mul, Nat.div_div_eq_div_mul, Nat.div_div_eq_div_mul, Nat.div_div_eq_div_mul, Nat.div_div_eq_div_mul, Nat.div_div_eq_div_mul]
  show ((((((((((((((((((((0 + (bt (nI X) 0).toNat) + (bt (nI X) 1).toNat) + (bt (nI X) 2).toNat) + (bt (nI X) 3).toNat) + (bt (nI X) 4).toNat) + (bt (nI X) 5).toNat) + (bt (nI X) 6).toNat) + (bt (nI X) 7).toNat) + (bt (nI X) 8).toNat) + (bt (nI X) 9).toNat) + (bt (nI X) 10).toNat) + (bt (nI X) 11).toNat) + (bt (nI X) 12).toNat) + (bt (nI X) 13).toNat) + (bt (nI X) 14).toNat) + (bt (nI X) 15).toNat) + (bt (nI X) 16).toNat) + (bt (nI X) 17).toNat) + (bt (nI X) 18).toNat) + (bt (nI X) 19).toNat) + (bt (nI X) 20).toNat = _
  rw [b 0 (by decide), b 1 (by decide), b 2 (by decide), b 3 (by decide), b 4 (by decide), b 5 (by decide), b 6 (by decide), b 7 (by decide), b 8 (by decide), b 9 (by decide), b 10 (by decide), b 11 (by decide), b 12 (by decide), b 13 (by decide), b 14 (by decide), b 15 (by decide), b 16 (by decide), b 17 (by decide), b 18 (by decide), b 19 (by decide), b 20 (by decide)]
  simp only [Nat.reducePow, Nat.reduceMul, Nat.div_one]
  omega
section
variable {π σ : mS} {N : Nat}
def anRe (π : mS) (N : Nat) (x1 : Int32) : Int32 := nI (cB (it π N (1444 + x1.toNatClampNeg)) 21)
theorem c_reached (h : RC π σ) (hL : isLast π N) (x1 : Int32) : MU M_O_reached [.inr (0, 0), .inl x1] σ (qC π N (rg x1 (π 25 4) = true) (anRe π N x1) (-1) σ) := by
  have hw := h.1.1
  have a := hw.nM10.2
  refine MU_of rfl rfl rfl (r_O_reached_0 ((c_hasMethod σ x1).i ?_))
  rw [h.1.2.1.2.2.1]
  refine br_b' (fun q => Or.inr ⟨(fun k => by rw [k] at q; cases q), rfl, rfl⟩) (fun q => c_set h hL (fun τ hs => ?_))
  have ok := q
  obtain ⟨m, hm, rfl⟩ := rg_M hw q
  rw [nI_add]
  refine (c_atS hs (by omega)).i ?_
  obtain ⟨X, hX, e⟩ := nI_bits (x := it π N (1444 + m)) (k := 21) (by decide) (fun i hi => ((it_ok hw N).1 _ (by omega) i hi).1)
  rw [e]
  refine (c_bitCount τ (by omega)).i (Or.inl ⟨ok, ?_, hs⟩)
  unfold anRe
  rw [cl_nI (by omega), e, cB_21 hX]
theorem sshr1 {x : Int32} {k : Nat} (hk : k < 31) : ((x >>> (nI k &&& 31)) &&& (1 : Int32)) = nI (bt x k).toNat := by
  cases e : bt x k with
  | false => exact (bt_shr1 hk).mpr e
  | true =>
    apply b_ext
    intro i hi
    rw [b_and]
    by_cases h0 : i = 0
    · subst h0
      rw [b_sshr k (by omega) x (by omega), if_pos (by omega), Nat.add_zero, e]
      decide
    · have : bt (1 : Int32) i = false := (by decide +kernel : ∀ i, i < 32 → ¬ i = 0 → bt (1 : Int32) i = false) i hi h0
      rw [this, Bool.and_false]
      exact this.symm
theorem l_reached {τ : mS} {m : Nat} (hm : m < 10) (Q : Option mV → mS → Prop) (hQ : Q (some (.inl (nI (cB (τ 47 m) 21)))) τ) : ∀ d c, 21 - c = d → c ≤ 21 → J M_M_reached Q 18 [some (.inr (25, 0)), some (.inl (nI m)), some (.inl (nI (cB (τ 47 m) c))), some (.inl (nI c))] [] τ := by
  intro d
  induction d with
  | zero =>
    intro c h1 h2
    have : c = 21 := by omega
    subst this
    exact r_M_reached_18 ⟨fun _ => hQ, fun q => absurd (nI_le (Nat.le_refl _) (by decide)) q⟩
  | succ d ih =>
    intro c h1 h2
    refine r_M_reached_18 ⟨fun q => absurd q (nI_ge (by omega) (by decide)), fun _ => ⟨vp_in_nI hm (by decide), ?_⟩⟩
    rw [cl_nI (by omega), sshr1 (by omega), nI_add, nI_1]
    exact ih (c + 1) (by omega) (by omega)
theorem d_reached (h : RMm π σ) (hL : isLast π N) (x1 : Int32) : MU M_M_reached [.inr (25, 0), .inl x1] σ (qM π N (rg x1 (π 25 4) = true) (anRe π N x1) (-1) σ) := by
  have hw := h.1.1
  have a := hw.nM10.2
  refine MU_of rfl rfl rfl (r_M_reached_0 ((d_isMethod σ x1).i ?_))
  rw [h.1.2.2 4 (by decide)]
  refine br_b' (fun q => Or.inr ⟨(fun k => by rw [k] at q; cases q), rfl, rfl⟩) (fun q => d_set h hL (fun τ hs => ?_))
  have ok := q
  obtain ⟨m, hm, rfl⟩ := rg_M hw q
  refine l_reached (by omega) _ (Or.inl ⟨ok, ?_, hs⟩) 21 0 rfl (by decide)
  unfold anRe
  rw [cl_nI (by omega), hs.2.2.2.1.2.2.2.2, a4_at (by omega)]
end
