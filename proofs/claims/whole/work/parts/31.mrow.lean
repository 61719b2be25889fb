/-! THE MODEL'S SETS as two rows: S (now) and T (then) -/
def a0 (S : Nat → Int32) : Nat → Int32 := fun j => if j < 1260 then S j else 0
def a1 (S : Nat → Int32) : Nat → Int32 := fun j => if j < 160 then S (1260 + 9 * (j / 8) + j % 8) else 0
def a2 (S : Nat → Int32) : Nat → Int32 := fun j => if j < 20 then S (1260 + 9 * j + 8) else 0
def a3 (S : Nat → Int32) : Nat → Int32 := fun j => if j < 4 then S (1440 + j) else 0
def a4 (S : Nat → Int32) : Nat → Int32 := fun j => if j < 10 then S (1444 + j) else 0
def mSt (σ0 : mS) (S T : Nat → Int32) : mS := fun k =>
  if k = 39 then a0 S else if k = 40 then a0 T else if k = 41 then a1 S else if k = 42 then a1 T else if k = 43 then a2 S else if k = 44 then a2 T
  else if k = 45 then a3 S else if k = 46 then a3 T else if k = 47 then a4 S else if k = 48 then a4 T else σ0 k
theorem mSt_o {σ0 : mS} {S T : Nat → Int32} {k : Nat} (h : k < 39 ∨ 48 < k) : mSt σ0 S T k = σ0 k := by
  unfold mSt
  rw [if_neg (by omega), if_neg (by omega), if_neg (by omega), if_neg (by omega), if_neg (by omega), if_neg (by omega), if_neg (by omega), if_neg (by omega), if_neg (by omega), if_neg (by omega)]
theorem mSt_pm {π σ0 : mS} {S T : Nat → Int32} (h : PM π σ0) : PM π (mSt σ0 S T) := h.to (fun k a b => mSt_o (by omega)) (fun j _ => by rw [mSt_o (by omega)])
/-- a state by its ten arrays -/
theorem mSt_is {σ σ0 : mS} {S T : Nat → Int32} (h0 : σ 39 = a0 S) (h0' : σ 40 = a0 T) (h1 : σ 41 = a1 S) (h1' : σ 42 = a1 T) (h2 : σ 43 = a2 S) (h2' : σ 44 = a2 T) (h3 : σ 45 = a3 S) (h3' : σ 46 = a3 T) (h4 : σ 47 = a4 S) (h4' : σ 48 = a4 T) (ho : ∀ k, k < 39 ∨ 48 < k → σ k = σ0 k) : σ = mSt σ0 S T := by
  funext k
  by_cases hk : k < 39 ∨ 48 < k
  · rw [ho k hk, mSt_o hk]
  · have : k = 39 ∨ k = 40 ∨ k = 41 ∨ k = 42 ∨ k = 43 ∨ k = 44 ∨ k = 45 ∨ k = 46 ∨ k = 47 ∨ k = 48 := by omega
    rcases this with rfl | rfl | rfl | rfl | rfl | rfl | rfl | rfl | rfl | rfl
    · exact h0
    · exact h0'
    · exact h1
    · exact h1'
    · exact h2
    · exact h2'
    · exact h3
    · exact h3'
    · exact h4
    · exact h4'
theorem mSt_39 {σ0 : mS} {S T : Nat → Int32} : mSt σ0 S T 39 = a0 S := rfl
theorem mSt_40 {σ0 : mS} {S T : Nat → Int32} : mSt σ0 S T 40 = a0 T := rfl
theorem mSt_41 {σ0 : mS} {S T : Nat → Int32} : mSt σ0 S T 41 = a1 S := rfl
theorem mSt_42 {σ0 : mS} {S T : Nat → Int32} : mSt σ0 S T 42 = a1 T := rfl
theorem mSt_43 {σ0 : mS} {S T : Nat → Int32} : mSt σ0 S T 43 = a2 S := rfl
theorem mSt_44 {σ0 : mS} {S T : Nat → Int32} : mSt σ0 S T 44 = a2 T := rfl
theorem mSt_45 {σ0 : mS} {S T : Nat → Int32} : mSt σ0 S T 45 = a3 S := rfl
theorem mSt_46 {σ0 : mS} {S T : Nat → Int32} : mSt σ0 S T 46 = a3 T := rfl
theorem mSt_47 {σ0 : mS} {S T : Nat → Int32} : mSt σ0 S T 47 = a4 S := rfl
theorem mSt_48 {σ0 : mS} {S T : Nat → Int32} : mSt σ0 S T 48 = a4 T := rfl
theorem a0_at {S : Nat → Int32} {j : Nat} (h : j < 1260) : a0 S j = S j := if_pos h
theorem a1_at {S : Nat → Int32} {o f : Nat} (ho : o < 20) (hf : f < 8) : a1 S (8 * o + f) = S (1260 + 9 * o + f) := by
  unfold a1
  rw [if_pos (by omega), show (8 * o + f) / 8 = o by omega, show (8 * o + f) % 8 = f by omega]
theorem a2_at {S : Nat → Int32} {o : Nat} (ho : o < 20) : a2 S o = S (1260 + 9 * o + 8) := if_pos ho
theorem a3_at {S : Nat → Int32} {s : Nat} (hs : s < 4) : a3 S s = S (1440 + s) := if_pos hs
theorem a4_at {S : Nat → Int32} {m : Nat} (hm : m < 10) : a4 S m = S (1444 + m) := if_pos hm
/-- an entry more -/
theorem mSt_up40 {σ0 : mS} {S T : Nat → Int32} {p : Nat} (hp : p < 1260) (v : Int32) : m_up (mSt σ0 S T) 40 p (mSt σ0 S T 40 p ||| v) = mSt σ0 S (orT T p v) := by
  rw [mSt_40, a0_at hp]
  refine mSt_is ?_ ?_ ?_ ?_ ?_ ?_ ?_ ?_ ?_ ?_ (fun k hk => by rw [m_up_ne (by omega), mSt_o hk])
  · rw [m_up_ne (by decide)]; rfl
  · rw [m_up_s, mSt_40]
    funext j
    unfold a0 orT
    by_cases hj : j = p
    · subst hj; rw [upd_s, if_pos hp, upd_s]
    · rw [upd_o hj, upd_o hj]
  · rw [m_up_ne (by decide)]; rfl
  · rw [m_up_ne (by decide), mSt_42]; funext j; unfold a1 orT
    by_cases hj : j < 160
    · rw [if_pos hj, if_pos hj, upd_o (by omega)]
    · rw [if_neg hj, if_neg hj]
  · rw [m_up_ne (by decide)]; rfl
  · rw [m_up_ne (by decide), mSt_44]; funext j; unfold a2 orT; rw [upd_o (by omega)]
  · rw [m_up_ne (by decide)]; rfl
  · rw [m_up_ne (by decide), mSt_46]; funext j; unfold a3 orT; rw [upd_o (by omega)]
  · rw [m_up_ne (by decide)]; rfl
  · rw [m_up_ne (by decide), mSt_48]; funext j; unfold a4 orT; rw [upd_o (by omega)]
theorem mSt_up42 {σ0 : mS} {S T : Nat → Int32} {o f : Nat} (ho : o < 20) (hf : f < 8) (v : Int32) : m_up (mSt σ0 S T) 42 (8 * o + f) (mSt σ0 S T 42 (8 * o + f) ||| v) = mSt σ0 S (orT T (1260 + 9 * o + f) v) := by
  rw [mSt_42, a1_at ho hf]
  refine mSt_is ?_ ?_ ?_ ?_ ?_ ?_ ?_ ?_ ?_ ?_ (fun k hk => by rw [m_up_ne (by omega), mSt_o hk])
  · rw [m_up_ne (by decide)]; rfl
  · rw [m_up_ne (by decide), mSt_40]; funext j; unfold a0 orT
    by_cases hj : j < 1260
    · rw [if_pos hj, if_pos hj, upd_o (by omega)]
    · rw [if_neg hj, if_neg hj]
  · rw [m_up_ne (by decide)]; rfl
  · rw [m_up_s, mSt_42]
    funext j
    unfold a1 orT
    by_cases hj : j = 8 * o + f
    · subst hj
      rw [upd_s, if_pos (by omega), show (8 * o + f) / 8 = o by omega, show (8 * o + f) % 8 = f by omega, upd_s]
    · rw [upd_o hj]
      by_cases h2 : j < 160
      · rw [if_pos h2, if_pos h2, upd_o (by omega)]
      · rw [if_neg h2, if_neg h2]
  · rw [m_up_ne (by decide)]; rfl
  · rw [m_up_ne (by decide), mSt_44]; funext j; unfold a2 orT; rw [upd_o (by omega)]
  · rw [m_up_ne (by decide)]; rfl
  · rw [m_up_ne (by decide), mSt_46]; funext j; unfold a3 orT; rw [upd_o (by omega)]
  · rw [m_up_ne (by decide)]; rfl
  · rw [m_up_ne (by decide), mSt_48]; funext j; unfold a4 orT; rw [upd_o (by omega)]
theorem mSt_up44 {σ0 : mS} {S T : Nat → Int32} {o : Nat} (ho : o < 20) (v : Int32) : m_up (mSt σ0 S T) 44 o (mSt σ0 S T 44 o ||| v) = mSt σ0 S (orT T (1260 + 9 * o + 8) v) := by
  rw [mSt_44, a2_at ho]
  refine mSt_is ?_ ?_ ?_ ?_ ?_ ?_ ?_ ?_ ?_ ?_ (fun k hk => by rw [m_up_ne (by omega), mSt_o hk])
  · rw [m_up_ne (by decide)]; rfl
  · rw [m_up_ne (by decide), mSt_40]; funext j; unfold a0 orT
    by_cases hj : j < 1260
    · rw [if_pos hj, if_pos hj, upd_o (by omega)]
    · rw [if_neg hj, if_neg hj]
  · rw [m_up_ne (by decide)]; rfl
  · rw [m_up_ne (by decide), mSt_42]; funext j; unfold a1 orT
    by_cases hj : j < 160
    · rw [if_pos hj, if_pos hj, upd_o (by omega)]
    · rw [if_neg hj, if_neg hj]
  · rw [m_up_ne (by decide)]; rfl
  · rw [m_up_s, mSt_44]
    funext j
    unfold a2 orT
    by_cases hj : j = o
    · subst hj; rw [upd_s, if_pos ho, upd_s]
    · rw [upd_o hj, upd_o (by omega)]
  · rw [m_up_ne (by decide)]; rfl
  · rw [m_up_ne (by decide), mSt_46]; funext j; unfold a3 orT; rw [upd_o (by omega)]
  · rw [m_up_ne (by decide)]; rfl
  · rw [m_up_ne (by decide), mSt_48]; funext j; unfold a4 orT; rw [upd_o (by omega)]
theorem mSt_up46 {σ0 : mS} {S T : Nat → Int32} {s : Nat} (hs : s < 4) (v : Int32) : m_up (mSt σ0 S T) 46 s (mSt σ0 S T 46 s ||| v) = mSt σ0 S (orT T (1440 + s) v) := by
  rw [mSt_46, a3_at hs]
  refine mSt_is ?_ ?_ ?_ ?_ ?_ ?_ ?_ ?_ ?_ ?_ (fun k hk => by rw [m_up_ne (by omega), mSt_o hk])
  · rw [m_up_ne (by decide)]; rfl
  · rw [m_up_ne (by decide), mSt_40]; funext j; unfold a0 orT
    by_cases hj : j < 1260
    · rw [if_pos hj, if_pos hj, upd_o (by omega)]
    · rw [if_neg hj, if_neg hj]
  · rw [m_up_ne (by decide)]; rfl
  · rw [m_up_ne (by decide), mSt_42]; funext j; unfold a1 orT
    by_cases hj : j < 160
    · rw [if_pos hj, if_pos hj, upd_o (by omega)]
    · rw [if_neg hj, if_neg hj]
  · rw [m_up_ne (by decide)]; rfl
  · rw [m_up_ne (by decide), mSt_44]; funext j; unfold a2 orT
    by_cases hj : j < 20
    · rw [if_pos hj, if_pos hj, upd_o (by omega)]
    · rw [if_neg hj, if_neg hj]
  · rw [m_up_ne (by decide)]; rfl
  · rw [m_up_s, mSt_46]
    funext j
    unfold a3 orT
    by_cases hj : j = s
    · subst hj; rw [upd_s, if_pos hs, upd_s]
    · rw [upd_o hj, upd_o (by omega)]
  · rw [m_up_ne (by decide)]; rfl
  · rw [m_up_ne (by decide), mSt_48]; funext j; unfold a4 orT; rw [upd_o (by omega)]
theorem mSt_up48 {σ0 : mS} {S T : Nat → Int32} {m : Nat} (hm : m < 10) (v : Int32) : m_up (mSt σ0 S T) 48 m (mSt σ0 S T 48 m ||| v) = mSt σ0 S (orT T (1444 + m) v) := by
  rw [mSt_48, a4_at hm]
  refine mSt_is ?_ ?_ ?_ ?_ ?_ ?_ ?_ ?_ ?_ ?_ (fun k hk => by rw [m_up_ne (by omega), mSt_o hk])
  · rw [m_up_ne (by decide)]; rfl
  · rw [m_up_ne (by decide), mSt_40]; funext j; unfold a0 orT
    by_cases hj : j < 1260
    · rw [if_pos hj, if_pos hj, upd_o (by omega)]
    · rw [if_neg hj, if_neg hj]
  · rw [m_up_ne (by decide)]; rfl
  · rw [m_up_ne (by decide), mSt_42]; funext j; unfold a1 orT
    by_cases hj : j < 160
    · rw [if_pos hj, if_pos hj, upd_o (by omega)]
    · rw [if_neg hj, if_neg hj]
  · rw [m_up_ne (by decide)]; rfl
  · rw [m_up_ne (by decide), mSt_44]; funext j; unfold a2 orT
    by_cases hj : j < 20
    · rw [if_pos hj, if_pos hj, upd_o (by omega)]
    · rw [if_neg hj, if_neg hj]
  · rw [m_up_ne (by decide)]; rfl
  · rw [m_up_ne (by decide), mSt_46]; funext j; unfold a3 orT
    by_cases hj : j < 4
    · rw [if_pos hj, if_pos hj, upd_o (by omega)]
    · rw [if_neg hj, if_neg hj]
  · rw [m_up_ne (by decide)]; rfl
  · rw [m_up_s, mSt_48]
    funext j
    unfold a4 orT
    by_cases hj : j = m
    · subst hj; rw [upd_s, if_pos hm, upd_s]
    · rw [upd_o hj, upd_o (by omega)]
theorem orT_0 (T : Nat → Int32) (p : Nat) : orT T p 0 = T := by
  apply orT_same
  apply b_ext
  intro i _
  rw [b_and, b_0, Bool.false_and]
/-- copy, swap, isSame -/
theorem cpA5 {σ0 : mS} {S T : Nat → Int32} : cpA (cpA (cpA (cpA (cpA (mSt σ0 S T) 39 40 1260) 41 42 160) 43 44 20) 45 46 4) 47 48 10 = mSt σ0 S S := by
  refine mSt_is ?_ ?_ ?_ ?_ ?_ ?_ ?_ ?_ ?_ ?_ (fun k hk => by rw [cpA_o (by omega), cpA_o (by omega), cpA_o (by omega), cpA_o (by omega), cpA_o (by omega), mSt_o hk])
  · rw [cpA_o (by decide), cpA_o (by decide), cpA_o (by decide), cpA_o (by decide), cpA_o (by decide)]; rfl
  · rw [cpA_o (by decide), cpA_o (by decide), cpA_o (by decide), cpA_o (by decide), cpA_s, mSt_39, mSt_40]; funext j; unfold a0; by_cases h : j < 1260 <;> simp [h]
  · rw [cpA_o (by decide), cpA_o (by decide), cpA_o (by decide), cpA_o (by decide), cpA_o (by decide)]; rfl
  · rw [cpA_o (by decide), cpA_o (by decide), cpA_o (by decide), cpA_s, cpA_o (by decide), cpA_o (by decide), mSt_41, mSt_42]; funext j; unfold a1; by_cases h : j < 160 <;> simp [h]
  · rw [cpA_o (by decide), cpA_o (by decide), cpA_o (by decide), cpA_o (by decide), cpA_o (by decide)]; rfl
  · rw [cpA_o (by decide), cpA_o (by decide), cpA_s, cpA_o (by decide), cpA_o (by decide), cpA_o (by decide), cpA_o (by decide), mSt_43, mSt_44]; funext j; unfold a2; by_cases h : j < 20 <;> simp [h]
  · rw [cpA_o (by decide), cpA_o (by decide), cpA_o (by decide), cpA_o (by decide), cpA_o (by decide)]; rfl
  · rw [cpA_o (by decide), cpA_s, cpA_o (by decide), cpA_o (by decide), cpA_o (by decide), cpA_o (by decide), cpA_o (by decide), cpA_o (by decide), mSt_45, mSt_46]; funext j; unfold a3; by_cases h : j < 4 <;> simp [h]
  · rw [cpA_o (by decide), cpA_o (by decide), cpA_o (by decide), cpA_o (by decide), cpA_o (by decide)]; rfl
  · rw [cpA_s, cpA_o (by decide), cpA_o (by decide), cpA_o (by decide), cpA_o (by decide), cpA_o (by decide), cpA_o (by decide), cpA_o (by decide), cpA_o (by decide), mSt_47, mSt_48]; funext j; unfold a4; by_cases h : j < 10 <;> simp [h]
theorem cpA5' {σ0 : mS} {S T : Nat → Int32} : cpA (cpA (cpA (cpA (cpA (mSt σ0 S T) 40 39 1260) 42 41 160) 44 43 20) 46 45 4) 48 47 10 = mSt σ0 T T := by
  refine mSt_is ?_ ?_ ?_ ?_ ?_ ?_ ?_ ?_ ?_ ?_ (fun k hk => by rw [cpA_o (by omega), cpA_o (by omega), cpA_o (by omega), cpA_o (by omega), cpA_o (by omega), mSt_o hk])
  · rw [cpA_o (by decide), cpA_o (by decide), cpA_o (by decide), cpA_o (by decide), cpA_s, mSt_39, mSt_40]; funext j; unfold a0; by_cases h : j < 1260 <;> simp [h]
  · rw [cpA_o (by decide), cpA_o (by decide), cpA_o (by decide), cpA_o (by decide), cpA_o (by decide)]; rfl
  · rw [cpA_o (by decide), cpA_o (by decide), cpA_o (by decide), cpA_s, cpA_o (by decide), cpA_o (by decide), mSt_41, mSt_42]; funext j; unfold a1; by_cases h : j < 160 <;> simp [h]
  · rw [cpA_o (by decide), cpA_o (by decide), cpA_o (by decide), cpA_o (by decide), cpA_o (by decide)]; rfl
  · rw [cpA_o (by decide), cpA_o (by decide), cpA_s, cpA_o (by decide), cpA_o (by decide), cpA_o (by decide), cpA_o (by decide), mSt_43, mSt_44]; funext j; unfold a2; by_cases h : j < 20 <;> simp [h]
  · rw [cpA_o (by decide), cpA_o (by decide), cpA_o (by decide), cpA_o (by decide), cpA_o (by decide)]; rfl
  · rw [cpA_o (by decide), cpA_s, cpA_o (by decide), cpA_o (by decide), cpA_o (by decide), cpA_o (by decide), cpA_o (by decide), cpA_o (by decide), mSt_45, mSt_46]; funext j; unfold a3; by_cases h : j < 4 <;> simp [h]
  · rw [cpA_o (by decide), cpA_o (by decide), cpA_o (by decide), cpA_o (by decide), cpA_o (by decide)]; rfl
  · rw [cpA_s, cpA_o (by decide), cpA_o (by decide), cpA_o (by decide), cpA_o (by decide), cpA_o (by decide), cpA_o (by decide), cpA_o (by decide), cpA_o (by decide), mSt_47, mSt_48]; funext j; unfold a4; by_cases h : j < 10 <;> simp [h]
  · rw [cpA_o (by decide), cpA_o (by decide), cpA_o (by decide), cpA_o (by decide), cpA_o (by decide)]; rfl
theorem d_copyG (σ : mS) : MR M_M_copy [.inr (25, 0)] σ none (cpA (cpA (cpA (cpA (cpA σ 39 40 1260) 41 42 160) 43 44 20) 45 46 4) 47 48 10) := by
  refine MU_of rfl rfl rfl (r_M_copy_0 ?_)
  generalize hq : qR none (cpA (cpA (cpA (cpA (cpA σ 39 40 1260) 41 42 160) 43 44 20) 45 46 4) 47 48 10) = Q
  refine cp_loop (P := fun x σ => J M_M_copy Q 2 [some (.inr (25, 0)), some (.inl x)] [] σ) (K := fun σ => J M_M_copy Q 29 [some (.inr (25, 0)), some (.inl (0 : Int32))] [] σ) (n := 1260) (a := 39) (b := 40) (by decide) (by decide) (fun x σ h => r_M_copy_2 h) σ ?_
  refine cp_loop (P := fun x σ => J M_M_copy Q 29 [some (.inr (25, 0)), some (.inl x)] [] σ) (K := fun σ => J M_M_copy Q 56 [some (.inr (25, 0)), some (.inl (0 : Int32))] [] σ) (n := 160) (a := 41) (b := 42) (by decide) (by decide) (fun x σ h => r_M_copy_29 h) _ ?_
  refine cp_loop (P := fun x σ => J M_M_copy Q 56 [some (.inr (25, 0)), some (.inl x)] [] σ) (K := fun σ => J M_M_copy Q 82 [some (.inr (25, 0)), some (.inl (0 : Int32))] [] σ) (n := 20) (a := 43) (b := 44) (by decide) (by decide) (fun x σ h => r_M_copy_56 h) _ ?_
  refine cp_loop (P := fun x σ => J M_M_copy Q 82 [some (.inr (25, 0)), some (.inl x)] [] σ) (K := fun σ => J M_M_copy Q 107 [some (.inr (25, 0)), some (.inl (0 : Int32))] [] σ) (n := 4) (a := 45) (b := 46) (by decide) (by decide) (fun x σ h => r_M_copy_82 h) _ ?_
  refine cp_loop (P := fun x σ => J M_M_copy Q 107 [some (.inr (25, 0)), some (.inl x)] [] σ) (K := fun σ => Q none σ) (n := 10) (a := 47) (b := 48) (by decide) (by decide) (fun x σ h => r_M_copy_107 h) _ ?_
  rw [← hq]
  exact ⟨rfl, rfl⟩
theorem d_copy (σ0 : mS) (S T : Nat → Int32) : MR M_M_copy [.inr (25, 0)] (mSt σ0 S T) none (mSt σ0 S S) := by
  have h := d_copyG (mSt σ0 S T)
  rw [cpA5] at h
  exact h
theorem d_swap (σ0 : mS) (S T : Nat → Int32) : MR M_M_swap [.inr (25, 0)] (mSt σ0 S T) none (mSt σ0 T T) := by
  rw [← cpA5' (σ0 := σ0) (S := S) (T := T)]
  refine MU_of rfl rfl rfl (r_M_swap_0 ?_)
  generalize hq : qR none (cpA (cpA (cpA (cpA (cpA (mSt σ0 S T) 40 39 1260) 42 41 160) 44 43 20) 46 45 4) 48 47 10) = Q
  refine cp_loop (P := fun x σ => J M_M_swap Q 2 [some (.inr (25, 0)), some (.inl x)] [] σ) (K := fun σ => J M_M_swap Q 29 [some (.inr (25, 0)), some (.inl (0 : Int32))] [] σ) (n := 1260) (a := 40) (b := 39) (by decide) (by decide) (fun x σ h => r_M_swap_2 h) _ ?_
  refine cp_loop (P := fun x σ => J M_M_swap Q 29 [some (.inr (25, 0)), some (.inl x)] [] σ) (K := fun σ => J M_M_swap Q 56 [some (.inr (25, 0)), some (.inl (0 : Int32))] [] σ) (n := 160) (a := 42) (b := 41) (by decide) (by decide) (fun x σ h => r_M_swap_29 h) _ ?_
  refine cp_loop (P := fun x σ => J M_M_swap Q 56 [some (.inr (25, 0)), some (.inl x)] [] σ) (K := fun σ => J M_M_swap Q 82 [some (.inr (25, 0)), some (.inl (0 : Int32))] [] σ) (n := 20) (a := 44) (b := 43) (by decide) (by decide) (fun x σ h => r_M_swap_56 h) _ ?_
  refine cp_loop (P := fun x σ => J M_M_swap Q 82 [some (.inr (25, 0)), some (.inl x)] [] σ) (K := fun σ => J M_M_swap Q 107 [some (.inr (25, 0)), some (.inl (0 : Int32))] [] σ) (n := 4) (a := 46) (b := 45) (by decide) (by decide) (fun x σ h => r_M_swap_82 h) _ ?_
  refine cp_loop (P := fun x σ => J M_M_swap Q 107 [some (.inr (25, 0)), some (.inl x)] [] σ) (K := fun σ => Q none σ) (n := 10) (a := 48) (b := 47) (by decide) (by decide) (fun x σ h => r_M_swap_107 h) _ ?_
  rw [← hq]
  exact ⟨rfl, rfl⟩
def sameB (S T : Nat → Int32) : Bool := (((eqN (a0 S) (a0 T) 1260 && eqN (a1 S) (a1 T) 160) && eqN (a2 S) (a2 T) 20) && eqN (a3 S) (a3 T) 4) && eqN (a4 S) (a4 T) 10
theorem sameB_iff {S T : Nat → Int32} : sameB S T = true ↔ ∀ p, p < 1454 → T p = S p := by
  unfold sameB
  rw [Bool.and_eq_true, Bool.and_eq_true, Bool.and_eq_true, Bool.and_eq_true, eqN_iff, eqN_iff, eqN_iff, eqN_iff, eqN_iff]
  constructor
  · rintro ⟨⟨⟨⟨h0, h1⟩, h2⟩, h3⟩, h4⟩ p hp
    rcases Nat.lt_or_ge p 1260 with q | q
    · have := h0 p q
      rwa [a0_at q, a0_at q] at this
    · rcases Nat.lt_or_ge p 1440 with q2 | q2
      · by_cases e : (p - 1260) % 9 = 8
        · have := h2 ((p - 1260) / 9) (by omega)
          rw [a2_at (by omega), a2_at (by omega)] at this
          rwa [show 1260 + 9 * ((p - 1260) / 9) + 8 = p by omega] at this
        · have := h1 (8 * ((p - 1260) / 9) + (p - 1260) % 9) (by omega)
          rw [a1_at (by omega) (by omega), a1_at (by omega) (by omega)] at this
          rwa [show 1260 + 9 * ((p - 1260) / 9) + (p - 1260) % 9 = p by omega] at this
      · rcases Nat.lt_or_ge p 1444 with q3 | q3
        · have := h3 (p - 1440) (by omega)
          rw [a3_at (by omega), a3_at (by omega)] at this
          rwa [show 1440 + (p - 1440) = p by omega] at this
        · have := h4 (p - 1444) (by omega)
          rw [a4_at (by omega), a4_at (by omega)] at this
          rwa [show 1444 + (p - 1444) = p by omega] at this
  · intro h
    refine ⟨⟨⟨⟨fun j hj => ?_, fun j hj => ?_⟩, fun j hj => ?_⟩, fun j hj => ?_⟩, fun j hj => ?_⟩
    · rw [a0_at hj, a0_at hj]; exact h j (by omega)
    · unfold a1; rw [if_pos hj, if_pos hj]; exact h _ (by omega)
    · rw [a2_at hj, a2_at hj]; exact h _ (by omega)
    · rw [a3_at hj, a3_at hj]; exact h _ (by omega)
    · rw [a4_at hj, a4_at hj]; exact h _ (by omega)
theorem d_isSame (σ0 : mS) (S T : Nat → Int32) : MR M_M_isSame [.inr (25, 0)] (mSt σ0 S T) (some (.inl (bI (sameB S T)))) (mSt σ0 S T) := by
  refine MU_of rfl rfl rfl (r_M_isSame_0 ?_)
  generalize hq : qR (some (.inl (bI (sameB S T)))) (mSt σ0 S T) = Q
  generalize hs : mSt σ0 S T = σ at hq ⊢
  refine sm_loop (P := fun y x => J M_M_isSame Q 4 [some (.inr (25, 0)), some (.inl y), some (.inl x)] [] σ) (K := fun y => J M_M_isSame Q 44 [some (.inr (25, 0)), some (.inl y), some (.inl (0 : Int32))] [] σ) (n := 1260) (a := 39) (b := 40) (by decide) (fun y x h => r_M_isSame_4 h) true ?_
  refine sm_loop (P := fun y x => J M_M_isSame Q 44 [some (.inr (25, 0)), some (.inl y), some (.inl x)] [] σ) (K := fun y => J M_M_isSame Q 84 [some (.inr (25, 0)), some (.inl y), some (.inl (0 : Int32))] [] σ) (n := 160) (a := 41) (b := 42) (by decide) (fun y x h => r_M_isSame_44 h) _ ?_
  refine sm_loop (P := fun y x => J M_M_isSame Q 84 [some (.inr (25, 0)), some (.inl y), some (.inl x)] [] σ) (K := fun y => J M_M_isSame Q 123 [some (.inr (25, 0)), some (.inl y), some (.inl (0 : Int32))] [] σ) (n := 20) (a := 43) (b := 44) (by decide) (fun y x h => r_M_isSame_84 h) _ ?_
  refine sm_loop (P := fun y x => J M_M_isSame Q 123 [some (.inr (25, 0)), some (.inl y), some (.inl x)] [] σ) (K := fun y => J M_M_isSame Q 161 [some (.inr (25, 0)), some (.inl y), some (.inl (0 : Int32))] [] σ) (n := 4) (a := 45) (b := 46) (by decide) (fun y x h => r_M_isSame_123 h) _ ?_
  refine sm_loop (P := fun y x => J M_M_isSame Q 161 [some (.inr (25, 0)), some (.inl y), some (.inl x)] [] σ) (K := fun y => (y = 0 ∨ y = 1) ∧ Q (some (.inl y)) σ) (n := 10) (a := 47) (b := 48) (by decide) (fun y x h => r_M_isSame_161 h) _ ?_
  refine ⟨bI_01 _, ?_⟩
  rw [← hq, ← hs, Bool.true_and, mSt_39, mSt_40, mSt_41, mSt_42, mSt_43, mSt_44, mSt_45, mSt_46, mSt_47, mSt_48]
  refine ⟨?_, rfl⟩
  unfold sameB
  rfl
