theorem d_A_rangeCheck_0 : decode prog_10_method_30_code 0 = .ok (.iload_n 1, 1) := by decide +kernel
theorem d_A_rangeCheck_1 : decode prog_10_method_30_code 1 = .ok (.iload_n 2, 1) := by decide +kernel
theorem d_A_rangeCheck_2 : decode prog_10_method_30_code 2 = .ok (.if_icmp .le 44, 3) := by decide +kernel
theorem d_A_rangeCheck_46 : decode prog_10_method_30_code 46 = .ok (.iload_n 1, 1) := by decide +kernel
theorem d_A_rangeCheck_47 : decode prog_10_method_30_code 47 = .ok (.ifCond .ge 12, 3) := by decide +kernel
theorem d_A_rangeCheck_59 : decode prog_10_method_30_code 59 = .ok (.iload_n 2, 1) := by decide +kernel
theorem d_A_rangeCheck_60 : decode prog_10_method_30_code 60 = .ok (.iload_n 0, 1) := by decide +kernel
theorem d_A_rangeCheck_61 : decode prog_10_method_30_code 61 = .ok (.if_icmp .le 12, 3) := by decide +kernel
theorem d_A_rangeCheck_73 : decode prog_10_method_30_code 73 = .ok (.return_, 1) := by decide +kernel
theorem r_A_rangeCheck_0 {Q : Option mV → mS → Prop} {σ : mS} {x0 x1 x2 : Int32} (h : (x1 ≤ x2 → (((0 : Int32) ≤ x1 → ((x2 ≤ x0 → (Q none σ)) ∧ (¬ x2 ≤ x0 → (False)))) ∧ (¬ (0 : Int32) ≤ x1 → (False)))) ∧ (¬ x1 ≤ x2 → (False))) : J M_A_rangeCheck Q 0 [some (.inl x0), some (.inl x1), some (.inl x2)] [] σ :=
  J_iload_n (i := 1) rfl rfl d_A_rangeCheck_0 <|
  J_iload_n (i := 2) rfl rfl d_A_rangeCheck_1 <|
  J_icmp_le (tgt := 46) d_A_rangeCheck_2 (by decide) (fun c3 =>
  J_iload_n (i := 1) rfl rfl d_A_rangeCheck_46 <|
  J_if_ge (tgt := 59) d_A_rangeCheck_47 (by decide) (fun c2 =>
  J_iload_n (i := 2) rfl rfl d_A_rangeCheck_59 <|
  J_iload_n (i := 0) rfl rfl d_A_rangeCheck_60 <|
  J_icmp_le (tgt := 73) d_A_rangeCheck_61 (by decide) (fun c1 =>
  J_vret rfl d_A_rangeCheck_73 (((((((h).1 c3)).1 c2)).1 c1))) (fun c1 =>
  False.elim (((((((h).1 c3)).1 c2)).2 c1)))) (fun c2 =>
  False.elim (((((h).1 c3)).2 c2)))) (fun c3 =>
  False.elim (((h).2 c3)))
