/-! written by a program: comparisons and sums of nI with literals -/
theorem tj_le_0 {a : Nat} (h : a < 2 ^ 31) : (0 : Int32) ≤ nI a ↔ 0 ≤ a := nI_leI (a := 0) (by decide) h
theorem tj_ge_0 {a : Nat} (h : a < 2 ^ 31) : nI a ≤ (0 : Int32) ↔ a ≤ 0 := nI_leI (b := 0) h (by decide)
theorem tj_gt_0 {a : Nat} (h : a < 2 ^ 31) : (0 : Int32) < nI a ↔ 0 < a := nI_ltI (a := 0) (by decide) h
theorem tj_lt_0 {a : Nat} (h : a < 2 ^ 31) : nI a < (0 : Int32) ↔ a < 0 := nI_ltI (b := 0) h (by decide)
theorem tj_eq_0 {a : Nat} (h : a < 2 ^ 31) : nI a = (0 : Int32) ↔ a = 0 := nI_eq (b := 0) h (by decide)
theorem tj_le_1 {a : Nat} (h : a < 2 ^ 31) : (1 : Int32) ≤ nI a ↔ 1 ≤ a := nI_leI (a := 1) (by decide) h
theorem tj_ge_1 {a : Nat} (h : a < 2 ^ 31) : nI a ≤ (1 : Int32) ↔ a ≤ 1 := nI_leI (b := 1) h (by decide)
theorem tj_gt_1 {a : Nat} (h : a < 2 ^ 31) : (1 : Int32) < nI a ↔ 1 < a := nI_ltI (a := 1) (by decide) h
theorem tj_lt_1 {a : Nat} (h : a < 2 ^ 31) : nI a < (1 : Int32) ↔ a < 1 := nI_ltI (b := 1) h (by decide)
theorem tj_eq_1 {a : Nat} (h : a < 2 ^ 31) : nI a = (1 : Int32) ↔ a = 1 := nI_eq (b := 1) h (by decide)
theorem tj_le_2 {a : Nat} (h : a < 2 ^ 31) : (2 : Int32) ≤ nI a ↔ 2 ≤ a := nI_leI (a := 2) (by decide) h
theorem tj_ge_2 {a : Nat} (h : a < 2 ^ 31) : nI a ≤ (2 : Int32) ↔ a ≤ 2 := nI_leI (b := 2) h (by decide)
theorem tj_gt_2 {a : Nat} (h : a < 2 ^ 31) : (2 : Int32) < nI a ↔ 2 < a := nI_ltI (a := 2) (by decide) h
theorem tj_lt_2 {a : Nat} (h : a < 2 ^ 31) : nI a < (2 : Int32) ↔ a < 2 := nI_ltI (b := 2) h (by decide)
theorem tj_eq_2 {a : Nat} (h : a < 2 ^ 31) : nI a = (2 : Int32) ↔ a = 2 := nI_eq (b := 2) h (by decide)
theorem tj_le_3 {a : Nat} (h : a < 2 ^ 31) : (3 : Int32) ≤ nI a ↔ 3 ≤ a := nI_leI (a := 3) (by decide) h
theorem tj_ge_3 {a : Nat} (h : a < 2 ^ 31) : nI a ≤ (3 : Int32) ↔ a ≤ 3 := nI_leI (b := 3) h (by decide)
theorem tj_gt_3 {a : Nat} (h : a < 2 ^ 31) : (3 : Int32) < nI a ↔ 3 < a := nI_ltI (a := 3) (by decide) h
theorem tj_lt_3 {a : Nat} (h : a < 2 ^ 31) : nI a < (3 : Int32) ↔ a < 3 := nI_ltI (b := 3) h (by decide)
theorem tj_eq_3 {a : Nat} (h : a < 2 ^ 31) : nI a = (3 : Int32) ↔ a = 3 := nI_eq (b := 3) h (by decide)
theorem tj_le_4 {a : Nat} (h : a < 2 ^ 31) : (4 : Int32) ≤ nI a ↔ 4 ≤ a := nI_leI (a := 4) (by decide) h
theorem tj_ge_4 {a : Nat} (h : a < 2 ^ 31) : nI a ≤ (4 : Int32) ↔ a ≤ 4 := nI_leI (b := 4) h (by decide)
theorem tj_gt_4 {a : Nat} (h : a < 2 ^ 31) : (4 : Int32) < nI a ↔ 4 < a := nI_ltI (a := 4) (by decide) h
theorem tj_lt_4 {a : Nat} (h : a < 2 ^ 31) : nI a < (4 : Int32) ↔ a < 4 := nI_ltI (b := 4) h (by decide)
theorem tj_eq_4 {a : Nat} (h : a < 2 ^ 31) : nI a = (4 : Int32) ↔ a = 4 := nI_eq (b := 4) h (by decide)
theorem tj_le_5 {a : Nat} (h : a < 2 ^ 31) : (5 : Int32) ≤ nI a ↔ 5 ≤ a := nI_leI (a := 5) (by decide) h
theorem tj_ge_5 {a : Nat} (h : a < 2 ^ 31) : nI a ≤ (5 : Int32) ↔ a ≤ 5 := nI_leI (b := 5) h (by decide)
theorem tj_gt_5 {a : Nat} (h : a < 2 ^ 31) : (5 : Int32) < nI a ↔ 5 < a := nI_ltI (a := 5) (by decide) h
theorem tj_lt_5 {a : Nat} (h : a < 2 ^ 31) : nI a < (5 : Int32) ↔ a < 5 := nI_ltI (b := 5) h (by decide)
theorem tj_eq_5 {a : Nat} (h : a < 2 ^ 31) : nI a = (5 : Int32) ↔ a = 5 := nI_eq (b := 5) h (by decide)
theorem tj_le_16 {a : Nat} (h : a < 2 ^ 31) : (16 : Int32) ≤ nI a ↔ 16 ≤ a := nI_leI (a := 16) (by decide) h
theorem tj_ge_16 {a : Nat} (h : a < 2 ^ 31) : nI a ≤ (16 : Int32) ↔ a ≤ 16 := nI_leI (b := 16) h (by decide)
theorem tj_gt_16 {a : Nat} (h : a < 2 ^ 31) : (16 : Int32) < nI a ↔ 16 < a := nI_ltI (a := 16) (by decide) h
theorem tj_lt_16 {a : Nat} (h : a < 2 ^ 31) : nI a < (16 : Int32) ↔ a < 16 := nI_ltI (b := 16) h (by decide)
theorem tj_eq_16 {a : Nat} (h : a < 2 ^ 31) : nI a = (16 : Int32) ↔ a = 16 := nI_eq (b := 16) h (by decide)
theorem tj_le_24 {a : Nat} (h : a < 2 ^ 31) : (24 : Int32) ≤ nI a ↔ 24 ≤ a := nI_leI (a := 24) (by decide) h
theorem tj_ge_24 {a : Nat} (h : a < 2 ^ 31) : nI a ≤ (24 : Int32) ↔ a ≤ 24 := nI_leI (b := 24) h (by decide)
theorem tj_gt_24 {a : Nat} (h : a < 2 ^ 31) : (24 : Int32) < nI a ↔ 24 < a := nI_ltI (a := 24) (by decide) h
theorem tj_lt_24 {a : Nat} (h : a < 2 ^ 31) : nI a < (24 : Int32) ↔ a < 24 := nI_ltI (b := 24) h (by decide)
theorem tj_eq_24 {a : Nat} (h : a < 2 ^ 31) : nI a = (24 : Int32) ↔ a = 24 := nI_eq (b := 24) h (by decide)
theorem tj_le_25 {a : Nat} (h : a < 2 ^ 31) : (25 : Int32) ≤ nI a ↔ 25 ≤ a := nI_leI (a := 25) (by decide) h
theorem tj_ge_25 {a : Nat} (h : a < 2 ^ 31) : nI a ≤ (25 : Int32) ↔ a ≤ 25 := nI_leI (b := 25) h (by decide)
theorem tj_gt_25 {a : Nat} (h : a < 2 ^ 31) : (25 : Int32) < nI a ↔ 25 < a := nI_ltI (a := 25) (by decide) h
theorem tj_lt_25 {a : Nat} (h : a < 2 ^ 31) : nI a < (25 : Int32) ↔ a < 25 := nI_ltI (b := 25) h (by decide)
theorem tj_eq_25 {a : Nat} (h : a < 2 ^ 31) : nI a = (25 : Int32) ↔ a = 25 := nI_eq (b := 25) h (by decide)
theorem tj_le_31 {a : Nat} (h : a < 2 ^ 31) : (31 : Int32) ≤ nI a ↔ 31 ≤ a := nI_leI (a := 31) (by decide) h
theorem tj_ge_31 {a : Nat} (h : a < 2 ^ 31) : nI a ≤ (31 : Int32) ↔ a ≤ 31 := nI_leI (b := 31) h (by decide)
theorem tj_gt_31 {a : Nat} (h : a < 2 ^ 31) : (31 : Int32) < nI a ↔ 31 < a := nI_ltI (a := 31) (by decide) h
theorem tj_lt_31 {a : Nat} (h : a < 2 ^ 31) : nI a < (31 : Int32) ↔ a < 31 := nI_ltI (b := 31) h (by decide)
theorem tj_eq_31 {a : Nat} (h : a < 2 ^ 31) : nI a = (31 : Int32) ↔ a = 31 := nI_eq (b := 31) h (by decide)
theorem tj_le_124 {a : Nat} (h : a < 2 ^ 31) : (124 : Int32) ≤ nI a ↔ 124 ≤ a := nI_leI (a := 124) (by decide) h
theorem tj_ge_124 {a : Nat} (h : a < 2 ^ 31) : nI a ≤ (124 : Int32) ↔ a ≤ 124 := nI_leI (b := 124) h (by decide)
theorem tj_gt_124 {a : Nat} (h : a < 2 ^ 31) : (124 : Int32) < nI a ↔ 124 < a := nI_ltI (a := 124) (by decide) h
theorem tj_lt_124 {a : Nat} (h : a < 2 ^ 31) : nI a < (124 : Int32) ↔ a < 124 := nI_ltI (b := 124) h (by decide)
theorem tj_eq_124 {a : Nat} (h : a < 2 ^ 31) : nI a = (124 : Int32) ↔ a = 124 := nI_eq (b := 124) h (by decide)
theorem tj_le_125 {a : Nat} (h : a < 2 ^ 31) : (125 : Int32) ≤ nI a ↔ 125 ≤ a := nI_leI (a := 125) (by decide) h
theorem tj_ge_125 {a : Nat} (h : a < 2 ^ 31) : nI a ≤ (125 : Int32) ↔ a ≤ 125 := nI_leI (b := 125) h (by decide)
theorem tj_gt_125 {a : Nat} (h : a < 2 ^ 31) : (125 : Int32) < nI a ↔ 125 < a := nI_ltI (a := 125) (by decide) h
theorem tj_lt_125 {a : Nat} (h : a < 2 ^ 31) : nI a < (125 : Int32) ↔ a < 125 := nI_ltI (b := 125) h (by decide)
theorem tj_eq_125 {a : Nat} (h : a < 2 ^ 31) : nI a = (125 : Int32) ↔ a = 125 := nI_eq (b := 125) h (by decide)
theorem tj_le_156 {a : Nat} (h : a < 2 ^ 31) : (156 : Int32) ≤ nI a ↔ 156 ≤ a := nI_leI (a := 156) (by decide) h
theorem tj_ge_156 {a : Nat} (h : a < 2 ^ 31) : nI a ≤ (156 : Int32) ↔ a ≤ 156 := nI_leI (b := 156) h (by decide)
theorem tj_gt_156 {a : Nat} (h : a < 2 ^ 31) : (156 : Int32) < nI a ↔ 156 < a := nI_ltI (a := 156) (by decide) h
theorem tj_lt_156 {a : Nat} (h : a < 2 ^ 31) : nI a < (156 : Int32) ↔ a < 156 := nI_ltI (b := 156) h (by decide)
theorem tj_eq_156 {a : Nat} (h : a < 2 ^ 31) : nI a = (156 : Int32) ↔ a = 156 := nI_eq (b := 156) h (by decide)
theorem tj_le_375 {a : Nat} (h : a < 2 ^ 31) : (375 : Int32) ≤ nI a ↔ 375 ≤ a := nI_leI (a := 375) (by decide) h
theorem tj_ge_375 {a : Nat} (h : a < 2 ^ 31) : nI a ≤ (375 : Int32) ↔ a ≤ 375 := nI_leI (b := 375) h (by decide)
theorem tj_gt_375 {a : Nat} (h : a < 2 ^ 31) : (375 : Int32) < nI a ↔ 375 < a := nI_ltI (a := 375) (by decide) h
theorem tj_lt_375 {a : Nat} (h : a < 2 ^ 31) : nI a < (375 : Int32) ↔ a < 375 := nI_ltI (b := 375) h (by decide)
theorem tj_eq_375 {a : Nat} (h : a < 2 ^ 31) : nI a = (375 : Int32) ↔ a = 375 := nI_eq (b := 375) h (by decide)
theorem tj_le_468 {a : Nat} (h : a < 2 ^ 31) : (468 : Int32) ≤ nI a ↔ 468 ≤ a := nI_leI (a := 468) (by decide) h
theorem tj_ge_468 {a : Nat} (h : a < 2 ^ 31) : nI a ≤ (468 : Int32) ↔ a ≤ 468 := nI_leI (b := 468) h (by decide)
theorem tj_gt_468 {a : Nat} (h : a < 2 ^ 31) : (468 : Int32) < nI a ↔ 468 < a := nI_ltI (a := 468) (by decide) h
theorem tj_lt_468 {a : Nat} (h : a < 2 ^ 31) : nI a < (468 : Int32) ↔ a < 468 := nI_ltI (b := 468) h (by decide)
theorem tj_eq_468 {a : Nat} (h : a < 2 ^ 31) : nI a = (468 : Int32) ↔ a = 468 := nI_eq (b := 468) h (by decide)
theorem tj_le_3125 {a : Nat} (h : a < 2 ^ 31) : (3125 : Int32) ≤ nI a ↔ 3125 ≤ a := nI_leI (a := 3125) (by decide) h
theorem tj_ge_3125 {a : Nat} (h : a < 2 ^ 31) : nI a ≤ (3125 : Int32) ↔ a ≤ 3125 := nI_leI (b := 3125) h (by decide)
theorem tj_gt_3125 {a : Nat} (h : a < 2 ^ 31) : (3125 : Int32) < nI a ↔ 3125 < a := nI_ltI (a := 3125) (by decide) h
theorem tj_lt_3125 {a : Nat} (h : a < 2 ^ 31) : nI a < (3125 : Int32) ↔ a < 3125 := nI_ltI (b := 3125) h (by decide)
theorem tj_eq_3125 {a : Nat} (h : a < 2 ^ 31) : nI a = (3125 : Int32) ↔ a = 3125 := nI_eq (b := 3125) h (by decide)
theorem tj_mr_2 (a : Nat) : nI a * (2 : Int32) = nI (a * 2) := pk_mul a 2
theorem tj_ml_2 (a : Nat) : (2 : Int32) * nI a = nI (2 * a) := pk_mul 2 a
theorem tj_mr_3 (a : Nat) : nI a * (3 : Int32) = nI (a * 3) := pk_mul a 3
theorem tj_ml_3 (a : Nat) : (3 : Int32) * nI a = nI (3 * a) := pk_mul 3 a
theorem tj_mr_4 (a : Nat) : nI a * (4 : Int32) = nI (a * 4) := pk_mul a 4
theorem tj_ml_4 (a : Nat) : (4 : Int32) * nI a = nI (4 * a) := pk_mul 4 a
theorem tj_mr_5 (a : Nat) : nI a * (5 : Int32) = nI (a * 5) := pk_mul a 5
theorem tj_ml_5 (a : Nat) : (5 : Int32) * nI a = nI (5 * a) := pk_mul 5 a
theorem tj_mr_25 (a : Nat) : nI a * (25 : Int32) = nI (a * 25) := pk_mul a 25
theorem tj_ml_25 (a : Nat) : (25 : Int32) * nI a = nI (25 * a) := pk_mul 25 a
theorem tj_mr_125 (a : Nat) : nI a * (125 : Int32) = nI (a * 125) := pk_mul a 125
theorem tj_ml_125 (a : Nat) : (125 : Int32) * nI a = nI (125 * a) := pk_mul 125 a
theorem tj_mr_156 (a : Nat) : nI a * (156 : Int32) = nI (a * 156) := pk_mul a 156
theorem tj_ml_156 (a : Nat) : (156 : Int32) * nI a = nI (156 * a) := pk_mul 156 a
theorem tj_al_1 (a : Nat) : (1 : Int32) + nI a = nI (1 + a) := nI_add 1 a
theorem tj_ar_1 (a : Nat) : nI a + (1 : Int32) = nI (a + 1) := nI_add a 1
theorem tj_al_4 (a : Nat) : (4 : Int32) + nI a = nI (4 + a) := nI_add 4 a
theorem tj_ar_4 (a : Nat) : nI a + (4 : Int32) = nI (a + 4) := nI_add a 4
theorem tj_al_6 (a : Nat) : (6 : Int32) + nI a = nI (6 + a) := nI_add 6 a
theorem tj_ar_6 (a : Nat) : nI a + (6 : Int32) = nI (a + 6) := nI_add a 6
theorem tj_al_31 (a : Nat) : (31 : Int32) + nI a = nI (31 + a) := nI_add 31 a
theorem tj_ar_31 (a : Nat) : nI a + (31 : Int32) = nI (a + 31) := nI_add a 31
theorem tj_dv_4 {a : Nat} (h : a < 2 ^ 31) : nI a / (4 : Int32) = nI (a / 4) := pk_div (d := 4) h (by decide) (by decide)
theorem tj_rm_4 (a : Nat) : nI a - nI (a / 4 * 4) = nI (a % 4) := by
  rw [pk_sub (Nat.div_mul_le_self a 4)]
  exact congrArg nI (by omega)
theorem tj_dv_5 {a : Nat} (h : a < 2 ^ 31) : nI a / (5 : Int32) = nI (a / 5) := pk_div (d := 5) h (by decide) (by decide)
theorem tj_rm_5 (a : Nat) : nI a - nI (a / 5 * 5) = nI (a % 5) := by
  rw [pk_sub (Nat.div_mul_le_self a 5)]
  exact congrArg nI (by omega)
theorem tj_s1 {a : Nat} (h : 0 < a) : nI a - 1 = nI (a - 1) := pk_sub (b := 1) h
theorem tj_m1 {a : Nat} (h : 0 < a) : nI a + (-1) = nI (a - 1) := by
  obtain ⟨m, rfl⟩ : ∃ m, a = m + 1 := ⟨a - 1, by omega⟩
  exact pk_m1 m
theorem tj_1s {a : Nat} (h : a ≤ 1) : 1 - nI a = nI (1 - a) := pk_sub (a := 1) h
theorem tj_4s {a : Nat} (h : a ≤ 4) : 4 - nI a = nI (4 - a) := pk_sub (a := 4) h
theorem tj_vb0 : vp_nar .boolean 0 = 0 := by decide
theorem tj_vb1 : vp_nar .boolean 1 = 1 := by decide
theorem tj_nb0 : narrow .boolean (.int 0) = .int 0 := rfl
theorem tj_nb1 : narrow .boolean (.int 1) = .int 1 := rfl
theorem tj_Ap (f : Nat → Nat) (j : Nat) : tj_A f j = nI (f j) := rfl
theorem tj_neg {a : Nat} (h : a < 2 ^ 31) : ¬ nI a < 0 := nI_pos h
theorem tj_neg_ne {a : Nat} (h : a < 2 ^ 31) {x : Int32} (hx : x < 0) : ¬ nI a = x := by
  intro e
  rw [← e] at hx
  exact nI_pos h hx
