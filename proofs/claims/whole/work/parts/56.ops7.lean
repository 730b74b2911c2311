/-! the calls of the class, by the array: acts -/
section AC
variable {d L N : Nat} {s s' : Int → Int} {cl cl' : Nat → List Cl} {σ σ0 σ1 : St} {Q : Option AV → AW → Prop}
theorem r133_0_0 {u : AV} : R (d + 1) 133 0 [vI 0, vI 0, u] [] (WS L σ) Q = Q (some (vI 1)) (WS L σ) := by
  rw [b133_0 (by omega) (by omega), r13]
  simp only [am_push_s]
  rw [b133_11]
  simp only [tI_0]
  rw [if_neg (by omega), b133_14, r13]
  simp only [am_push_s]
  rw [b133_22]
  simp only [tI_0]
  rw [if_neg (by omega), b133_25 (by omega) (by omega), b133_34]
  rfl
theorem r133_0_1 {u : AV} : R (d + 1) 133 0 [vI 0, vI 1, u] [] (WS L σ) Q = Q (some (vI 2)) (WS L σ) := by
  rw [b133_0 (by omega) (by omega), r13]
  simp only [am_push_s]
  rw [b133_11]
  simp only [tI_0]
  rw [if_neg (by omega), b133_14, r13]
  simp only [am_push_s]
  rw [b133_22]
  simp only [tI_0]
  rw [if_neg (by omega), b133_25 (by omega) (by omega), b133_34]
  rfl
theorem r133_0_2 {u : AV} : R (d + 1) 133 0 [vI 0, vI 2, u] [] (WS L σ) Q = Q (some (vI 3)) (WS L σ) := by
  rw [b133_0 (by omega) (by omega), r13]
  simp only [am_push_s]
  rw [b133_11]
  simp only [tI_0]
  rw [if_neg (by omega), b133_14, r13]
  simp only [am_push_s]
  rw [b133_22]
  simp only [tI_0]
  rw [if_neg (by omega), b133_25 (by omega) (by omega), b133_34]
  rfl
theorem r134_0 : R (d + 1) 134 0 [vI 0] [] (WS L σ) Q = Q (some (vI (-1))) (WS L σ) := by
  rw [b134_0, r13]
  simp only [am_push_s]
  rw [b134_8]
  simp only [tI_0]
  rw [if_neg (by omega), b134_11 (by omega) (by omega), b134_20]
  rfl
theorem r133_1_0 {u : AV} : R (d + 1) 133 0 [vI 1, vI 0, u] [] (WS L σ) Q = Q (some (vI 11)) (WS L σ) := by
  rw [b133_0 (by omega) (by omega), r13]
  simp only [am_push_s]
  rw [b133_11]
  simp only [tI_0]
  rw [if_neg (by omega), b133_14, r13]
  simp only [am_push_s]
  rw [b133_22]
  simp only [tI_0]
  rw [if_neg (by omega), b133_25 (by omega) (by omega), b133_34]
  rfl
theorem r133_1_1 {u : AV} : R (d + 1) 133 0 [vI 1, vI 1, u] [] (WS L σ) Q = Q (some (vI 0)) (WS L σ) := by
  rw [b133_0 (by omega) (by omega), r13]
  simp only [am_push_s]
  rw [b133_11]
  simp only [tI_0]
  rw [if_neg (by omega), b133_14, r13]
  simp only [am_push_s]
  rw [b133_22]
  simp only [tI_0]
  rw [if_neg (by omega), b133_25 (by omega) (by omega), b133_34]
  rfl
theorem r133_1_2 {u : AV} : R (d + 1) 133 0 [vI 1, vI 2, u] [] (WS L σ) Q = Q (some (vI 0)) (WS L σ) := by
  rw [b133_0 (by omega) (by omega), r13]
  simp only [am_push_s]
  rw [b133_11]
  simp only [tI_0]
  rw [if_neg (by omega), b133_14, r13]
  simp only [am_push_s]
  rw [b133_22]
  simp only [tI_0]
  rw [if_neg (by omega), b133_25 (by omega) (by omega), b133_34]
  rfl
theorem r134_1 : R (d + 1) 134 0 [vI 1] [] (WS L σ) Q = Q (some (vI (0))) (WS L σ) := by
  rw [b134_0, r13]
  simp only [am_push_s]
  rw [b134_8]
  simp only [tI_0]
  rw [if_neg (by omega), b134_11 (by omega) (by omega), b134_20]
  rfl
theorem r133_2_0 {u : AV} : R (d + 1) 133 0 [vI 2, vI 0, u] [] (WS L σ) Q = Q (some (vI 0)) (WS L σ) := by
  rw [b133_0 (by omega) (by omega), r13]
  simp only [am_push_s]
  rw [b133_11]
  simp only [tI_0]
  rw [if_neg (by omega), b133_14, r13]
  simp only [am_push_s]
  rw [b133_22]
  simp only [tI_0]
  rw [if_neg (by omega), b133_25 (by omega) (by omega), b133_34]
  rfl
theorem r133_2_1 {u : AV} : R (d + 1) 133 0 [vI 2, vI 1, u] [] (WS L σ) Q = Q (some (vI 21)) (WS L σ) := by
  rw [b133_0 (by omega) (by omega), r13]
  simp only [am_push_s]
  rw [b133_11]
  simp only [tI_0]
  rw [if_neg (by omega), b133_14, r13]
  simp only [am_push_s]
  rw [b133_22]
  simp only [tI_0]
  rw [if_neg (by omega), b133_25 (by omega) (by omega), b133_34]
  rfl
theorem r133_2_2 {u : AV} : R (d + 1) 133 0 [vI 2, vI 2, u] [] (WS L σ) Q = Q (some (vI 0)) (WS L σ) := by
  rw [b133_0 (by omega) (by omega), r13]
  simp only [am_push_s]
  rw [b133_11]
  simp only [tI_0]
  rw [if_neg (by omega), b133_14, r13]
  simp only [am_push_s]
  rw [b133_22]
  simp only [tI_0]
  rw [if_neg (by omega), b133_25 (by omega) (by omega), b133_34]
  rfl
theorem r134_2 : R (d + 1) 134 0 [vI 2] [] (WS L σ) Q = Q (some (vI (0))) (WS L σ) := by
  rw [b134_0, r13]
  simp only [am_push_s]
  rw [b134_8]
  simp only [tI_0]
  rw [if_neg (by omega), b134_11 (by omega) (by omega), b134_20]
  rfl
theorem r133_3_0 {u : AV} : R (d + 1) 133 0 [vI 3, vI 0, u] [] (WS L σ) Q = Q (some (vI 0)) (WS L σ) := by
  rw [b133_0 (by omega) (by omega), r13]
  simp only [am_push_s]
  rw [b133_11]
  simp only [tI_0]
  rw [if_neg (by omega), b133_14, r13]
  simp only [am_push_s]
  rw [b133_22]
  simp only [tI_0]
  rw [if_neg (by omega), b133_25 (by omega) (by omega), b133_34]
  rfl
theorem r133_3_1 {u : AV} : R (d + 1) 133 0 [vI 3, vI 1, u] [] (WS L σ) Q = Q (some (vI 0)) (WS L σ) := by
  rw [b133_0 (by omega) (by omega), r13]
  simp only [am_push_s]
  rw [b133_11]
  simp only [tI_0]
  rw [if_neg (by omega), b133_14, r13]
  simp only [am_push_s]
  rw [b133_22]
  simp only [tI_0]
  rw [if_neg (by omega), b133_25 (by omega) (by omega), b133_34]
  rfl
theorem r133_3_2 {u : AV} : R (d + 1) 133 0 [vI 3, vI 2, u] [] (WS L σ) Q = Q (some (vI 41)) (WS L σ) := by
  rw [b133_0 (by omega) (by omega), r13]
  simp only [am_push_s]
  rw [b133_11]
  simp only [tI_0]
  rw [if_neg (by omega), b133_14, r13]
  simp only [am_push_s]
  rw [b133_22]
  simp only [tI_0]
  rw [if_neg (by omega), b133_25 (by omega) (by omega), b133_34]
  rfl
theorem r134_3 : R (d + 1) 134 0 [vI 3] [] (WS L σ) Q = Q (some (vI (1))) (WS L σ) := by
  rw [b134_0, r13]
  simp only [am_push_s]
  rw [b134_8]
  simp only [tI_0]
  rw [if_neg (by omega), b134_11 (by omega) (by omega), b134_20]
  rfl
theorem r133_4_0 {u : AV} : R (d + 1) 133 0 [vI 4, vI 0, u] [] (WS L σ) Q = Q (some (vI 51)) (WS L σ) := by
  rw [b133_0 (by omega) (by omega), r13]
  simp only [am_push_s]
  rw [b133_11]
  simp only [tI_0]
  rw [if_neg (by omega), b133_14, r13]
  simp only [am_push_s]
  rw [b133_22]
  simp only [tI_0]
  rw [if_neg (by omega), b133_25 (by omega) (by omega), b133_34]
  rfl
theorem r133_4_1 {u : AV} : R (d + 1) 133 0 [vI 4, vI 1, u] [] (WS L σ) Q = Q (some (vI 0)) (WS L σ) := by
  rw [b133_0 (by omega) (by omega), r13]
  simp only [am_push_s]
  rw [b133_11]
  simp only [tI_0]
  rw [if_neg (by omega), b133_14, r13]
  simp only [am_push_s]
  rw [b133_22]
  simp only [tI_0]
  rw [if_neg (by omega), b133_25 (by omega) (by omega), b133_34]
  rfl
theorem r133_4_2 {u : AV} : R (d + 1) 133 0 [vI 4, vI 2, u] [] (WS L σ) Q = Q (some (vI 0)) (WS L σ) := by
  rw [b133_0 (by omega) (by omega), r13]
  simp only [am_push_s]
  rw [b133_11]
  simp only [tI_0]
  rw [if_neg (by omega), b133_14, r13]
  simp only [am_push_s]
  rw [b133_22]
  simp only [tI_0]
  rw [if_neg (by omega), b133_25 (by omega) (by omega), b133_34]
  rfl
theorem r134_4 : R (d + 1) 134 0 [vI 4] [] (WS L σ) Q = Q (some (vI (2))) (WS L σ) := by
  rw [b134_0, r13]
  simp only [am_push_s]
  rw [b134_8]
  simp only [tI_0]
  rw [if_neg (by omega), b134_11 (by omega) (by omega), b134_20]
  rfl
theorem r133_5_0 {u : AV} : R (d + 1) 133 0 [vI 5, vI 0, u] [] (WS L σ) Q = Q (some (vI 0)) (WS L σ) := by
  rw [b133_0 (by omega) (by omega), r13]
  simp only [am_push_s]
  rw [b133_11]
  simp only [tI_0]
  rw [if_neg (by omega), b133_14, r13]
  simp only [am_push_s]
  rw [b133_22]
  simp only [tI_0]
  rw [if_neg (by omega), b133_25 (by omega) (by omega), b133_34]
  rfl
theorem r133_5_1 {u : AV} : R (d + 1) 133 0 [vI 5, vI 1, u] [] (WS L σ) Q = Q (some (vI 0)) (WS L σ) := by
  rw [b133_0 (by omega) (by omega), r13]
  simp only [am_push_s]
  rw [b133_11]
  simp only [tI_0]
  rw [if_neg (by omega), b133_14, r13]
  simp only [am_push_s]
  rw [b133_22]
  simp only [tI_0]
  rw [if_neg (by omega), b133_25 (by omega) (by omega), b133_34]
  rfl
theorem r133_5_2 {u : AV} : R (d + 1) 133 0 [vI 5, vI 2, u] [] (WS L σ) Q = Q (some (vI 31)) (WS L σ) := by
  rw [b133_0 (by omega) (by omega), r13]
  simp only [am_push_s]
  rw [b133_11]
  simp only [tI_0]
  rw [if_neg (by omega), b133_14, r13]
  simp only [am_push_s]
  rw [b133_22]
  simp only [tI_0]
  rw [if_neg (by omega), b133_25 (by omega) (by omega), b133_34]
  rfl
theorem r134_5 : R (d + 1) 134 0 [vI 5] [] (WS L σ) Q = Q (some (vI (0))) (WS L σ) := by
  rw [b134_0, r13]
  simp only [am_push_s]
  rw [b134_8]
  simp only [tI_0]
  rw [if_neg (by omega), b134_11 (by omega) (by omega), b134_20]
  rfl
theorem r133_6_0 {u : AV} : R (d + 1) 133 0 [vI 6, vI 0, u] [] (WS L σ) Q = Q (some (vI 0)) (WS L σ) := by
  rw [b133_0 (by omega) (by omega), r13]
  simp only [am_push_s]
  rw [b133_11]
  simp only [tI_0]
  rw [if_neg (by omega), b133_14, r13]
  simp only [am_push_s]
  rw [b133_22]
  simp only [tI_0]
  rw [if_neg (by omega), b133_25 (by omega) (by omega), b133_34]
  rfl
theorem r133_6_1 {u : AV} : R (d + 1) 133 0 [vI 6, vI 1, u] [] (WS L σ) Q = Q (some (vI 61)) (WS L σ) := by
  rw [b133_0 (by omega) (by omega), r13]
  simp only [am_push_s]
  rw [b133_11]
  simp only [tI_0]
  rw [if_neg (by omega), b133_14, r13]
  simp only [am_push_s]
  rw [b133_22]
  simp only [tI_0]
  rw [if_neg (by omega), b133_25 (by omega) (by omega), b133_34]
  rfl
theorem r133_6_2 {u : AV} : R (d + 1) 133 0 [vI 6, vI 2, u] [] (WS L σ) Q = Q (some (vI 0)) (WS L σ) := by
  rw [b133_0 (by omega) (by omega), r13]
  simp only [am_push_s]
  rw [b133_11]
  simp only [tI_0]
  rw [if_neg (by omega), b133_14, r13]
  simp only [am_push_s]
  rw [b133_22]
  simp only [tI_0]
  rw [if_neg (by omega), b133_25 (by omega) (by omega), b133_34]
  rfl
theorem r134_6 : R (d + 1) 134 0 [vI 6] [] (WS L σ) Q = Q (some (vI (1))) (WS L σ) := by
  rw [b134_0, r13]
  simp only [am_push_s]
  rw [b134_8]
  simp only [tI_0]
  rw [if_neg (by omega), b134_11 (by omega) (by omega), b134_20]
  rfl
theorem r134_m : R (d + 1) 134 0 [vI (-1)] [] (WS L σ) Q = Q (some (vI (-1))) (WS L σ) := by
  rw [b134_0, r13]
  simp only [am_push_s]
  rw [b134_8]
  simp only [tI_0]
  rw [if_pos (by omega), b134_19, b134_20]
theorem r132_0_0 {u2 u3 : AV} : R (d + 2) 132 0 [vI 0, vI 0, u2, u3] [] (WS L σ) Q = Q (some (vI 0)) (WS L σ) := by
  rw [b132_0]
  rw [b132_4, if_neg (by omega), b132_10, if_neg (by omega), b132_14, r133_0_0]
  simp only [am_push_s]
  rw [b132_19, if_pos (by omega), b132_33]
theorem r132_0_1 {u2 u3 : AV} : R (d + 2) 132 0 [vI 0, vI 1, u2, u3] [] (WS L σ) Q = Q (some (vI 0)) (WS L σ) := by
  rw [b132_0]
  rw [b132_4, if_neg (by omega), b132_10, if_neg (by omega), b132_14, r133_0_1]
  simp only [am_push_s]
  rw [b132_19, if_pos (by omega), b132_33]
theorem r132_0_2 {u2 u3 : AV} : R (d + 2) 132 0 [vI 0, vI 2, u2, u3] [] (WS L σ) Q = Q (some (vI 0)) (WS L σ) := by
  rw [b132_0]
  rw [b132_4, if_neg (by omega), b132_10, if_neg (by omega), b132_14, r133_0_2]
  simp only [am_push_s]
  rw [b132_19, if_pos (by omega), b132_33]
theorem r132_1_0 {u2 u3 : AV} : R (d + 2) 132 0 [vI 1, vI 0, u2, u3] [] (WS L σ) Q = Q (some (vI 1)) (WS L σ) := by
  rw [b132_0]
  rw [b132_4, if_neg (by omega), b132_10, if_neg (by omega), b132_14, r133_1_0]
  simp only [am_push_s]
  rw [b132_19, if_pos (by omega), b132_33]
theorem r132_1_1 {u2 u3 : AV} : R (d + 2) 132 0 [vI 1, vI 1, u2, u3] [] (WS L σ) Q = Q (some (vI 0)) (WS L σ) := by
  rw [b132_0]
  rw [b132_4, if_neg (by omega), b132_10, if_neg (by omega), b132_14, r133_1_1]
  simp only [am_push_s]
  rw [b132_19, if_neg (by omega), b132_22, r134_1]
  simp only [am_push_s]
  rw [b132_26 (by omega)]
  rw [b132_4, if_neg (by omega), b132_10, if_neg (by omega), b132_14, r133_0_1]
  simp only [am_push_s]
  rw [b132_19, if_pos (by omega), b132_33]
theorem r132_1_2 {u2 u3 : AV} : R (d + 2) 132 0 [vI 1, vI 2, u2, u3] [] (WS L σ) Q = Q (some (vI 0)) (WS L σ) := by
  rw [b132_0]
  rw [b132_4, if_neg (by omega), b132_10, if_neg (by omega), b132_14, r133_1_2]
  simp only [am_push_s]
  rw [b132_19, if_neg (by omega), b132_22, r134_1]
  simp only [am_push_s]
  rw [b132_26 (by omega)]
  rw [b132_4, if_neg (by omega), b132_10, if_neg (by omega), b132_14, r133_0_2]
  simp only [am_push_s]
  rw [b132_19, if_pos (by omega), b132_33]
theorem r132_2_0 {u2 u3 : AV} : R (d + 2) 132 0 [vI 2, vI 0, u2, u3] [] (WS L σ) Q = Q (some (vI 0)) (WS L σ) := by
  rw [b132_0]
  rw [b132_4, if_neg (by omega), b132_10, if_neg (by omega), b132_14, r133_2_0]
  simp only [am_push_s]
  rw [b132_19, if_neg (by omega), b132_22, r134_2]
  simp only [am_push_s]
  rw [b132_26 (by omega)]
  rw [b132_4, if_neg (by omega), b132_10, if_neg (by omega), b132_14, r133_0_0]
  simp only [am_push_s]
  rw [b132_19, if_pos (by omega), b132_33]
theorem r132_2_1 {u2 u3 : AV} : R (d + 2) 132 0 [vI 2, vI 1, u2, u3] [] (WS L σ) Q = Q (some (vI 2)) (WS L σ) := by
  rw [b132_0]
  rw [b132_4, if_neg (by omega), b132_10, if_neg (by omega), b132_14, r133_2_1]
  simp only [am_push_s]
  rw [b132_19, if_pos (by omega), b132_33]
theorem r132_2_2 {u2 u3 : AV} : R (d + 2) 132 0 [vI 2, vI 2, u2, u3] [] (WS L σ) Q = Q (some (vI 0)) (WS L σ) := by
  rw [b132_0]
  rw [b132_4, if_neg (by omega), b132_10, if_neg (by omega), b132_14, r133_2_2]
  simp only [am_push_s]
  rw [b132_19, if_neg (by omega), b132_22, r134_2]
  simp only [am_push_s]
  rw [b132_26 (by omega)]
  rw [b132_4, if_neg (by omega), b132_10, if_neg (by omega), b132_14, r133_0_2]
  simp only [am_push_s]
  rw [b132_19, if_pos (by omega), b132_33]
theorem r132_3_0 {u2 u3 : AV} : R (d + 2) 132 0 [vI 3, vI 0, u2, u3] [] (WS L σ) Q = Q (some (vI 1)) (WS L σ) := by
  rw [b132_0]
  rw [b132_4, if_neg (by omega), b132_10, if_neg (by omega), b132_14, r133_3_0]
  simp only [am_push_s]
  rw [b132_19, if_neg (by omega), b132_22, r134_3]
  simp only [am_push_s]
  rw [b132_26 (by omega)]
  rw [b132_4, if_neg (by omega), b132_10, if_neg (by omega), b132_14, r133_1_0]
  simp only [am_push_s]
  rw [b132_19, if_pos (by omega), b132_33]
theorem r132_3_1 {u2 u3 : AV} : R (d + 2) 132 0 [vI 3, vI 1, u2, u3] [] (WS L σ) Q = Q (some (vI 0)) (WS L σ) := by
  rw [b132_0]
  rw [b132_4, if_neg (by omega), b132_10, if_neg (by omega), b132_14, r133_3_1]
  simp only [am_push_s]
  rw [b132_19, if_neg (by omega), b132_22, r134_3]
  simp only [am_push_s]
  rw [b132_26 (by omega)]
  rw [b132_4, if_neg (by omega), b132_10, if_neg (by omega), b132_14, r133_1_1]
  simp only [am_push_s]
  rw [b132_19, if_neg (by omega), b132_22, r134_1]
  simp only [am_push_s]
  rw [b132_26 (by omega)]
  rw [b132_4, if_neg (by omega), b132_10, if_neg (by omega), b132_14, r133_0_1]
  simp only [am_push_s]
  rw [b132_19, if_pos (by omega), b132_33]
theorem r132_3_2 {u2 u3 : AV} : R (d + 2) 132 0 [vI 3, vI 2, u2, u3] [] (WS L σ) Q = Q (some (vI 3)) (WS L σ) := by
  rw [b132_0]
  rw [b132_4, if_neg (by omega), b132_10, if_neg (by omega), b132_14, r133_3_2]
  simp only [am_push_s]
  rw [b132_19, if_pos (by omega), b132_33]
theorem r132_4_0 {u2 u3 : AV} : R (d + 2) 132 0 [vI 4, vI 0, u2, u3] [] (WS L σ) Q = Q (some (vI 4)) (WS L σ) := by
  rw [b132_0]
  rw [b132_4, if_neg (by omega), b132_10, if_neg (by omega), b132_14, r133_4_0]
  simp only [am_push_s]
  rw [b132_19, if_pos (by omega), b132_33]
theorem r132_4_1 {u2 u3 : AV} : R (d + 2) 132 0 [vI 4, vI 1, u2, u3] [] (WS L σ) Q = Q (some (vI 2)) (WS L σ) := by
  rw [b132_0]
  rw [b132_4, if_neg (by omega), b132_10, if_neg (by omega), b132_14, r133_4_1]
  simp only [am_push_s]
  rw [b132_19, if_neg (by omega), b132_22, r134_4]
  simp only [am_push_s]
  rw [b132_26 (by omega)]
  rw [b132_4, if_neg (by omega), b132_10, if_neg (by omega), b132_14, r133_2_1]
  simp only [am_push_s]
  rw [b132_19, if_pos (by omega), b132_33]
theorem r132_4_2 {u2 u3 : AV} : R (d + 2) 132 0 [vI 4, vI 2, u2, u3] [] (WS L σ) Q = Q (some (vI 0)) (WS L σ) := by
  rw [b132_0]
  rw [b132_4, if_neg (by omega), b132_10, if_neg (by omega), b132_14, r133_4_2]
  simp only [am_push_s]
  rw [b132_19, if_neg (by omega), b132_22, r134_4]
  simp only [am_push_s]
  rw [b132_26 (by omega)]
  rw [b132_4, if_neg (by omega), b132_10, if_neg (by omega), b132_14, r133_2_2]
  simp only [am_push_s]
  rw [b132_19, if_neg (by omega), b132_22, r134_2]
  simp only [am_push_s]
  rw [b132_26 (by omega)]
  rw [b132_4, if_neg (by omega), b132_10, if_neg (by omega), b132_14, r133_0_2]
  simp only [am_push_s]
  rw [b132_19, if_pos (by omega), b132_33]
theorem r132_5_0 {u2 u3 : AV} : R (d + 2) 132 0 [vI 5, vI 0, u2, u3] [] (WS L σ) Q = Q (some (vI 0)) (WS L σ) := by
  rw [b132_0]
  rw [b132_4, if_neg (by omega), b132_10, if_neg (by omega), b132_14, r133_5_0]
  simp only [am_push_s]
  rw [b132_19, if_neg (by omega), b132_22, r134_5]
  simp only [am_push_s]
  rw [b132_26 (by omega)]
  rw [b132_4, if_neg (by omega), b132_10, if_neg (by omega), b132_14, r133_0_0]
  simp only [am_push_s]
  rw [b132_19, if_pos (by omega), b132_33]
theorem r132_5_1 {u2 u3 : AV} : R (d + 2) 132 0 [vI 5, vI 1, u2, u3] [] (WS L σ) Q = Q (some (vI 0)) (WS L σ) := by
  rw [b132_0]
  rw [b132_4, if_neg (by omega), b132_10, if_neg (by omega), b132_14, r133_5_1]
  simp only [am_push_s]
  rw [b132_19, if_neg (by omega), b132_22, r134_5]
  simp only [am_push_s]
  rw [b132_26 (by omega)]
  rw [b132_4, if_neg (by omega), b132_10, if_neg (by omega), b132_14, r133_0_1]
  simp only [am_push_s]
  rw [b132_19, if_pos (by omega), b132_33]
theorem r132_5_2 {u2 u3 : AV} : R (d + 2) 132 0 [vI 5, vI 2, u2, u3] [] (WS L σ) Q = Q (some (vI 5)) (WS L σ) := by
  rw [b132_0]
  rw [b132_4, if_neg (by omega), b132_10, if_neg (by omega), b132_14, r133_5_2]
  simp only [am_push_s]
  rw [b132_19, if_pos (by omega), b132_33]
theorem r132_6_0 {u2 u3 : AV} : R (d + 2) 132 0 [vI 6, vI 0, u2, u3] [] (WS L σ) Q = Q (some (vI 1)) (WS L σ) := by
  rw [b132_0]
  rw [b132_4, if_neg (by omega), b132_10, if_neg (by omega), b132_14, r133_6_0]
  simp only [am_push_s]
  rw [b132_19, if_neg (by omega), b132_22, r134_6]
  simp only [am_push_s]
  rw [b132_26 (by omega)]
  rw [b132_4, if_neg (by omega), b132_10, if_neg (by omega), b132_14, r133_1_0]
  simp only [am_push_s]
  rw [b132_19, if_pos (by omega), b132_33]
theorem r132_6_1 {u2 u3 : AV} : R (d + 2) 132 0 [vI 6, vI 1, u2, u3] [] (WS L σ) Q = Q (some (vI 6)) (WS L σ) := by
  rw [b132_0]
  rw [b132_4, if_neg (by omega), b132_10, if_neg (by omega), b132_14, r133_6_1]
  simp only [am_push_s]
  rw [b132_19, if_pos (by omega), b132_33]
theorem r132_6_2 {u2 u3 : AV} : R (d + 2) 132 0 [vI 6, vI 2, u2, u3] [] (WS L σ) Q = Q (some (vI 0)) (WS L σ) := by
  rw [b132_0]
  rw [b132_4, if_neg (by omega), b132_10, if_neg (by omega), b132_14, r133_6_2]
  simp only [am_push_s]
  rw [b132_19, if_neg (by omega), b132_22, r134_6]
  simp only [am_push_s]
  rw [b132_26 (by omega)]
  rw [b132_4, if_neg (by omega), b132_10, if_neg (by omega), b132_14, r133_1_2]
  simp only [am_push_s]
  rw [b132_19, if_neg (by omega), b132_22, r134_1]
  simp only [am_push_s]
  rw [b132_26 (by omega)]
  rw [b132_4, if_neg (by omega), b132_10, if_neg (by omega), b132_14, r133_0_2]
  simp only [am_push_s]
  rw [b132_19, if_pos (by omega), b132_33]
theorem r137_0_0 : R (d + 2) 137 0 [vI 0, vI 0, vX 9, vX 9] [] (WS L σ) Q = Q (some (vI 1)) (WS L σ) := by
  rw [b137_0]
  rw [b137_4, if_neg (by omega), b137_10, if_pos (by omega)]
  rw [b137_26, if_neg (by omega), b137_31, b137_36 rfl]
theorem r137_0_1 : R (d + 2) 137 0 [vI 0, vI 1, vX 9, vX 9] [] (WS L σ) Q = Q (some (vI 0)) (WS L σ) := by
  rw [b137_0]
  rw [b137_4, if_neg (by omega), b137_10, if_neg (by omega), b137_15, r134_0]
  simp only [am_push_s]
  rw [b137_19 (by omega)]
  rw [b137_4, if_neg (by omega), b137_10, if_neg (by omega), b137_15, r134_m]
  simp only [am_push_s]
  rw [b137_19 (by omega)]
  rw [b137_4, if_neg (by omega), b137_10, if_neg (by omega), b137_15, r134_m]
  simp only [am_push_s]
  rw [b137_19 (by omega)]
  rw [b137_4, if_neg (by omega), b137_10, if_neg (by omega), b137_15, r134_m]
  simp only [am_push_s]
  rw [b137_19 (by omega)]
  rw [b137_4, if_neg (by omega), b137_10, if_neg (by omega), b137_15, r134_m]
  simp only [am_push_s]
  rw [b137_19 (by omega)]
  rw [b137_4, if_neg (by omega), b137_10, if_neg (by omega), b137_15, r134_m]
  simp only [am_push_s]
  rw [b137_19 (by omega)]
  rw [b137_4, if_neg (by omega), b137_10, if_neg (by omega), b137_15, r134_m]
  simp only [am_push_s]
  rw [b137_19 (by omega)]
  rw [b137_4, if_pos (by omega)]
  rw [b137_26, if_pos (by omega), b137_35, b137_36 rfl]
theorem r137_0_2 : R (d + 2) 137 0 [vI 0, vI 2, vX 9, vX 9] [] (WS L σ) Q = Q (some (vI 0)) (WS L σ) := by
  rw [b137_0]
  rw [b137_4, if_neg (by omega), b137_10, if_neg (by omega), b137_15, r134_0]
  simp only [am_push_s]
  rw [b137_19 (by omega)]
  rw [b137_4, if_neg (by omega), b137_10, if_neg (by omega), b137_15, r134_m]
  simp only [am_push_s]
  rw [b137_19 (by omega)]
  rw [b137_4, if_neg (by omega), b137_10, if_neg (by omega), b137_15, r134_m]
  simp only [am_push_s]
  rw [b137_19 (by omega)]
  rw [b137_4, if_neg (by omega), b137_10, if_neg (by omega), b137_15, r134_m]
  simp only [am_push_s]
  rw [b137_19 (by omega)]
  rw [b137_4, if_neg (by omega), b137_10, if_neg (by omega), b137_15, r134_m]
  simp only [am_push_s]
  rw [b137_19 (by omega)]
  rw [b137_4, if_neg (by omega), b137_10, if_neg (by omega), b137_15, r134_m]
  simp only [am_push_s]
  rw [b137_19 (by omega)]
  rw [b137_4, if_neg (by omega), b137_10, if_neg (by omega), b137_15, r134_m]
  simp only [am_push_s]
  rw [b137_19 (by omega)]
  rw [b137_4, if_pos (by omega)]
  rw [b137_26, if_pos (by omega), b137_35, b137_36 rfl]
theorem r137_0_3 : R (d + 2) 137 0 [vI 0, vI 3, vX 9, vX 9] [] (WS L σ) Q = Q (some (vI 0)) (WS L σ) := by
  rw [b137_0]
  rw [b137_4, if_neg (by omega), b137_10, if_neg (by omega), b137_15, r134_0]
  simp only [am_push_s]
  rw [b137_19 (by omega)]
  rw [b137_4, if_neg (by omega), b137_10, if_neg (by omega), b137_15, r134_m]
  simp only [am_push_s]
  rw [b137_19 (by omega)]
  rw [b137_4, if_neg (by omega), b137_10, if_neg (by omega), b137_15, r134_m]
  simp only [am_push_s]
  rw [b137_19 (by omega)]
  rw [b137_4, if_neg (by omega), b137_10, if_neg (by omega), b137_15, r134_m]
  simp only [am_push_s]
  rw [b137_19 (by omega)]
  rw [b137_4, if_neg (by omega), b137_10, if_neg (by omega), b137_15, r134_m]
  simp only [am_push_s]
  rw [b137_19 (by omega)]
  rw [b137_4, if_neg (by omega), b137_10, if_neg (by omega), b137_15, r134_m]
  simp only [am_push_s]
  rw [b137_19 (by omega)]
  rw [b137_4, if_neg (by omega), b137_10, if_neg (by omega), b137_15, r134_m]
  simp only [am_push_s]
  rw [b137_19 (by omega)]
  rw [b137_4, if_pos (by omega)]
  rw [b137_26, if_pos (by omega), b137_35, b137_36 rfl]
theorem r137_0_4 : R (d + 2) 137 0 [vI 0, vI 4, vX 9, vX 9] [] (WS L σ) Q = Q (some (vI 0)) (WS L σ) := by
  rw [b137_0]
  rw [b137_4, if_neg (by omega), b137_10, if_neg (by omega), b137_15, r134_0]
  simp only [am_push_s]
  rw [b137_19 (by omega)]
  rw [b137_4, if_neg (by omega), b137_10, if_neg (by omega), b137_15, r134_m]
  simp only [am_push_s]
  rw [b137_19 (by omega)]
  rw [b137_4, if_neg (by omega), b137_10, if_neg (by omega), b137_15, r134_m]
  simp only [am_push_s]
  rw [b137_19 (by omega)]
  rw [b137_4, if_neg (by omega), b137_10, if_neg (by omega), b137_15, r134_m]
  simp only [am_push_s]
  rw [b137_19 (by omega)]
  rw [b137_4, if_neg (by omega), b137_10, if_neg (by omega), b137_15, r134_m]
  simp only [am_push_s]
  rw [b137_19 (by omega)]
  rw [b137_4, if_neg (by omega), b137_10, if_neg (by omega), b137_15, r134_m]
  simp only [am_push_s]
  rw [b137_19 (by omega)]
  rw [b137_4, if_neg (by omega), b137_10, if_neg (by omega), b137_15, r134_m]
  simp only [am_push_s]
  rw [b137_19 (by omega)]
  rw [b137_4, if_pos (by omega)]
  rw [b137_26, if_pos (by omega), b137_35, b137_36 rfl]
theorem r137_0_5 : R (d + 2) 137 0 [vI 0, vI 5, vX 9, vX 9] [] (WS L σ) Q = Q (some (vI 0)) (WS L σ) := by
  rw [b137_0]
  rw [b137_4, if_neg (by omega), b137_10, if_neg (by omega), b137_15, r134_0]
  simp only [am_push_s]
  rw [b137_19 (by omega)]
  rw [b137_4, if_neg (by omega), b137_10, if_neg (by omega), b137_15, r134_m]
  simp only [am_push_s]
  rw [b137_19 (by omega)]
  rw [b137_4, if_neg (by omega), b137_10, if_neg (by omega), b137_15, r134_m]
  simp only [am_push_s]
  rw [b137_19 (by omega)]
  rw [b137_4, if_neg (by omega), b137_10, if_neg (by omega), b137_15, r134_m]
  simp only [am_push_s]
  rw [b137_19 (by omega)]
  rw [b137_4, if_neg (by omega), b137_10, if_neg (by omega), b137_15, r134_m]
  simp only [am_push_s]
  rw [b137_19 (by omega)]
  rw [b137_4, if_neg (by omega), b137_10, if_neg (by omega), b137_15, r134_m]
  simp only [am_push_s]
  rw [b137_19 (by omega)]
  rw [b137_4, if_neg (by omega), b137_10, if_neg (by omega), b137_15, r134_m]
  simp only [am_push_s]
  rw [b137_19 (by omega)]
  rw [b137_4, if_pos (by omega)]
  rw [b137_26, if_pos (by omega), b137_35, b137_36 rfl]
theorem r137_0_6 : R (d + 2) 137 0 [vI 0, vI 6, vX 9, vX 9] [] (WS L σ) Q = Q (some (vI 0)) (WS L σ) := by
  rw [b137_0]
  rw [b137_4, if_neg (by omega), b137_10, if_neg (by omega), b137_15, r134_0]
  simp only [am_push_s]
  rw [b137_19 (by omega)]
  rw [b137_4, if_neg (by omega), b137_10, if_neg (by omega), b137_15, r134_m]
  simp only [am_push_s]
  rw [b137_19 (by omega)]
  rw [b137_4, if_neg (by omega), b137_10, if_neg (by omega), b137_15, r134_m]
  simp only [am_push_s]
  rw [b137_19 (by omega)]
  rw [b137_4, if_neg (by omega), b137_10, if_neg (by omega), b137_15, r134_m]
  simp only [am_push_s]
  rw [b137_19 (by omega)]
  rw [b137_4, if_neg (by omega), b137_10, if_neg (by omega), b137_15, r134_m]
  simp only [am_push_s]
  rw [b137_19 (by omega)]
  rw [b137_4, if_neg (by omega), b137_10, if_neg (by omega), b137_15, r134_m]
  simp only [am_push_s]
  rw [b137_19 (by omega)]
  rw [b137_4, if_neg (by omega), b137_10, if_neg (by omega), b137_15, r134_m]
  simp only [am_push_s]
  rw [b137_19 (by omega)]
  rw [b137_4, if_pos (by omega)]
  rw [b137_26, if_pos (by omega), b137_35, b137_36 rfl]
theorem r137_1_0 : R (d + 2) 137 0 [vI 1, vI 0, vX 9, vX 9] [] (WS L σ) Q = Q (some (vI 1)) (WS L σ) := by
  rw [b137_0]
  rw [b137_4, if_neg (by omega), b137_10, if_neg (by omega), b137_15, r134_1]
  simp only [am_push_s]
  rw [b137_19 (by omega)]
  rw [b137_4, if_neg (by omega), b137_10, if_pos (by omega)]
  rw [b137_26, if_neg (by omega), b137_31, b137_36 rfl]
theorem r137_1_1 : R (d + 2) 137 0 [vI 1, vI 1, vX 9, vX 9] [] (WS L σ) Q = Q (some (vI 1)) (WS L σ) := by
  rw [b137_0]
  rw [b137_4, if_neg (by omega), b137_10, if_pos (by omega)]
  rw [b137_26, if_neg (by omega), b137_31, b137_36 rfl]
theorem r137_1_2 : R (d + 2) 137 0 [vI 1, vI 2, vX 9, vX 9] [] (WS L σ) Q = Q (some (vI 0)) (WS L σ) := by
  rw [b137_0]
  rw [b137_4, if_neg (by omega), b137_10, if_neg (by omega), b137_15, r134_1]
  simp only [am_push_s]
  rw [b137_19 (by omega)]
  rw [b137_4, if_neg (by omega), b137_10, if_neg (by omega), b137_15, r134_0]
  simp only [am_push_s]
  rw [b137_19 (by omega)]
  rw [b137_4, if_neg (by omega), b137_10, if_neg (by omega), b137_15, r134_m]
  simp only [am_push_s]
  rw [b137_19 (by omega)]
  rw [b137_4, if_neg (by omega), b137_10, if_neg (by omega), b137_15, r134_m]
  simp only [am_push_s]
  rw [b137_19 (by omega)]
  rw [b137_4, if_neg (by omega), b137_10, if_neg (by omega), b137_15, r134_m]
  simp only [am_push_s]
  rw [b137_19 (by omega)]
  rw [b137_4, if_neg (by omega), b137_10, if_neg (by omega), b137_15, r134_m]
  simp only [am_push_s]
  rw [b137_19 (by omega)]
  rw [b137_4, if_neg (by omega), b137_10, if_neg (by omega), b137_15, r134_m]
  simp only [am_push_s]
  rw [b137_19 (by omega)]
  rw [b137_4, if_pos (by omega)]
  rw [b137_26, if_pos (by omega), b137_35, b137_36 rfl]
theorem r137_1_3 : R (d + 2) 137 0 [vI 1, vI 3, vX 9, vX 9] [] (WS L σ) Q = Q (some (vI 0)) (WS L σ) := by
  rw [b137_0]
  rw [b137_4, if_neg (by omega), b137_10, if_neg (by omega), b137_15, r134_1]
  simp only [am_push_s]
  rw [b137_19 (by omega)]
  rw [b137_4, if_neg (by omega), b137_10, if_neg (by omega), b137_15, r134_0]
  simp only [am_push_s]
  rw [b137_19 (by omega)]
  rw [b137_4, if_neg (by omega), b137_10, if_neg (by omega), b137_15, r134_m]
  simp only [am_push_s]
  rw [b137_19 (by omega)]
  rw [b137_4, if_neg (by omega), b137_10, if_neg (by omega), b137_15, r134_m]
  simp only [am_push_s]
  rw [b137_19 (by omega)]
  rw [b137_4, if_neg (by omega), b137_10, if_neg (by omega), b137_15, r134_m]
  simp only [am_push_s]
  rw [b137_19 (by omega)]
  rw [b137_4, if_neg (by omega), b137_10, if_neg (by omega), b137_15, r134_m]
  simp only [am_push_s]
  rw [b137_19 (by omega)]
  rw [b137_4, if_neg (by omega), b137_10, if_neg (by omega), b137_15, r134_m]
  simp only [am_push_s]
  rw [b137_19 (by omega)]
  rw [b137_4, if_pos (by omega)]
  rw [b137_26, if_pos (by omega), b137_35, b137_36 rfl]
theorem r137_1_4 : R (d + 2) 137 0 [vI 1, vI 4, vX 9, vX 9] [] (WS L σ) Q = Q (some (vI 0)) (WS L σ) := by
  rw [b137_0]
  rw [b137_4, if_neg (by omega), b137_10, if_neg (by omega), b137_15, r134_1]
  simp only [am_push_s]
  rw [b137_19 (by omega)]
  rw [b137_4, if_neg (by omega), b137_10, if_neg (by omega), b137_15, r134_0]
  simp only [am_push_s]
  rw [b137_19 (by omega)]
  rw [b137_4, if_neg (by omega), b137_10, if_neg (by omega), b137_15, r134_m]
  simp only [am_push_s]
  rw [b137_19 (by omega)]
  rw [b137_4, if_neg (by omega), b137_10, if_neg (by omega), b137_15, r134_m]
  simp only [am_push_s]
  rw [b137_19 (by omega)]
  rw [b137_4, if_neg (by omega), b137_10, if_neg (by omega), b137_15, r134_m]
  simp only [am_push_s]
  rw [b137_19 (by omega)]
  rw [b137_4, if_neg (by omega), b137_10, if_neg (by omega), b137_15, r134_m]
  simp only [am_push_s]
  rw [b137_19 (by omega)]
  rw [b137_4, if_neg (by omega), b137_10, if_neg (by omega), b137_15, r134_m]
  simp only [am_push_s]
  rw [b137_19 (by omega)]
  rw [b137_4, if_pos (by omega)]
  rw [b137_26, if_pos (by omega), b137_35, b137_36 rfl]
theorem r137_1_5 : R (d + 2) 137 0 [vI 1, vI 5, vX 9, vX 9] [] (WS L σ) Q = Q (some (vI 0)) (WS L σ) := by
  rw [b137_0]
  rw [b137_4, if_neg (by omega), b137_10, if_neg (by omega), b137_15, r134_1]
  simp only [am_push_s]
  rw [b137_19 (by omega)]
  rw [b137_4, if_neg (by omega), b137_10, if_neg (by omega), b137_15, r134_0]
  simp only [am_push_s]
  rw [b137_19 (by omega)]
  rw [b137_4, if_neg (by omega), b137_10, if_neg (by omega), b137_15, r134_m]
  simp only [am_push_s]
  rw [b137_19 (by omega)]
  rw [b137_4, if_neg (by omega), b137_10, if_neg (by omega), b137_15, r134_m]
  simp only [am_push_s]
  rw [b137_19 (by omega)]
  rw [b137_4, if_neg (by omega), b137_10, if_neg (by omega), b137_15, r134_m]
  simp only [am_push_s]
  rw [b137_19 (by omega)]
  rw [b137_4, if_neg (by omega), b137_10, if_neg (by omega), b137_15, r134_m]
  simp only [am_push_s]
  rw [b137_19 (by omega)]
  rw [b137_4, if_neg (by omega), b137_10, if_neg (by omega), b137_15, r134_m]
  simp only [am_push_s]
  rw [b137_19 (by omega)]
  rw [b137_4, if_pos (by omega)]
  rw [b137_26, if_pos (by omega), b137_35, b137_36 rfl]
theorem r137_1_6 : R (d + 2) 137 0 [vI 1, vI 6, vX 9, vX 9] [] (WS L σ) Q = Q (some (vI 0)) (WS L σ) := by
  rw [b137_0]
  rw [b137_4, if_neg (by omega), b137_10, if_neg (by omega), b137_15, r134_1]
  simp only [am_push_s]
  rw [b137_19 (by omega)]
  rw [b137_4, if_neg (by omega), b137_10, if_neg (by omega), b137_15, r134_0]
  simp only [am_push_s]
  rw [b137_19 (by omega)]
  rw [b137_4, if_neg (by omega), b137_10, if_neg (by omega), b137_15, r134_m]
  simp only [am_push_s]
  rw [b137_19 (by omega)]
  rw [b137_4, if_neg (by omega), b137_10, if_neg (by omega), b137_15, r134_m]
  simp only [am_push_s]
  rw [b137_19 (by omega)]
  rw [b137_4, if_neg (by omega), b137_10, if_neg (by omega), b137_15, r134_m]
  simp only [am_push_s]
  rw [b137_19 (by omega)]
  rw [b137_4, if_neg (by omega), b137_10, if_neg (by omega), b137_15, r134_m]
  simp only [am_push_s]
  rw [b137_19 (by omega)]
  rw [b137_4, if_neg (by omega), b137_10, if_neg (by omega), b137_15, r134_m]
  simp only [am_push_s]
  rw [b137_19 (by omega)]
  rw [b137_4, if_pos (by omega)]
  rw [b137_26, if_pos (by omega), b137_35, b137_36 rfl]
theorem r137_2_0 : R (d + 2) 137 0 [vI 2, vI 0, vX 9, vX 9] [] (WS L σ) Q = Q (some (vI 1)) (WS L σ) := by
  rw [b137_0]
  rw [b137_4, if_neg (by omega), b137_10, if_neg (by omega), b137_15, r134_2]
  simp only [am_push_s]
  rw [b137_19 (by omega)]
  rw [b137_4, if_neg (by omega), b137_10, if_pos (by omega)]
  rw [b137_26, if_neg (by omega), b137_31, b137_36 rfl]
theorem r137_2_1 : R (d + 2) 137 0 [vI 2, vI 1, vX 9, vX 9] [] (WS L σ) Q = Q (some (vI 0)) (WS L σ) := by
  rw [b137_0]
  rw [b137_4, if_neg (by omega), b137_10, if_neg (by omega), b137_15, r134_2]
  simp only [am_push_s]
  rw [b137_19 (by omega)]
  rw [b137_4, if_neg (by omega), b137_10, if_neg (by omega), b137_15, r134_0]
  simp only [am_push_s]
  rw [b137_19 (by omega)]
  rw [b137_4, if_neg (by omega), b137_10, if_neg (by omega), b137_15, r134_m]
  simp only [am_push_s]
  rw [b137_19 (by omega)]
  rw [b137_4, if_neg (by omega), b137_10, if_neg (by omega), b137_15, r134_m]
  simp only [am_push_s]
  rw [b137_19 (by omega)]
  rw [b137_4, if_neg (by omega), b137_10, if_neg (by omega), b137_15, r134_m]
  simp only [am_push_s]
  rw [b137_19 (by omega)]
  rw [b137_4, if_neg (by omega), b137_10, if_neg (by omega), b137_15, r134_m]
  simp only [am_push_s]
  rw [b137_19 (by omega)]
  rw [b137_4, if_neg (by omega), b137_10, if_neg (by omega), b137_15, r134_m]
  simp only [am_push_s]
  rw [b137_19 (by omega)]
  rw [b137_4, if_pos (by omega)]
  rw [b137_26, if_pos (by omega), b137_35, b137_36 rfl]
theorem r137_2_2 : R (d + 2) 137 0 [vI 2, vI 2, vX 9, vX 9] [] (WS L σ) Q = Q (some (vI 1)) (WS L σ) := by
  rw [b137_0]
  rw [b137_4, if_neg (by omega), b137_10, if_pos (by omega)]
  rw [b137_26, if_neg (by omega), b137_31, b137_36 rfl]
theorem r137_2_3 : R (d + 2) 137 0 [vI 2, vI 3, vX 9, vX 9] [] (WS L σ) Q = Q (some (vI 0)) (WS L σ) := by
  rw [b137_0]
  rw [b137_4, if_neg (by omega), b137_10, if_neg (by omega), b137_15, r134_2]
  simp only [am_push_s]
  rw [b137_19 (by omega)]
  rw [b137_4, if_neg (by omega), b137_10, if_neg (by omega), b137_15, r134_0]
  simp only [am_push_s]
  rw [b137_19 (by omega)]
  rw [b137_4, if_neg (by omega), b137_10, if_neg (by omega), b137_15, r134_m]
  simp only [am_push_s]
  rw [b137_19 (by omega)]
  rw [b137_4, if_neg (by omega), b137_10, if_neg (by omega), b137_15, r134_m]
  simp only [am_push_s]
  rw [b137_19 (by omega)]
  rw [b137_4, if_neg (by omega), b137_10, if_neg (by omega), b137_15, r134_m]
  simp only [am_push_s]
  rw [b137_19 (by omega)]
  rw [b137_4, if_neg (by omega), b137_10, if_neg (by omega), b137_15, r134_m]
  simp only [am_push_s]
  rw [b137_19 (by omega)]
  rw [b137_4, if_neg (by omega), b137_10, if_neg (by omega), b137_15, r134_m]
  simp only [am_push_s]
  rw [b137_19 (by omega)]
  rw [b137_4, if_pos (by omega)]
  rw [b137_26, if_pos (by omega), b137_35, b137_36 rfl]
theorem r137_2_4 : R (d + 2) 137 0 [vI 2, vI 4, vX 9, vX 9] [] (WS L σ) Q = Q (some (vI 0)) (WS L σ) := by
  rw [b137_0]
  rw [b137_4, if_neg (by omega), b137_10, if_neg (by omega), b137_15, r134_2]
  simp only [am_push_s]
  rw [b137_19 (by omega)]
  rw [b137_4, if_neg (by omega), b137_10, if_neg (by omega), b137_15, r134_0]
  simp only [am_push_s]
  rw [b137_19 (by omega)]
  rw [b137_4, if_neg (by omega), b137_10, if_neg (by omega), b137_15, r134_m]
  simp only [am_push_s]
  rw [b137_19 (by omega)]
  rw [b137_4, if_neg (by omega), b137_10, if_neg (by omega), b137_15, r134_m]
  simp only [am_push_s]
  rw [b137_19 (by omega)]
  rw [b137_4, if_neg (by omega), b137_10, if_neg (by omega), b137_15, r134_m]
  simp only [am_push_s]
  rw [b137_19 (by omega)]
  rw [b137_4, if_neg (by omega), b137_10, if_neg (by omega), b137_15, r134_m]
  simp only [am_push_s]
  rw [b137_19 (by omega)]
  rw [b137_4, if_neg (by omega), b137_10, if_neg (by omega), b137_15, r134_m]
  simp only [am_push_s]
  rw [b137_19 (by omega)]
  rw [b137_4, if_pos (by omega)]
  rw [b137_26, if_pos (by omega), b137_35, b137_36 rfl]
theorem r137_2_5 : R (d + 2) 137 0 [vI 2, vI 5, vX 9, vX 9] [] (WS L σ) Q = Q (some (vI 0)) (WS L σ) := by
  rw [b137_0]
  rw [b137_4, if_neg (by omega), b137_10, if_neg (by omega), b137_15, r134_2]
  simp only [am_push_s]
  rw [b137_19 (by omega)]
  rw [b137_4, if_neg (by omega), b137_10, if_neg (by omega), b137_15, r134_0]
  simp only [am_push_s]
  rw [b137_19 (by omega)]
  rw [b137_4, if_neg (by omega), b137_10, if_neg (by omega), b137_15, r134_m]
  simp only [am_push_s]
  rw [b137_19 (by omega)]
  rw [b137_4, if_neg (by omega), b137_10, if_neg (by omega), b137_15, r134_m]
  simp only [am_push_s]
  rw [b137_19 (by omega)]
  rw [b137_4, if_neg (by omega), b137_10, if_neg (by omega), b137_15, r134_m]
  simp only [am_push_s]
  rw [b137_19 (by omega)]
  rw [b137_4, if_neg (by omega), b137_10, if_neg (by omega), b137_15, r134_m]
  simp only [am_push_s]
  rw [b137_19 (by omega)]
  rw [b137_4, if_neg (by omega), b137_10, if_neg (by omega), b137_15, r134_m]
  simp only [am_push_s]
  rw [b137_19 (by omega)]
  rw [b137_4, if_pos (by omega)]
  rw [b137_26, if_pos (by omega), b137_35, b137_36 rfl]
theorem r137_2_6 : R (d + 2) 137 0 [vI 2, vI 6, vX 9, vX 9] [] (WS L σ) Q = Q (some (vI 0)) (WS L σ) := by
  rw [b137_0]
  rw [b137_4, if_neg (by omega), b137_10, if_neg (by omega), b137_15, r134_2]
  simp only [am_push_s]
  rw [b137_19 (by omega)]
  rw [b137_4, if_neg (by omega), b137_10, if_neg (by omega), b137_15, r134_0]
  simp only [am_push_s]
  rw [b137_19 (by omega)]
  rw [b137_4, if_neg (by omega), b137_10, if_neg (by omega), b137_15, r134_m]
  simp only [am_push_s]
  rw [b137_19 (by omega)]
  rw [b137_4, if_neg (by omega), b137_10, if_neg (by omega), b137_15, r134_m]
  simp only [am_push_s]
  rw [b137_19 (by omega)]
  rw [b137_4, if_neg (by omega), b137_10, if_neg (by omega), b137_15, r134_m]
  simp only [am_push_s]
  rw [b137_19 (by omega)]
  rw [b137_4, if_neg (by omega), b137_10, if_neg (by omega), b137_15, r134_m]
  simp only [am_push_s]
  rw [b137_19 (by omega)]
  rw [b137_4, if_neg (by omega), b137_10, if_neg (by omega), b137_15, r134_m]
  simp only [am_push_s]
  rw [b137_19 (by omega)]
  rw [b137_4, if_pos (by omega)]
  rw [b137_26, if_pos (by omega), b137_35, b137_36 rfl]
theorem r137_3_0 : R (d + 2) 137 0 [vI 3, vI 0, vX 9, vX 9] [] (WS L σ) Q = Q (some (vI 1)) (WS L σ) := by
  rw [b137_0]
  rw [b137_4, if_neg (by omega), b137_10, if_neg (by omega), b137_15, r134_3]
  simp only [am_push_s]
  rw [b137_19 (by omega)]
  rw [b137_4, if_neg (by omega), b137_10, if_neg (by omega), b137_15, r134_1]
  simp only [am_push_s]
  rw [b137_19 (by omega)]
  rw [b137_4, if_neg (by omega), b137_10, if_pos (by omega)]
  rw [b137_26, if_neg (by omega), b137_31, b137_36 rfl]
theorem r137_3_1 : R (d + 2) 137 0 [vI 3, vI 1, vX 9, vX 9] [] (WS L σ) Q = Q (some (vI 1)) (WS L σ) := by
  rw [b137_0]
  rw [b137_4, if_neg (by omega), b137_10, if_neg (by omega), b137_15, r134_3]
  simp only [am_push_s]
  rw [b137_19 (by omega)]
  rw [b137_4, if_neg (by omega), b137_10, if_pos (by omega)]
  rw [b137_26, if_neg (by omega), b137_31, b137_36 rfl]
theorem r137_3_2 : R (d + 2) 137 0 [vI 3, vI 2, vX 9, vX 9] [] (WS L σ) Q = Q (some (vI 0)) (WS L σ) := by
  rw [b137_0]
  rw [b137_4, if_neg (by omega), b137_10, if_neg (by omega), b137_15, r134_3]
  simp only [am_push_s]
  rw [b137_19 (by omega)]
  rw [b137_4, if_neg (by omega), b137_10, if_neg (by omega), b137_15, r134_1]
  simp only [am_push_s]
  rw [b137_19 (by omega)]
  rw [b137_4, if_neg (by omega), b137_10, if_neg (by omega), b137_15, r134_0]
  simp only [am_push_s]
  rw [b137_19 (by omega)]
  rw [b137_4, if_neg (by omega), b137_10, if_neg (by omega), b137_15, r134_m]
  simp only [am_push_s]
  rw [b137_19 (by omega)]
  rw [b137_4, if_neg (by omega), b137_10, if_neg (by omega), b137_15, r134_m]
  simp only [am_push_s]
  rw [b137_19 (by omega)]
  rw [b137_4, if_neg (by omega), b137_10, if_neg (by omega), b137_15, r134_m]
  simp only [am_push_s]
  rw [b137_19 (by omega)]
  rw [b137_4, if_neg (by omega), b137_10, if_neg (by omega), b137_15, r134_m]
  simp only [am_push_s]
  rw [b137_19 (by omega)]
  rw [b137_4, if_pos (by omega)]
  rw [b137_26, if_pos (by omega), b137_35, b137_36 rfl]
theorem r137_3_3 : R (d + 2) 137 0 [vI 3, vI 3, vX 9, vX 9] [] (WS L σ) Q = Q (some (vI 1)) (WS L σ) := by
  rw [b137_0]
  rw [b137_4, if_neg (by omega), b137_10, if_pos (by omega)]
  rw [b137_26, if_neg (by omega), b137_31, b137_36 rfl]
theorem r137_3_4 : R (d + 2) 137 0 [vI 3, vI 4, vX 9, vX 9] [] (WS L σ) Q = Q (some (vI 0)) (WS L σ) := by
  rw [b137_0]
  rw [b137_4, if_neg (by omega), b137_10, if_neg (by omega), b137_15, r134_3]
  simp only [am_push_s]
  rw [b137_19 (by omega)]
  rw [b137_4, if_neg (by omega), b137_10, if_neg (by omega), b137_15, r134_1]
  simp only [am_push_s]
  rw [b137_19 (by omega)]
  rw [b137_4, if_neg (by omega), b137_10, if_neg (by omega), b137_15, r134_0]
  simp only [am_push_s]
  rw [b137_19 (by omega)]
  rw [b137_4, if_neg (by omega), b137_10, if_neg (by omega), b137_15, r134_m]
  simp only [am_push_s]
  rw [b137_19 (by omega)]
  rw [b137_4, if_neg (by omega), b137_10, if_neg (by omega), b137_15, r134_m]
  simp only [am_push_s]
  rw [b137_19 (by omega)]
  rw [b137_4, if_neg (by omega), b137_10, if_neg (by omega), b137_15, r134_m]
  simp only [am_push_s]
  rw [b137_19 (by omega)]
  rw [b137_4, if_neg (by omega), b137_10, if_neg (by omega), b137_15, r134_m]
  simp only [am_push_s]
  rw [b137_19 (by omega)]
  rw [b137_4, if_pos (by omega)]
  rw [b137_26, if_pos (by omega), b137_35, b137_36 rfl]
theorem r137_3_5 : R (d + 2) 137 0 [vI 3, vI 5, vX 9, vX 9] [] (WS L σ) Q = Q (some (vI 0)) (WS L σ) := by
  rw [b137_0]
  rw [b137_4, if_neg (by omega), b137_10, if_neg (by omega), b137_15, r134_3]
  simp only [am_push_s]
  rw [b137_19 (by omega)]
  rw [b137_4, if_neg (by omega), b137_10, if_neg (by omega), b137_15, r134_1]
  simp only [am_push_s]
  rw [b137_19 (by omega)]
  rw [b137_4, if_neg (by omega), b137_10, if_neg (by omega), b137_15, r134_0]
  simp only [am_push_s]
  rw [b137_19 (by omega)]
  rw [b137_4, if_neg (by omega), b137_10, if_neg (by omega), b137_15, r134_m]
  simp only [am_push_s]
  rw [b137_19 (by omega)]
  rw [b137_4, if_neg (by omega), b137_10, if_neg (by omega), b137_15, r134_m]
  simp only [am_push_s]
  rw [b137_19 (by omega)]
  rw [b137_4, if_neg (by omega), b137_10, if_neg (by omega), b137_15, r134_m]
  simp only [am_push_s]
  rw [b137_19 (by omega)]
  rw [b137_4, if_neg (by omega), b137_10, if_neg (by omega), b137_15, r134_m]
  simp only [am_push_s]
  rw [b137_19 (by omega)]
  rw [b137_4, if_pos (by omega)]
  rw [b137_26, if_pos (by omega), b137_35, b137_36 rfl]
theorem r137_3_6 : R (d + 2) 137 0 [vI 3, vI 6, vX 9, vX 9] [] (WS L σ) Q = Q (some (vI 0)) (WS L σ) := by
  rw [b137_0]
  rw [b137_4, if_neg (by omega), b137_10, if_neg (by omega), b137_15, r134_3]
  simp only [am_push_s]
  rw [b137_19 (by omega)]
  rw [b137_4, if_neg (by omega), b137_10, if_neg (by omega), b137_15, r134_1]
  simp only [am_push_s]
  rw [b137_19 (by omega)]
  rw [b137_4, if_neg (by omega), b137_10, if_neg (by omega), b137_15, r134_0]
  simp only [am_push_s]
  rw [b137_19 (by omega)]
  rw [b137_4, if_neg (by omega), b137_10, if_neg (by omega), b137_15, r134_m]
  simp only [am_push_s]
  rw [b137_19 (by omega)]
  rw [b137_4, if_neg (by omega), b137_10, if_neg (by omega), b137_15, r134_m]
  simp only [am_push_s]
  rw [b137_19 (by omega)]
  rw [b137_4, if_neg (by omega), b137_10, if_neg (by omega), b137_15, r134_m]
  simp only [am_push_s]
  rw [b137_19 (by omega)]
  rw [b137_4, if_neg (by omega), b137_10, if_neg (by omega), b137_15, r134_m]
  simp only [am_push_s]
  rw [b137_19 (by omega)]
  rw [b137_4, if_pos (by omega)]
  rw [b137_26, if_pos (by omega), b137_35, b137_36 rfl]
theorem r137_4_0 : R (d + 2) 137 0 [vI 4, vI 0, vX 9, vX 9] [] (WS L σ) Q = Q (some (vI 1)) (WS L σ) := by
  rw [b137_0]
  rw [b137_4, if_neg (by omega), b137_10, if_neg (by omega), b137_15, r134_4]
  simp only [am_push_s]
  rw [b137_19 (by omega)]
  rw [b137_4, if_neg (by omega), b137_10, if_neg (by omega), b137_15, r134_2]
  simp only [am_push_s]
  rw [b137_19 (by omega)]
  rw [b137_4, if_neg (by omega), b137_10, if_pos (by omega)]
  rw [b137_26, if_neg (by omega), b137_31, b137_36 rfl]
theorem r137_4_1 : R (d + 2) 137 0 [vI 4, vI 1, vX 9, vX 9] [] (WS L σ) Q = Q (some (vI 0)) (WS L σ) := by
  rw [b137_0]
  rw [b137_4, if_neg (by omega), b137_10, if_neg (by omega), b137_15, r134_4]
  simp only [am_push_s]
  rw [b137_19 (by omega)]
  rw [b137_4, if_neg (by omega), b137_10, if_neg (by omega), b137_15, r134_2]
  simp only [am_push_s]
  rw [b137_19 (by omega)]
  rw [b137_4, if_neg (by omega), b137_10, if_neg (by omega), b137_15, r134_0]
  simp only [am_push_s]
  rw [b137_19 (by omega)]
  rw [b137_4, if_neg (by omega), b137_10, if_neg (by omega), b137_15, r134_m]
  simp only [am_push_s]
  rw [b137_19 (by omega)]
  rw [b137_4, if_neg (by omega), b137_10, if_neg (by omega), b137_15, r134_m]
  simp only [am_push_s]
  rw [b137_19 (by omega)]
  rw [b137_4, if_neg (by omega), b137_10, if_neg (by omega), b137_15, r134_m]
  simp only [am_push_s]
  rw [b137_19 (by omega)]
  rw [b137_4, if_neg (by omega), b137_10, if_neg (by omega), b137_15, r134_m]
  simp only [am_push_s]
  rw [b137_19 (by omega)]
  rw [b137_4, if_pos (by omega)]
  rw [b137_26, if_pos (by omega), b137_35, b137_36 rfl]
theorem r137_4_2 : R (d + 2) 137 0 [vI 4, vI 2, vX 9, vX 9] [] (WS L σ) Q = Q (some (vI 1)) (WS L σ) := by
  rw [b137_0]
  rw [b137_4, if_neg (by omega), b137_10, if_neg (by omega), b137_15, r134_4]
  simp only [am_push_s]
  rw [b137_19 (by omega)]
  rw [b137_4, if_neg (by omega), b137_10, if_pos (by omega)]
  rw [b137_26, if_neg (by omega), b137_31, b137_36 rfl]
theorem r137_4_3 : R (d + 2) 137 0 [vI 4, vI 3, vX 9, vX 9] [] (WS L σ) Q = Q (some (vI 0)) (WS L σ) := by
  rw [b137_0]
  rw [b137_4, if_neg (by omega), b137_10, if_neg (by omega), b137_15, r134_4]
  simp only [am_push_s]
  rw [b137_19 (by omega)]
  rw [b137_4, if_neg (by omega), b137_10, if_neg (by omega), b137_15, r134_2]
  simp only [am_push_s]
  rw [b137_19 (by omega)]
  rw [b137_4, if_neg (by omega), b137_10, if_neg (by omega), b137_15, r134_0]
  simp only [am_push_s]
  rw [b137_19 (by omega)]
  rw [b137_4, if_neg (by omega), b137_10, if_neg (by omega), b137_15, r134_m]
  simp only [am_push_s]
  rw [b137_19 (by omega)]
  rw [b137_4, if_neg (by omega), b137_10, if_neg (by omega), b137_15, r134_m]
  simp only [am_push_s]
  rw [b137_19 (by omega)]
  rw [b137_4, if_neg (by omega), b137_10, if_neg (by omega), b137_15, r134_m]
  simp only [am_push_s]
  rw [b137_19 (by omega)]
  rw [b137_4, if_neg (by omega), b137_10, if_neg (by omega), b137_15, r134_m]
  simp only [am_push_s]
  rw [b137_19 (by omega)]
  rw [b137_4, if_pos (by omega)]
  rw [b137_26, if_pos (by omega), b137_35, b137_36 rfl]
theorem r137_4_4 : R (d + 2) 137 0 [vI 4, vI 4, vX 9, vX 9] [] (WS L σ) Q = Q (some (vI 1)) (WS L σ) := by
  rw [b137_0]
  rw [b137_4, if_neg (by omega), b137_10, if_pos (by omega)]
  rw [b137_26, if_neg (by omega), b137_31, b137_36 rfl]
theorem r137_4_5 : R (d + 2) 137 0 [vI 4, vI 5, vX 9, vX 9] [] (WS L σ) Q = Q (some (vI 0)) (WS L σ) := by
  rw [b137_0]
  rw [b137_4, if_neg (by omega), b137_10, if_neg (by omega), b137_15, r134_4]
  simp only [am_push_s]
  rw [b137_19 (by omega)]
  rw [b137_4, if_neg (by omega), b137_10, if_neg (by omega), b137_15, r134_2]
  simp only [am_push_s]
  rw [b137_19 (by omega)]
  rw [b137_4, if_neg (by omega), b137_10, if_neg (by omega), b137_15, r134_0]
  simp only [am_push_s]
  rw [b137_19 (by omega)]
  rw [b137_4, if_neg (by omega), b137_10, if_neg (by omega), b137_15, r134_m]
  simp only [am_push_s]
  rw [b137_19 (by omega)]
  rw [b137_4, if_neg (by omega), b137_10, if_neg (by omega), b137_15, r134_m]
  simp only [am_push_s]
  rw [b137_19 (by omega)]
  rw [b137_4, if_neg (by omega), b137_10, if_neg (by omega), b137_15, r134_m]
  simp only [am_push_s]
  rw [b137_19 (by omega)]
  rw [b137_4, if_neg (by omega), b137_10, if_neg (by omega), b137_15, r134_m]
  simp only [am_push_s]
  rw [b137_19 (by omega)]
  rw [b137_4, if_pos (by omega)]
  rw [b137_26, if_pos (by omega), b137_35, b137_36 rfl]
theorem r137_4_6 : R (d + 2) 137 0 [vI 4, vI 6, vX 9, vX 9] [] (WS L σ) Q = Q (some (vI 0)) (WS L σ) := by
  rw [b137_0]
  rw [b137_4, if_neg (by omega), b137_10, if_neg (by omega), b137_15, r134_4]
  simp only [am_push_s]
  rw [b137_19 (by omega)]
  rw [b137_4, if_neg (by omega), b137_10, if_neg (by omega), b137_15, r134_2]
  simp only [am_push_s]
  rw [b137_19 (by omega)]
  rw [b137_4, if_neg (by omega), b137_10, if_neg (by omega), b137_15, r134_0]
  simp only [am_push_s]
  rw [b137_19 (by omega)]
  rw [b137_4, if_neg (by omega), b137_10, if_neg (by omega), b137_15, r134_m]
  simp only [am_push_s]
  rw [b137_19 (by omega)]
  rw [b137_4, if_neg (by omega), b137_10, if_neg (by omega), b137_15, r134_m]
  simp only [am_push_s]
  rw [b137_19 (by omega)]
  rw [b137_4, if_neg (by omega), b137_10, if_neg (by omega), b137_15, r134_m]
  simp only [am_push_s]
  rw [b137_19 (by omega)]
  rw [b137_4, if_neg (by omega), b137_10, if_neg (by omega), b137_15, r134_m]
  simp only [am_push_s]
  rw [b137_19 (by omega)]
  rw [b137_4, if_pos (by omega)]
  rw [b137_26, if_pos (by omega), b137_35, b137_36 rfl]
theorem r137_5_0 : R (d + 2) 137 0 [vI 5, vI 0, vX 9, vX 9] [] (WS L σ) Q = Q (some (vI 1)) (WS L σ) := by
  rw [b137_0]
  rw [b137_4, if_neg (by omega), b137_10, if_neg (by omega), b137_15, r134_5]
  simp only [am_push_s]
  rw [b137_19 (by omega)]
  rw [b137_4, if_neg (by omega), b137_10, if_pos (by omega)]
  rw [b137_26, if_neg (by omega), b137_31, b137_36 rfl]
theorem r137_5_1 : R (d + 2) 137 0 [vI 5, vI 1, vX 9, vX 9] [] (WS L σ) Q = Q (some (vI 0)) (WS L σ) := by
  rw [b137_0]
  rw [b137_4, if_neg (by omega), b137_10, if_neg (by omega), b137_15, r134_5]
  simp only [am_push_s]
  rw [b137_19 (by omega)]
  rw [b137_4, if_neg (by omega), b137_10, if_neg (by omega), b137_15, r134_0]
  simp only [am_push_s]
  rw [b137_19 (by omega)]
  rw [b137_4, if_neg (by omega), b137_10, if_neg (by omega), b137_15, r134_m]
  simp only [am_push_s]
  rw [b137_19 (by omega)]
  rw [b137_4, if_neg (by omega), b137_10, if_neg (by omega), b137_15, r134_m]
  simp only [am_push_s]
  rw [b137_19 (by omega)]
  rw [b137_4, if_neg (by omega), b137_10, if_neg (by omega), b137_15, r134_m]
  simp only [am_push_s]
  rw [b137_19 (by omega)]
  rw [b137_4, if_neg (by omega), b137_10, if_neg (by omega), b137_15, r134_m]
  simp only [am_push_s]
  rw [b137_19 (by omega)]
  rw [b137_4, if_neg (by omega), b137_10, if_neg (by omega), b137_15, r134_m]
  simp only [am_push_s]
  rw [b137_19 (by omega)]
  rw [b137_4, if_pos (by omega)]
  rw [b137_26, if_pos (by omega), b137_35, b137_36 rfl]
theorem r137_5_2 : R (d + 2) 137 0 [vI 5, vI 2, vX 9, vX 9] [] (WS L σ) Q = Q (some (vI 0)) (WS L σ) := by
  rw [b137_0]
  rw [b137_4, if_neg (by omega), b137_10, if_neg (by omega), b137_15, r134_5]
  simp only [am_push_s]
  rw [b137_19 (by omega)]
  rw [b137_4, if_neg (by omega), b137_10, if_neg (by omega), b137_15, r134_0]
  simp only [am_push_s]
  rw [b137_19 (by omega)]
  rw [b137_4, if_neg (by omega), b137_10, if_neg (by omega), b137_15, r134_m]
  simp only [am_push_s]
  rw [b137_19 (by omega)]
  rw [b137_4, if_neg (by omega), b137_10, if_neg (by omega), b137_15, r134_m]
  simp only [am_push_s]
  rw [b137_19 (by omega)]
  rw [b137_4, if_neg (by omega), b137_10, if_neg (by omega), b137_15, r134_m]
  simp only [am_push_s]
  rw [b137_19 (by omega)]
  rw [b137_4, if_neg (by omega), b137_10, if_neg (by omega), b137_15, r134_m]
  simp only [am_push_s]
  rw [b137_19 (by omega)]
  rw [b137_4, if_neg (by omega), b137_10, if_neg (by omega), b137_15, r134_m]
  simp only [am_push_s]
  rw [b137_19 (by omega)]
  rw [b137_4, if_pos (by omega)]
  rw [b137_26, if_pos (by omega), b137_35, b137_36 rfl]
theorem r137_5_3 : R (d + 2) 137 0 [vI 5, vI 3, vX 9, vX 9] [] (WS L σ) Q = Q (some (vI 0)) (WS L σ) := by
  rw [b137_0]
  rw [b137_4, if_neg (by omega), b137_10, if_neg (by omega), b137_15, r134_5]
  simp only [am_push_s]
  rw [b137_19 (by omega)]
  rw [b137_4, if_neg (by omega), b137_10, if_neg (by omega), b137_15, r134_0]
  simp only [am_push_s]
  rw [b137_19 (by omega)]
  rw [b137_4, if_neg (by omega), b137_10, if_neg (by omega), b137_15, r134_m]
  simp only [am_push_s]
  rw [b137_19 (by omega)]
  rw [b137_4, if_neg (by omega), b137_10, if_neg (by omega), b137_15, r134_m]
  simp only [am_push_s]
  rw [b137_19 (by omega)]
  rw [b137_4, if_neg (by omega), b137_10, if_neg (by omega), b137_15, r134_m]
  simp only [am_push_s]
  rw [b137_19 (by omega)]
  rw [b137_4, if_neg (by omega), b137_10, if_neg (by omega), b137_15, r134_m]
  simp only [am_push_s]
  rw [b137_19 (by omega)]
  rw [b137_4, if_neg (by omega), b137_10, if_neg (by omega), b137_15, r134_m]
  simp only [am_push_s]
  rw [b137_19 (by omega)]
  rw [b137_4, if_pos (by omega)]
  rw [b137_26, if_pos (by omega), b137_35, b137_36 rfl]
theorem r137_5_4 : R (d + 2) 137 0 [vI 5, vI 4, vX 9, vX 9] [] (WS L σ) Q = Q (some (vI 0)) (WS L σ) := by
  rw [b137_0]
  rw [b137_4, if_neg (by omega), b137_10, if_neg (by omega), b137_15, r134_5]
  simp only [am_push_s]
  rw [b137_19 (by omega)]
  rw [b137_4, if_neg (by omega), b137_10, if_neg (by omega), b137_15, r134_0]
  simp only [am_push_s]
  rw [b137_19 (by omega)]
  rw [b137_4, if_neg (by omega), b137_10, if_neg (by omega), b137_15, r134_m]
  simp only [am_push_s]
  rw [b137_19 (by omega)]
  rw [b137_4, if_neg (by omega), b137_10, if_neg (by omega), b137_15, r134_m]
  simp only [am_push_s]
  rw [b137_19 (by omega)]
  rw [b137_4, if_neg (by omega), b137_10, if_neg (by omega), b137_15, r134_m]
  simp only [am_push_s]
  rw [b137_19 (by omega)]
  rw [b137_4, if_neg (by omega), b137_10, if_neg (by omega), b137_15, r134_m]
  simp only [am_push_s]
  rw [b137_19 (by omega)]
  rw [b137_4, if_neg (by omega), b137_10, if_neg (by omega), b137_15, r134_m]
  simp only [am_push_s]
  rw [b137_19 (by omega)]
  rw [b137_4, if_pos (by omega)]
  rw [b137_26, if_pos (by omega), b137_35, b137_36 rfl]
theorem r137_5_5 : R (d + 2) 137 0 [vI 5, vI 5, vX 9, vX 9] [] (WS L σ) Q = Q (some (vI 1)) (WS L σ) := by
  rw [b137_0]
  rw [b137_4, if_neg (by omega), b137_10, if_pos (by omega)]
  rw [b137_26, if_neg (by omega), b137_31, b137_36 rfl]
theorem r137_5_6 : R (d + 2) 137 0 [vI 5, vI 6, vX 9, vX 9] [] (WS L σ) Q = Q (some (vI 0)) (WS L σ) := by
  rw [b137_0]
  rw [b137_4, if_neg (by omega), b137_10, if_neg (by omega), b137_15, r134_5]
  simp only [am_push_s]
  rw [b137_19 (by omega)]
  rw [b137_4, if_neg (by omega), b137_10, if_neg (by omega), b137_15, r134_0]
  simp only [am_push_s]
  rw [b137_19 (by omega)]
  rw [b137_4, if_neg (by omega), b137_10, if_neg (by omega), b137_15, r134_m]
  simp only [am_push_s]
  rw [b137_19 (by omega)]
  rw [b137_4, if_neg (by omega), b137_10, if_neg (by omega), b137_15, r134_m]
  simp only [am_push_s]
  rw [b137_19 (by omega)]
  rw [b137_4, if_neg (by omega), b137_10, if_neg (by omega), b137_15, r134_m]
  simp only [am_push_s]
  rw [b137_19 (by omega)]
  rw [b137_4, if_neg (by omega), b137_10, if_neg (by omega), b137_15, r134_m]
  simp only [am_push_s]
  rw [b137_19 (by omega)]
  rw [b137_4, if_neg (by omega), b137_10, if_neg (by omega), b137_15, r134_m]
  simp only [am_push_s]
  rw [b137_19 (by omega)]
  rw [b137_4, if_pos (by omega)]
  rw [b137_26, if_pos (by omega), b137_35, b137_36 rfl]
theorem r137_6_0 : R (d + 2) 137 0 [vI 6, vI 0, vX 9, vX 9] [] (WS L σ) Q = Q (some (vI 1)) (WS L σ) := by
  rw [b137_0]
  rw [b137_4, if_neg (by omega), b137_10, if_neg (by omega), b137_15, r134_6]
  simp only [am_push_s]
  rw [b137_19 (by omega)]
  rw [b137_4, if_neg (by omega), b137_10, if_neg (by omega), b137_15, r134_1]
  simp only [am_push_s]
  rw [b137_19 (by omega)]
  rw [b137_4, if_neg (by omega), b137_10, if_pos (by omega)]
  rw [b137_26, if_neg (by omega), b137_31, b137_36 rfl]
theorem r137_6_1 : R (d + 2) 137 0 [vI 6, vI 1, vX 9, vX 9] [] (WS L σ) Q = Q (some (vI 1)) (WS L σ) := by
  rw [b137_0]
  rw [b137_4, if_neg (by omega), b137_10, if_neg (by omega), b137_15, r134_6]
  simp only [am_push_s]
  rw [b137_19 (by omega)]
  rw [b137_4, if_neg (by omega), b137_10, if_pos (by omega)]
  rw [b137_26, if_neg (by omega), b137_31, b137_36 rfl]
theorem r137_6_2 : R (d + 2) 137 0 [vI 6, vI 2, vX 9, vX 9] [] (WS L σ) Q = Q (some (vI 0)) (WS L σ) := by
  rw [b137_0]
  rw [b137_4, if_neg (by omega), b137_10, if_neg (by omega), b137_15, r134_6]
  simp only [am_push_s]
  rw [b137_19 (by omega)]
  rw [b137_4, if_neg (by omega), b137_10, if_neg (by omega), b137_15, r134_1]
  simp only [am_push_s]
  rw [b137_19 (by omega)]
  rw [b137_4, if_neg (by omega), b137_10, if_neg (by omega), b137_15, r134_0]
  simp only [am_push_s]
  rw [b137_19 (by omega)]
  rw [b137_4, if_neg (by omega), b137_10, if_neg (by omega), b137_15, r134_m]
  simp only [am_push_s]
  rw [b137_19 (by omega)]
  rw [b137_4, if_neg (by omega), b137_10, if_neg (by omega), b137_15, r134_m]
  simp only [am_push_s]
  rw [b137_19 (by omega)]
  rw [b137_4, if_neg (by omega), b137_10, if_neg (by omega), b137_15, r134_m]
  simp only [am_push_s]
  rw [b137_19 (by omega)]
  rw [b137_4, if_neg (by omega), b137_10, if_neg (by omega), b137_15, r134_m]
  simp only [am_push_s]
  rw [b137_19 (by omega)]
  rw [b137_4, if_pos (by omega)]
  rw [b137_26, if_pos (by omega), b137_35, b137_36 rfl]
theorem r137_6_3 : R (d + 2) 137 0 [vI 6, vI 3, vX 9, vX 9] [] (WS L σ) Q = Q (some (vI 0)) (WS L σ) := by
  rw [b137_0]
  rw [b137_4, if_neg (by omega), b137_10, if_neg (by omega), b137_15, r134_6]
  simp only [am_push_s]
  rw [b137_19 (by omega)]
  rw [b137_4, if_neg (by omega), b137_10, if_neg (by omega), b137_15, r134_1]
  simp only [am_push_s]
  rw [b137_19 (by omega)]
  rw [b137_4, if_neg (by omega), b137_10, if_neg (by omega), b137_15, r134_0]
  simp only [am_push_s]
  rw [b137_19 (by omega)]
  rw [b137_4, if_neg (by omega), b137_10, if_neg (by omega), b137_15, r134_m]
  simp only [am_push_s]
  rw [b137_19 (by omega)]
  rw [b137_4, if_neg (by omega), b137_10, if_neg (by omega), b137_15, r134_m]
  simp only [am_push_s]
  rw [b137_19 (by omega)]
  rw [b137_4, if_neg (by omega), b137_10, if_neg (by omega), b137_15, r134_m]
  simp only [am_push_s]
  rw [b137_19 (by omega)]
  rw [b137_4, if_neg (by omega), b137_10, if_neg (by omega), b137_15, r134_m]
  simp only [am_push_s]
  rw [b137_19 (by omega)]
  rw [b137_4, if_pos (by omega)]
  rw [b137_26, if_pos (by omega), b137_35, b137_36 rfl]
theorem r137_6_4 : R (d + 2) 137 0 [vI 6, vI 4, vX 9, vX 9] [] (WS L σ) Q = Q (some (vI 0)) (WS L σ) := by
  rw [b137_0]
  rw [b137_4, if_neg (by omega), b137_10, if_neg (by omega), b137_15, r134_6]
  simp only [am_push_s]
  rw [b137_19 (by omega)]
  rw [b137_4, if_neg (by omega), b137_10, if_neg (by omega), b137_15, r134_1]
  simp only [am_push_s]
  rw [b137_19 (by omega)]
  rw [b137_4, if_neg (by omega), b137_10, if_neg (by omega), b137_15, r134_0]
  simp only [am_push_s]
  rw [b137_19 (by omega)]
  rw [b137_4, if_neg (by omega), b137_10, if_neg (by omega), b137_15, r134_m]
  simp only [am_push_s]
  rw [b137_19 (by omega)]
  rw [b137_4, if_neg (by omega), b137_10, if_neg (by omega), b137_15, r134_m]
  simp only [am_push_s]
  rw [b137_19 (by omega)]
  rw [b137_4, if_neg (by omega), b137_10, if_neg (by omega), b137_15, r134_m]
  simp only [am_push_s]
  rw [b137_19 (by omega)]
  rw [b137_4, if_neg (by omega), b137_10, if_neg (by omega), b137_15, r134_m]
  simp only [am_push_s]
  rw [b137_19 (by omega)]
  rw [b137_4, if_pos (by omega)]
  rw [b137_26, if_pos (by omega), b137_35, b137_36 rfl]
theorem r137_6_5 : R (d + 2) 137 0 [vI 6, vI 5, vX 9, vX 9] [] (WS L σ) Q = Q (some (vI 0)) (WS L σ) := by
  rw [b137_0]
  rw [b137_4, if_neg (by omega), b137_10, if_neg (by omega), b137_15, r134_6]
  simp only [am_push_s]
  rw [b137_19 (by omega)]
  rw [b137_4, if_neg (by omega), b137_10, if_neg (by omega), b137_15, r134_1]
  simp only [am_push_s]
  rw [b137_19 (by omega)]
  rw [b137_4, if_neg (by omega), b137_10, if_neg (by omega), b137_15, r134_0]
  simp only [am_push_s]
  rw [b137_19 (by omega)]
  rw [b137_4, if_neg (by omega), b137_10, if_neg (by omega), b137_15, r134_m]
  simp only [am_push_s]
  rw [b137_19 (by omega)]
  rw [b137_4, if_neg (by omega), b137_10, if_neg (by omega), b137_15, r134_m]
  simp only [am_push_s]
  rw [b137_19 (by omega)]
  rw [b137_4, if_neg (by omega), b137_10, if_neg (by omega), b137_15, r134_m]
  simp only [am_push_s]
  rw [b137_19 (by omega)]
  rw [b137_4, if_neg (by omega), b137_10, if_neg (by omega), b137_15, r134_m]
  simp only [am_push_s]
  rw [b137_19 (by omega)]
  rw [b137_4, if_pos (by omega)]
  rw [b137_26, if_pos (by omega), b137_35, b137_36 rfl]
theorem r137_6_6 : R (d + 2) 137 0 [vI 6, vI 6, vX 9, vX 9] [] (WS L σ) Q = Q (some (vI 1)) (WS L σ) := by
  rw [b137_0]
  rw [b137_4, if_neg (by omega), b137_10, if_pos (by omega)]
  rw [b137_26, if_neg (by omega), b137_31, b137_36 rfl]
def unS (kind k : Int) : Prop := k = 0 ∨ k = kind ∨ (k = 1 ∧ (kind = 3 ∨ kind = 6)) ∨ (k = 2 ∧ kind = 4)
def aAs (s : Int → Int) (c k : Int) : Int := if (0 ≤ c ∧ c < 3) ∧ (0 ≤ k ∧ k < 7) then (if k = 0 ∨ k = s (157 + c) ∨ (k = 1 ∧ (s (157 + c) = 3 ∨ s (157 + c) = 6)) ∨ (k = 2 ∧ s (157 + c) = 4) then s (157 + c) else -6) else -1
theorem r137 {k o : Int} (hk : 0 ≤ k ∧ k < 7) (ho : 0 ≤ o ∧ o < 7) : R (d + 2) 137 0 [vI k, vI o, vX 9, vX 9] [] (WS L σ) Q = Q (some (vI (if o = 0 ∨ o = k ∨ (o = 1 ∧ (k = 3 ∨ k = 6)) ∨ (o = 2 ∧ k = 4) then 1 else 0))) (WS L σ) := by
  have h1 : k = 0 ∨ k = 1 ∨ k = 2 ∨ k = 3 ∨ k = 4 ∨ k = 5 ∨ k = 6 := by omega
  have h2 : o = 0 ∨ o = 1 ∨ o = 2 ∨ o = 3 ∨ o = 4 ∨ o = 5 ∨ o = 6 := by omega
  rcases h1 with rfl | h1
  · rcases h2 with rfl | rfl | rfl | rfl | rfl | rfl | rfl
    · rw [r137_0_0, if_pos (by omega)]
    · rw [r137_0_1, if_neg (by omega)]
    · rw [r137_0_2, if_neg (by omega)]
    · rw [r137_0_3, if_neg (by omega)]
    · rw [r137_0_4, if_neg (by omega)]
    · rw [r137_0_5, if_neg (by omega)]
    · rw [r137_0_6, if_neg (by omega)]
  rcases h1 with rfl | h1
  · rcases h2 with rfl | rfl | rfl | rfl | rfl | rfl | rfl
    · rw [r137_1_0, if_pos (by omega)]
    · rw [r137_1_1, if_pos (by omega)]
    · rw [r137_1_2, if_neg (by omega)]
    · rw [r137_1_3, if_neg (by omega)]
    · rw [r137_1_4, if_neg (by omega)]
    · rw [r137_1_5, if_neg (by omega)]
    · rw [r137_1_6, if_neg (by omega)]
  rcases h1 with rfl | h1
  · rcases h2 with rfl | rfl | rfl | rfl | rfl | rfl | rfl
    · rw [r137_2_0, if_pos (by omega)]
    · rw [r137_2_1, if_neg (by omega)]
    · rw [r137_2_2, if_pos (by omega)]
    · rw [r137_2_3, if_neg (by omega)]
    · rw [r137_2_4, if_neg (by omega)]
    · rw [r137_2_5, if_neg (by omega)]
    · rw [r137_2_6, if_neg (by omega)]
  rcases h1 with rfl | h1
  · rcases h2 with rfl | rfl | rfl | rfl | rfl | rfl | rfl
    · rw [r137_3_0, if_pos (by omega)]
    · rw [r137_3_1, if_pos (by omega)]
    · rw [r137_3_2, if_neg (by omega)]
    · rw [r137_3_3, if_pos (by omega)]
    · rw [r137_3_4, if_neg (by omega)]
    · rw [r137_3_5, if_neg (by omega)]
    · rw [r137_3_6, if_neg (by omega)]
  rcases h1 with rfl | h1
  · rcases h2 with rfl | rfl | rfl | rfl | rfl | rfl | rfl
    · rw [r137_4_0, if_pos (by omega)]
    · rw [r137_4_1, if_neg (by omega)]
    · rw [r137_4_2, if_pos (by omega)]
    · rw [r137_4_3, if_neg (by omega)]
    · rw [r137_4_4, if_pos (by omega)]
    · rw [r137_4_5, if_neg (by omega)]
    · rw [r137_4_6, if_neg (by omega)]
  rcases h1 with rfl | h1
  · rcases h2 with rfl | rfl | rfl | rfl | rfl | rfl | rfl
    · rw [r137_5_0, if_pos (by omega)]
    · rw [r137_5_1, if_neg (by omega)]
    · rw [r137_5_2, if_neg (by omega)]
    · rw [r137_5_3, if_neg (by omega)]
    · rw [r137_5_4, if_neg (by omega)]
    · rw [r137_5_5, if_pos (by omega)]
    · rw [r137_5_6, if_neg (by omega)]
  subst h1
  rcases h2 with rfl | rfl | rfl | rfl | rfl | rfl | rfl
  · rw [r137_6_0, if_pos (by omega)]
  · rw [r137_6_1, if_pos (by omega)]
  · rw [r137_6_2, if_neg (by omega)]
  · rw [r137_6_3, if_neg (by omega)]
  · rw [r137_6_4, if_neg (by omega)]
  · rw [r137_6_5, if_neg (by omega)]
  · rw [r137_6_6, if_pos (by omega)]
theorem k136 {x y : Int} (h : HC N s cl σ) : ∃ σ1 : St, CP N s cl σ σ1 ∧ ∀ Q, R (d + 30) 136 0 [vR 19, vI x, vI y, vX 9] [] (WS L σ) Q = Q (some (vI (aAs s x y))) (WS L σ1) := by
  refine ⟨σ, CP_r h, fun Q => ?_⟩
  obtain ⟨hw, hr, hE, hv⟩ := h
  unfold aAs
  rw [b136_0, r13]
  simp only [am_push_s]
  rw [b136_5]
  simp only [tI_0]
  by_cases q1 : 0 ≤ x ∧ x < 3
  · rw [if_neg (by omega), b136_8, r13]
    simp only [am_push_s]
    rw [b136_14]
    simp only [tI_0]
    by_cases q2 : 0 ≤ y ∧ y < 7
    · obtain ⟨c, rfl⟩ : ∃ c : Nat, x = (c : Int) := ⟨x.toNat, by omega⟩
      have w5 := (hw.2.2.2.2.2.1 c (by omega)).2
      rw [if_pos (by omega), if_pos ⟨q1, q2⟩, b136_19, r66 (by omega), show σ 29 c = s (157 + c) from (hr.2.2.2.2.2.1 c (by omega)).2.1]
      simp only [am_push_s]
      rw [b136_27, r137 (by omega) q2]
      simp only [am_push_s]
      rw [b136_33]
      by_cases q3 : y = 0 ∨ y = s (157 + c) ∨ (y = 1 ∧ (s (157 + c) = 3 ∨ s (157 + c) = 6)) ∨ (y = 2 ∧ s (157 + c) = 4)
      · rw [if_pos q3, if_pos q3, if_neg (by omega), b136_36, b136_42]
      · rw [if_neg q3, if_neg q3, if_pos rfl, b136_40, b136_42]
    · rw [if_neg (by omega), if_neg (fun x => q2 x.2), b136_17]
  · rw [if_pos (by omega), if_neg (fun x => q1 x.1), b136_17]
/-- an act: its answer, the bodies that ran -/
def pkA (k i x : Int) : Int × List Int := if k = 1 ∨ k = 3 ∨ k = 6 then (wr (wr (x * 3) + i), [11, 1]) else if k = 4 then (i_xor (wr (x + i)) i, [51, 1]) else (wr (x + i), [1])
def wbA (k i f x : Int) : Int × List Int := (wr ((pkA k i x).1 - f), 2 :: (pkA k i x).2)
def wtA (k i f x : Int) : Int × List Int := if k = 6 then (wr ((wbA k i f x).1 + f), 61 :: (wbA k i f x).2) else if k = 2 ∨ k = 4 then (wr (-(wbA k i f x).1), 21 :: (wbA k i f x).2) else wbA k i f x
def lbA (k i f x : Int) : Int × List Int := (wr ((wtA k i f x).1 * 2), 3 :: (wtA k i f x).2)
def lvA (k i f x : Int) : Int × List Int := if k = 5 then (i_xor (lbA k i f x).1 7, 31 :: (lbA k i f x).2) else if k = 3 then (wr ((lbA k i f (wr (x - 1))).1 + (pkA k i 2).1), 41 :: ((lbA k i f (wr (x - 1))).2 ++ (pkA k i 2).2)) else lbA k i f x
theorem pkA_len {k i x : Int} : (pkA k i x).2.length ≤ 2 := by
  unfold pkA
  repeat' split
  all_goals simp
theorem wtA_len {k i f x : Int} : (wtA k i f x).2.length ≤ 4 := by
  have := pkA_len (k := k) (i := i) (x := x)
  unfold wtA wbA
  repeat' split
  all_goals simp
  all_goals omega
theorem lbA_len {k i f x : Int} : (lbA k i f x).2.length ≤ 5 := by
  have := wtA_len (k := k) (i := i) (f := f) (x := x)
  unfold lbA
  simp
  omega
theorem lvA_len {k i f x : Int} : (lvA k i f x).2.length ≤ 8 := by
  have h1 := lbA_len (k := k) (i := i) (f := f) (x := x)
  have h2 := lbA_len (k := k) (i := i) (f := f) (x := wr (x - 1))
  have h3 := pkA_len (k := k) (i := i) (x := 2)
  unfold lvA
  repeat' split
  · simp
    omega
  · simp
    omega
  · omega
/-- the trace is a list -/
def TRC (σ0 : St) (l : List Int) (σ : St) : Prop := (∀ a, a ≠ 150 → a ≠ 151 → a ≠ 152 → σ a = σ0 a) ∧ (∀ j : Int, j ≠ 1 → σ 150 j = σ0 150 j) ∧ σ 151 1 = (l.length : Int) ∧ σ 150 1 = (l.length : Int) ∧ ∀ (i : Nat) (c : Int), l[i]? = some c → σ 152 i = c
theorem app_some {l : List Int} {b c : Int} {i : Nat} (h : (l ++ [b])[i]? = some c) : l[i]? = some c ∨ (i = l.length ∧ c = b) := by
  by_cases q : i < l.length
  · rw [List.getElem?_append_left q] at h
    exact Or.inl h
  · rw [List.getElem?_append_right (by omega)] at h
    have h0 : i - l.length = 0 := by
      rcases Nat.eq_zero_or_pos (i - l.length) with q2 | q2
      · exact q2
      · rw [List.getElem?_eq_none (by simp; omega)] at h
        simp at h
    rw [h0] at h
    simp only [List.getElem?_cons_zero, Option.some.injEq] at h
    exact Or.inr ⟨by omega, h.symm⟩
theorem TRC_add {l : List Int} {b : Int} (h : TRC σ0 l σ) : TRC σ0 (l ++ [b]) (st2 (st2 (st2 σ 152 (l.length : Int) b) 151 1 ((l.length : Int) + 1)) 150 1 ((l.length : Int) + 1)) := by
  obtain ⟨h1, h2, h3, h4, h5⟩ := h
  refine ⟨fun a a1 a2 a3 => ?_, fun j hj => ?_, ?_, ?_, fun i c hi => ?_⟩
  · funext j
    rw [st2_k a1, st2_k a2, st2_k a3, h1 a a1 a2 a3]
  · rw [st2_i hj, st2_k (by omega), st2_k (by omega), h2 j hj]
  · rw [st2_k (by omega), st2_eq]
    simp
  · rw [st2_eq]
    simp
  · rw [st2_k (by omega), st2_k (by omega)]
    rcases app_some hi with h6 | ⟨h6, h7⟩
    · have := lt_of_some h6
      rw [st2_i (by omega)]
      exact h5 i c h6
    · rw [h6, h7, st2_eq]
/-- a body begins -/
theorem r131_b {fr ac hl bo upp x dp : Int} {l : List Int} (h132 : ∀ (d : Nat) (σ : St) (Q : Option AV → AW → Prop), R (d + 2) 132 0 [vI fr, vI ac, vX 9, vX 9] [] (WS L σ) Q = Q (some (vI hl)) (WS L σ)) (h133 : ∀ (d : Nat) (σ : St) (Q : Option AV → AW → Prop), R (d + 1) 133 0 [vI hl, vI ac, vX 9] [] (WS L σ) Q = Q (some (vI bo)) (WS L σ)) (h134 : ∀ (d : Nat) (σ : St) (Q : Option AV → AW → Prop), R (d + 1) 134 0 [vI hl] [] (WS L σ) Q = Q (some (vI upp)) (WS L σ)) (hb : bo ≠ 0) (hdp : dp ≤ 40) (h : TRC σ0 l σ) (hl20 : l.length < 20) : ∃ σ' : St, TRC σ0 (l ++ [bo]) σ' ∧ ∀ Q, R (d + 3) 131 0 [vR 150, vI fr, vI ac, vI x, vI dp, vX 9, vX 9, vX 9, vX 9] [] (WS L σ) Q = R (d + 3) 131 54 [vR 150, vI fr, vI ac, vI x, vI dp, vI hl, vI bo, vX 9, vX 9] [vI upp] (WS L σ') Q := by
  have hln : LN L (151 + 1) = 20 := rfl
  have h' := TRC_add (b := bo) h
  obtain ⟨h1, h2, h3, h4, h5⟩ := h
  refine ⟨_, h', fun Q => ?_⟩
  rw [b131_0, h132]
  simp only [am_push_s]
  rw [b131_5, h133]
  simp only [am_push_s]
  rw [b131_13, if_neg hb, b131_20, if_pos hdp, b131_29, r48 rfl (by rw [h3]; omega) (by rw [h3, hln]; omega) (by rw [hln]; omega), h3]
  simp only [am_push_s]
  have e : st2 (st2 σ (151 + 1) (l.length : Int) bo) 151 1 ((l.length : Int) + 1) 150 1 = (l.length : Int) := by rw [st2_k (by omega), st2_k (by omega), h4]
  rw [b131_38, e, wr_id (by omega) (by omega), b131_49, h134]
  simp only [am_push_s]
theorem app_cons {l : List Int} {b : Int} {m : List Int} : l ++ [b] ++ m = l ++ (b :: m) := by simp
section AK
variable {k i f : Int} {l : List Int}
def FK (k i f : Int) (σ0 : St) : Prop := σ0 150 2 = k ∧ σ0 150 3 = i ∧ σ0 150 4 = f
theorem FK_t (h : FK k i f σ0) (ht : TRC σ0 l σ) : σ 150 2 = k ∧ σ 150 3 = i ∧ σ 150 4 = f := by
  rw [ht.2.1 2 (by omega), ht.2.1 3 (by omega), ht.2.1 4 (by omega)]
  exact h
/-- what a run of an act's body comes to -/
def RA (L d : Nat) (σ0 : St) (fr ac x dp : Int) (v : Int × List Int) : Prop := ∀ (l : List Int) (σ : St), TRC σ0 l σ → l.length + v.2.length ≤ 20 → ∃ σ' : St, TRC σ0 (l ++ v.2) σ' ∧ ∀ Q, R d 131 0 [vR 150, vI fr, vI ac, vI x, vI dp, vX 9, vX 9, vX 9, vX 9] [] (WS L σ) Q = Q (some (vI v.1)) (WS L σ')
theorem ra_p0 {x dp : Int} (hF : FK k i f σ0) (hd : 0 ≤ dp ∧ dp ≤ 40) : RA L (d + 3) σ0 0 0 x dp (wr (x + i), [1]) := by
  intro l σ h hl
  simp only [List.length_cons, List.length_nil] at hl
  obtain ⟨σ1, a1, a2⟩ := r131_b (d := d) (L := L) (x := x) (dp := dp) (fun _ _ _ => r132_0_0) (fun _ _ _ => r133_0_0) (fun _ _ _ => r134_0) (by omega) hd.2 h (by omega)
  obtain ⟨f1, f2, f3⟩ := FK_t hF a1
  refine ⟨σ1, a1, fun Q => ?_⟩
  rw [a2, b131_54, if_pos rfl, b131_148, f2]
theorem ra_p2 {x dp : Int} (hF : FK k i f σ0) (hd : 0 ≤ dp ∧ dp ≤ 40) : RA L (d + 3) σ0 2 0 x dp (wr (x + i), [1]) := by
  intro l σ h hl
  simp only [List.length_cons, List.length_nil] at hl
  obtain ⟨σ1, a1, a2⟩ := r131_b (d := d) (L := L) (x := x) (dp := dp) (fun _ _ _ => r132_2_0) (fun _ _ _ => r133_0_0) (fun _ _ _ => r134_0) (by omega) hd.2 h (by omega)
  obtain ⟨f1, f2, f3⟩ := FK_t hF a1
  refine ⟨σ1, a1, fun Q => ?_⟩
  rw [a2, b131_54, if_pos rfl, b131_148, f2]
theorem ra_p5 {x dp : Int} (hF : FK k i f σ0) (hd : 0 ≤ dp ∧ dp ≤ 40) : RA L (d + 3) σ0 5 0 x dp (wr (x + i), [1]) := by
  intro l σ h hl
  simp only [List.length_cons, List.length_nil] at hl
  obtain ⟨σ1, a1, a2⟩ := r131_b (d := d) (L := L) (x := x) (dp := dp) (fun _ _ _ => r132_5_0) (fun _ _ _ => r133_0_0) (fun _ _ _ => r134_0) (by omega) hd.2 h (by omega)
  obtain ⟨f1, f2, f3⟩ := FK_t hF a1
  refine ⟨σ1, a1, fun Q => ?_⟩
  rw [a2, b131_54, if_pos rfl, b131_148, f2]
theorem ra_x {m : Nat} {fr ac x dp : Int} {v : Int × List Int} (h : RA L m σ0 fr ac x dp v) {l : List Int} (ht : TRC σ0 l σ) (hl : l.length + v.2.length ≤ 20) : ∃ σ' : St, TRC σ0 (l ++ v.2) σ' ∧ ∀ Q, R m 131 0 [vR 150, vI fr, vI ac, vI x, vI dp, vX 9, vX 9, vX 9, vX 9] [] (WS L σ) Q = Q (some (vI v.1)) (WS L σ') := h l σ ht hl
theorem ra_p1 {x dp : Int} (hF : FK k i f σ0) (hd : 0 ≤ dp ∧ dp ≤ 30) : RA L (d + 4) σ0 1 0 x dp (wr (wr (x * 3) + i), [11, 1]) := by
  intro l σ h hl
  simp only [List.length_cons, List.length_nil] at hl
  obtain ⟨σ1, a1, a2⟩ := r131_b (d := d + 1) (L := L) (x := x) (dp := dp) (fun _ _ _ => r132_1_0) (fun _ _ _ => r133_1_0) (fun _ _ _ => r134_1) (by omega) (by omega) h (by omega)
  obtain ⟨σ2, b1, b2⟩ := ra_x (ra_p0 (d := d) (L := L) (x := wr (x * 3)) (dp := dp + 1) hF (by omega)) a1 (by simp; omega)
  rw [app_cons] at b1
  refine ⟨σ2, b1, fun Q => ?_⟩
  rw [a2, b131_54, wr_id (show -2147483648 ≤ dp + 1 by omega) (by omega), if_neg (by omega), if_neg (by omega), if_neg (by omega), if_pos rfl, b131_188]
  refine (b2 _).trans ?_
  simp only [am_push_s]
  rw [b131_200]
theorem ra_p3 {x dp : Int} (hF : FK k i f σ0) (hd : 0 ≤ dp ∧ dp ≤ 30) : RA L (d + 4) σ0 3 0 x dp (wr (wr (x * 3) + i), [11, 1]) := by
  intro l σ h hl
  simp only [List.length_cons, List.length_nil] at hl
  obtain ⟨σ1, a1, a2⟩ := r131_b (d := d + 1) (L := L) (x := x) (dp := dp) (fun _ _ _ => r132_3_0) (fun _ _ _ => r133_1_0) (fun _ _ _ => r134_1) (by omega) (by omega) h (by omega)
  obtain ⟨σ2, b1, b2⟩ := ra_x (ra_p0 (d := d) (L := L) (x := wr (x * 3)) (dp := dp + 1) hF (by omega)) a1 (by simp; omega)
  rw [app_cons] at b1
  refine ⟨σ2, b1, fun Q => ?_⟩
  rw [a2, b131_54, wr_id (show -2147483648 ≤ dp + 1 by omega) (by omega), if_neg (by omega), if_neg (by omega), if_neg (by omega), if_pos rfl, b131_188]
  refine (b2 _).trans ?_
  simp only [am_push_s]
  rw [b131_200]
theorem ra_p6 {x dp : Int} (hF : FK k i f σ0) (hd : 0 ≤ dp ∧ dp ≤ 30) : RA L (d + 4) σ0 6 0 x dp (wr (wr (x * 3) + i), [11, 1]) := by
  intro l σ h hl
  simp only [List.length_cons, List.length_nil] at hl
  obtain ⟨σ1, a1, a2⟩ := r131_b (d := d + 1) (L := L) (x := x) (dp := dp) (fun _ _ _ => r132_6_0) (fun _ _ _ => r133_1_0) (fun _ _ _ => r134_1) (by omega) (by omega) h (by omega)
  obtain ⟨σ2, b1, b2⟩ := ra_x (ra_p0 (d := d) (L := L) (x := wr (x * 3)) (dp := dp + 1) hF (by omega)) a1 (by simp; omega)
  rw [app_cons] at b1
  refine ⟨σ2, b1, fun Q => ?_⟩
  rw [a2, b131_54, wr_id (show -2147483648 ≤ dp + 1 by omega) (by omega), if_neg (by omega), if_neg (by omega), if_neg (by omega), if_pos rfl, b131_188]
  refine (b2 _).trans ?_
  simp only [am_push_s]
  rw [b131_200]
theorem ra_p4 {x dp : Int} (hF : FK k i f σ0) (hd : 0 ≤ dp ∧ dp ≤ 30) : RA L (d + 4) σ0 4 0 x dp (i_xor (wr (x + i)) i, [51, 1]) := by
  intro l σ h hl
  simp only [List.length_cons, List.length_nil] at hl
  obtain ⟨σ1, a1, a2⟩ := r131_b (d := d + 1) (L := L) (x := x) (dp := dp) (fun _ _ _ => r132_4_0) (fun _ _ _ => r133_4_0) (fun _ _ _ => r134_4) (by omega) (by omega) h (by omega)
  obtain ⟨σ2, b1, b2⟩ := ra_x (ra_p2 (d := d) (L := L) (x := x) (dp := dp + 1) hF (by omega)) a1 (by simp; omega)
  rw [app_cons] at b1
  obtain ⟨f1, f2, f3⟩ := FK_t hF b1
  refine ⟨σ2, b1, fun Q => ?_⟩
  rw [a2, b131_54, wr_id (show -2147483648 ≤ dp + 1 by omega) (by omega), if_neg (by omega), if_neg (by omega), if_neg (by omega), if_neg (by omega), if_neg (by omega), if_neg (by omega), if_neg (by omega), if_pos rfl, b131_253]
  refine (b2 _).trans ?_
  simp only [am_push_s]
  rw [b131_263, f2]
theorem ra_p {x dp : Int} (hk : 0 ≤ k ∧ k < 7) (hF : FK k i f σ0) (hd : 0 ≤ dp ∧ dp ≤ 30) : RA L (d + 4) σ0 k 0 x dp (pkA k i x) := by
  have h1 : k = 0 ∨ k = 1 ∨ k = 2 ∨ k = 3 ∨ k = 4 ∨ k = 5 ∨ k = 6 := by omega
  rcases h1 with rfl | rfl | rfl | rfl | rfl | rfl | rfl
  · exact ra_p0 (d := d + 1) hF (by omega)
  · exact ra_p1 hF hd
  · exact ra_p2 (d := d + 1) hF (by omega)
  · exact ra_p3 hF hd
  · exact ra_p4 hF hd
  · exact ra_p5 (d := d + 1) hF (by omega)
  · exact ra_p6 hF hd
theorem ra_w0 {x dp : Int} (hk : 0 ≤ k ∧ k < 7) (hF : FK k i f σ0) (hd : 0 ≤ dp ∧ dp ≤ 20) : RA L (d + 5) σ0 0 1 x dp (wbA k i f x) := by
  intro l σ h hl
  unfold wbA at hl ⊢
  simp only [List.length_cons] at hl
  obtain ⟨σ1, a1, a2⟩ := r131_b (d := d + 2) (L := L) (x := x) (dp := dp) (fun _ _ _ => r132_0_1) (fun _ _ _ => r133_0_1) (fun _ _ _ => r134_0) (by omega) (by omega) h (by omega)
  obtain ⟨f1, f2, f3⟩ := FK_t hF a1
  obtain ⟨σ2, b1, b2⟩ := ra_x (ra_p (d := d) (L := L) (x := x) (dp := dp + 1) hk hF (by omega)) a1 (by simp; omega)
  rw [app_cons] at b1
  obtain ⟨g1, g2, g3⟩ := FK_t hF b1
  refine ⟨σ2, b1, fun Q => ?_⟩
  rw [a2, b131_54, wr_id (show -2147483648 ≤ dp + 1 by omega) (by omega), if_neg (by omega), if_pos rfl, b131_155, f1]
  refine (b2 _).trans ?_
  simp only [am_push_s]
  rw [b131_167, g3]
theorem ra_w1 {x dp : Int} (hk : 0 ≤ k ∧ k < 7) (hF : FK k i f σ0) (hd : 0 ≤ dp ∧ dp ≤ 20) : RA L (d + 5) σ0 1 1 x dp (wbA k i f x) := by
  intro l σ h hl
  unfold wbA at hl ⊢
  simp only [List.length_cons] at hl
  obtain ⟨σ1, a1, a2⟩ := r131_b (d := d + 2) (L := L) (x := x) (dp := dp) (fun _ _ _ => r132_1_1) (fun _ _ _ => r133_0_1) (fun _ _ _ => r134_0) (by omega) (by omega) h (by omega)
  obtain ⟨f1, f2, f3⟩ := FK_t hF a1
  obtain ⟨σ2, b1, b2⟩ := ra_x (ra_p (d := d) (L := L) (x := x) (dp := dp + 1) hk hF (by omega)) a1 (by simp; omega)
  rw [app_cons] at b1
  obtain ⟨g1, g2, g3⟩ := FK_t hF b1
  refine ⟨σ2, b1, fun Q => ?_⟩
  rw [a2, b131_54, wr_id (show -2147483648 ≤ dp + 1 by omega) (by omega), if_neg (by omega), if_pos rfl, b131_155, f1]
  refine (b2 _).trans ?_
  simp only [am_push_s]
  rw [b131_167, g3]
theorem ra_w3 {x dp : Int} (hk : 0 ≤ k ∧ k < 7) (hF : FK k i f σ0) (hd : 0 ≤ dp ∧ dp ≤ 20) : RA L (d + 5) σ0 3 1 x dp (wbA k i f x) := by
  intro l σ h hl
  unfold wbA at hl ⊢
  simp only [List.length_cons] at hl
  obtain ⟨σ1, a1, a2⟩ := r131_b (d := d + 2) (L := L) (x := x) (dp := dp) (fun _ _ _ => r132_3_1) (fun _ _ _ => r133_0_1) (fun _ _ _ => r134_0) (by omega) (by omega) h (by omega)
  obtain ⟨f1, f2, f3⟩ := FK_t hF a1
  obtain ⟨σ2, b1, b2⟩ := ra_x (ra_p (d := d) (L := L) (x := x) (dp := dp + 1) hk hF (by omega)) a1 (by simp; omega)
  rw [app_cons] at b1
  obtain ⟨g1, g2, g3⟩ := FK_t hF b1
  refine ⟨σ2, b1, fun Q => ?_⟩
  rw [a2, b131_54, wr_id (show -2147483648 ≤ dp + 1 by omega) (by omega), if_neg (by omega), if_pos rfl, b131_155, f1]
  refine (b2 _).trans ?_
  simp only [am_push_s]
  rw [b131_167, g3]
theorem ra_w5 {x dp : Int} (hk : 0 ≤ k ∧ k < 7) (hF : FK k i f σ0) (hd : 0 ≤ dp ∧ dp ≤ 20) : RA L (d + 5) σ0 5 1 x dp (wbA k i f x) := by
  intro l σ h hl
  unfold wbA at hl ⊢
  simp only [List.length_cons] at hl
  obtain ⟨σ1, a1, a2⟩ := r131_b (d := d + 2) (L := L) (x := x) (dp := dp) (fun _ _ _ => r132_5_1) (fun _ _ _ => r133_0_1) (fun _ _ _ => r134_0) (by omega) (by omega) h (by omega)
  obtain ⟨f1, f2, f3⟩ := FK_t hF a1
  obtain ⟨σ2, b1, b2⟩ := ra_x (ra_p (d := d) (L := L) (x := x) (dp := dp + 1) hk hF (by omega)) a1 (by simp; omega)
  rw [app_cons] at b1
  obtain ⟨g1, g2, g3⟩ := FK_t hF b1
  refine ⟨σ2, b1, fun Q => ?_⟩
  rw [a2, b131_54, wr_id (show -2147483648 ≤ dp + 1 by omega) (by omega), if_neg (by omega), if_pos rfl, b131_155, f1]
  refine (b2 _).trans ?_
  simp only [am_push_s]
  rw [b131_167, g3]
theorem ra_w2 {x dp : Int} (hk : 0 ≤ k ∧ k < 7) (hF : FK k i f σ0) (hd : 0 ≤ dp ∧ dp ≤ 15) : RA L (d + 6) σ0 2 1 x dp (wr (-(wbA k i f x).1), 21 :: (wbA k i f x).2) := by
  intro l σ h hl
  simp only [List.length_cons] at hl
  obtain ⟨σ1, a1, a2⟩ := r131_b (d := d + 3) (L := L) (x := x) (dp := dp) (fun _ _ _ => r132_2_1) (fun _ _ _ => r133_2_1) (fun _ _ _ => r134_2) (by omega) (by omega) h (by omega)
  obtain ⟨σ2, b1, b2⟩ := ra_x (ra_w0 (d := d) (L := L) (x := x) (dp := dp + 1) hk hF (by omega)) a1 (by simp; omega)
  rw [app_cons] at b1
  refine ⟨σ2, b1, fun Q => ?_⟩
  rw [a2, b131_54, wr_id (show -2147483648 ≤ dp + 1 by omega) (by omega), if_neg (by omega), if_neg (by omega), if_neg (by omega), if_neg (by omega), if_pos rfl, b131_201]
  refine (b2 _).trans ?_
  simp only [am_push_s]
  rw [b131_211]
theorem ra_w4 {x dp : Int} (hk : 0 ≤ k ∧ k < 7) (hF : FK k i f σ0) (hd : 0 ≤ dp ∧ dp ≤ 15) : RA L (d + 6) σ0 4 1 x dp (wr (-(wbA k i f x).1), 21 :: (wbA k i f x).2) := by
  intro l σ h hl
  simp only [List.length_cons] at hl
  obtain ⟨σ1, a1, a2⟩ := r131_b (d := d + 3) (L := L) (x := x) (dp := dp) (fun _ _ _ => r132_4_1) (fun _ _ _ => r133_2_1) (fun _ _ _ => r134_2) (by omega) (by omega) h (by omega)
  obtain ⟨σ2, b1, b2⟩ := ra_x (ra_w0 (d := d) (L := L) (x := x) (dp := dp + 1) hk hF (by omega)) a1 (by simp; omega)
  rw [app_cons] at b1
  refine ⟨σ2, b1, fun Q => ?_⟩
  rw [a2, b131_54, wr_id (show -2147483648 ≤ dp + 1 by omega) (by omega), if_neg (by omega), if_neg (by omega), if_neg (by omega), if_neg (by omega), if_pos rfl, b131_201]
  refine (b2 _).trans ?_
  simp only [am_push_s]
  rw [b131_211]
theorem ra_w6 {x dp : Int} (hk : 0 ≤ k ∧ k < 7) (hF : FK k i f σ0) (hd : 0 ≤ dp ∧ dp ≤ 15) : RA L (d + 6) σ0 6 1 x dp (wr ((wbA k i f x).1 + f), 61 :: (wbA k i f x).2) := by
  intro l σ h hl
  simp only [List.length_cons] at hl
  obtain ⟨σ1, a1, a2⟩ := r131_b (d := d + 3) (L := L) (x := x) (dp := dp) (fun _ _ _ => r132_6_1) (fun _ _ _ => r133_6_1) (fun _ _ _ => r134_6) (by omega) (by omega) h (by omega)
  obtain ⟨σ2, b1, b2⟩ := ra_x (ra_w1 (d := d) (L := L) (x := x) (dp := dp + 1) hk hF (by omega)) a1 (by simp; omega)
  rw [app_cons] at b1
  obtain ⟨f1, f2, f3⟩ := FK_t hF b1
  refine ⟨σ2, b1, fun Q => ?_⟩
  rw [a2, b131_54, wr_id (show -2147483648 ≤ dp + 1 by omega) (by omega), if_neg (by omega), if_neg (by omega), if_neg (by omega), if_neg (by omega), if_neg (by omega), if_neg (by omega), if_neg (by omega), if_neg (by omega), if_pos rfl, b131_269]
  refine (b2 _).trans ?_
  simp only [am_push_s]
  rw [b131_279, f3]
theorem ra_w {x dp : Int} (hk : 0 ≤ k ∧ k < 7) (hF : FK k i f σ0) (hd : 0 ≤ dp ∧ dp ≤ 15) : RA L (d + 6) σ0 k 1 x dp (wtA k i f x) := by
  have h1 : k = 0 ∨ k = 1 ∨ k = 2 ∨ k = 3 ∨ k = 4 ∨ k = 5 ∨ k = 6 := by omega
  rcases h1 with rfl | rfl | rfl | rfl | rfl | rfl | rfl
  · exact ra_w0 (d := d + 1) hk hF (by omega)
  · exact ra_w1 (d := d + 1) hk hF (by omega)
  · exact ra_w2 hk hF hd
  · exact ra_w3 (d := d + 1) hk hF (by omega)
  · exact ra_w4 hk hF hd
  · exact ra_w5 (d := d + 1) hk hF (by omega)
  · exact ra_w6 hk hF hd
theorem ra_l0 {x dp : Int} (hk : 0 ≤ k ∧ k < 7) (hF : FK k i f σ0) (hd : 0 ≤ dp ∧ dp ≤ 10) : RA L (d + 7) σ0 0 2 x dp (lbA k i f x) := by
  intro l σ h hl
  unfold lbA at hl ⊢
  simp only [List.length_cons] at hl
  obtain ⟨σ1, a1, a2⟩ := r131_b (d := d + 4) (L := L) (x := x) (dp := dp) (fun _ _ _ => r132_0_2) (fun _ _ _ => r133_0_2) (fun _ _ _ => r134_0) (by omega) (by omega) h (by omega)
  obtain ⟨f1, f2, f3⟩ := FK_t hF a1
  obtain ⟨σ2, b1, b2⟩ := ra_x (ra_w (d := d) (L := L) (x := x) (dp := dp + 1) hk hF (by omega)) a1 (by simp; omega)
  rw [app_cons] at b1
  refine ⟨σ2, b1, fun Q => ?_⟩
  rw [a2, b131_54, wr_id (show -2147483648 ≤ dp + 1 by omega) (by omega), if_neg (by omega), if_neg (by omega), if_pos rfl, b131_173, f1]
  refine (b2 _).trans ?_
  simp only [am_push_s]
  rw [b131_185]
theorem ra_l1 {x dp : Int} (hk : 0 ≤ k ∧ k < 7) (hF : FK k i f σ0) (hd : 0 ≤ dp ∧ dp ≤ 10) : RA L (d + 7) σ0 1 2 x dp (lbA k i f x) := by
  intro l σ h hl
  unfold lbA at hl ⊢
  simp only [List.length_cons] at hl
  obtain ⟨σ1, a1, a2⟩ := r131_b (d := d + 4) (L := L) (x := x) (dp := dp) (fun _ _ _ => r132_1_2) (fun _ _ _ => r133_0_2) (fun _ _ _ => r134_0) (by omega) (by omega) h (by omega)
  obtain ⟨f1, f2, f3⟩ := FK_t hF a1
  obtain ⟨σ2, b1, b2⟩ := ra_x (ra_w (d := d) (L := L) (x := x) (dp := dp + 1) hk hF (by omega)) a1 (by simp; omega)
  rw [app_cons] at b1
  refine ⟨σ2, b1, fun Q => ?_⟩
  rw [a2, b131_54, wr_id (show -2147483648 ≤ dp + 1 by omega) (by omega), if_neg (by omega), if_neg (by omega), if_pos rfl, b131_173, f1]
  refine (b2 _).trans ?_
  simp only [am_push_s]
  rw [b131_185]
theorem ra_l2 {x dp : Int} (hk : 0 ≤ k ∧ k < 7) (hF : FK k i f σ0) (hd : 0 ≤ dp ∧ dp ≤ 10) : RA L (d + 7) σ0 2 2 x dp (lbA k i f x) := by
  intro l σ h hl
  unfold lbA at hl ⊢
  simp only [List.length_cons] at hl
  obtain ⟨σ1, a1, a2⟩ := r131_b (d := d + 4) (L := L) (x := x) (dp := dp) (fun _ _ _ => r132_2_2) (fun _ _ _ => r133_0_2) (fun _ _ _ => r134_0) (by omega) (by omega) h (by omega)
  obtain ⟨f1, f2, f3⟩ := FK_t hF a1
  obtain ⟨σ2, b1, b2⟩ := ra_x (ra_w (d := d) (L := L) (x := x) (dp := dp + 1) hk hF (by omega)) a1 (by simp; omega)
  rw [app_cons] at b1
  refine ⟨σ2, b1, fun Q => ?_⟩
  rw [a2, b131_54, wr_id (show -2147483648 ≤ dp + 1 by omega) (by omega), if_neg (by omega), if_neg (by omega), if_pos rfl, b131_173, f1]
  refine (b2 _).trans ?_
  simp only [am_push_s]
  rw [b131_185]
theorem ra_l4 {x dp : Int} (hk : 0 ≤ k ∧ k < 7) (hF : FK k i f σ0) (hd : 0 ≤ dp ∧ dp ≤ 10) : RA L (d + 7) σ0 4 2 x dp (lbA k i f x) := by
  intro l σ h hl
  unfold lbA at hl ⊢
  simp only [List.length_cons] at hl
  obtain ⟨σ1, a1, a2⟩ := r131_b (d := d + 4) (L := L) (x := x) (dp := dp) (fun _ _ _ => r132_4_2) (fun _ _ _ => r133_0_2) (fun _ _ _ => r134_0) (by omega) (by omega) h (by omega)
  obtain ⟨f1, f2, f3⟩ := FK_t hF a1
  obtain ⟨σ2, b1, b2⟩ := ra_x (ra_w (d := d) (L := L) (x := x) (dp := dp + 1) hk hF (by omega)) a1 (by simp; omega)
  rw [app_cons] at b1
  refine ⟨σ2, b1, fun Q => ?_⟩
  rw [a2, b131_54, wr_id (show -2147483648 ≤ dp + 1 by omega) (by omega), if_neg (by omega), if_neg (by omega), if_pos rfl, b131_173, f1]
  refine (b2 _).trans ?_
  simp only [am_push_s]
  rw [b131_185]
theorem ra_l6 {x dp : Int} (hk : 0 ≤ k ∧ k < 7) (hF : FK k i f σ0) (hd : 0 ≤ dp ∧ dp ≤ 10) : RA L (d + 7) σ0 6 2 x dp (lbA k i f x) := by
  intro l σ h hl
  unfold lbA at hl ⊢
  simp only [List.length_cons] at hl
  obtain ⟨σ1, a1, a2⟩ := r131_b (d := d + 4) (L := L) (x := x) (dp := dp) (fun _ _ _ => r132_6_2) (fun _ _ _ => r133_0_2) (fun _ _ _ => r134_0) (by omega) (by omega) h (by omega)
  obtain ⟨f1, f2, f3⟩ := FK_t hF a1
  obtain ⟨σ2, b1, b2⟩ := ra_x (ra_w (d := d) (L := L) (x := x) (dp := dp + 1) hk hF (by omega)) a1 (by simp; omega)
  rw [app_cons] at b1
  refine ⟨σ2, b1, fun Q => ?_⟩
  rw [a2, b131_54, wr_id (show -2147483648 ≤ dp + 1 by omega) (by omega), if_neg (by omega), if_neg (by omega), if_pos rfl, b131_173, f1]
  refine (b2 _).trans ?_
  simp only [am_push_s]
  rw [b131_185]
theorem ra_l5 {x dp : Int} (hk : 0 ≤ k ∧ k < 7) (hF : FK k i f σ0) (hd : 0 ≤ dp ∧ dp ≤ 5) : RA L (d + 8) σ0 5 2 x dp (i_xor (lbA k i f x).1 7, 31 :: (lbA k i f x).2) := by
  intro l σ h hl
  simp only [List.length_cons] at hl
  obtain ⟨σ1, a1, a2⟩ := r131_b (d := d + 5) (L := L) (x := x) (dp := dp) (fun _ _ _ => r132_5_2) (fun _ _ _ => r133_5_2) (fun _ _ _ => r134_5) (by omega) (by omega) h (by omega)
  obtain ⟨σ2, b1, b2⟩ := ra_x (ra_l0 (d := d) (L := L) (x := x) (dp := dp + 1) hk hF (by omega)) a1 (by simp; omega)
  rw [app_cons] at b1
  refine ⟨σ2, b1, fun Q => ?_⟩
  rw [a2, b131_54, wr_id (show -2147483648 ≤ dp + 1 by omega) (by omega), if_neg (by omega), if_neg (by omega), if_neg (by omega), if_neg (by omega), if_neg (by omega), if_pos rfl, b131_213]
  refine (b2 _).trans ?_
  simp only [am_push_s]
  rw [b131_223]
theorem ra_l3 {x dp : Int} (hk : 0 ≤ k ∧ k < 7) (hF : FK k i f σ0) (hd : 0 ≤ dp ∧ dp ≤ 5) : RA L (d + 8) σ0 3 2 x dp (wr ((lbA k i f (wr (x - 1))).1 + (pkA k i 2).1), 41 :: ((lbA k i f (wr (x - 1))).2 ++ (pkA k i 2).2)) := by
  intro l σ h hl
  simp only [List.length_cons, List.length_append] at hl
  obtain ⟨σ1, a1, a2⟩ := r131_b (d := d + 5) (L := L) (x := x) (dp := dp) (fun _ _ _ => r132_3_2) (fun _ _ _ => r133_3_2) (fun _ _ _ => r134_3) (by omega) (by omega) h (by omega)
  obtain ⟨σ2, b1, b2⟩ := ra_x (ra_l1 (d := d) (L := L) (x := wr (x - 1)) (dp := dp + 1) hk hF (by omega)) a1 (by simp; omega)
  obtain ⟨f1, f2, f3⟩ := FK_t hF b1
  obtain ⟨σ3, c1, c2⟩ := ra_x (ra_p (d := d + 3) (L := L) (x := 2) (dp := dp + 1) hk hF (by omega)) b1 (by simp; omega)
  have e : l ++ [41] ++ (lbA k i f (wr (x - 1))).2 ++ (pkA k i 2).2 = l ++ (41 :: ((lbA k i f (wr (x - 1))).2 ++ (pkA k i 2).2)) := by simp
  rw [e] at c1
  refine ⟨σ3, c1, fun Q => ?_⟩
  rw [a2, b131_54, wr_id (show -2147483648 ≤ dp + 1 by omega) (by omega), if_neg (by omega), if_neg (by omega), if_neg (by omega), if_neg (by omega), if_neg (by omega), if_neg (by omega), if_pos rfl, b131_227]
  refine (b2 _).trans ?_
  simp only [am_push_s]
  rw [b131_239, f1]
  refine (c2 _).trans ?_
  simp only [am_push_s]
  rw [b131_251]
theorem ra_l {x dp : Int} (hk : 0 ≤ k ∧ k < 7) (hF : FK k i f σ0) (hd : 0 ≤ dp ∧ dp ≤ 5) : RA L (d + 8) σ0 k 2 x dp (lvA k i f x) := by
  have h1 : k = 0 ∨ k = 1 ∨ k = 2 ∨ k = 3 ∨ k = 4 ∨ k = 5 ∨ k = 6 := by omega
  rcases h1 with rfl | rfl | rfl | rfl | rfl | rfl | rfl
  · exact ra_l0 (d := d + 1) hk hF (by omega)
  · exact ra_l1 (d := d + 1) hk hF (by omega)
  · exact ra_l2 (d := d + 1) hk hF (by omega)
  · exact ra_l3 hk hF hd
  · exact ra_l4 (d := d + 1) hk hF (by omega)
  · exact ra_l5 hk hF hd
  · exact ra_l6 (d := d + 1) hk hF (by omega)
end AK
/-- an act of a captain's way: answer, bodies -/
def acA (k i f a x : Int) : Int × List Int := if a = 0 then pkA k i x else if a = 1 then wtA k i f x else lvA k i f x
def ac2 (s : Int → Int) (c a x : Int) : Int × List Int := if (0 ≤ c ∧ c < 3) ∧ (0 ≤ a ∧ a < 3) then acA (s (157 + c)) c (cnt (fun b => (frS s c).testBit b) 8 : Int) a x else (0, [])
theorem ac2_len {c a x : Int} : (ac2 s c a x).2.length ≤ 8 := by
  have h1 := pkA_len (k := s (157 + c)) (i := c) (x := x)
  have h2 := wtA_len (k := s (157 + c)) (i := c) (f := (cnt (fun b => (frS s c).testBit b) 8 : Int)) (x := x)
  have h3 := lvA_len (k := s (157 + c)) (i := c) (f := (cnt (fun b => (frS s c).testBit b) 8 : Int)) (x := x)
  unfold ac2 acA
  repeat' split
  all_goals first | omega | simp
theorem k128 {c a x : Int} (h : HC N s cl σ) : ∃ σ1 : St, (∀ q, q ≠ 150 → q ≠ 151 → q ≠ 152 → σ1 q = σ q) ∧ σ1 151 1 = ((ac2 s c a x).2.length : Int) ∧ σ1 150 1 = ((ac2 s c a x).2.length : Int) ∧ (∀ (i : Nat) (z : Int), (ac2 s c a x).2[i]? = some z → σ1 152 i = z) ∧ ∀ Q, R (d + 30) 128 0 [vR 19, vI c, vI a, vI x, vX 9] [] (WS L σ) Q = Q (some (vI (ac2 s c a x).1)) (WS L σ1) := by
  obtain ⟨hw, hr, hE, hv⟩ := h
  have w0 := hw.1
  have n8 := nS_8 w0
  have p8 := pw8 n8.1
  have c0 := hr.1
  unfold C0 at c0
  have hl8 := ac2_len (s := s) (c := c) (a := a) (x := x)
  have start : ∀ Q, R (d + 30) 128 0 [vR 19, vI c, vI a, vI x, vX 9] [] (WS L σ) Q = R (d + 30) 128 7 [vR 19, vI c, vI a, vI x, vX 9] [] (WS L (st2 (st2 σ 151 1 0) 150 1 0)) Q := by
    intro Q
    rw [b128_0, b129_0, r53 rfl]
    simp only [am_push_n]
    rw [b129_7, b129_12]
    simp only [am_push_n]
  unfold ac2 at hl8 ⊢
  by_cases q : (0 ≤ c ∧ c < 3) ∧ (0 ≤ a ∧ a < 3)
  · rw [if_pos q] at hl8 ⊢
    obtain ⟨⟨c1, c3⟩, a1, a3⟩ := q
    obtain ⟨ci, rfl⟩ : ∃ ci : Nat, c = (ci : Int) := ⟨c.toNat, by omega⟩
    have hci : ci < 3 := by omega
    have w5 := (hw.2.2.2.2.2.1 ci hci).2
    let σf : St := st2 (st2 (st2 (st2 (st2 σ 151 1 0) 150 1 0) 150 2 (s (157 + ci))) 150 3 ci) 150 4 (cnt (fun b => (frS s ci).testBit b) 8 : Int)
    have hσf : σf = st2 (st2 (st2 (st2 (st2 σ 151 1 0) 150 1 0) 150 2 (s (157 + ci))) 150 3 ci) 150 4 (cnt (fun b => (frS s ci).testBit b) 8 : Int) := rfl
    have hF : FK (s (157 + ci)) ci (cnt (fun b => (frS s ci).testBit b) 8 : Int) σf := by
      refine ⟨?_, ?_, ?_⟩
      · rw [hσf, st2_i (by omega), st2_i (by omega), st2_eq]
      · rw [hσf, st2_i (by omega), st2_eq]
      · rw [hσf, st2_eq]
    have hT : TRC σf [] σf := by
      refine ⟨fun _ _ _ _ => rfl, fun _ _ => rfl, ?_, ?_, fun i c hi => by simp at hi⟩
      · rw [hσf, st2_k (by omega), st2_k (by omega), st2_k (by omega), st2_k (by omega), st2_eq]
        rfl
      · rw [hσf, st2_i (by omega), st2_i (by omega), st2_i (by omega), st2_eq]
        rfl
    have key : ∃ σ' : St, TRC σf (acA (s (157 + ci)) ci (cnt (fun b => (frS s ci).testBit b) 8 : Int) a x).2 σ' ∧ ∀ Q, R (d + 28) 131 0 [vR 150, vI (s (157 + ci)), vI a, vI x, vI 0, vX 9, vX 9, vX 9, vX 9] [] (WS L σf) Q = Q (some (vI (acA (s (157 + ci)) ci (cnt (fun b => (frS s ci).testBit b) 8 : Int) a x).1)) (WS L σ') := by
      unfold acA at hl8 ⊢
      have ha : a = 0 ∨ a = 1 ∨ a = 2 := by omega
      rcases ha with rfl | rfl | rfl
      · rw [if_pos rfl] at hl8 ⊢
        have := ra_x (ra_p (d := d + 24) (L := L) (x := x) (dp := 0) (by omega) hF (by omega)) hT (by simp; omega)
        rwa [List.nil_append] at this
      · rw [if_neg (by omega), if_pos rfl] at hl8 ⊢
        have := ra_x (ra_w (d := d + 22) (L := L) (x := x) (dp := 0) (by omega) hF (by omega)) hT (by simp; omega)
        rwa [List.nil_append] at this
      · rw [if_neg (by omega), if_neg (by omega)] at hl8 ⊢
        have := ra_x (ra_l (d := d + 20) (L := L) (x := x) (dp := 0) (by omega) hF (by omega)) hT (by simp; omega)
        rwa [List.nil_append] at this
    obtain ⟨σ', t1, t2⟩ := key
    obtain ⟨g1, g2, g3, g4, g5⟩ := t1
    refine ⟨σ', fun q h1 h2 h3 => ?_, g3, g4, g5, fun Q => ?_⟩
    · rw [g1 q h1 h2 h3]
      funext j
      rw [hσf, st2_k h1, st2_k h1, st2_k h1, st2_k h1, st2_k h2]
    · have ef : bits (fun b => decide (tr (st2 (st2 σ 151 1 0) 150 1 0) 2 b = (ci : Int))) (nS s) = frS s ci := by
        unfold frS
        refine bits_congr (fun b hb => ?_)
        have h1 := hr.2.2.2.2.1 b 2 (by unfold nS at hb; omega) (by omega)
        have h2 := (hw.2.2.2.2.1 b (by unfold nS at hb; omega)).2.2.1
        have h3 : tr (st2 (st2 σ 151 1 0) 150 1 0) 2 b = trS s 2 b := by
          rw [← h1]
          show st2 (st2 σ 151 1 0) 150 1 0 27 _ = _
          rw [st2_k (by omega), st2_k (by omega)]
        rw [h3]
        unfold trS
        rw [if_neg (by omega), if_neg (by omega), if_pos rfl]
        congr 1
        apply propext
        split <;> omega
      have hfr : frS s ci < 256 := Nat.lt_of_lt_of_le (bits_lt _ _) p8
      rw [start, b128_7, r13]
      simp only [am_push_s]
      rw [b128_12]
      simp only [tI_0]
      rw [if_neg (by omega), b128_15, r13]
      simp only [am_push_s]
      rw [b128_20]
      simp only [tI_0]
      rw [if_pos (by omega), b128_25, r81 (n := nS s) (by rw [st2_k (by omega), st2_k (by omega), c0.1]; exact n8.2) n8.1, ef]
      simp only [am_push_s]
      rw [b128_33, r42 hfr]
      simp only [am_push_s]
      rw [b128_36, r66 hci, st2_k (by omega), st2_k (by omega), show σ 29 ci = s (157 + ci) from (hr.2.2.2.2.2.1 ci hci).2.1]
      simp only [am_push_s]
      rw [b128_50, b130_0, b130_5, b130_10, b130_15]
      refine (t2 _).trans ?_
      simp only [am_push_s]
      rw [b130_25]
      simp only [am_push_s]
      rw [b128_58]
  · rw [if_neg q]
    refine ⟨st2 (st2 σ 151 1 0) 150 1 0, fun q h1 h2 h3 => ?_, ?_, ?_, fun i z hi => by simp at hi, fun Q => ?_⟩
    · funext j
      rw [st2_k h1, st2_k h2]
    · rw [st2_k (by omega), st2_eq]
      rfl
    · rw [st2_eq]
      rfl
    · rw [start, b128_7, r13]
      simp only [am_push_s]
      rw [b128_12]
      simp only [tI_0]
      by_cases q1 : 0 ≤ c ∧ c < 3
      · rw [if_neg (by omega), b128_15, r13]
        simp only [am_push_s]
        rw [b128_20]
        simp only [tI_0]
        rw [if_neg (by omega), b128_23]
      · rw [if_pos (by omega), b128_23]
/-- the trace, told -/
def aTrace (l : List Int) (i : Int) : Int := if 0 ≤ i ∧ i < (l.length : Int) then l.getD i.toNat 0 else -1
theorem k135 {x : Int} {l : List Int} (hl : l.length ≤ 8) (h1 : σ 151 1 = (l.length : Int)) (h2 : ∀ (i : Nat) (c : Int), l[i]? = some c → σ 152 i = c) : R (d + 30) 135 0 [vR 19, vI x] [] (WS L σ) Q = Q (some (vI (aTrace l x))) (WS L σ) := by
  have hln : LN L (151 + 1) = 20 := rfl
  unfold aTrace
  rw [b135_0, h1, r13]
  simp only [am_push_s]
  rw [b135_14]
  simp only [tI_0]
  by_cases q : 0 ≤ x ∧ x < (l.length : Int)
  · have hlt : x.toNat < l.length := by omega
    have e := h2 x.toNat l[x.toNat] (List.getElem?_eq_getElem hlt)
    rw [natI q.1] at e
    rw [if_neg (by omega), if_pos q, b135_17, r64 rfl q.1 (by rw [h1]; omega) (by rw [h1, hln]; omega)]
    simp only [am_push_s]
    rw [b135_28, b135_32, show σ (151 + 1) x = l[x.toNat] from e, List.getD_eq_getElem?_getD, List.getElem?_eq_getElem hlt]
    rfl
  · rw [if_pos (by omega), if_neg q, b135_31, b135_32]
end AC
