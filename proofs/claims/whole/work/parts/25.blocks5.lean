/-! block lemmas (printed by wip/whole/gen_blocks.py): methods 200 to 231 -/
theorem fi_200_0 : am_find 200 0 = some (.iconst 0, 1, 0, 0, 0) := by decide +kernel
theorem fi_200_1 : am_find 200 1 = some (.istore_n 1, 1, 0, 0, 0) := by decide +kernel
theorem fi_200_2 : am_find 200 2 = some (.iconst 0, 1, 0, 0, 0) := by decide +kernel
theorem fi_200_3 : am_find 200 3 = some (.istore_n 2, 1, 0, 0, 0) := by decide +kernel
theorem fi_200_4 : am_find 200 4 = some (.iload_n 2, 1, 0, 0, 0) := by decide +kernel
theorem fi_200_5 : am_find 200 5 = some (.bipush 8, 2, 0, 8, 0) := by decide +kernel
theorem fi_200_7 : am_find 200 7 = some (.if_icmp .ge 17, 3, 0, 0, 0) := by decide +kernel
theorem fi_200_10 : am_find 200 10 = some (.iload_n 1, 1, 0, 0, 0) := by decide +kernel
theorem fi_200_11 : am_find 200 11 = some (.iload_n 0, 1, 0, 0, 0) := by decide +kernel
theorem fi_200_12 : am_find 200 12 = some (.iload_n 2, 1, 0, 0, 0) := by decide +kernel
theorem fi_200_13 : am_find 200 13 = some (.ishr, 1, 0, 0, 0) := by decide +kernel
theorem fi_200_14 : am_find 200 14 = some (.iconst 1, 1, 0, 1, 0) := by decide +kernel
theorem fi_200_15 : am_find 200 15 = some (.iand, 1, 0, 0, 0) := by decide +kernel
theorem fi_200_16 : am_find 200 16 = some (.iadd, 1, 0, 0, 0) := by decide +kernel
theorem fi_200_17 : am_find 200 17 = some (.istore_n 1, 1, 0, 0, 0) := by decide +kernel
theorem fi_200_18 : am_find 200 18 = some (.iinc 2 1, 3, 0, 0, 0) := by decide +kernel
theorem fi_200_21 : am_find 200 21 = some (.goto (-17), 3, 0, 0, 0) := by decide +kernel
theorem fi_200_24 : am_find 200 24 = some (.iload_n 1, 1, 0, 0, 0) := by decide +kernel
theorem fi_200_25 : am_find 200 25 = some (.ireturn, 1, 0, 0, 0) := by decide +kernel
theorem b200_0 {d L : Nat} {σ : St} {Q : Option AV → AW → Prop} {u0 u1 u2 : AV} : R d 200 0 [u0, u1, u2] [] (WS L σ) Q = R d 200 4 [u0, vI 0, vI 0] [] (WS L σ) Q := K_iconst fi_200_0 <| K_istore_n fi_200_1 (Nat.le_of_ble_eq_true rfl) rfl rfl <| K_iconst fi_200_2 <| K_istore_n fi_200_3 (Nat.le_of_ble_eq_true rfl) rfl rfl <| rfl
theorem b200_4 {d L : Nat} {σ : St} {Q : Option AV → AW → Prop} {x2 : Int} {u0 u1 : AV} : R d 200 4 [u0, u1, vI x2] [] (WS L σ) Q = if 8 ≤ x2 then R d 200 24 [u0, u1, vI x2] [] (WS L σ) Q else R d 200 10 [u0, u1, vI x2] [] (WS L σ) Q := K_iload_n fi_200_4 rfl <| K_bipush fi_200_5 <| R_icmp_ge fi_200_7 rfl
theorem b200_10 {d L : Nat} {σ : St} {Q : Option AV → AW → Prop} {x1 x0 x2 : Int} (h1 : -2147483648 ≤ x1 + (i_and (i_shr x0 x2) 1) ∧ x1 + (i_and (i_shr x0 x2) 1) ≤ 2147483647) (h2 : -2147483648 ≤ x2 + 1 ∧ x2 + 1 ≤ 2147483647) : R d 200 10 [vI x0, vI x1, vI x2] [] (WS L σ) Q = R d 200 4 [vI x0, vI (x1 + (i_and (i_shr x0 x2) 1)), vI (x2 + 1)] [] (WS L σ) Q := K_iload_n fi_200_10 rfl <| K_iload_n fi_200_11 rfl <| K_iload_n fi_200_12 rfl <| K_ishr fi_200_13 <| K_iconst fi_200_14 <| K_iand fi_200_15 <| K_iaddx fi_200_16 h1 <| K_istore_n fi_200_17 (Nat.le_of_ble_eq_true rfl) rfl rfl <| K_iincx fi_200_18 rfl (Nat.le_of_ble_eq_true rfl) rfl h2 rfl <| R_goto fi_200_21 rfl
theorem b200_24 {d L : Nat} {σ : St} {Q : Option AV → AW → Prop} {x1 : Int} {u0 u2 : AV} : R d 200 24 [u0, vI x1, u2] [] (WS L σ) Q = Q (some (vI x1)) (WS L σ) := K_iload_n fi_200_24 rfl <| R_ireti fi_200_25 rfl
theorem fi_201_0 : am_find 201 0 = some (.iconst 0, 1, 0, 0, 0) := by decide +kernel
theorem fi_201_1 : am_find 201 1 = some (.istore_n 3, 1, 0, 0, 0) := by decide +kernel
theorem fi_201_2 : am_find 201 2 = some (.iconst 0, 1, 0, 0, 0) := by decide +kernel
theorem fi_201_3 : am_find 201 3 = some (.istore 4, 2, 0, 0, 0) := by decide +kernel
theorem fi_201_5 : am_find 201 5 = some (.iload 4, 2, 0, 0, 0) := by decide +kernel
theorem fi_201_7 : am_find 201 7 = some (.aload_n 0, 1, 0, 0, 0) := by decide +kernel
theorem fi_201_8 : am_find 201 8 = some (.getfield 7, 3, 10, 1, 101) := by decide +kernel
theorem fi_201_11 : am_find 201 11 = some (.iconst 0, 1, 0, 0, 0) := by decide +kernel
theorem fi_201_12 : am_find 201 12 = some (.iaload, 1, 0, 0, 0) := by decide +kernel
theorem fi_201_13 : am_find 201 13 = some (.if_icmp .ge 35, 3, 0, 0, 0) := by decide +kernel
theorem fi_201_16 : am_find 201 16 = some (.iload_n 3, 1, 0, 0, 0) := by decide +kernel
theorem fi_201_17 : am_find 201 17 = some (.aload_n 0, 1, 0, 0, 0) := by decide +kernel
theorem fi_201_18 : am_find 201 18 = some (.getfield 7, 3, 10, 1, 101) := by decide +kernel
theorem fi_201_21 : am_find 201 21 = some (.sipush 146, 3, 0, 146, 0) := by decide +kernel
theorem fi_201_24 : am_find 201 24 = some (.iload 4, 2, 0, 0, 0) := by decide +kernel
theorem fi_201_26 : am_find 201 26 = some (.iadd, 1, 0, 0, 0) := by decide +kernel
theorem fi_201_27 : am_find 201 27 = some (.iaload, 1, 0, 0, 0) := by decide +kernel
theorem fi_201_28 : am_find 201 28 = some (.iload_n 1, 1, 0, 0, 0) := by decide +kernel
theorem fi_201_29 : am_find 201 29 = some (.if_icmp .ne 10, 3, 0, 0, 0) := by decide +kernel
theorem fi_201_32 : am_find 201 32 = some (.iconst 1, 1, 0, 1, 0) := by decide +kernel
theorem fi_201_33 : am_find 201 33 = some (.iload 4, 2, 0, 0, 0) := by decide +kernel
theorem fi_201_35 : am_find 201 35 = some (.ishl, 1, 0, 0, 0) := by decide +kernel
theorem fi_201_36 : am_find 201 36 = some (.goto 4, 3, 0, 0, 0) := by decide +kernel
theorem fi_201_39 : am_find 201 39 = some (.iconst 0, 1, 0, 0, 0) := by decide +kernel
theorem fi_201_40 : am_find 201 40 = some (.ior, 1, 0, 0, 0) := by decide +kernel
theorem fi_201_41 : am_find 201 41 = some (.istore_n 3, 1, 0, 0, 0) := by decide +kernel
theorem fi_201_42 : am_find 201 42 = some (.iinc 4 1, 3, 0, 0, 0) := by decide +kernel
theorem fi_201_45 : am_find 201 45 = some (.goto (-40), 3, 0, 0, 0) := by decide +kernel
theorem fi_201_48 : am_find 201 48 = some (.iload_n 3, 1, 0, 0, 0) := by decide +kernel
theorem fi_201_49 : am_find 201 49 = some (.iload_n 2, 1, 0, 0, 0) := by decide +kernel
theorem fi_201_50 : am_find 201 50 = some (.iand, 1, 0, 0, 0) := by decide +kernel
theorem fi_201_51 : am_find 201 51 = some (.ifCond .ne 7, 3, 0, 0, 0) := by decide +kernel
theorem fi_201_54 : am_find 201 54 = some (.iload_n 2, 1, 0, 0, 0) := by decide +kernel
theorem fi_201_55 : am_find 201 55 = some (.goto 6, 3, 0, 0, 0) := by decide +kernel
theorem fi_201_58 : am_find 201 58 = some (.iload_n 3, 1, 0, 0, 0) := by decide +kernel
theorem fi_201_59 : am_find 201 59 = some (.iload_n 2, 1, 0, 0, 0) := by decide +kernel
theorem fi_201_60 : am_find 201 60 = some (.iand, 1, 0, 0, 0) := by decide +kernel
theorem fi_201_61 : am_find 201 61 = some (.ireturn, 1, 0, 0, 0) := by decide +kernel
theorem b201_0 {d L : Nat} {σ : St} {Q : Option AV → AW → Prop} {u0 u1 u2 u3 u4 : AV} : R d 201 0 [u0, u1, u2, u3, u4] [] (WS L σ) Q = R d 201 5 [u0, u1, u2, vI 0, vI 0] [] (WS L σ) Q := K_iconst fi_201_0 <| K_istore_n fi_201_1 (Nat.le_of_ble_eq_true rfl) rfl rfl <| K_iconst fi_201_2 <| K_istore fi_201_3 (Nat.le_of_ble_eq_true rfl) rfl rfl <| rfl
theorem b201_5 {d L : Nat} {σ : St} {Q : Option AV → AW → Prop} {x4 : Int} {u1 u2 u3 : AV} : R d 201 5 [vR 153, u1, u2, u3, vI x4] [] (WS L σ) Q = if (σ 154 0) ≤ x4 then R d 201 48 [vR 153, u1, u2, u3, vI x4] [] (WS L σ) Q else R d 201 16 [vR 153, u1, u2, u3, vI x4] [] (WS L σ) Q := K_iload fi_201_5 rfl <| K_aload_n fi_201_7 rfl <| K_gf fi_201_8 kd_153 mk_153_1 <| K_iconst fi_201_11 <| K_ia fi_201_12 kd_154 (by decide) (show (0 : Int) < 1580 by decide) <| R_icmp_ge fi_201_13 rfl
theorem b201_16 {d L : Nat} {σ : St} {Q : Option AV → AW → Prop} {x3 x4 x1 : Int} {u2 : AV} (h1 : -2147483648 ≤ 146 + x4 ∧ 146 + x4 ≤ 2147483647) (h2 : 0 ≤ 146 + x4) (h3 : (146 + x4) < 1580) : R d 201 16 [vR 153, vI x1, u2, vI x3, vI x4] [] (WS L σ) Q = if ¬ (σ 154 (146 + x4)) = x1 then R d 201 39 [vR 153, vI x1, u2, vI x3, vI x4] [vI x3] (WS L σ) Q else R d 201 32 [vR 153, vI x1, u2, vI x3, vI x4] [vI x3] (WS L σ) Q := K_iload_n fi_201_16 rfl <| K_aload_n fi_201_17 rfl <| K_gf fi_201_18 kd_153 mk_153_1 <| K_sipush fi_201_21 <| K_iload fi_201_24 rfl <| K_iaddx fi_201_26 h1 <| K_ia fi_201_27 kd_154 h2 h3 <| K_iload_n fi_201_28 rfl <| R_icmp_ne fi_201_29 rfl
theorem b201_32 {d L : Nat} {σ : St} {Q : Option AV → AW → Prop} {y0 x4 : Int} {u0 u1 u2 u3 : AV} : R d 201 32 [u0, u1, u2, u3, vI x4] [vI y0] (WS L σ) Q = R d 201 40 [u0, u1, u2, u3, vI x4] [vI (i_shl 1 x4), vI y0] (WS L σ) Q := K_iconst fi_201_32 <| K_iload fi_201_33 rfl <| K_ishl fi_201_35 <| R_goto fi_201_36 rfl
theorem b201_39 {d L : Nat} {σ : St} {Q : Option AV → AW → Prop} {y0 : Int} {u0 u1 u2 u3 u4 : AV} : R d 201 39 [u0, u1, u2, u3, u4] [vI y0] (WS L σ) Q = R d 201 40 [u0, u1, u2, u3, u4] [vI 0, vI y0] (WS L σ) Q := K_iconst fi_201_39 <| rfl
theorem b201_40 {d L : Nat} {σ : St} {Q : Option AV → AW → Prop} {y0 y1 x4 : Int} {u0 u1 u2 u3 : AV} (h1 : -2147483648 ≤ x4 + 1 ∧ x4 + 1 ≤ 2147483647) : R d 201 40 [u0, u1, u2, u3, vI x4] [vI y0, vI y1] (WS L σ) Q = R d 201 5 [u0, u1, u2, vI (i_or y1 y0), vI (x4 + 1)] [] (WS L σ) Q := K_ior fi_201_40 <| K_istore_n fi_201_41 (Nat.le_of_ble_eq_true rfl) rfl rfl <| K_iincx fi_201_42 rfl (Nat.le_of_ble_eq_true rfl) rfl h1 rfl <| R_goto fi_201_45 rfl
theorem b201_48 {d L : Nat} {σ : St} {Q : Option AV → AW → Prop} {x3 x2 : Int} {u0 u1 u4 : AV} : R d 201 48 [u0, u1, vI x2, vI x3, u4] [] (WS L σ) Q = if ¬ (i_and x3 x2) = 0 then R d 201 58 [u0, u1, vI x2, vI x3, u4] [] (WS L σ) Q else R d 201 54 [u0, u1, vI x2, vI x3, u4] [] (WS L σ) Q := K_iload_n fi_201_48 rfl <| K_iload_n fi_201_49 rfl <| K_iand fi_201_50 <| R_if_ne fi_201_51 rfl
theorem b201_54 {d L : Nat} {σ : St} {Q : Option AV → AW → Prop} {x2 : Int} {u0 u1 u3 u4 : AV} : R d 201 54 [u0, u1, vI x2, u3, u4] [] (WS L σ) Q = R d 201 61 [u0, u1, vI x2, u3, u4] [vI x2] (WS L σ) Q := K_iload_n fi_201_54 rfl <| R_goto fi_201_55 rfl
theorem b201_58 {d L : Nat} {σ : St} {Q : Option AV → AW → Prop} {x3 x2 : Int} {u0 u1 u4 : AV} : R d 201 58 [u0, u1, vI x2, vI x3, u4] [] (WS L σ) Q = R d 201 61 [u0, u1, vI x2, vI x3, u4] [vI (i_and x3 x2)] (WS L σ) Q := K_iload_n fi_201_58 rfl <| K_iload_n fi_201_59 rfl <| K_iand fi_201_60 <| rfl
theorem b201_61 {d L : Nat} {σ : St} {Q : Option AV → AW → Prop} {y0 : Int} {u0 u1 u2 u3 u4 : AV} : R d 201 61 [u0, u1, u2, u3, u4] [vI y0] (WS L σ) Q = Q (some (vI y0)) (WS L σ) := R_ireti fi_201_61 rfl
theorem fi_202_0 : am_find 202 0 = some (.iconst 0, 1, 0, 0, 0) := by decide +kernel
theorem fi_202_1 : am_find 202 1 = some (.istore_n 3, 1, 0, 0, 0) := by decide +kernel
theorem fi_202_2 : am_find 202 2 = some (.iload_n 3, 1, 0, 0, 0) := by decide +kernel
theorem fi_202_3 : am_find 202 3 = some (.aload_n 0, 1, 0, 0, 0) := by decide +kernel
theorem fi_202_4 : am_find 202 4 = some (.getfield 7, 3, 10, 1, 101) := by decide +kernel
theorem fi_202_7 : am_find 202 7 = some (.sipush 160, 3, 0, 160, 0) := by decide +kernel
theorem fi_202_10 : am_find 202 10 = some (.iload_n 1, 1, 0, 0, 0) := by decide +kernel
theorem fi_202_11 : am_find 202 11 = some (.iadd, 1, 0, 0, 0) := by decide +kernel
theorem fi_202_12 : am_find 202 12 = some (.iaload, 1, 0, 0, 0) := by decide +kernel
theorem fi_202_13 : am_find 202 13 = some (.if_icmp .ge 39, 3, 0, 0, 0) := by decide +kernel
theorem fi_202_16 : am_find 202 16 = some (.aload_n 0, 1, 0, 0, 0) := by decide +kernel
theorem fi_202_17 : am_find 202 17 = some (.getfield 7, 3, 10, 1, 101) := by decide +kernel
theorem fi_202_20 : am_find 202 20 = some (.sipush 163, 3, 0, 163, 0) := by decide +kernel
theorem fi_202_23 : am_find 202 23 = some (.bipush 8, 2, 0, 8, 0) := by decide +kernel
theorem fi_202_25 : am_find 202 25 = some (.iload_n 1, 1, 0, 0, 0) := by decide +kernel
theorem fi_202_26 : am_find 202 26 = some (.imul, 1, 0, 0, 0) := by decide +kernel
theorem fi_202_27 : am_find 202 27 = some (.iadd, 1, 0, 0, 0) := by decide +kernel
theorem fi_202_28 : am_find 202 28 = some (.iload_n 3, 1, 0, 0, 0) := by decide +kernel
theorem fi_202_29 : am_find 202 29 = some (.iadd, 1, 0, 0, 0) := by decide +kernel
theorem fi_202_30 : am_find 202 30 = some (.iaload, 1, 0, 0, 0) := by decide +kernel
theorem fi_202_31 : am_find 202 31 = some (.istore 4, 2, 0, 0, 0) := by decide +kernel
theorem fi_202_33 : am_find 202 33 = some (.iload_n 2, 1, 0, 0, 0) := by decide +kernel
theorem fi_202_34 : am_find 202 34 = some (.iload 4, 2, 0, 0, 0) := by decide +kernel
theorem fi_202_36 : am_find 202 36 = some (.ishr, 1, 0, 0, 0) := by decide +kernel
theorem fi_202_37 : am_find 202 37 = some (.iconst 1, 1, 0, 1, 0) := by decide +kernel
theorem fi_202_38 : am_find 202 38 = some (.iand, 1, 0, 0, 0) := by decide +kernel
theorem fi_202_39 : am_find 202 39 = some (.iconst 1, 1, 0, 1, 0) := by decide +kernel
theorem fi_202_40 : am_find 202 40 = some (.if_icmp .ne 6, 3, 0, 0, 0) := by decide +kernel
theorem fi_202_43 : am_find 202 43 = some (.iload 4, 2, 0, 0, 0) := by decide +kernel
theorem fi_202_45 : am_find 202 45 = some (.ireturn, 1, 0, 0, 0) := by decide +kernel
theorem fi_202_46 : am_find 202 46 = some (.iinc 3 1, 3, 0, 0, 0) := by decide +kernel
theorem fi_202_49 : am_find 202 49 = some (.goto (-47), 3, 0, 0, 0) := by decide +kernel
theorem fi_202_52 : am_find 202 52 = some (.iload_n 2, 1, 0, 0, 0) := by decide +kernel
theorem fi_202_53 : am_find 202 53 = some (.invokestatic 207, 3, 203, 1, 211) := by decide +kernel
theorem fi_202_56 : am_find 202 56 = some (.ireturn, 1, 0, 0, 0) := by decide +kernel
theorem b202_0 {d L : Nat} {σ : St} {Q : Option AV → AW → Prop} {u0 u1 u2 u3 u4 : AV} : R d 202 0 [u0, u1, u2, u3, u4] [] (WS L σ) Q = R d 202 2 [u0, u1, u2, vI 0, u4] [] (WS L σ) Q := K_iconst fi_202_0 <| K_istore_n fi_202_1 (Nat.le_of_ble_eq_true rfl) rfl rfl <| rfl
theorem b202_2 {d L : Nat} {σ : St} {Q : Option AV → AW → Prop} {x3 x1 : Int} {u2 u4 : AV} (h1 : -2147483648 ≤ 160 + x1 ∧ 160 + x1 ≤ 2147483647) (h2 : 0 ≤ 160 + x1) (h3 : (160 + x1) < 1580) : R d 202 2 [vR 153, vI x1, u2, vI x3, u4] [] (WS L σ) Q = if (σ 154 (160 + x1)) ≤ x3 then R d 202 52 [vR 153, vI x1, u2, vI x3, u4] [] (WS L σ) Q else R d 202 16 [vR 153, vI x1, u2, vI x3, u4] [] (WS L σ) Q := K_iload_n fi_202_2 rfl <| K_aload_n fi_202_3 rfl <| K_gf fi_202_4 kd_153 mk_153_1 <| K_sipush fi_202_7 <| K_iload_n fi_202_10 rfl <| K_iaddx fi_202_11 h1 <| K_ia fi_202_12 kd_154 h2 h3 <| R_icmp_ge fi_202_13 rfl
theorem b202_16 {d L : Nat} {σ : St} {Q : Option AV → AW → Prop} {x1 x3 x2 : Int} {u4 : AV} (h1 : -2147483648 ≤ 8 * x1 ∧ 8 * x1 ≤ 2147483647) (h2 : -2147483648 ≤ 163 + (8 * x1) ∧ 163 + (8 * x1) ≤ 2147483647) (h3 : -2147483648 ≤ (163 + (8 * x1)) + x3 ∧ (163 + (8 * x1)) + x3 ≤ 2147483647) (h4 : 0 ≤ (163 + (8 * x1)) + x3) (h5 : ((163 + (8 * x1)) + x3) < 1580) : R d 202 16 [vR 153, vI x1, vI x2, vI x3, u4] [] (WS L σ) Q = if ¬ (i_and (i_shr x2 (σ 154 ((163 + (8 * x1)) + x3))) 1) = 1 then R d 202 46 [vR 153, vI x1, vI x2, vI x3, vI (σ 154 ((163 + (8 * x1)) + x3))] [] (WS L σ) Q else R d 202 43 [vR 153, vI x1, vI x2, vI x3, vI (σ 154 ((163 + (8 * x1)) + x3))] [] (WS L σ) Q := K_aload_n fi_202_16 rfl <| K_gf fi_202_17 kd_153 mk_153_1 <| K_sipush fi_202_20 <| K_bipush fi_202_23 <| K_iload_n fi_202_25 rfl <| K_imulx fi_202_26 h1 <| K_iaddx fi_202_27 h2 <| K_iload_n fi_202_28 rfl <| K_iaddx fi_202_29 h3 <| K_ia fi_202_30 kd_154 h4 h5 <| K_istore fi_202_31 (Nat.le_of_ble_eq_true rfl) rfl rfl <| K_iload_n fi_202_33 rfl <| K_iload fi_202_34 rfl <| K_ishr fi_202_36 <| K_iconst fi_202_37 <| K_iand fi_202_38 <| K_iconst fi_202_39 <| R_icmp_ne fi_202_40 rfl
theorem b202_43 {d L : Nat} {σ : St} {Q : Option AV → AW → Prop} {x4 : Int} {u0 u1 u2 u3 : AV} : R d 202 43 [u0, u1, u2, u3, vI x4] [] (WS L σ) Q = Q (some (vI x4)) (WS L σ) := K_iload fi_202_43 rfl <| R_ireti fi_202_45 rfl
theorem b202_46 {d L : Nat} {σ : St} {Q : Option AV → AW → Prop} {x3 : Int} {u0 u1 u2 u4 : AV} (h1 : -2147483648 ≤ x3 + 1 ∧ x3 + 1 ≤ 2147483647) : R d 202 46 [u0, u1, u2, vI x3, u4] [] (WS L σ) Q = R d 202 2 [u0, u1, u2, vI (x3 + 1), u4] [] (WS L σ) Q := K_iincx fi_202_46 rfl (Nat.le_of_ble_eq_true rfl) rfl h1 rfl <| R_goto fi_202_49 rfl
theorem b202_52 {d L : Nat} {σ : St} {Q : Option AV → AW → Prop} {x2 : Int} {u0 u1 u3 u4 : AV} : R (d + 1) 202 52 [u0, u1, vI x2, u3, u4] [] (WS L σ) Q = R d 203 0 [vI x2, vX 9] [] (WS L σ) (fun r w => R (d + 1) 202 56 [u0, u1, vI x2, u3, u4] (am_push r []) w Q) := K_iload_n fi_202_52 rfl <| R_invS fi_202_53 (by decide) (am_invS_of (Nat.le_of_ble_eq_true rfl) rfl (Nat.le_of_ble_eq_true rfl) (Nat.le_of_ble_eq_true rfl) rfl rfl)
theorem b202_56 {d L : Nat} {σ : St} {Q : Option AV → AW → Prop} {y0 : Int} {u0 u1 u2 u3 u4 : AV} : R d 202 56 [u0, u1, u2, u3, u4] [vI y0] (WS L σ) Q = Q (some (vI y0)) (WS L σ) := R_ireti fi_202_56 rfl
theorem fi_203_0 : am_find 203 0 = some (.iconst 0, 1, 0, 0, 0) := by decide +kernel
theorem fi_203_1 : am_find 203 1 = some (.istore_n 1, 1, 0, 0, 0) := by decide +kernel
theorem fi_203_2 : am_find 203 2 = some (.iload_n 0, 1, 0, 0, 0) := by decide +kernel
theorem fi_203_3 : am_find 203 3 = some (.iload_n 1, 1, 0, 0, 0) := by decide +kernel
theorem fi_203_4 : am_find 203 4 = some (.ishr, 1, 0, 0, 0) := by decide +kernel
theorem fi_203_5 : am_find 203 5 = some (.iconst 1, 1, 0, 1, 0) := by decide +kernel
theorem fi_203_6 : am_find 203 6 = some (.iand, 1, 0, 0, 0) := by decide +kernel
theorem fi_203_7 : am_find 203 7 = some (.ifCond .ne 9, 3, 0, 0, 0) := by decide +kernel
theorem fi_203_10 : am_find 203 10 = some (.iinc 1 1, 3, 0, 0, 0) := by decide +kernel
theorem fi_203_13 : am_find 203 13 = some (.goto (-11), 3, 0, 0, 0) := by decide +kernel
theorem fi_203_16 : am_find 203 16 = some (.iload_n 1, 1, 0, 0, 0) := by decide +kernel
theorem fi_203_17 : am_find 203 17 = some (.ireturn, 1, 0, 0, 0) := by decide +kernel
theorem b203_0 {d L : Nat} {σ : St} {Q : Option AV → AW → Prop} {u0 u1 : AV} : R d 203 0 [u0, u1] [] (WS L σ) Q = R d 203 2 [u0, vI 0] [] (WS L σ) Q := K_iconst fi_203_0 <| K_istore_n fi_203_1 (Nat.le_of_ble_eq_true rfl) rfl rfl <| rfl
theorem b203_2 {d L : Nat} {σ : St} {Q : Option AV → AW → Prop} {x0 x1 : Int} : R d 203 2 [vI x0, vI x1] [] (WS L σ) Q = if ¬ (i_and (i_shr x0 x1) 1) = 0 then R d 203 16 [vI x0, vI x1] [] (WS L σ) Q else R d 203 10 [vI x0, vI x1] [] (WS L σ) Q := K_iload_n fi_203_2 rfl <| K_iload_n fi_203_3 rfl <| K_ishr fi_203_4 <| K_iconst fi_203_5 <| K_iand fi_203_6 <| R_if_ne fi_203_7 rfl
theorem b203_10 {d L : Nat} {σ : St} {Q : Option AV → AW → Prop} {x1 : Int} {u0 : AV} (h1 : -2147483648 ≤ x1 + 1 ∧ x1 + 1 ≤ 2147483647) : R d 203 10 [u0, vI x1] [] (WS L σ) Q = R d 203 2 [u0, vI (x1 + 1)] [] (WS L σ) Q := K_iincx fi_203_10 rfl (Nat.le_of_ble_eq_true rfl) rfl h1 rfl <| R_goto fi_203_13 rfl
theorem b203_16 {d L : Nat} {σ : St} {Q : Option AV → AW → Prop} {x1 : Int} {u0 : AV} : R d 203 16 [u0, vI x1] [] (WS L σ) Q = Q (some (vI x1)) (WS L σ) := K_iload_n fi_203_16 rfl <| R_ireti fi_203_17 rfl
theorem fi_204_0 : am_find 204 0 = some (.iconst 0, 1, 0, 0, 0) := by decide +kernel
theorem fi_204_1 : am_find 204 1 = some (.istore_n 2, 1, 0, 0, 0) := by decide +kernel
theorem fi_204_2 : am_find 204 2 = some (.iconst 0, 1, 0, 0, 0) := by decide +kernel
theorem fi_204_3 : am_find 204 3 = some (.istore_n 3, 1, 0, 0, 0) := by decide +kernel
theorem fi_204_4 : am_find 204 4 = some (.iload_n 3, 1, 0, 0, 0) := by decide +kernel
theorem fi_204_5 : am_find 204 5 = some (.aload_n 0, 1, 0, 0, 0) := by decide +kernel
theorem fi_204_6 : am_find 204 6 = some (.getfield 7, 3, 10, 1, 101) := by decide +kernel
theorem fi_204_9 : am_find 204 9 = some (.iconst 0, 1, 0, 0, 0) := by decide +kernel
theorem fi_204_10 : am_find 204 10 = some (.iaload, 1, 0, 0, 0) := by decide +kernel
theorem fi_204_11 : am_find 204 11 = some (.if_icmp .ge 37, 3, 0, 0, 0) := by decide +kernel
theorem fi_204_14 : am_find 204 14 = some (.iload_n 1, 1, 0, 0, 0) := by decide +kernel
theorem fi_204_15 : am_find 204 15 = some (.iload_n 3, 1, 0, 0, 0) := by decide +kernel
theorem fi_204_16 : am_find 204 16 = some (.ishr, 1, 0, 0, 0) := by decide +kernel
theorem fi_204_17 : am_find 204 17 = some (.iconst 1, 1, 0, 1, 0) := by decide +kernel
theorem fi_204_18 : am_find 204 18 = some (.iand, 1, 0, 0, 0) := by decide +kernel
theorem fi_204_19 : am_find 204 19 = some (.iconst 1, 1, 0, 1, 0) := by decide +kernel
theorem fi_204_20 : am_find 204 20 = some (.if_icmp .ne 20, 3, 0, 0, 0) := by decide +kernel
theorem fi_204_23 : am_find 204 23 = some (.aload_n 0, 1, 0, 0, 0) := by decide +kernel
theorem fi_204_24 : am_find 204 24 = some (.iload_n 3, 1, 0, 0, 0) := by decide +kernel
theorem fi_204_25 : am_find 204 25 = some (.invokevirtual 204, 3, 205, 1, 212) := by decide +kernel
theorem fi_204_28 : am_find 204 28 = some (.iload_n 2, 1, 0, 0, 0) := by decide +kernel
theorem fi_204_29 : am_find 204 29 = some (.if_icmp .le 11, 3, 0, 0, 0) := by decide +kernel
theorem fi_204_32 : am_find 204 32 = some (.aload_n 0, 1, 0, 0, 0) := by decide +kernel
theorem fi_204_33 : am_find 204 33 = some (.iload_n 3, 1, 0, 0, 0) := by decide +kernel
theorem fi_204_34 : am_find 204 34 = some (.invokevirtual 204, 3, 205, 1, 212) := by decide +kernel
theorem fi_204_37 : am_find 204 37 = some (.goto 4, 3, 0, 0, 0) := by decide +kernel
theorem fi_204_40 : am_find 204 40 = some (.iload_n 2, 1, 0, 0, 0) := by decide +kernel
theorem fi_204_41 : am_find 204 41 = some (.istore_n 2, 1, 0, 0, 0) := by decide +kernel
theorem fi_204_42 : am_find 204 42 = some (.iinc 3 1, 3, 0, 0, 0) := by decide +kernel
theorem fi_204_45 : am_find 204 45 = some (.goto (-41), 3, 0, 0, 0) := by decide +kernel
theorem fi_204_48 : am_find 204 48 = some (.iconst 0, 1, 0, 0, 0) := by decide +kernel
theorem fi_204_49 : am_find 204 49 = some (.istore_n 3, 1, 0, 0, 0) := by decide +kernel
theorem fi_204_50 : am_find 204 50 = some (.iconst 0, 1, 0, 0, 0) := by decide +kernel
theorem fi_204_51 : am_find 204 51 = some (.istore 4, 2, 0, 0, 0) := by decide +kernel
theorem fi_204_53 : am_find 204 53 = some (.iload 4, 2, 0, 0, 0) := by decide +kernel
theorem fi_204_55 : am_find 204 55 = some (.aload_n 0, 1, 0, 0, 0) := by decide +kernel
theorem fi_204_56 : am_find 204 56 = some (.getfield 7, 3, 10, 1, 101) := by decide +kernel
theorem fi_204_59 : am_find 204 59 = some (.iconst 0, 1, 0, 0, 0) := by decide +kernel
theorem fi_204_60 : am_find 204 60 = some (.iaload, 1, 0, 0, 0) := by decide +kernel
theorem fi_204_61 : am_find 204 61 = some (.if_icmp .ge 40, 3, 0, 0, 0) := by decide +kernel
theorem fi_204_64 : am_find 204 64 = some (.iload_n 3, 1, 0, 0, 0) := by decide +kernel
theorem fi_204_65 : am_find 204 65 = some (.iload_n 1, 1, 0, 0, 0) := by decide +kernel
theorem fi_204_66 : am_find 204 66 = some (.iload 4, 2, 0, 0, 0) := by decide +kernel
theorem fi_204_68 : am_find 204 68 = some (.ishr, 1, 0, 0, 0) := by decide +kernel
theorem fi_204_69 : am_find 204 69 = some (.iconst 1, 1, 0, 1, 0) := by decide +kernel
theorem fi_204_70 : am_find 204 70 = some (.iand, 1, 0, 0, 0) := by decide +kernel
theorem fi_204_71 : am_find 204 71 = some (.iconst 1, 1, 0, 1, 0) := by decide +kernel
theorem fi_204_72 : am_find 204 72 = some (.if_icmp .ne 20, 3, 0, 0, 0) := by decide +kernel
theorem fi_204_75 : am_find 204 75 = some (.aload_n 0, 1, 0, 0, 0) := by decide +kernel
theorem fi_204_76 : am_find 204 76 = some (.iload 4, 2, 0, 0, 0) := by decide +kernel
theorem fi_204_78 : am_find 204 78 = some (.invokevirtual 204, 3, 205, 1, 212) := by decide +kernel
theorem fi_204_81 : am_find 204 81 = some (.iload_n 2, 1, 0, 0, 0) := by decide +kernel
theorem fi_204_82 : am_find 204 82 = some (.if_icmp .ne 10, 3, 0, 0, 0) := by decide +kernel
theorem fi_204_85 : am_find 204 85 = some (.iconst 1, 1, 0, 1, 0) := by decide +kernel
theorem fi_204_86 : am_find 204 86 = some (.iload 4, 2, 0, 0, 0) := by decide +kernel
theorem fi_204_88 : am_find 204 88 = some (.ishl, 1, 0, 0, 0) := by decide +kernel
theorem fi_204_89 : am_find 204 89 = some (.goto 4, 3, 0, 0, 0) := by decide +kernel
theorem fi_204_92 : am_find 204 92 = some (.iconst 0, 1, 0, 0, 0) := by decide +kernel
theorem fi_204_93 : am_find 204 93 = some (.ior, 1, 0, 0, 0) := by decide +kernel
theorem fi_204_94 : am_find 204 94 = some (.istore_n 3, 1, 0, 0, 0) := by decide +kernel
theorem fi_204_95 : am_find 204 95 = some (.iinc 4 1, 3, 0, 0, 0) := by decide +kernel
theorem fi_204_98 : am_find 204 98 = some (.goto (-45), 3, 0, 0, 0) := by decide +kernel
theorem fi_204_101 : am_find 204 101 = some (.iload_n 3, 1, 0, 0, 0) := by decide +kernel
theorem fi_204_102 : am_find 204 102 = some (.ireturn, 1, 0, 0, 0) := by decide +kernel
theorem b204_0 {d L : Nat} {σ : St} {Q : Option AV → AW → Prop} {x1 : Int} {u0 u2 u3 u4 : AV} : R d 204 0 [u0, vI x1, u2, u3, u4] [] (WS L σ) Q = R d 204 4 [u0, vI x1, vI 0, vI 0, u4] [] (WS L σ) Q := K_iconst fi_204_0 <| K_istore_n fi_204_1 (Nat.le_of_ble_eq_true rfl) rfl rfl <| K_iconst fi_204_2 <| K_istore_n fi_204_3 (Nat.le_of_ble_eq_true rfl) rfl rfl <| rfl
theorem b204_4 {d L : Nat} {σ : St} {Q : Option AV → AW → Prop} {x3 : Int} {u1 u2 u4 : AV} : R d 204 4 [vR 153, u1, u2, vI x3, u4] [] (WS L σ) Q = if (σ 154 0) ≤ x3 then R d 204 48 [vR 153, u1, u2, vI x3, u4] [] (WS L σ) Q else R d 204 14 [vR 153, u1, u2, vI x3, u4] [] (WS L σ) Q := K_iload_n fi_204_4 rfl <| K_aload_n fi_204_5 rfl <| K_gf fi_204_6 kd_153 mk_153_1 <| K_iconst fi_204_9 <| K_ia fi_204_10 kd_154 (by decide) (show (0 : Int) < 1580 by decide) <| R_icmp_ge fi_204_11 rfl
theorem b204_14 {d L : Nat} {σ : St} {Q : Option AV → AW → Prop} {x1 x3 : Int} {u0 u2 u4 : AV} : R d 204 14 [u0, vI x1, u2, vI x3, u4] [] (WS L σ) Q = if ¬ (i_and (i_shr x1 x3) 1) = 1 then R d 204 40 [u0, vI x1, u2, vI x3, u4] [] (WS L σ) Q else R d 204 23 [u0, vI x1, u2, vI x3, u4] [] (WS L σ) Q := K_iload_n fi_204_14 rfl <| K_iload_n fi_204_15 rfl <| K_ishr fi_204_16 <| K_iconst fi_204_17 <| K_iand fi_204_18 <| K_iconst fi_204_19 <| R_icmp_ne fi_204_20 rfl
theorem b204_23 {d L : Nat} {σ : St} {Q : Option AV → AW → Prop} {x3 : Int} {u1 u2 u4 : AV} : R (d + 1) 204 23 [vR 153, u1, u2, vI x3, u4] [] (WS L σ) Q = R d 205 0 [vR 153, vI x3, vX 9, vX 9] [] (WS L σ) (fun r w => R (d + 1) 204 28 [vR 153, u1, u2, vI x3, u4] (am_push r []) w Q) := K_aload_n fi_204_23 rfl <| K_iload_n fi_204_24 rfl <| R_invV fi_204_25 (am_invV_of rfl (kd_153) (Nat.le_of_ble_eq_true rfl) (Nat.le_of_ble_eq_true rfl) rfl rfl)
theorem b204_28 {d L : Nat} {σ : St} {Q : Option AV → AW → Prop} {y0 x2 : Int} {u0 u1 u3 u4 : AV} : R d 204 28 [u0, u1, vI x2, u3, u4] [vI y0] (WS L σ) Q = if y0 ≤ x2 then R d 204 40 [u0, u1, vI x2, u3, u4] [] (WS L σ) Q else R d 204 32 [u0, u1, vI x2, u3, u4] [] (WS L σ) Q := K_iload_n fi_204_28 rfl <| R_icmp_le fi_204_29 rfl
theorem b204_32 {d L : Nat} {σ : St} {Q : Option AV → AW → Prop} {x3 : Int} {u1 u2 u4 : AV} : R (d + 1) 204 32 [vR 153, u1, u2, vI x3, u4] [] (WS L σ) Q = R d 205 0 [vR 153, vI x3, vX 9, vX 9] [] (WS L σ) (fun r w => R (d + 1) 204 37 [vR 153, u1, u2, vI x3, u4] (am_push r []) w Q) := K_aload_n fi_204_32 rfl <| K_iload_n fi_204_33 rfl <| R_invV fi_204_34 (am_invV_of rfl (kd_153) (Nat.le_of_ble_eq_true rfl) (Nat.le_of_ble_eq_true rfl) rfl rfl)
theorem b204_37 {d L : Nat} {σ : St} {Q : Option AV → AW → Prop} {y0 : Int} {u0 u1 u2 u3 u4 : AV} : R d 204 37 [u0, u1, u2, u3, u4] [vI y0] (WS L σ) Q = R d 204 41 [u0, u1, u2, u3, u4] [vI y0] (WS L σ) Q := R_goto fi_204_37 rfl
theorem b204_40 {d L : Nat} {σ : St} {Q : Option AV → AW → Prop} {x2 : Int} {u0 u1 u3 u4 : AV} : R d 204 40 [u0, u1, vI x2, u3, u4] [] (WS L σ) Q = R d 204 41 [u0, u1, vI x2, u3, u4] [vI x2] (WS L σ) Q := K_iload_n fi_204_40 rfl <| rfl
theorem b204_41 {d L : Nat} {σ : St} {Q : Option AV → AW → Prop} {y0 x1 x3 : Int} {u0 u2 u4 : AV} (h1 : -2147483648 ≤ x3 + 1 ∧ x3 + 1 ≤ 2147483647) : R d 204 41 [u0, vI x1, u2, vI x3, u4] [vI y0] (WS L σ) Q = R d 204 4 [u0, vI x1, vI y0, vI (x3 + 1), u4] [] (WS L σ) Q := K_istore_n fi_204_41 (Nat.le_of_ble_eq_true rfl) rfl rfl <| K_iincx fi_204_42 rfl (Nat.le_of_ble_eq_true rfl) rfl h1 rfl <| R_goto fi_204_45 rfl
theorem b204_48 {d L : Nat} {σ : St} {Q : Option AV → AW → Prop} {u0 u1 u2 u3 u4 : AV} : R d 204 48 [u0, u1, u2, u3, u4] [] (WS L σ) Q = R d 204 53 [u0, u1, u2, vI 0, vI 0] [] (WS L σ) Q := K_iconst fi_204_48 <| K_istore_n fi_204_49 (Nat.le_of_ble_eq_true rfl) rfl rfl <| K_iconst fi_204_50 <| K_istore fi_204_51 (Nat.le_of_ble_eq_true rfl) rfl rfl <| rfl
theorem b204_53 {d L : Nat} {σ : St} {Q : Option AV → AW → Prop} {x4 : Int} {u1 u2 u3 : AV} : R d 204 53 [vR 153, u1, u2, u3, vI x4] [] (WS L σ) Q = if (σ 154 0) ≤ x4 then R d 204 101 [vR 153, u1, u2, u3, vI x4] [] (WS L σ) Q else R d 204 64 [vR 153, u1, u2, u3, vI x4] [] (WS L σ) Q := K_iload fi_204_53 rfl <| K_aload_n fi_204_55 rfl <| K_gf fi_204_56 kd_153 mk_153_1 <| K_iconst fi_204_59 <| K_ia fi_204_60 kd_154 (by decide) (show (0 : Int) < 1580 by decide) <| R_icmp_ge fi_204_61 rfl
theorem b204_64 {d L : Nat} {σ : St} {Q : Option AV → AW → Prop} {x3 x1 x4 : Int} {u0 u2 : AV} : R d 204 64 [u0, vI x1, u2, vI x3, vI x4] [] (WS L σ) Q = if ¬ (i_and (i_shr x1 x4) 1) = 1 then R d 204 92 [u0, vI x1, u2, vI x3, vI x4] [vI x3] (WS L σ) Q else R d 204 75 [u0, vI x1, u2, vI x3, vI x4] [vI x3] (WS L σ) Q := K_iload_n fi_204_64 rfl <| K_iload_n fi_204_65 rfl <| K_iload fi_204_66 rfl <| K_ishr fi_204_68 <| K_iconst fi_204_69 <| K_iand fi_204_70 <| K_iconst fi_204_71 <| R_icmp_ne fi_204_72 rfl
theorem b204_75 {d L : Nat} {σ : St} {Q : Option AV → AW → Prop} {y0 x4 : Int} {u1 u2 u3 : AV} : R (d + 1) 204 75 [vR 153, u1, u2, u3, vI x4] [vI y0] (WS L σ) Q = R d 205 0 [vR 153, vI x4, vX 9, vX 9] [] (WS L σ) (fun r w => R (d + 1) 204 81 [vR 153, u1, u2, u3, vI x4] (am_push r [vI y0]) w Q) := K_aload_n fi_204_75 rfl <| K_iload fi_204_76 rfl <| R_invV fi_204_78 (am_invV_of rfl (kd_153) (Nat.le_of_ble_eq_true rfl) (Nat.le_of_ble_eq_true rfl) rfl rfl)
theorem b204_81 {d L : Nat} {σ : St} {Q : Option AV → AW → Prop} {y0 y1 x2 : Int} {u0 u1 u3 u4 : AV} : R d 204 81 [u0, u1, vI x2, u3, u4] [vI y0, vI y1] (WS L σ) Q = if ¬ y0 = x2 then R d 204 92 [u0, u1, vI x2, u3, u4] [vI y1] (WS L σ) Q else R d 204 85 [u0, u1, vI x2, u3, u4] [vI y1] (WS L σ) Q := K_iload_n fi_204_81 rfl <| R_icmp_ne fi_204_82 rfl
theorem b204_85 {d L : Nat} {σ : St} {Q : Option AV → AW → Prop} {y0 x4 : Int} {u0 u1 u2 u3 : AV} : R d 204 85 [u0, u1, u2, u3, vI x4] [vI y0] (WS L σ) Q = R d 204 93 [u0, u1, u2, u3, vI x4] [vI (i_shl 1 x4), vI y0] (WS L σ) Q := K_iconst fi_204_85 <| K_iload fi_204_86 rfl <| K_ishl fi_204_88 <| R_goto fi_204_89 rfl
theorem b204_92 {d L : Nat} {σ : St} {Q : Option AV → AW → Prop} {y0 : Int} {u0 u1 u2 u3 u4 : AV} : R d 204 92 [u0, u1, u2, u3, u4] [vI y0] (WS L σ) Q = R d 204 93 [u0, u1, u2, u3, u4] [vI 0, vI y0] (WS L σ) Q := K_iconst fi_204_92 <| rfl
theorem b204_93 {d L : Nat} {σ : St} {Q : Option AV → AW → Prop} {y0 y1 x4 : Int} {u0 u1 u2 u3 : AV} (h1 : -2147483648 ≤ x4 + 1 ∧ x4 + 1 ≤ 2147483647) : R d 204 93 [u0, u1, u2, u3, vI x4] [vI y0, vI y1] (WS L σ) Q = R d 204 53 [u0, u1, u2, vI (i_or y1 y0), vI (x4 + 1)] [] (WS L σ) Q := K_ior fi_204_93 <| K_istore_n fi_204_94 (Nat.le_of_ble_eq_true rfl) rfl rfl <| K_iincx fi_204_95 rfl (Nat.le_of_ble_eq_true rfl) rfl h1 rfl <| R_goto fi_204_98 rfl
theorem b204_101 {d L : Nat} {σ : St} {Q : Option AV → AW → Prop} {x3 : Int} {u0 u1 u2 u4 : AV} : R d 204 101 [u0, u1, u2, vI x3, u4] [] (WS L σ) Q = Q (some (vI x3)) (WS L σ) := K_iload_n fi_204_101 rfl <| R_ireti fi_204_102 rfl
theorem fi_205_0 : am_find 205 0 = some (.iconst 0, 1, 0, 0, 0) := by decide +kernel
theorem fi_205_1 : am_find 205 1 = some (.istore_n 2, 1, 0, 0, 0) := by decide +kernel
theorem fi_205_2 : am_find 205 2 = some (.iconst 0, 1, 0, 0, 0) := by decide +kernel
theorem fi_205_3 : am_find 205 3 = some (.istore_n 3, 1, 0, 0, 0) := by decide +kernel
theorem fi_205_4 : am_find 205 4 = some (.iload_n 3, 1, 0, 0, 0) := by decide +kernel
theorem fi_205_5 : am_find 205 5 = some (.aload_n 0, 1, 0, 0, 0) := by decide +kernel
theorem fi_205_6 : am_find 205 6 = some (.getfield 7, 3, 10, 1, 101) := by decide +kernel
theorem fi_205_9 : am_find 205 9 = some (.iconst 3, 1, 0, 3, 0) := by decide +kernel
theorem fi_205_10 : am_find 205 10 = some (.iaload, 1, 0, 0, 0) := by decide +kernel
theorem fi_205_11 : am_find 205 11 = some (.if_icmp .ge 47, 3, 0, 0, 0) := by decide +kernel
theorem fi_205_14 : am_find 205 14 = some (.iload_n 2, 1, 0, 0, 0) := by decide +kernel
theorem fi_205_15 : am_find 205 15 = some (.aload_n 0, 1, 0, 0, 0) := by decide +kernel
theorem fi_205_16 : am_find 205 16 = some (.getfield 7, 3, 10, 1, 101) := by decide +kernel
theorem fi_205_19 : am_find 205 19 = some (.sipush 1381, 3, 0, 1381, 0) := by decide +kernel
theorem fi_205_22 : am_find 205 22 = some (.bipush 8, 2, 0, 8, 0) := by decide +kernel
theorem fi_205_24 : am_find 205 24 = some (.iload_n 3, 1, 0, 0, 0) := by decide +kernel
theorem fi_205_25 : am_find 205 25 = some (.imul, 1, 0, 0, 0) := by decide +kernel
theorem fi_205_26 : am_find 205 26 = some (.iadd, 1, 0, 0, 0) := by decide +kernel
theorem fi_205_27 : am_find 205 27 = some (.aload_n 0, 1, 0, 0, 0) := by decide +kernel
theorem fi_205_28 : am_find 205 28 = some (.getfield 7, 3, 10, 1, 101) := by decide +kernel
theorem fi_205_31 : am_find 205 31 = some (.sipush 1369, 3, 0, 1369, 0) := by decide +kernel
theorem fi_205_34 : am_find 205 34 = some (.iload_n 3, 1, 0, 0, 0) := by decide +kernel
theorem fi_205_35 : am_find 205 35 = some (.iadd, 1, 0, 0, 0) := by decide +kernel
theorem fi_205_36 : am_find 205 36 = some (.iaload, 1, 0, 0, 0) := by decide +kernel
theorem fi_205_37 : am_find 205 37 = some (.iadd, 1, 0, 0, 0) := by decide +kernel
theorem fi_205_38 : am_find 205 38 = some (.iconst 1, 1, 0, 1, 0) := by decide +kernel
theorem fi_205_39 : am_find 205 39 = some (.isub, 1, 0, 0, 0) := by decide +kernel
theorem fi_205_40 : am_find 205 40 = some (.iaload, 1, 0, 0, 0) := by decide +kernel
theorem fi_205_41 : am_find 205 41 = some (.iload_n 1, 1, 0, 0, 0) := by decide +kernel
theorem fi_205_42 : am_find 205 42 = some (.if_icmp .ne 7, 3, 0, 0, 0) := by decide +kernel
theorem fi_205_45 : am_find 205 45 = some (.iconst 1, 1, 0, 1, 0) := by decide +kernel
theorem fi_205_46 : am_find 205 46 = some (.goto 4, 3, 0, 0, 0) := by decide +kernel
theorem fi_205_49 : am_find 205 49 = some (.iconst 0, 1, 0, 0, 0) := by decide +kernel
theorem fi_205_50 : am_find 205 50 = some (.iadd, 1, 0, 0, 0) := by decide +kernel
theorem fi_205_51 : am_find 205 51 = some (.istore_n 2, 1, 0, 0, 0) := by decide +kernel
theorem fi_205_52 : am_find 205 52 = some (.iinc 3 1, 3, 0, 0, 0) := by decide +kernel
theorem fi_205_55 : am_find 205 55 = some (.goto (-51), 3, 0, 0, 0) := by decide +kernel
theorem fi_205_58 : am_find 205 58 = some (.iload_n 2, 1, 0, 0, 0) := by decide +kernel
theorem fi_205_59 : am_find 205 59 = some (.ireturn, 1, 0, 0, 0) := by decide +kernel
theorem b205_0 {d L : Nat} {σ : St} {Q : Option AV → AW → Prop} {x1 : Int} {u0 u2 u3 : AV} : R d 205 0 [u0, vI x1, u2, u3] [] (WS L σ) Q = R d 205 4 [u0, vI x1, vI 0, vI 0] [] (WS L σ) Q := K_iconst fi_205_0 <| K_istore_n fi_205_1 (Nat.le_of_ble_eq_true rfl) rfl rfl <| K_iconst fi_205_2 <| K_istore_n fi_205_3 (Nat.le_of_ble_eq_true rfl) rfl rfl <| rfl
theorem b205_4 {d L : Nat} {σ : St} {Q : Option AV → AW → Prop} {x3 : Int} {u1 u2 : AV} : R d 205 4 [vR 153, u1, u2, vI x3] [] (WS L σ) Q = if (σ 154 3) ≤ x3 then R d 205 58 [vR 153, u1, u2, vI x3] [] (WS L σ) Q else R d 205 14 [vR 153, u1, u2, vI x3] [] (WS L σ) Q := K_iload_n fi_205_4 rfl <| K_aload_n fi_205_5 rfl <| K_gf fi_205_6 kd_153 mk_153_1 <| K_iconst fi_205_9 <| K_ia fi_205_10 kd_154 (by decide) (show (3 : Int) < 1580 by decide) <| R_icmp_ge fi_205_11 rfl
theorem b205_14 {d L : Nat} {σ : St} {Q : Option AV → AW → Prop} {x2 x3 x1 : Int} (h1 : -2147483648 ≤ 8 * x3 ∧ 8 * x3 ≤ 2147483647) (h2 : -2147483648 ≤ 1381 + (8 * x3) ∧ 1381 + (8 * x3) ≤ 2147483647) (h3 : -2147483648 ≤ 1369 + x3 ∧ 1369 + x3 ≤ 2147483647) (h4 : 0 ≤ 1369 + x3) (h5 : (1369 + x3) < 1580) (h6 : -2147483648 ≤ (1381 + (8 * x3)) + (σ 154 (1369 + x3)) ∧ (1381 + (8 * x3)) + (σ 154 (1369 + x3)) ≤ 2147483647) (h7 : -2147483648 ≤ ((1381 + (8 * x3)) + (σ 154 (1369 + x3))) - 1 ∧ ((1381 + (8 * x3)) + (σ 154 (1369 + x3))) - 1 ≤ 2147483647) (h8 : 0 ≤ ((1381 + (8 * x3)) + (σ 154 (1369 + x3))) - 1) (h9 : (((1381 + (8 * x3)) + (σ 154 (1369 + x3))) - 1) < 1580) : R d 205 14 [vR 153, vI x1, vI x2, vI x3] [] (WS L σ) Q = if ¬ (σ 154 (((1381 + (8 * x3)) + (σ 154 (1369 + x3))) - 1)) = x1 then R d 205 49 [vR 153, vI x1, vI x2, vI x3] [vI x2] (WS L σ) Q else R d 205 45 [vR 153, vI x1, vI x2, vI x3] [vI x2] (WS L σ) Q := K_iload_n fi_205_14 rfl <| K_aload_n fi_205_15 rfl <| K_gf fi_205_16 kd_153 mk_153_1 <| K_sipush fi_205_19 <| K_bipush fi_205_22 <| K_iload_n fi_205_24 rfl <| K_imulx fi_205_25 h1 <| K_iaddx fi_205_26 h2 <| K_aload_n fi_205_27 rfl <| K_gf fi_205_28 kd_153 mk_153_1 <| K_sipush fi_205_31 <| K_iload_n fi_205_34 rfl <| K_iaddx fi_205_35 h3 <| K_ia fi_205_36 kd_154 h4 h5 <| K_iaddx fi_205_37 h6 <| K_iconst fi_205_38 <| K_isubx fi_205_39 h7 <| K_ia fi_205_40 kd_154 h8 h9 <| K_iload_n fi_205_41 rfl <| R_icmp_ne fi_205_42 rfl
theorem b205_45 {d L : Nat} {σ : St} {Q : Option AV → AW → Prop} {y0 : Int} {u0 u1 u2 u3 : AV} : R d 205 45 [u0, u1, u2, u3] [vI y0] (WS L σ) Q = R d 205 50 [u0, u1, u2, u3] [vI 1, vI y0] (WS L σ) Q := K_iconst fi_205_45 <| R_goto fi_205_46 rfl
theorem b205_49 {d L : Nat} {σ : St} {Q : Option AV → AW → Prop} {y0 : Int} {u0 u1 u2 u3 : AV} : R d 205 49 [u0, u1, u2, u3] [vI y0] (WS L σ) Q = R d 205 50 [u0, u1, u2, u3] [vI 0, vI y0] (WS L σ) Q := K_iconst fi_205_49 <| rfl
theorem b205_50 {d L : Nat} {σ : St} {Q : Option AV → AW → Prop} {y0 y1 x1 x3 : Int} {u0 u2 : AV} (h1 : -2147483648 ≤ y1 + y0 ∧ y1 + y0 ≤ 2147483647) (h2 : -2147483648 ≤ x3 + 1 ∧ x3 + 1 ≤ 2147483647) : R d 205 50 [u0, vI x1, u2, vI x3] [vI y0, vI y1] (WS L σ) Q = R d 205 4 [u0, vI x1, vI (y1 + y0), vI (x3 + 1)] [] (WS L σ) Q := K_iaddx fi_205_50 h1 <| K_istore_n fi_205_51 (Nat.le_of_ble_eq_true rfl) rfl rfl <| K_iincx fi_205_52 rfl (Nat.le_of_ble_eq_true rfl) rfl h2 rfl <| R_goto fi_205_55 rfl
theorem b205_58 {d L : Nat} {σ : St} {Q : Option AV → AW → Prop} {x2 : Int} {u0 u1 u3 : AV} : R d 205 58 [u0, u1, vI x2, u3] [] (WS L σ) Q = Q (some (vI x2)) (WS L σ) := K_iload_n fi_205_58 rfl <| R_ireti fi_205_59 rfl
theorem fi_206_0 : am_find 206 0 = some (.aload_n 0, 1, 0, 0, 0) := by decide +kernel
theorem fi_206_1 : am_find 206 1 = some (.invokevirtual 57, 3, 149, 0, 172) := by decide +kernel
theorem fi_206_4 : am_find 206 4 = some (.iload_n 1, 1, 0, 0, 0) := by decide +kernel
theorem fi_206_5 : am_find 206 5 = some (.ifCond .eq 27, 3, 0, 0, 0) := by decide +kernel
theorem fi_206_8 : am_find 206 8 = some (.aload_n 0, 1, 0, 0, 0) := by decide +kernel
theorem fi_206_9 : am_find 206 9 = some (.getfield 7, 3, 10, 1, 101) := by decide +kernel
theorem fi_206_12 : am_find 206 12 = some (.iconst 0, 1, 0, 0, 0) := by decide +kernel
theorem fi_206_13 : am_find 206 13 = some (.iaload, 1, 0, 0, 0) := by decide +kernel
theorem fi_206_14 : am_find 206 14 = some (.ifCond .le 18, 3, 0, 0, 0) := by decide +kernel
theorem fi_206_17 : am_find 206 17 = some (.aload_n 0, 1, 0, 0, 0) := by decide +kernel
theorem fi_206_18 : am_find 206 18 = some (.getfield 7, 3, 10, 1, 101) := by decide +kernel
theorem fi_206_21 : am_find 206 21 = some (.iconst 3, 1, 0, 3, 0) := by decide +kernel
theorem fi_206_22 : am_find 206 22 = some (.iaload, 1, 0, 0, 0) := by decide +kernel
theorem fi_206_23 : am_find 206 23 = some (.bipush 12, 2, 0, 12, 0) := by decide +kernel
theorem fi_206_25 : am_find 206 25 = some (.if_icmp .ge 7, 3, 0, 0, 0) := by decide +kernel
theorem fi_206_28 : am_find 206 28 = some (.iconst 1, 1, 0, 1, 0) := by decide +kernel
theorem fi_206_29 : am_find 206 29 = some (.goto 4, 3, 0, 0, 0) := by decide +kernel
theorem fi_206_32 : am_find 206 32 = some (.iconst 0, 1, 0, 0, 0) := by decide +kernel
theorem fi_206_33 : am_find 206 33 = some (.istore_n 2, 1, 0, 0, 0) := by decide +kernel
theorem fi_206_34 : am_find 206 34 = some (.aload_n 0, 1, 0, 0, 0) := by decide +kernel
theorem fi_206_35 : am_find 206 35 = some (.getfield 7, 3, 10, 1, 101) := by decide +kernel
theorem fi_206_38 : am_find 206 38 = some (.iconst 3, 1, 0, 3, 0) := by decide +kernel
theorem fi_206_39 : am_find 206 39 = some (.iaload, 1, 0, 0, 0) := by decide +kernel
theorem fi_206_40 : am_find 206 40 = some (.istore_n 3, 1, 0, 0, 0) := by decide +kernel
theorem fi_206_41 : am_find 206 41 = some (.iconst 0, 1, 0, 0, 0) := by decide +kernel
theorem fi_206_42 : am_find 206 42 = some (.istore 4, 2, 0, 0, 0) := by decide +kernel
theorem fi_206_44 : am_find 206 44 = some (.iload 4, 2, 0, 0, 0) := by decide +kernel
theorem fi_206_46 : am_find 206 46 = some (.aload_n 0, 1, 0, 0, 0) := by decide +kernel
theorem fi_206_47 : am_find 206 47 = some (.getfield 7, 3, 10, 1, 101) := by decide +kernel
theorem fi_206_50 : am_find 206 50 = some (.iconst 0, 1, 0, 0, 0) := by decide +kernel
theorem fi_206_51 : am_find 206 51 = some (.iaload, 1, 0, 0, 0) := by decide +kernel
theorem fi_206_52 : am_find 206 52 = some (.if_icmp .ge 84, 3, 0, 0, 0) := by decide +kernel
theorem fi_206_55 : am_find 206 55 = some (.aload_n 0, 1, 0, 0, 0) := by decide +kernel
theorem fi_206_56 : am_find 206 56 = some (.aload_n 0, 1, 0, 0, 0) := by decide +kernel
theorem fi_206_57 : am_find 206 57 = some (.getfield 7, 3, 10, 1, 101) := by decide +kernel
theorem fi_206_60 : am_find 206 60 = some (.iconst 4, 1, 0, 4, 0) := by decide +kernel
theorem fi_206_61 : am_find 206 61 = some (.iaload, 1, 0, 0, 0) := by decide +kernel
theorem fi_206_62 : am_find 206 62 = some (.iload 4, 2, 0, 0, 0) := by decide +kernel
theorem fi_206_64 : am_find 206 64 = some (.invokevirtual 158, 3, 175, 2, 193) := by decide +kernel
theorem fi_206_67 : am_find 206 67 = some (.istore 5, 2, 0, 0, 0) := by decide +kernel
theorem fi_206_69 : am_find 206 69 = some (.aload_n 0, 1, 0, 0, 0) := by decide +kernel
theorem fi_206_70 : am_find 206 70 = some (.iload 5, 2, 0, 0, 0) := by decide +kernel
theorem fi_206_72 : am_find 206 72 = some (.invokevirtual 229, 3, 198, 1, 205) := by decide +kernel
theorem fi_206_75 : am_find 206 75 = some (.istore 6, 2, 0, 0, 0) := by decide +kernel
theorem fi_206_77 : am_find 206 77 = some (.aload_n 0, 1, 0, 0, 0) := by decide +kernel
theorem fi_206_78 : am_find 206 78 = some (.getfield 7, 3, 10, 1, 101) := by decide +kernel
theorem fi_206_81 : am_find 206 81 = some (.sipush 203, 3, 0, 203, 0) := by decide +kernel
theorem fi_206_84 : am_find 206 84 = some (.iload 6, 2, 0, 0, 0) := by decide +kernel
theorem fi_206_86 : am_find 206 86 = some (.iadd, 1, 0, 0, 0) := by decide +kernel
theorem fi_206_87 : am_find 206 87 = some (.iload 5, 2, 0, 0, 0) := by decide +kernel
theorem fi_206_89 : am_find 206 89 = some (.iastore, 1, 0, 0, 0) := by decide +kernel
theorem fi_206_90 : am_find 206 90 = some (.iload_n 2, 1, 0, 0, 0) := by decide +kernel
theorem fi_206_91 : am_find 206 91 = some (.ifCond .eq 39, 3, 0, 0, 0) := by decide +kernel
theorem fi_206_94 : am_find 206 94 = some (.aload_n 0, 1, 0, 0, 0) := by decide +kernel
theorem fi_206_95 : am_find 206 95 = some (.getfield 7, 3, 10, 1, 101) := by decide +kernel
theorem fi_206_98 : am_find 206 98 = some (.sipush 1381, 3, 0, 1381, 0) := by decide +kernel
theorem fi_206_101 : am_find 206 101 = some (.bipush 8, 2, 0, 8, 0) := by decide +kernel
theorem fi_206_103 : am_find 206 103 = some (.iload_n 3, 1, 0, 0, 0) := by decide +kernel
theorem fi_206_104 : am_find 206 104 = some (.imul, 1, 0, 0, 0) := by decide +kernel
theorem fi_206_105 : am_find 206 105 = some (.iadd, 1, 0, 0, 0) := by decide +kernel
theorem fi_206_106 : am_find 206 106 = some (.iload 4, 2, 0, 0, 0) := by decide +kernel
theorem fi_206_108 : am_find 206 108 = some (.iadd, 1, 0, 0, 0) := by decide +kernel
theorem fi_206_109 : am_find 206 109 = some (.iload 6, 2, 0, 0, 0) := by decide +kernel
theorem fi_206_111 : am_find 206 111 = some (.iastore, 1, 0, 0, 0) := by decide +kernel
theorem fi_206_112 : am_find 206 112 = some (.aload_n 0, 1, 0, 0, 0) := by decide +kernel
theorem fi_206_113 : am_find 206 113 = some (.getfield 7, 3, 10, 1, 101) := by decide +kernel
theorem fi_206_116 : am_find 206 116 = some (.sipush 1477, 3, 0, 1477, 0) := by decide +kernel
theorem fi_206_119 : am_find 206 119 = some (.bipush 8, 2, 0, 8, 0) := by decide +kernel
theorem fi_206_121 : am_find 206 121 = some (.iload_n 3, 1, 0, 0, 0) := by decide +kernel
theorem fi_206_122 : am_find 206 122 = some (.imul, 1, 0, 0, 0) := by decide +kernel
theorem fi_206_123 : am_find 206 123 = some (.iadd, 1, 0, 0, 0) := by decide +kernel
theorem fi_206_124 : am_find 206 124 = some (.iload 4, 2, 0, 0, 0) := by decide +kernel
theorem fi_206_126 : am_find 206 126 = some (.iadd, 1, 0, 0, 0) := by decide +kernel
theorem fi_206_127 : am_find 206 127 = some (.iload 5, 2, 0, 0, 0) := by decide +kernel
theorem fi_206_129 : am_find 206 129 = some (.iastore, 1, 0, 0, 0) := by decide +kernel
theorem fi_206_130 : am_find 206 130 = some (.iinc 4 1, 3, 0, 0, 0) := by decide +kernel
theorem fi_206_133 : am_find 206 133 = some (.goto (-89), 3, 0, 0, 0) := by decide +kernel
theorem fi_206_136 : am_find 206 136 = some (.iload_n 2, 1, 0, 0, 0) := by decide +kernel
theorem fi_206_137 : am_find 206 137 = some (.ifCond .eq 29, 3, 0, 0, 0) := by decide +kernel
theorem fi_206_140 : am_find 206 140 = some (.aload_n 0, 1, 0, 0, 0) := by decide +kernel
theorem fi_206_141 : am_find 206 141 = some (.getfield 7, 3, 10, 1, 101) := by decide +kernel
theorem fi_206_144 : am_find 206 144 = some (.sipush 1369, 3, 0, 1369, 0) := by decide +kernel
theorem fi_206_147 : am_find 206 147 = some (.iload_n 3, 1, 0, 0, 0) := by decide +kernel
theorem fi_206_148 : am_find 206 148 = some (.iadd, 1, 0, 0, 0) := by decide +kernel
theorem fi_206_149 : am_find 206 149 = some (.aload_n 0, 1, 0, 0, 0) := by decide +kernel
theorem fi_206_150 : am_find 206 150 = some (.getfield 7, 3, 10, 1, 101) := by decide +kernel
theorem fi_206_153 : am_find 206 153 = some (.iconst 0, 1, 0, 0, 0) := by decide +kernel
theorem fi_206_154 : am_find 206 154 = some (.iaload, 1, 0, 0, 0) := by decide +kernel
theorem fi_206_155 : am_find 206 155 = some (.iastore, 1, 0, 0, 0) := by decide +kernel
theorem fi_206_156 : am_find 206 156 = some (.aload_n 0, 1, 0, 0, 0) := by decide +kernel
theorem fi_206_157 : am_find 206 157 = some (.getfield 7, 3, 10, 1, 101) := by decide +kernel
theorem fi_206_160 : am_find 206 160 = some (.iconst 3, 1, 0, 3, 0) := by decide +kernel
theorem fi_206_161 : am_find 206 161 = some (.dup2, 1, 0, 0, 0) := by decide +kernel
theorem fi_206_162 : am_find 206 162 = some (.iaload, 1, 0, 0, 0) := by decide +kernel
theorem fi_206_163 : am_find 206 163 = some (.iconst 1, 1, 0, 1, 0) := by decide +kernel
theorem fi_206_164 : am_find 206 164 = some (.iadd, 1, 0, 0, 0) := by decide +kernel
theorem fi_206_165 : am_find 206 165 = some (.iastore, 1, 0, 0, 0) := by decide +kernel
theorem fi_206_166 : am_find 206 166 = some (.aload_n 0, 1, 0, 0, 0) := by decide +kernel
theorem fi_206_167 : am_find 206 167 = some (.getfield 7, 3, 10, 1, 101) := by decide +kernel
theorem fi_206_170 : am_find 206 170 = some (.iconst 0, 1, 0, 0, 0) := by decide +kernel
theorem fi_206_171 : am_find 206 171 = some (.iaload, 1, 0, 0, 0) := by decide +kernel
theorem fi_206_172 : am_find 206 172 = some (.ireturn, 1, 0, 0, 0) := by decide +kernel
theorem b206_0 {d L : Nat} {σ : St} {Q : Option AV → AW → Prop} {u1 u2 u3 u4 u5 u6 : AV} : R (d + 1) 206 0 [vR 153, u1, u2, u3, u4, u5, u6] [] (WS L σ) Q = R d 149 0 [vR 153, vX 9] [] (WS L σ) (fun r w => R (d + 1) 206 4 [vR 153, u1, u2, u3, u4, u5, u6] (am_push r []) w Q) := K_aload_n fi_206_0 rfl <| R_invV fi_206_1 (am_invV_of rfl (kd_153) (Nat.le_of_ble_eq_true rfl) (Nat.le_of_ble_eq_true rfl) rfl rfl)
theorem b206_4 {d L : Nat} {σ : St} {Q : Option AV → AW → Prop} {x1 : Int} {u0 u2 u3 u4 u5 u6 : AV} : R d 206 4 [u0, vI x1, u2, u3, u4, u5, u6] [] (WS L σ) Q = if x1 = 0 then R d 206 32 [u0, vI x1, u2, u3, u4, u5, u6] [] (WS L σ) Q else R d 206 8 [u0, vI x1, u2, u3, u4, u5, u6] [] (WS L σ) Q := K_iload_n fi_206_4 rfl <| R_if_eq fi_206_5 rfl
theorem b206_8 {d L : Nat} {σ : St} {Q : Option AV → AW → Prop} {u1 u2 u3 u4 u5 u6 : AV} : R d 206 8 [vR 153, u1, u2, u3, u4, u5, u6] [] (WS L σ) Q = if (σ 154 0) ≤ 0 then R d 206 32 [vR 153, u1, u2, u3, u4, u5, u6] [] (WS L σ) Q else R d 206 17 [vR 153, u1, u2, u3, u4, u5, u6] [] (WS L σ) Q := K_aload_n fi_206_8 rfl <| K_gf fi_206_9 kd_153 mk_153_1 <| K_iconst fi_206_12 <| K_ia fi_206_13 kd_154 (by decide) (show (0 : Int) < 1580 by decide) <| R_if_le fi_206_14 rfl
theorem b206_17 {d L : Nat} {σ : St} {Q : Option AV → AW → Prop} {u1 u2 u3 u4 u5 u6 : AV} : R d 206 17 [vR 153, u1, u2, u3, u4, u5, u6] [] (WS L σ) Q = if 12 ≤ (σ 154 3) then R d 206 32 [vR 153, u1, u2, u3, u4, u5, u6] [] (WS L σ) Q else R d 206 28 [vR 153, u1, u2, u3, u4, u5, u6] [] (WS L σ) Q := K_aload_n fi_206_17 rfl <| K_gf fi_206_18 kd_153 mk_153_1 <| K_iconst fi_206_21 <| K_ia fi_206_22 kd_154 (by decide) (show (3 : Int) < 1580 by decide) <| K_bipush fi_206_23 <| R_icmp_ge fi_206_25 rfl
theorem b206_28 {d L : Nat} {σ : St} {Q : Option AV → AW → Prop} {u0 u1 u2 u3 u4 u5 u6 : AV} : R d 206 28 [u0, u1, u2, u3, u4, u5, u6] [] (WS L σ) Q = R d 206 33 [u0, u1, u2, u3, u4, u5, u6] [vI 1] (WS L σ) Q := K_iconst fi_206_28 <| R_goto fi_206_29 rfl
theorem b206_32 {d L : Nat} {σ : St} {Q : Option AV → AW → Prop} {u0 u1 u2 u3 u4 u5 u6 : AV} : R d 206 32 [u0, u1, u2, u3, u4, u5, u6] [] (WS L σ) Q = R d 206 33 [u0, u1, u2, u3, u4, u5, u6] [vI 0] (WS L σ) Q := K_iconst fi_206_32 <| rfl
theorem b206_33 {d L : Nat} {σ : St} {Q : Option AV → AW → Prop} {y0 x1 : Int} {u2 u3 u4 u5 u6 : AV} : R d 206 33 [vR 153, vI x1, u2, u3, u4, u5, u6] [vI y0] (WS L σ) Q = R d 206 44 [vR 153, vI x1, vI y0, vI (σ 154 3), vI 0, u5, u6] [] (WS L σ) Q := K_istore_n fi_206_33 (Nat.le_of_ble_eq_true rfl) rfl rfl <| K_aload_n fi_206_34 rfl <| K_gf fi_206_35 kd_153 mk_153_1 <| K_iconst fi_206_38 <| K_ia fi_206_39 kd_154 (by decide) (show (3 : Int) < 1580 by decide) <| K_istore_n fi_206_40 (Nat.le_of_ble_eq_true rfl) rfl rfl <| K_iconst fi_206_41 <| K_istore fi_206_42 (Nat.le_of_ble_eq_true rfl) rfl rfl <| rfl
theorem b206_44 {d L : Nat} {σ : St} {Q : Option AV → AW → Prop} {x4 : Int} {u1 u2 u3 u5 u6 : AV} : R d 206 44 [vR 153, u1, u2, u3, vI x4, u5, u6] [] (WS L σ) Q = if (σ 154 0) ≤ x4 then R d 206 136 [vR 153, u1, u2, u3, vI x4, u5, u6] [] (WS L σ) Q else R d 206 55 [vR 153, u1, u2, u3, vI x4, u5, u6] [] (WS L σ) Q := K_iload fi_206_44 rfl <| K_aload_n fi_206_46 rfl <| K_gf fi_206_47 kd_153 mk_153_1 <| K_iconst fi_206_50 <| K_ia fi_206_51 kd_154 (by decide) (show (0 : Int) < 1580 by decide) <| R_icmp_ge fi_206_52 rfl
theorem b206_55 {d L : Nat} {σ : St} {Q : Option AV → AW → Prop} {x4 : Int} {u1 u2 u3 u5 u6 : AV} : R (d + 1) 206 55 [vR 153, u1, u2, u3, vI x4, u5, u6] [] (WS L σ) Q = R d 175 0 [vR 153, vI (σ 154 4), vI x4, vX 9, vX 9, vX 9] [] (WS L σ) (fun r w => R (d + 1) 206 67 [vR 153, u1, u2, u3, vI x4, u5, u6] (am_push r []) w Q) := K_aload_n fi_206_55 rfl <| K_aload_n fi_206_56 rfl <| K_gf fi_206_57 kd_153 mk_153_1 <| K_iconst fi_206_60 <| K_ia fi_206_61 kd_154 (by decide) (show (4 : Int) < 1580 by decide) <| K_iload fi_206_62 rfl <| R_invV fi_206_64 (am_invV_of rfl (kd_153) (Nat.le_of_ble_eq_true rfl) (Nat.le_of_ble_eq_true rfl) rfl rfl)
theorem b206_67 {d L : Nat} {σ : St} {Q : Option AV → AW → Prop} {y0 : Int} {u1 u2 u3 u4 u5 u6 : AV} : R (d + 1) 206 67 [vR 153, u1, u2, u3, u4, u5, u6] [vI y0] (WS L σ) Q = R d 198 0 [vR 153, vI y0, vX 9, vX 9, vX 9, vX 9] [] (WS L σ) (fun r w => R (d + 1) 206 75 [vR 153, u1, u2, u3, u4, vI y0, u6] (am_push r []) w Q) := K_istore fi_206_67 (Nat.le_of_ble_eq_true rfl) rfl rfl <| K_aload_n fi_206_69 rfl <| K_iload fi_206_70 rfl <| R_invV fi_206_72 (am_invV_of rfl (kd_153) (Nat.le_of_ble_eq_true rfl) (Nat.le_of_ble_eq_true rfl) rfl rfl)
theorem b206_75 {d L : Nat} {σ : St} {Q : Option AV → AW → Prop} {y0 x5 : Int} {u1 u2 u3 u4 u6 : AV} (h1 : -2147483648 ≤ 203 + y0 ∧ 203 + y0 ≤ 2147483647) (h2 : 0 ≤ 203 + y0) (h3 : (203 + y0) < 1580) : R d 206 75 [vR 153, u1, u2, u3, u4, vI x5, u6] [vI y0] (WS L σ) Q = R d 206 90 [vR 153, u1, u2, u3, u4, vI x5, vI y0] [] (WS L (st2 σ 154 (203 + y0) x5)) Q := K_istore fi_206_75 (Nat.le_of_ble_eq_true rfl) rfl rfl <| K_aload_n fi_206_77 rfl <| K_gf fi_206_78 kd_153 mk_153_1 <| K_sipush fi_206_81 <| K_iload fi_206_84 rfl <| K_iaddx fi_206_86 h1 <| K_iload fi_206_87 rfl <| K_is fi_206_89 kd_154 h2 h3 <| rfl
theorem b206_90 {d L : Nat} {σ : St} {Q : Option AV → AW → Prop} {x2 : Int} {u0 u1 u3 u4 u5 u6 : AV} : R d 206 90 [u0, u1, vI x2, u3, u4, u5, u6] [] (WS L σ) Q = if x2 = 0 then R d 206 130 [u0, u1, vI x2, u3, u4, u5, u6] [] (WS L σ) Q else R d 206 94 [u0, u1, vI x2, u3, u4, u5, u6] [] (WS L σ) Q := K_iload_n fi_206_90 rfl <| R_if_eq fi_206_91 rfl
theorem b206_94 {d L : Nat} {σ : St} {Q : Option AV → AW → Prop} {x3 x4 x6 : Int} {u1 u2 u5 : AV} (h1 : -2147483648 ≤ 8 * x3 ∧ 8 * x3 ≤ 2147483647) (h2 : -2147483648 ≤ 1381 + (8 * x3) ∧ 1381 + (8 * x3) ≤ 2147483647) (h3 : -2147483648 ≤ (1381 + (8 * x3)) + x4 ∧ (1381 + (8 * x3)) + x4 ≤ 2147483647) (h4 : 0 ≤ (1381 + (8 * x3)) + x4) (h5 : ((1381 + (8 * x3)) + x4) < 1580) : R d 206 94 [vR 153, u1, u2, vI x3, vI x4, u5, vI x6] [] (WS L σ) Q = R d 206 112 [vR 153, u1, u2, vI x3, vI x4, u5, vI x6] [] (WS L (st2 σ 154 ((1381 + (8 * x3)) + x4) x6)) Q := K_aload_n fi_206_94 rfl <| K_gf fi_206_95 kd_153 mk_153_1 <| K_sipush fi_206_98 <| K_bipush fi_206_101 <| K_iload_n fi_206_103 rfl <| K_imulx fi_206_104 h1 <| K_iaddx fi_206_105 h2 <| K_iload fi_206_106 rfl <| K_iaddx fi_206_108 h3 <| K_iload fi_206_109 rfl <| K_is fi_206_111 kd_154 h4 h5 <| rfl
theorem b206_112 {d L : Nat} {σ : St} {Q : Option AV → AW → Prop} {x3 x4 x5 : Int} {u1 u2 u6 : AV} (h1 : -2147483648 ≤ 8 * x3 ∧ 8 * x3 ≤ 2147483647) (h2 : -2147483648 ≤ 1477 + (8 * x3) ∧ 1477 + (8 * x3) ≤ 2147483647) (h3 : -2147483648 ≤ (1477 + (8 * x3)) + x4 ∧ (1477 + (8 * x3)) + x4 ≤ 2147483647) (h4 : 0 ≤ (1477 + (8 * x3)) + x4) (h5 : ((1477 + (8 * x3)) + x4) < 1580) : R d 206 112 [vR 153, u1, u2, vI x3, vI x4, vI x5, u6] [] (WS L σ) Q = R d 206 130 [vR 153, u1, u2, vI x3, vI x4, vI x5, u6] [] (WS L (st2 σ 154 ((1477 + (8 * x3)) + x4) x5)) Q := K_aload_n fi_206_112 rfl <| K_gf fi_206_113 kd_153 mk_153_1 <| K_sipush fi_206_116 <| K_bipush fi_206_119 <| K_iload_n fi_206_121 rfl <| K_imulx fi_206_122 h1 <| K_iaddx fi_206_123 h2 <| K_iload fi_206_124 rfl <| K_iaddx fi_206_126 h3 <| K_iload fi_206_127 rfl <| K_is fi_206_129 kd_154 h4 h5 <| rfl
theorem b206_130 {d L : Nat} {σ : St} {Q : Option AV → AW → Prop} {x4 : Int} {u0 u1 u2 u3 u5 u6 : AV} (h1 : -2147483648 ≤ x4 + 1 ∧ x4 + 1 ≤ 2147483647) : R d 206 130 [u0, u1, u2, u3, vI x4, u5, u6] [] (WS L σ) Q = R d 206 44 [u0, u1, u2, u3, vI (x4 + 1), u5, u6] [] (WS L σ) Q := K_iincx fi_206_130 rfl (Nat.le_of_ble_eq_true rfl) rfl h1 rfl <| R_goto fi_206_133 rfl
theorem b206_136 {d L : Nat} {σ : St} {Q : Option AV → AW → Prop} {x2 : Int} {u0 u1 u3 u4 u5 u6 : AV} : R d 206 136 [u0, u1, vI x2, u3, u4, u5, u6] [] (WS L σ) Q = if x2 = 0 then R d 206 166 [u0, u1, vI x2, u3, u4, u5, u6] [] (WS L σ) Q else R d 206 140 [u0, u1, vI x2, u3, u4, u5, u6] [] (WS L σ) Q := K_iload_n fi_206_136 rfl <| R_if_eq fi_206_137 rfl
theorem b206_140 {d L : Nat} {σ : St} {Q : Option AV → AW → Prop} {x3 : Int} {u1 u2 u4 u5 u6 : AV} (h1 : -2147483648 ≤ 1369 + x3 ∧ 1369 + x3 ≤ 2147483647) (h2 : 0 ≤ 1369 + x3) (h3 : (1369 + x3) < 1580) : R d 206 140 [vR 153, u1, u2, vI x3, u4, u5, u6] [] (WS L σ) Q = R d 206 156 [vR 153, u1, u2, vI x3, u4, u5, u6] [] (WS L (st2 σ 154 (1369 + x3) (σ 154 0))) Q := K_aload_n fi_206_140 rfl <| K_gf fi_206_141 kd_153 mk_153_1 <| K_sipush fi_206_144 <| K_iload_n fi_206_147 rfl <| K_iaddx fi_206_148 h1 <| K_aload_n fi_206_149 rfl <| K_gf fi_206_150 kd_153 mk_153_1 <| K_iconst fi_206_153 <| K_ia fi_206_154 kd_154 (by decide) (show (0 : Int) < 1580 by decide) <| K_is fi_206_155 kd_154 h2 h3 <| rfl
theorem b206_156 {d L : Nat} {σ : St} {Q : Option AV → AW → Prop} {u1 u2 u3 u4 u5 u6 : AV} (h1 : -2147483648 ≤ (σ 154 3) + 1 ∧ (σ 154 3) + 1 ≤ 2147483647) : R d 206 156 [vR 153, u1, u2, u3, u4, u5, u6] [] (WS L σ) Q = R d 206 166 [vR 153, u1, u2, u3, u4, u5, u6] [] (WS L (st2 σ 154 3 ((σ 154 3) + 1))) Q := K_aload_n fi_206_156 rfl <| K_gf fi_206_157 kd_153 mk_153_1 <| K_iconst fi_206_160 <| K_dup2 fi_206_161 <| K_ia fi_206_162 kd_154 (by decide) (show (3 : Int) < 1580 by decide) <| K_iconst fi_206_163 <| K_iaddx fi_206_164 h1 <| K_is fi_206_165 kd_154 (by decide) (show (3 : Int) < 1580 by decide) <| rfl
theorem b206_166 {d L : Nat} {σ : St} {Q : Option AV → AW → Prop} {u1 u2 u3 u4 u5 u6 : AV} : R d 206 166 [vR 153, u1, u2, u3, u4, u5, u6] [] (WS L σ) Q = Q (some (vI (σ 154 0))) (WS L σ) := K_aload_n fi_206_166 rfl <| K_gf fi_206_167 kd_153 mk_153_1 <| K_iconst fi_206_170 <| K_ia fi_206_171 kd_154 (by decide) (show (0 : Int) < 1580 by decide) <| R_ireti fi_206_172 rfl
theorem fi_207_0 : am_find 207 0 = some (.iload_n 1, 1, 0, 0, 0) := by decide +kernel
theorem fi_207_1 : am_find 207 1 = some (.iconst 0, 1, 0, 0, 0) := by decide +kernel
theorem fi_207_2 : am_find 207 2 = some (.iconst 1, 1, 0, 1, 0) := by decide +kernel
theorem fi_207_3 : am_find 207 3 = some (.invokestatic 49, 3, 145, 3, 170) := by decide +kernel
theorem fi_207_6 : am_find 207 6 = some (.ifCond .ne 5, 3, 0, 0, 0) := by decide +kernel
theorem fi_207_9 : am_find 207 9 = some (.iconst (-1), 1, 0, (-1), 0) := by decide +kernel
theorem fi_207_10 : am_find 207 10 = some (.ireturn, 1, 0, 0, 0) := by decide +kernel
theorem fi_207_11 : am_find 207 11 = some (.iconst 0, 1, 0, 0, 0) := by decide +kernel
theorem fi_207_12 : am_find 207 12 = some (.istore_n 2, 1, 0, 0, 0) := by decide +kernel
theorem fi_207_13 : am_find 207 13 = some (.iconst 0, 1, 0, 0, 0) := by decide +kernel
theorem fi_207_14 : am_find 207 14 = some (.istore_n 3, 1, 0, 0, 0) := by decide +kernel
theorem fi_207_15 : am_find 207 15 = some (.iload_n 3, 1, 0, 0, 0) := by decide +kernel
theorem fi_207_16 : am_find 207 16 = some (.aload_n 0, 1, 0, 0, 0) := by decide +kernel
theorem fi_207_17 : am_find 207 17 = some (.getfield 7, 3, 10, 1, 101) := by decide +kernel
theorem fi_207_20 : am_find 207 20 = some (.iconst 0, 1, 0, 0, 0) := by decide +kernel
theorem fi_207_21 : am_find 207 21 = some (.iaload, 1, 0, 0, 0) := by decide +kernel
theorem fi_207_22 : am_find 207 22 = some (.if_icmp .ge 22, 3, 0, 0, 0) := by decide +kernel
theorem fi_207_25 : am_find 207 25 = some (.iload_n 2, 1, 0, 0, 0) := by decide +kernel
theorem fi_207_26 : am_find 207 26 = some (.aload_n 0, 1, 0, 0, 0) := by decide +kernel
theorem fi_207_27 : am_find 207 27 = some (.getfield 7, 3, 10, 1, 101) := by decide +kernel
theorem fi_207_30 : am_find 207 30 = some (.sipush 138, 3, 0, 138, 0) := by decide +kernel
theorem fi_207_33 : am_find 207 33 = some (.iload_n 3, 1, 0, 0, 0) := by decide +kernel
theorem fi_207_34 : am_find 207 34 = some (.iadd, 1, 0, 0, 0) := by decide +kernel
theorem fi_207_35 : am_find 207 35 = some (.iaload, 1, 0, 0, 0) := by decide +kernel
theorem fi_207_36 : am_find 207 36 = some (.iadd, 1, 0, 0, 0) := by decide +kernel
theorem fi_207_37 : am_find 207 37 = some (.istore_n 2, 1, 0, 0, 0) := by decide +kernel
theorem fi_207_38 : am_find 207 38 = some (.iinc 3 1, 3, 0, 0, 0) := by decide +kernel
theorem fi_207_41 : am_find 207 41 = some (.goto (-26), 3, 0, 0, 0) := by decide +kernel
theorem fi_207_44 : am_find 207 44 = some (.iconst (-1), 1, 0, (-1), 0) := by decide +kernel
theorem fi_207_45 : am_find 207 45 = some (.istore_n 3, 1, 0, 0, 0) := by decide +kernel
theorem fi_207_46 : am_find 207 46 = some (.iconst 0, 1, 0, 0, 0) := by decide +kernel
theorem fi_207_47 : am_find 207 47 = some (.istore 4, 2, 0, 0, 0) := by decide +kernel
theorem fi_207_49 : am_find 207 49 = some (.iconst 0, 1, 0, 0, 0) := by decide +kernel
theorem fi_207_50 : am_find 207 50 = some (.istore 5, 2, 0, 0, 0) := by decide +kernel
theorem fi_207_52 : am_find 207 52 = some (.iload 5, 2, 0, 0, 0) := by decide +kernel
theorem fi_207_54 : am_find 207 54 = some (.iconst 1, 1, 0, 1, 0) := by decide +kernel
theorem fi_207_55 : am_find 207 55 = some (.aload_n 0, 1, 0, 0, 0) := by decide +kernel
theorem fi_207_56 : am_find 207 56 = some (.getfield 7, 3, 10, 1, 101) := by decide +kernel
theorem fi_207_59 : am_find 207 59 = some (.iconst 0, 1, 0, 0, 0) := by decide +kernel
theorem fi_207_60 : am_find 207 60 = some (.iaload, 1, 0, 0, 0) := by decide +kernel
theorem fi_207_61 : am_find 207 61 = some (.ishl, 1, 0, 0, 0) := by decide +kernel
theorem fi_207_62 : am_find 207 62 = some (.if_icmp .ge 149, 3, 0, 0, 0) := by decide +kernel
theorem fi_207_65 : am_find 207 65 = some (.iconst 0, 1, 0, 0, 0) := by decide +kernel
theorem fi_207_66 : am_find 207 66 = some (.istore 6, 2, 0, 0, 0) := by decide +kernel
theorem fi_207_68 : am_find 207 68 = some (.iconst 0, 1, 0, 0, 0) := by decide +kernel
theorem fi_207_69 : am_find 207 69 = some (.istore 7, 2, 0, 0, 0) := by decide +kernel
theorem fi_207_71 : am_find 207 71 = some (.iload 7, 2, 0, 0, 0) := by decide +kernel
theorem fi_207_73 : am_find 207 73 = some (.aload_n 0, 1, 0, 0, 0) := by decide +kernel
theorem fi_207_74 : am_find 207 74 = some (.getfield 7, 3, 10, 1, 101) := by decide +kernel
theorem fi_207_77 : am_find 207 77 = some (.iconst 0, 1, 0, 0, 0) := by decide +kernel
theorem fi_207_78 : am_find 207 78 = some (.iaload, 1, 0, 0, 0) := by decide +kernel
theorem fi_207_79 : am_find 207 79 = some (.if_icmp .ge 40, 3, 0, 0, 0) := by decide +kernel
theorem fi_207_82 : am_find 207 82 = some (.iload 6, 2, 0, 0, 0) := by decide +kernel
theorem fi_207_84 : am_find 207 84 = some (.iload 5, 2, 0, 0, 0) := by decide +kernel
theorem fi_207_86 : am_find 207 86 = some (.iload 7, 2, 0, 0, 0) := by decide +kernel
theorem fi_207_88 : am_find 207 88 = some (.ishr, 1, 0, 0, 0) := by decide +kernel
theorem fi_207_89 : am_find 207 89 = some (.iconst 1, 1, 0, 1, 0) := by decide +kernel
theorem fi_207_90 : am_find 207 90 = some (.iand, 1, 0, 0, 0) := by decide +kernel
theorem fi_207_91 : am_find 207 91 = some (.iconst 1, 1, 0, 1, 0) := by decide +kernel
theorem fi_207_92 : am_find 207 92 = some (.if_icmp .ne 17, 3, 0, 0, 0) := by decide +kernel
theorem fi_207_95 : am_find 207 95 = some (.aload_n 0, 1, 0, 0, 0) := by decide +kernel
theorem fi_207_96 : am_find 207 96 = some (.getfield 7, 3, 10, 1, 101) := by decide +kernel
theorem fi_207_99 : am_find 207 99 = some (.sipush 138, 3, 0, 138, 0) := by decide +kernel
theorem fi_207_102 : am_find 207 102 = some (.iload 7, 2, 0, 0, 0) := by decide +kernel
theorem fi_207_104 : am_find 207 104 = some (.iadd, 1, 0, 0, 0) := by decide +kernel
theorem fi_207_105 : am_find 207 105 = some (.iaload, 1, 0, 0, 0) := by decide +kernel
theorem fi_207_106 : am_find 207 106 = some (.goto 4, 3, 0, 0, 0) := by decide +kernel
theorem fi_207_109 : am_find 207 109 = some (.iconst 0, 1, 0, 0, 0) := by decide +kernel
theorem fi_207_110 : am_find 207 110 = some (.iadd, 1, 0, 0, 0) := by decide +kernel
theorem fi_207_111 : am_find 207 111 = some (.istore 6, 2, 0, 0, 0) := by decide +kernel
theorem fi_207_113 : am_find 207 113 = some (.iinc 7 1, 3, 0, 0, 0) := by decide +kernel
theorem fi_207_116 : am_find 207 116 = some (.goto (-45), 3, 0, 0, 0) := by decide +kernel
theorem fi_207_119 : am_find 207 119 = some (.iload_n 2, 1, 0, 0, 0) := by decide +kernel
theorem fi_207_120 : am_find 207 120 = some (.iconst 2, 1, 0, 2, 0) := by decide +kernel
theorem fi_207_121 : am_find 207 121 = some (.iload 6, 2, 0, 0, 0) := by decide +kernel
theorem fi_207_123 : am_find 207 123 = some (.imul, 1, 0, 0, 0) := by decide +kernel
theorem fi_207_124 : am_find 207 124 = some (.if_icmp .le 12, 3, 0, 0, 0) := by decide +kernel
theorem fi_207_127 : am_find 207 127 = some (.iload_n 2, 1, 0, 0, 0) := by decide +kernel
theorem fi_207_128 : am_find 207 128 = some (.iconst 2, 1, 0, 2, 0) := by decide +kernel
theorem fi_207_129 : am_find 207 129 = some (.iload 6, 2, 0, 0, 0) := by decide +kernel
theorem fi_207_131 : am_find 207 131 = some (.imul, 1, 0, 0, 0) := by decide +kernel
theorem fi_207_132 : am_find 207 132 = some (.isub, 1, 0, 0, 0) := by decide +kernel
theorem fi_207_133 : am_find 207 133 = some (.goto 9, 3, 0, 0, 0) := by decide +kernel
theorem fi_207_136 : am_find 207 136 = some (.iconst 2, 1, 0, 2, 0) := by decide +kernel
theorem fi_207_137 : am_find 207 137 = some (.iload 6, 2, 0, 0, 0) := by decide +kernel
theorem fi_207_139 : am_find 207 139 = some (.imul, 1, 0, 0, 0) := by decide +kernel
theorem fi_207_140 : am_find 207 140 = some (.iload_n 2, 1, 0, 0, 0) := by decide +kernel
theorem fi_207_141 : am_find 207 141 = some (.isub, 1, 0, 0, 0) := by decide +kernel
theorem fi_207_142 : am_find 207 142 = some (.istore 7, 2, 0, 0, 0) := by decide +kernel
theorem fi_207_144 : am_find 207 144 = some (.iload 5, 2, 0, 0, 0) := by decide +kernel
theorem fi_207_146 : am_find 207 146 = some (.invokestatic 217, 3, 200, 1, 207) := by decide +kernel
theorem fi_207_149 : am_find 207 149 = some (.aload_n 0, 1, 0, 0, 0) := by decide +kernel
theorem fi_207_150 : am_find 207 150 = some (.getfield 7, 3, 10, 1, 101) := by decide +kernel
theorem fi_207_153 : am_find 207 153 = some (.iconst 0, 1, 0, 0, 0) := by decide +kernel
theorem fi_207_154 : am_find 207 154 = some (.iaload, 1, 0, 0, 0) := by decide +kernel
theorem fi_207_155 : am_find 207 155 = some (.iconst 2, 1, 0, 2, 0) := by decide +kernel
theorem fi_207_156 : am_find 207 156 = some (.idiv, 1, 0, 0, 0) := by decide +kernel
theorem fi_207_157 : am_find 207 157 = some (.if_icmp .ne 19, 3, 0, 0, 0) := by decide +kernel
theorem fi_207_160 : am_find 207 160 = some (.iload_n 3, 1, 0, 0, 0) := by decide +kernel
theorem fi_207_161 : am_find 207 161 = some (.iconst (-1), 1, 0, (-1), 0) := by decide +kernel
theorem fi_207_162 : am_find 207 162 = some (.if_icmp .eq 10, 3, 0, 0, 0) := by decide +kernel
theorem fi_207_165 : am_find 207 165 = some (.iload 7, 2, 0, 0, 0) := by decide +kernel
theorem fi_207_167 : am_find 207 167 = some (.iload 4, 2, 0, 0, 0) := by decide +kernel
theorem fi_207_169 : am_find 207 169 = some (.if_icmp .ge 7, 3, 0, 0, 0) := by decide +kernel
theorem fi_207_172 : am_find 207 172 = some (.iconst 1, 1, 0, 1, 0) := by decide +kernel
theorem fi_207_173 : am_find 207 173 = some (.goto 4, 3, 0, 0, 0) := by decide +kernel
theorem fi_207_176 : am_find 207 176 = some (.iconst 0, 1, 0, 0, 0) := by decide +kernel
theorem fi_207_177 : am_find 207 177 = some (.istore 8, 2, 0, 0, 0) := by decide +kernel
theorem fi_207_179 : am_find 207 179 = some (.iload 8, 2, 0, 0, 0) := by decide +kernel
theorem fi_207_181 : am_find 207 181 = some (.ifCond .eq 8, 3, 0, 0, 0) := by decide +kernel
theorem fi_207_184 : am_find 207 184 = some (.iload 5, 2, 0, 0, 0) := by decide +kernel
theorem fi_207_186 : am_find 207 186 = some (.goto 4, 3, 0, 0, 0) := by decide +kernel
theorem fi_207_189 : am_find 207 189 = some (.iload_n 3, 1, 0, 0, 0) := by decide +kernel
theorem fi_207_190 : am_find 207 190 = some (.istore_n 3, 1, 0, 0, 0) := by decide +kernel
theorem fi_207_191 : am_find 207 191 = some (.iload 8, 2, 0, 0, 0) := by decide +kernel
theorem fi_207_193 : am_find 207 193 = some (.ifCond .eq 8, 3, 0, 0, 0) := by decide +kernel
theorem fi_207_196 : am_find 207 196 = some (.iload 7, 2, 0, 0, 0) := by decide +kernel
theorem fi_207_198 : am_find 207 198 = some (.goto 5, 3, 0, 0, 0) := by decide +kernel
theorem fi_207_201 : am_find 207 201 = some (.iload 4, 2, 0, 0, 0) := by decide +kernel
theorem fi_207_203 : am_find 207 203 = some (.istore 4, 2, 0, 0, 0) := by decide +kernel
theorem fi_207_205 : am_find 207 205 = some (.iinc 5 1, 3, 0, 0, 0) := by decide +kernel
theorem fi_207_208 : am_find 207 208 = some (.goto (-156), 3, 0, 0, 0) := by decide +kernel
theorem fi_207_211 : am_find 207 211 = some (.iload_n 1, 1, 0, 0, 0) := by decide +kernel
theorem fi_207_212 : am_find 207 212 = some (.ifCond .ne 7, 3, 0, 0, 0) := by decide +kernel
theorem fi_207_215 : am_find 207 215 = some (.iload_n 3, 1, 0, 0, 0) := by decide +kernel
theorem fi_207_216 : am_find 207 216 = some (.goto 5, 3, 0, 0, 0) := by decide +kernel
theorem fi_207_219 : am_find 207 219 = some (.iload 4, 2, 0, 0, 0) := by decide +kernel
theorem fi_207_221 : am_find 207 221 = some (.ireturn, 1, 0, 0, 0) := by decide +kernel
theorem b207_0 {d L : Nat} {σ : St} {Q : Option AV → AW → Prop} {x1 : Int} {u0 u2 u3 u4 u5 u6 u7 u8 : AV} : R (d + 1) 207 0 [u0, vI x1, u2, u3, u4, u5, u6, u7, u8] [] (WS L σ) Q = R d 145 0 [vI x1, vI 0, vI 1] [] (WS L σ) (fun r w => R (d + 1) 207 6 [u0, vI x1, u2, u3, u4, u5, u6, u7, u8] (am_push r []) w Q) := K_iload_n fi_207_0 rfl <| K_iconst fi_207_1 <| K_iconst fi_207_2 <| R_invS fi_207_3 (by decide) (am_invS_of (Nat.le_of_ble_eq_true rfl) rfl (Nat.le_of_ble_eq_true rfl) (Nat.le_of_ble_eq_true rfl) rfl rfl)
theorem b207_6 {d L : Nat} {σ : St} {Q : Option AV → AW → Prop} {y0 : Int} {u0 u1 u2 u3 u4 u5 u6 u7 u8 : AV} : R d 207 6 [u0, u1, u2, u3, u4, u5, u6, u7, u8] [vI y0] (WS L σ) Q = if ¬ y0 = 0 then R d 207 11 [u0, u1, u2, u3, u4, u5, u6, u7, u8] [] (WS L σ) Q else R d 207 9 [u0, u1, u2, u3, u4, u5, u6, u7, u8] [] (WS L σ) Q := R_if_ne fi_207_6 rfl
theorem b207_9 {d L : Nat} {σ : St} {Q : Option AV → AW → Prop} {u0 u1 u2 u3 u4 u5 u6 u7 u8 : AV} : R d 207 9 [u0, u1, u2, u3, u4, u5, u6, u7, u8] [] (WS L σ) Q = Q (some (vI (-1))) (WS L σ) := K_iconst fi_207_9 <| R_ireti fi_207_10 rfl
theorem b207_11 {d L : Nat} {σ : St} {Q : Option AV → AW → Prop} {x1 : Int} {u0 u2 u3 u4 u5 u6 u7 u8 : AV} : R d 207 11 [u0, vI x1, u2, u3, u4, u5, u6, u7, u8] [] (WS L σ) Q = R d 207 15 [u0, vI x1, vI 0, vI 0, u4, u5, u6, u7, u8] [] (WS L σ) Q := K_iconst fi_207_11 <| K_istore_n fi_207_12 (Nat.le_of_ble_eq_true rfl) rfl rfl <| K_iconst fi_207_13 <| K_istore_n fi_207_14 (Nat.le_of_ble_eq_true rfl) rfl rfl <| rfl
theorem b207_15 {d L : Nat} {σ : St} {Q : Option AV → AW → Prop} {x3 : Int} {u1 u2 u4 u5 u6 u7 u8 : AV} : R d 207 15 [vR 153, u1, u2, vI x3, u4, u5, u6, u7, u8] [] (WS L σ) Q = if (σ 154 0) ≤ x3 then R d 207 44 [vR 153, u1, u2, vI x3, u4, u5, u6, u7, u8] [] (WS L σ) Q else R d 207 25 [vR 153, u1, u2, vI x3, u4, u5, u6, u7, u8] [] (WS L σ) Q := K_iload_n fi_207_15 rfl <| K_aload_n fi_207_16 rfl <| K_gf fi_207_17 kd_153 mk_153_1 <| K_iconst fi_207_20 <| K_ia fi_207_21 kd_154 (by decide) (show (0 : Int) < 1580 by decide) <| R_icmp_ge fi_207_22 rfl
theorem b207_25 {d L : Nat} {σ : St} {Q : Option AV → AW → Prop} {x2 x3 x1 : Int} {u4 u5 u6 u7 u8 : AV} (h1 : -2147483648 ≤ 138 + x3 ∧ 138 + x3 ≤ 2147483647) (h2 : 0 ≤ 138 + x3) (h3 : (138 + x3) < 1580) (h4 : -2147483648 ≤ x2 + (σ 154 (138 + x3)) ∧ x2 + (σ 154 (138 + x3)) ≤ 2147483647) (h5 : -2147483648 ≤ x3 + 1 ∧ x3 + 1 ≤ 2147483647) : R d 207 25 [vR 153, vI x1, vI x2, vI x3, u4, u5, u6, u7, u8] [] (WS L σ) Q = R d 207 15 [vR 153, vI x1, vI (x2 + (σ 154 (138 + x3))), vI (x3 + 1), u4, u5, u6, u7, u8] [] (WS L σ) Q := K_iload_n fi_207_25 rfl <| K_aload_n fi_207_26 rfl <| K_gf fi_207_27 kd_153 mk_153_1 <| K_sipush fi_207_30 <| K_iload_n fi_207_33 rfl <| K_iaddx fi_207_34 h1 <| K_ia fi_207_35 kd_154 h2 h3 <| K_iaddx fi_207_36 h4 <| K_istore_n fi_207_37 (Nat.le_of_ble_eq_true rfl) rfl rfl <| K_iincx fi_207_38 rfl (Nat.le_of_ble_eq_true rfl) rfl h5 rfl <| R_goto fi_207_41 rfl
theorem b207_44 {d L : Nat} {σ : St} {Q : Option AV → AW → Prop} {u0 u1 u2 u3 u4 u5 u6 u7 u8 : AV} : R d 207 44 [u0, u1, u2, u3, u4, u5, u6, u7, u8] [] (WS L σ) Q = R d 207 52 [u0, u1, u2, vI (-1), vI 0, vI 0, u6, u7, u8] [] (WS L σ) Q := K_iconst fi_207_44 <| K_istore_n fi_207_45 (Nat.le_of_ble_eq_true rfl) rfl rfl <| K_iconst fi_207_46 <| K_istore fi_207_47 (Nat.le_of_ble_eq_true rfl) rfl rfl <| K_iconst fi_207_49 <| K_istore fi_207_50 (Nat.le_of_ble_eq_true rfl) rfl rfl <| rfl
theorem b207_52 {d L : Nat} {σ : St} {Q : Option AV → AW → Prop} {x5 : Int} {u1 u2 u3 u4 u6 u7 u8 : AV} : R d 207 52 [vR 153, u1, u2, u3, u4, vI x5, u6, u7, u8] [] (WS L σ) Q = if (i_shl 1 (σ 154 0)) ≤ x5 then R d 207 211 [vR 153, u1, u2, u3, u4, vI x5, u6, u7, u8] [] (WS L σ) Q else R d 207 65 [vR 153, u1, u2, u3, u4, vI x5, u6, u7, u8] [] (WS L σ) Q := K_iload fi_207_52 rfl <| K_iconst fi_207_54 <| K_aload_n fi_207_55 rfl <| K_gf fi_207_56 kd_153 mk_153_1 <| K_iconst fi_207_59 <| K_ia fi_207_60 kd_154 (by decide) (show (0 : Int) < 1580 by decide) <| K_ishl fi_207_61 <| R_icmp_ge fi_207_62 rfl
theorem b207_65 {d L : Nat} {σ : St} {Q : Option AV → AW → Prop} {u0 u1 u2 u3 u4 u5 u6 u7 u8 : AV} : R d 207 65 [u0, u1, u2, u3, u4, u5, u6, u7, u8] [] (WS L σ) Q = R d 207 71 [u0, u1, u2, u3, u4, u5, vI 0, vI 0, u8] [] (WS L σ) Q := K_iconst fi_207_65 <| K_istore fi_207_66 (Nat.le_of_ble_eq_true rfl) rfl rfl <| K_iconst fi_207_68 <| K_istore fi_207_69 (Nat.le_of_ble_eq_true rfl) rfl rfl <| rfl
theorem b207_71 {d L : Nat} {σ : St} {Q : Option AV → AW → Prop} {x7 : Int} {u1 u2 u3 u4 u5 u6 u8 : AV} : R d 207 71 [vR 153, u1, u2, u3, u4, u5, u6, vI x7, u8] [] (WS L σ) Q = if (σ 154 0) ≤ x7 then R d 207 119 [vR 153, u1, u2, u3, u4, u5, u6, vI x7, u8] [] (WS L σ) Q else R d 207 82 [vR 153, u1, u2, u3, u4, u5, u6, vI x7, u8] [] (WS L σ) Q := K_iload fi_207_71 rfl <| K_aload_n fi_207_73 rfl <| K_gf fi_207_74 kd_153 mk_153_1 <| K_iconst fi_207_77 <| K_ia fi_207_78 kd_154 (by decide) (show (0 : Int) < 1580 by decide) <| R_icmp_ge fi_207_79 rfl
theorem b207_82 {d L : Nat} {σ : St} {Q : Option AV → AW → Prop} {x6 x5 x7 : Int} {u0 u1 u2 u3 u4 u8 : AV} : R d 207 82 [u0, u1, u2, u3, u4, vI x5, vI x6, vI x7, u8] [] (WS L σ) Q = if ¬ (i_and (i_shr x5 x7) 1) = 1 then R d 207 109 [u0, u1, u2, u3, u4, vI x5, vI x6, vI x7, u8] [vI x6] (WS L σ) Q else R d 207 95 [u0, u1, u2, u3, u4, vI x5, vI x6, vI x7, u8] [vI x6] (WS L σ) Q := K_iload fi_207_82 rfl <| K_iload fi_207_84 rfl <| K_iload fi_207_86 rfl <| K_ishr fi_207_88 <| K_iconst fi_207_89 <| K_iand fi_207_90 <| K_iconst fi_207_91 <| R_icmp_ne fi_207_92 rfl
theorem b207_95 {d L : Nat} {σ : St} {Q : Option AV → AW → Prop} {y0 x7 : Int} {u1 u2 u3 u4 u5 u6 u8 : AV} (h1 : -2147483648 ≤ 138 + x7 ∧ 138 + x7 ≤ 2147483647) (h2 : 0 ≤ 138 + x7) (h3 : (138 + x7) < 1580) : R d 207 95 [vR 153, u1, u2, u3, u4, u5, u6, vI x7, u8] [vI y0] (WS L σ) Q = R d 207 110 [vR 153, u1, u2, u3, u4, u5, u6, vI x7, u8] [vI (σ 154 (138 + x7)), vI y0] (WS L σ) Q := K_aload_n fi_207_95 rfl <| K_gf fi_207_96 kd_153 mk_153_1 <| K_sipush fi_207_99 <| K_iload fi_207_102 rfl <| K_iaddx fi_207_104 h1 <| K_ia fi_207_105 kd_154 h2 h3 <| R_goto fi_207_106 rfl
theorem b207_109 {d L : Nat} {σ : St} {Q : Option AV → AW → Prop} {y0 : Int} {u0 u1 u2 u3 u4 u5 u6 u7 u8 : AV} : R d 207 109 [u0, u1, u2, u3, u4, u5, u6, u7, u8] [vI y0] (WS L σ) Q = R d 207 110 [u0, u1, u2, u3, u4, u5, u6, u7, u8] [vI 0, vI y0] (WS L σ) Q := K_iconst fi_207_109 <| rfl
theorem b207_110 {d L : Nat} {σ : St} {Q : Option AV → AW → Prop} {y0 y1 x7 : Int} {u0 u1 u2 u3 u4 u5 u6 u8 : AV} (h1 : -2147483648 ≤ y1 + y0 ∧ y1 + y0 ≤ 2147483647) (h2 : -2147483648 ≤ x7 + 1 ∧ x7 + 1 ≤ 2147483647) : R d 207 110 [u0, u1, u2, u3, u4, u5, u6, vI x7, u8] [vI y0, vI y1] (WS L σ) Q = R d 207 71 [u0, u1, u2, u3, u4, u5, vI (y1 + y0), vI (x7 + 1), u8] [] (WS L σ) Q := K_iaddx fi_207_110 h1 <| K_istore fi_207_111 (Nat.le_of_ble_eq_true rfl) rfl rfl <| K_iincx fi_207_113 rfl (Nat.le_of_ble_eq_true rfl) rfl h2 rfl <| R_goto fi_207_116 rfl
theorem b207_119 {d L : Nat} {σ : St} {Q : Option AV → AW → Prop} {x2 x6 : Int} {u0 u1 u3 u4 u5 u7 u8 : AV} (h1 : -2147483648 ≤ 2 * x6 ∧ 2 * x6 ≤ 2147483647) : R d 207 119 [u0, u1, vI x2, u3, u4, u5, vI x6, u7, u8] [] (WS L σ) Q = if x2 ≤ (2 * x6) then R d 207 136 [u0, u1, vI x2, u3, u4, u5, vI x6, u7, u8] [] (WS L σ) Q else R d 207 127 [u0, u1, vI x2, u3, u4, u5, vI x6, u7, u8] [] (WS L σ) Q := K_iload_n fi_207_119 rfl <| K_iconst fi_207_120 <| K_iload fi_207_121 rfl <| K_imulx fi_207_123 h1 <| R_icmp_le fi_207_124 rfl
theorem b207_127 {d L : Nat} {σ : St} {Q : Option AV → AW → Prop} {x2 x6 : Int} {u0 u1 u3 u4 u5 u7 u8 : AV} (h1 : -2147483648 ≤ 2 * x6 ∧ 2 * x6 ≤ 2147483647) (h2 : -2147483648 ≤ x2 - (2 * x6) ∧ x2 - (2 * x6) ≤ 2147483647) : R d 207 127 [u0, u1, vI x2, u3, u4, u5, vI x6, u7, u8] [] (WS L σ) Q = R d 207 142 [u0, u1, vI x2, u3, u4, u5, vI x6, u7, u8] [vI (x2 - (2 * x6))] (WS L σ) Q := K_iload_n fi_207_127 rfl <| K_iconst fi_207_128 <| K_iload fi_207_129 rfl <| K_imulx fi_207_131 h1 <| K_isubx fi_207_132 h2 <| R_goto fi_207_133 rfl
theorem b207_136 {d L : Nat} {σ : St} {Q : Option AV → AW → Prop} {x6 x2 : Int} {u0 u1 u3 u4 u5 u7 u8 : AV} (h1 : -2147483648 ≤ 2 * x6 ∧ 2 * x6 ≤ 2147483647) (h2 : -2147483648 ≤ (2 * x6) - x2 ∧ (2 * x6) - x2 ≤ 2147483647) : R d 207 136 [u0, u1, vI x2, u3, u4, u5, vI x6, u7, u8] [] (WS L σ) Q = R d 207 142 [u0, u1, vI x2, u3, u4, u5, vI x6, u7, u8] [vI ((2 * x6) - x2)] (WS L σ) Q := K_iconst fi_207_136 <| K_iload fi_207_137 rfl <| K_imulx fi_207_139 h1 <| K_iload_n fi_207_140 rfl <| K_isubx fi_207_141 h2 <| rfl
theorem b207_142 {d L : Nat} {σ : St} {Q : Option AV → AW → Prop} {y0 x5 : Int} {u0 u1 u2 u3 u4 u6 u7 u8 : AV} : R (d + 1) 207 142 [u0, u1, u2, u3, u4, vI x5, u6, u7, u8] [vI y0] (WS L σ) Q = R d 200 0 [vI x5, vX 9, vX 9] [] (WS L σ) (fun r w => R (d + 1) 207 149 [u0, u1, u2, u3, u4, vI x5, u6, vI y0, u8] (am_push r []) w Q) := K_istore fi_207_142 (Nat.le_of_ble_eq_true rfl) rfl rfl <| K_iload fi_207_144 rfl <| R_invS fi_207_146 (by decide) (am_invS_of (Nat.le_of_ble_eq_true rfl) rfl (Nat.le_of_ble_eq_true rfl) (Nat.le_of_ble_eq_true rfl) rfl rfl)
theorem b207_149 {d L : Nat} {σ : St} {Q : Option AV → AW → Prop} {y0 : Int} {u1 u2 u3 u4 u5 u6 u7 u8 : AV} : R d 207 149 [vR 153, u1, u2, u3, u4, u5, u6, u7, u8] [vI y0] (WS L σ) Q = if ¬ y0 = (i_div (σ 154 0) 2) then R d 207 176 [vR 153, u1, u2, u3, u4, u5, u6, u7, u8] [] (WS L σ) Q else R d 207 160 [vR 153, u1, u2, u3, u4, u5, u6, u7, u8] [] (WS L σ) Q := K_aload_n fi_207_149 rfl <| K_gf fi_207_150 kd_153 mk_153_1 <| K_iconst fi_207_153 <| K_ia fi_207_154 kd_154 (by decide) (show (0 : Int) < 1580 by decide) <| K_iconst fi_207_155 <| K_idiv fi_207_156 (by decide) <| R_icmp_ne fi_207_157 rfl
theorem b207_160 {d L : Nat} {σ : St} {Q : Option AV → AW → Prop} {x3 : Int} {u0 u1 u2 u4 u5 u6 u7 u8 : AV} : R d 207 160 [u0, u1, u2, vI x3, u4, u5, u6, u7, u8] [] (WS L σ) Q = if x3 = (-1) then R d 207 172 [u0, u1, u2, vI x3, u4, u5, u6, u7, u8] [] (WS L σ) Q else R d 207 165 [u0, u1, u2, vI x3, u4, u5, u6, u7, u8] [] (WS L σ) Q := K_iload_n fi_207_160 rfl <| K_iconst fi_207_161 <| R_icmp_eq fi_207_162 rfl
theorem b207_165 {d L : Nat} {σ : St} {Q : Option AV → AW → Prop} {x7 x4 : Int} {u0 u1 u2 u3 u5 u6 u8 : AV} : R d 207 165 [u0, u1, u2, u3, vI x4, u5, u6, vI x7, u8] [] (WS L σ) Q = if x4 ≤ x7 then R d 207 176 [u0, u1, u2, u3, vI x4, u5, u6, vI x7, u8] [] (WS L σ) Q else R d 207 172 [u0, u1, u2, u3, vI x4, u5, u6, vI x7, u8] [] (WS L σ) Q := K_iload fi_207_165 rfl <| K_iload fi_207_167 rfl <| R_icmp_ge fi_207_169 rfl
theorem b207_172 {d L : Nat} {σ : St} {Q : Option AV → AW → Prop} {u0 u1 u2 u3 u4 u5 u6 u7 u8 : AV} : R d 207 172 [u0, u1, u2, u3, u4, u5, u6, u7, u8] [] (WS L σ) Q = R d 207 177 [u0, u1, u2, u3, u4, u5, u6, u7, u8] [vI 1] (WS L σ) Q := K_iconst fi_207_172 <| R_goto fi_207_173 rfl
theorem b207_176 {d L : Nat} {σ : St} {Q : Option AV → AW → Prop} {u0 u1 u2 u3 u4 u5 u6 u7 u8 : AV} : R d 207 176 [u0, u1, u2, u3, u4, u5, u6, u7, u8] [] (WS L σ) Q = R d 207 177 [u0, u1, u2, u3, u4, u5, u6, u7, u8] [vI 0] (WS L σ) Q := K_iconst fi_207_176 <| rfl
theorem b207_177 {d L : Nat} {σ : St} {Q : Option AV → AW → Prop} {y0 : Int} {u0 u1 u2 u3 u4 u5 u6 u7 u8 : AV} : R d 207 177 [u0, u1, u2, u3, u4, u5, u6, u7, u8] [vI y0] (WS L σ) Q = if y0 = 0 then R d 207 189 [u0, u1, u2, u3, u4, u5, u6, u7, vI y0] [] (WS L σ) Q else R d 207 184 [u0, u1, u2, u3, u4, u5, u6, u7, vI y0] [] (WS L σ) Q := K_istore fi_207_177 (Nat.le_of_ble_eq_true rfl) rfl rfl <| K_iload fi_207_179 rfl <| R_if_eq fi_207_181 rfl
theorem b207_184 {d L : Nat} {σ : St} {Q : Option AV → AW → Prop} {x5 : Int} {u0 u1 u2 u3 u4 u6 u7 u8 : AV} : R d 207 184 [u0, u1, u2, u3, u4, vI x5, u6, u7, u8] [] (WS L σ) Q = R d 207 190 [u0, u1, u2, u3, u4, vI x5, u6, u7, u8] [vI x5] (WS L σ) Q := K_iload fi_207_184 rfl <| R_goto fi_207_186 rfl
theorem b207_189 {d L : Nat} {σ : St} {Q : Option AV → AW → Prop} {x3 : Int} {u0 u1 u2 u4 u5 u6 u7 u8 : AV} : R d 207 189 [u0, u1, u2, vI x3, u4, u5, u6, u7, u8] [] (WS L σ) Q = R d 207 190 [u0, u1, u2, vI x3, u4, u5, u6, u7, u8] [vI x3] (WS L σ) Q := K_iload_n fi_207_189 rfl <| rfl
theorem b207_190 {d L : Nat} {σ : St} {Q : Option AV → AW → Prop} {y0 x8 : Int} {u0 u1 u2 u3 u4 u5 u6 u7 : AV} : R d 207 190 [u0, u1, u2, u3, u4, u5, u6, u7, vI x8] [vI y0] (WS L σ) Q = if x8 = 0 then R d 207 201 [u0, u1, u2, vI y0, u4, u5, u6, u7, vI x8] [] (WS L σ) Q else R d 207 196 [u0, u1, u2, vI y0, u4, u5, u6, u7, vI x8] [] (WS L σ) Q := K_istore_n fi_207_190 (Nat.le_of_ble_eq_true rfl) rfl rfl <| K_iload fi_207_191 rfl <| R_if_eq fi_207_193 rfl
theorem b207_196 {d L : Nat} {σ : St} {Q : Option AV → AW → Prop} {x7 : Int} {u0 u1 u2 u3 u4 u5 u6 u8 : AV} : R d 207 196 [u0, u1, u2, u3, u4, u5, u6, vI x7, u8] [] (WS L σ) Q = R d 207 203 [u0, u1, u2, u3, u4, u5, u6, vI x7, u8] [vI x7] (WS L σ) Q := K_iload fi_207_196 rfl <| R_goto fi_207_198 rfl
theorem b207_201 {d L : Nat} {σ : St} {Q : Option AV → AW → Prop} {x4 : Int} {u0 u1 u2 u3 u5 u6 u7 u8 : AV} : R d 207 201 [u0, u1, u2, u3, vI x4, u5, u6, u7, u8] [] (WS L σ) Q = R d 207 203 [u0, u1, u2, u3, vI x4, u5, u6, u7, u8] [vI x4] (WS L σ) Q := K_iload fi_207_201 rfl <| rfl
theorem b207_203 {d L : Nat} {σ : St} {Q : Option AV → AW → Prop} {y0 x5 : Int} {u0 u1 u2 u3 u4 u6 u7 u8 : AV} (h1 : -2147483648 ≤ x5 + 1 ∧ x5 + 1 ≤ 2147483647) : R d 207 203 [u0, u1, u2, u3, u4, vI x5, u6, u7, u8] [vI y0] (WS L σ) Q = R d 207 52 [u0, u1, u2, u3, vI y0, vI (x5 + 1), u6, u7, u8] [] (WS L σ) Q := K_istore fi_207_203 (Nat.le_of_ble_eq_true rfl) rfl rfl <| K_iincx fi_207_205 rfl (Nat.le_of_ble_eq_true rfl) rfl h1 rfl <| R_goto fi_207_208 rfl
theorem b207_211 {d L : Nat} {σ : St} {Q : Option AV → AW → Prop} {x1 : Int} {u0 u2 u3 u4 u5 u6 u7 u8 : AV} : R d 207 211 [u0, vI x1, u2, u3, u4, u5, u6, u7, u8] [] (WS L σ) Q = if ¬ x1 = 0 then R d 207 219 [u0, vI x1, u2, u3, u4, u5, u6, u7, u8] [] (WS L σ) Q else R d 207 215 [u0, vI x1, u2, u3, u4, u5, u6, u7, u8] [] (WS L σ) Q := K_iload_n fi_207_211 rfl <| R_if_ne fi_207_212 rfl
theorem b207_215 {d L : Nat} {σ : St} {Q : Option AV → AW → Prop} {x3 : Int} {u0 u1 u2 u4 u5 u6 u7 u8 : AV} : R d 207 215 [u0, u1, u2, vI x3, u4, u5, u6, u7, u8] [] (WS L σ) Q = R d 207 221 [u0, u1, u2, vI x3, u4, u5, u6, u7, u8] [vI x3] (WS L σ) Q := K_iload_n fi_207_215 rfl <| R_goto fi_207_216 rfl
theorem b207_219 {d L : Nat} {σ : St} {Q : Option AV → AW → Prop} {x4 : Int} {u0 u1 u2 u3 u5 u6 u7 u8 : AV} : R d 207 219 [u0, u1, u2, u3, vI x4, u5, u6, u7, u8] [] (WS L σ) Q = R d 207 221 [u0, u1, u2, u3, vI x4, u5, u6, u7, u8] [vI x4] (WS L σ) Q := K_iload fi_207_219 rfl <| rfl
theorem b207_221 {d L : Nat} {σ : St} {Q : Option AV → AW → Prop} {y0 : Int} {u0 u1 u2 u3 u4 u5 u6 u7 u8 : AV} : R d 207 221 [u0, u1, u2, u3, u4, u5, u6, u7, u8] [vI y0] (WS L σ) Q = Q (some (vI y0)) (WS L σ) := R_ireti fi_207_221 rfl
theorem fi_208_0 : am_find 208 0 = some (.iload_n 1, 1, 0, 0, 0) := by decide +kernel
theorem fi_208_1 : am_find 208 1 = some (.invokestatic 144, 3, 167, 1, 189) := by decide +kernel
theorem fi_208_4 : am_find 208 4 = some (.ifCond .eq 19, 3, 0, 0, 0) := by decide +kernel
theorem fi_208_7 : am_find 208 7 = some (.iload_n 2, 1, 0, 0, 0) := by decide +kernel
theorem fi_208_8 : am_find 208 8 = some (.invokestatic 144, 3, 167, 1, 189) := by decide +kernel
theorem fi_208_11 : am_find 208 11 = some (.ifCond .eq 12, 3, 0, 0, 0) := by decide +kernel
theorem fi_208_14 : am_find 208 14 = some (.iload_n 3, 1, 0, 0, 0) := by decide +kernel
theorem fi_208_15 : am_find 208 15 = some (.iconst 0, 1, 0, 0, 0) := by decide +kernel
theorem fi_208_16 : am_find 208 16 = some (.iconst 1, 1, 0, 1, 0) := by decide +kernel
theorem fi_208_17 : am_find 208 17 = some (.invokestatic 49, 3, 145, 3, 170) := by decide +kernel
theorem fi_208_20 : am_find 208 20 = some (.ifCond .ne 5, 3, 0, 0, 0) := by decide +kernel
theorem fi_208_23 : am_find 208 23 = some (.iconst (-1), 1, 0, (-1), 0) := by decide +kernel
theorem fi_208_24 : am_find 208 24 = some (.ireturn, 1, 0, 0, 0) := by decide +kernel
theorem fi_208_25 : am_find 208 25 = some (.iload_n 1, 1, 0, 0, 0) := by decide +kernel
theorem fi_208_26 : am_find 208 26 = some (.iload_n 2, 1, 0, 0, 0) := by decide +kernel
theorem fi_208_27 : am_find 208 27 = some (.if_icmp .ne 6, 3, 0, 0, 0) := by decide +kernel
theorem fi_208_30 : am_find 208 30 = some (.bipush (-2), 2, 0, (-2), 0) := by decide +kernel
theorem fi_208_32 : am_find 208 32 = some (.ireturn, 1, 0, 0, 0) := by decide +kernel
theorem fi_208_33 : am_find 208 33 = some (.iconst 1, 1, 0, 1, 0) := by decide +kernel
theorem fi_208_34 : am_find 208 34 = some (.aload_n 0, 1, 0, 0, 0) := by decide +kernel
theorem fi_208_35 : am_find 208 35 = some (.getfield 7, 3, 10, 1, 101) := by decide +kernel
theorem fi_208_38 : am_find 208 38 = some (.iconst 0, 1, 0, 0, 0) := by decide +kernel
theorem fi_208_39 : am_find 208 39 = some (.iaload, 1, 0, 0, 0) := by decide +kernel
theorem fi_208_40 : am_find 208 40 = some (.ishl, 1, 0, 0, 0) := by decide +kernel
theorem fi_208_41 : am_find 208 41 = some (.iconst 1, 1, 0, 1, 0) := by decide +kernel
theorem fi_208_42 : am_find 208 42 = some (.isub, 1, 0, 0, 0) := by decide +kernel
theorem fi_208_43 : am_find 208 43 = some (.istore 4, 2, 0, 0, 0) := by decide +kernel
theorem fi_208_45 : am_find 208 45 = some (.iconst (-1), 1, 0, (-1), 0) := by decide +kernel
theorem fi_208_46 : am_find 208 46 = some (.istore 5, 2, 0, 0, 0) := by decide +kernel
theorem fi_208_48 : am_find 208 48 = some (.iconst 0, 1, 0, 0, 0) := by decide +kernel
theorem fi_208_49 : am_find 208 49 = some (.istore 6, 2, 0, 0, 0) := by decide +kernel
theorem fi_208_51 : am_find 208 51 = some (.iconst 0, 1, 0, 0, 0) := by decide +kernel
theorem fi_208_52 : am_find 208 52 = some (.istore 7, 2, 0, 0, 0) := by decide +kernel
theorem fi_208_54 : am_find 208 54 = some (.iconst 0, 1, 0, 0, 0) := by decide +kernel
theorem fi_208_55 : am_find 208 55 = some (.istore 8, 2, 0, 0, 0) := by decide +kernel
theorem fi_208_57 : am_find 208 57 = some (.iload 8, 2, 0, 0, 0) := by decide +kernel
theorem fi_208_59 : am_find 208 59 = some (.iload 4, 2, 0, 0, 0) := by decide +kernel
theorem fi_208_61 : am_find 208 61 = some (.if_icmp .gt 127, 3, 0, 0, 0) := by decide +kernel
theorem fi_208_64 : am_find 208 64 = some (.iload 4, 2, 0, 0, 0) := by decide +kernel
theorem fi_208_66 : am_find 208 66 = some (.iload 8, 2, 0, 0, 0) := by decide +kernel
theorem fi_208_68 : am_find 208 68 = some (.iconst (-1), 1, 0, (-1), 0) := by decide +kernel
theorem fi_208_69 : am_find 208 69 = some (.ixor, 1, 0, 0, 0) := by decide +kernel
theorem fi_208_70 : am_find 208 70 = some (.iand, 1, 0, 0, 0) := by decide +kernel
theorem fi_208_71 : am_find 208 71 = some (.istore 9, 2, 0, 0, 0) := by decide +kernel
theorem fi_208_73 : am_find 208 73 = some (.iload 8, 2, 0, 0, 0) := by decide +kernel
theorem fi_208_75 : am_find 208 75 = some (.iload 9, 2, 0, 0, 0) := by decide +kernel
theorem fi_208_77 : am_find 208 77 = some (.if_icmp .lt 8, 3, 0, 0, 0) := by decide +kernel
theorem fi_208_80 : am_find 208 80 = some (.iload 4, 2, 0, 0, 0) := by decide +kernel
theorem fi_208_82 : am_find 208 82 = some (.ifCond .ne 100, 3, 0, 0, 0) := by decide +kernel
theorem fi_208_85 : am_find 208 85 = some (.aload_n 0, 1, 0, 0, 0) := by decide +kernel
theorem fi_208_86 : am_find 208 86 = some (.iload_n 2, 1, 0, 0, 0) := by decide +kernel
theorem fi_208_87 : am_find 208 87 = some (.iload 9, 2, 0, 0, 0) := by decide +kernel
theorem fi_208_89 : am_find 208 89 = some (.invokevirtual 155, 3, 169, 2, 190) := by decide +kernel
theorem fi_208_92 : am_find 208 92 = some (.aload_n 0, 1, 0, 0, 0) := by decide +kernel
theorem fi_208_93 : am_find 208 93 = some (.iload_n 2, 1, 0, 0, 0) := by decide +kernel
theorem fi_208_94 : am_find 208 94 = some (.iload 8, 2, 0, 0, 0) := by decide +kernel
theorem fi_208_96 : am_find 208 96 = some (.invokevirtual 155, 3, 169, 2, 190) := by decide +kernel
theorem fi_208_99 : am_find 208 99 = some (.if_icmp .le 8, 3, 0, 0, 0) := by decide +kernel
theorem fi_208_102 : am_find 208 102 = some (.iload 8, 2, 0, 0, 0) := by decide +kernel
theorem fi_208_104 : am_find 208 104 = some (.goto 5, 3, 0, 0, 0) := by decide +kernel
theorem fi_208_107 : am_find 208 107 = some (.iload 9, 2, 0, 0, 0) := by decide +kernel
theorem fi_208_109 : am_find 208 109 = some (.istore 10, 2, 0, 0, 0) := by decide +kernel
theorem fi_208_111 : am_find 208 111 = some (.aload_n 0, 1, 0, 0, 0) := by decide +kernel
theorem fi_208_112 : am_find 208 112 = some (.iload_n 1, 1, 0, 0, 0) := by decide +kernel
theorem fi_208_113 : am_find 208 113 = some (.iload 10, 2, 0, 0, 0) := by decide +kernel
theorem fi_208_115 : am_find 208 115 = some (.invokevirtual 155, 3, 169, 2, 190) := by decide +kernel
theorem fi_208_118 : am_find 208 118 = some (.istore 11, 2, 0, 0, 0) := by decide +kernel
theorem fi_208_120 : am_find 208 120 = some (.iload 5, 2, 0, 0, 0) := by decide +kernel
theorem fi_208_122 : am_find 208 122 = some (.iconst (-1), 1, 0, (-1), 0) := by decide +kernel
theorem fi_208_123 : am_find 208 123 = some (.if_icmp .eq 10, 3, 0, 0, 0) := by decide +kernel
theorem fi_208_126 : am_find 208 126 = some (.iload 11, 2, 0, 0, 0) := by decide +kernel
theorem fi_208_128 : am_find 208 128 = some (.iload 6, 2, 0, 0, 0) := by decide +kernel
theorem fi_208_130 : am_find 208 130 = some (.if_icmp .le 7, 3, 0, 0, 0) := by decide +kernel
theorem fi_208_133 : am_find 208 133 = some (.iconst 1, 1, 0, 1, 0) := by decide +kernel
theorem fi_208_134 : am_find 208 134 = some (.goto 4, 3, 0, 0, 0) := by decide +kernel
theorem fi_208_137 : am_find 208 137 = some (.iconst 0, 1, 0, 0, 0) := by decide +kernel
theorem fi_208_138 : am_find 208 138 = some (.istore 12, 2, 0, 0, 0) := by decide +kernel
theorem fi_208_140 : am_find 208 140 = some (.iload 12, 2, 0, 0, 0) := by decide +kernel
theorem fi_208_142 : am_find 208 142 = some (.ifCond .eq 8, 3, 0, 0, 0) := by decide +kernel
theorem fi_208_145 : am_find 208 145 = some (.iload 8, 2, 0, 0, 0) := by decide +kernel
theorem fi_208_147 : am_find 208 147 = some (.goto 5, 3, 0, 0, 0) := by decide +kernel
theorem fi_208_150 : am_find 208 150 = some (.iload 5, 2, 0, 0, 0) := by decide +kernel
theorem fi_208_152 : am_find 208 152 = some (.istore 5, 2, 0, 0, 0) := by decide +kernel
theorem fi_208_154 : am_find 208 154 = some (.iload 12, 2, 0, 0, 0) := by decide +kernel
theorem fi_208_156 : am_find 208 156 = some (.ifCond .eq 8, 3, 0, 0, 0) := by decide +kernel
theorem fi_208_159 : am_find 208 159 = some (.iload 10, 2, 0, 0, 0) := by decide +kernel
theorem fi_208_161 : am_find 208 161 = some (.goto 5, 3, 0, 0, 0) := by decide +kernel
theorem fi_208_164 : am_find 208 164 = some (.iload 7, 2, 0, 0, 0) := by decide +kernel
theorem fi_208_166 : am_find 208 166 = some (.istore 7, 2, 0, 0, 0) := by decide +kernel
theorem fi_208_168 : am_find 208 168 = some (.iload 12, 2, 0, 0, 0) := by decide +kernel
theorem fi_208_170 : am_find 208 170 = some (.ifCond .eq 8, 3, 0, 0, 0) := by decide +kernel
theorem fi_208_173 : am_find 208 173 = some (.iload 11, 2, 0, 0, 0) := by decide +kernel
theorem fi_208_175 : am_find 208 175 = some (.goto 5, 3, 0, 0, 0) := by decide +kernel
theorem fi_208_178 : am_find 208 178 = some (.iload 6, 2, 0, 0, 0) := by decide +kernel
theorem fi_208_180 : am_find 208 180 = some (.istore 6, 2, 0, 0, 0) := by decide +kernel
theorem fi_208_182 : am_find 208 182 = some (.iinc 8 1, 3, 0, 0, 0) := by decide +kernel
theorem fi_208_185 : am_find 208 185 = some (.goto (-128), 3, 0, 0, 0) := by decide +kernel
theorem fi_208_188 : am_find 208 188 = some (.iload_n 3, 1, 0, 0, 0) := by decide +kernel
theorem fi_208_189 : am_find 208 189 = some (.ifCond .ne 8, 3, 0, 0, 0) := by decide +kernel
theorem fi_208_192 : am_find 208 192 = some (.iload 5, 2, 0, 0, 0) := by decide +kernel
theorem fi_208_194 : am_find 208 194 = some (.goto 5, 3, 0, 0, 0) := by decide +kernel
theorem fi_208_197 : am_find 208 197 = some (.iload 7, 2, 0, 0, 0) := by decide +kernel
theorem fi_208_199 : am_find 208 199 = some (.ireturn, 1, 0, 0, 0) := by decide +kernel
theorem b208_0 {d L : Nat} {σ : St} {Q : Option AV → AW → Prop} {x1 : Int} {u0 u2 u3 u4 u5 u6 u7 u8 u9 u10 u11 u12 : AV} : R (d + 1) 208 0 [u0, vI x1, u2, u3, u4, u5, u6, u7, u8, u9, u10, u11, u12] [] (WS L σ) Q = R d 167 0 [vI x1] [] (WS L σ) (fun r w => R (d + 1) 208 4 [u0, vI x1, u2, u3, u4, u5, u6, u7, u8, u9, u10, u11, u12] (am_push r []) w Q) := K_iload_n fi_208_0 rfl <| R_invS fi_208_1 (by decide) (am_invS_of (Nat.le_of_ble_eq_true rfl) rfl (Nat.le_of_ble_eq_true rfl) (Nat.le_of_ble_eq_true rfl) rfl rfl)
theorem b208_4 {d L : Nat} {σ : St} {Q : Option AV → AW → Prop} {y0 : Int} {u0 u1 u2 u3 u4 u5 u6 u7 u8 u9 u10 u11 u12 : AV} : R d 208 4 [u0, u1, u2, u3, u4, u5, u6, u7, u8, u9, u10, u11, u12] [vI y0] (WS L σ) Q = if y0 = 0 then R d 208 23 [u0, u1, u2, u3, u4, u5, u6, u7, u8, u9, u10, u11, u12] [] (WS L σ) Q else R d 208 7 [u0, u1, u2, u3, u4, u5, u6, u7, u8, u9, u10, u11, u12] [] (WS L σ) Q := R_if_eq fi_208_4 rfl
theorem b208_7 {d L : Nat} {σ : St} {Q : Option AV → AW → Prop} {x2 : Int} {u0 u1 u3 u4 u5 u6 u7 u8 u9 u10 u11 u12 : AV} : R (d + 1) 208 7 [u0, u1, vI x2, u3, u4, u5, u6, u7, u8, u9, u10, u11, u12] [] (WS L σ) Q = R d 167 0 [vI x2] [] (WS L σ) (fun r w => R (d + 1) 208 11 [u0, u1, vI x2, u3, u4, u5, u6, u7, u8, u9, u10, u11, u12] (am_push r []) w Q) := K_iload_n fi_208_7 rfl <| R_invS fi_208_8 (by decide) (am_invS_of (Nat.le_of_ble_eq_true rfl) rfl (Nat.le_of_ble_eq_true rfl) (Nat.le_of_ble_eq_true rfl) rfl rfl)
theorem b208_11 {d L : Nat} {σ : St} {Q : Option AV → AW → Prop} {y0 : Int} {u0 u1 u2 u3 u4 u5 u6 u7 u8 u9 u10 u11 u12 : AV} : R d 208 11 [u0, u1, u2, u3, u4, u5, u6, u7, u8, u9, u10, u11, u12] [vI y0] (WS L σ) Q = if y0 = 0 then R d 208 23 [u0, u1, u2, u3, u4, u5, u6, u7, u8, u9, u10, u11, u12] [] (WS L σ) Q else R d 208 14 [u0, u1, u2, u3, u4, u5, u6, u7, u8, u9, u10, u11, u12] [] (WS L σ) Q := R_if_eq fi_208_11 rfl
theorem b208_14 {d L : Nat} {σ : St} {Q : Option AV → AW → Prop} {x3 : Int} {u0 u1 u2 u4 u5 u6 u7 u8 u9 u10 u11 u12 : AV} : R (d + 1) 208 14 [u0, u1, u2, vI x3, u4, u5, u6, u7, u8, u9, u10, u11, u12] [] (WS L σ) Q = R d 145 0 [vI x3, vI 0, vI 1] [] (WS L σ) (fun r w => R (d + 1) 208 20 [u0, u1, u2, vI x3, u4, u5, u6, u7, u8, u9, u10, u11, u12] (am_push r []) w Q) := K_iload_n fi_208_14 rfl <| K_iconst fi_208_15 <| K_iconst fi_208_16 <| R_invS fi_208_17 (by decide) (am_invS_of (Nat.le_of_ble_eq_true rfl) rfl (Nat.le_of_ble_eq_true rfl) (Nat.le_of_ble_eq_true rfl) rfl rfl)
theorem b208_20 {d L : Nat} {σ : St} {Q : Option AV → AW → Prop} {y0 : Int} {u0 u1 u2 u3 u4 u5 u6 u7 u8 u9 u10 u11 u12 : AV} : R d 208 20 [u0, u1, u2, u3, u4, u5, u6, u7, u8, u9, u10, u11, u12] [vI y0] (WS L σ) Q = if ¬ y0 = 0 then R d 208 25 [u0, u1, u2, u3, u4, u5, u6, u7, u8, u9, u10, u11, u12] [] (WS L σ) Q else R d 208 23 [u0, u1, u2, u3, u4, u5, u6, u7, u8, u9, u10, u11, u12] [] (WS L σ) Q := R_if_ne fi_208_20 rfl
theorem b208_23 {d L : Nat} {σ : St} {Q : Option AV → AW → Prop} {u0 u1 u2 u3 u4 u5 u6 u7 u8 u9 u10 u11 u12 : AV} : R d 208 23 [u0, u1, u2, u3, u4, u5, u6, u7, u8, u9, u10, u11, u12] [] (WS L σ) Q = Q (some (vI (-1))) (WS L σ) := K_iconst fi_208_23 <| R_ireti fi_208_24 rfl
theorem b208_25 {d L : Nat} {σ : St} {Q : Option AV → AW → Prop} {x1 x2 : Int} {u0 u3 u4 u5 u6 u7 u8 u9 u10 u11 u12 : AV} : R d 208 25 [u0, vI x1, vI x2, u3, u4, u5, u6, u7, u8, u9, u10, u11, u12] [] (WS L σ) Q = if ¬ x1 = x2 then R d 208 33 [u0, vI x1, vI x2, u3, u4, u5, u6, u7, u8, u9, u10, u11, u12] [] (WS L σ) Q else R d 208 30 [u0, vI x1, vI x2, u3, u4, u5, u6, u7, u8, u9, u10, u11, u12] [] (WS L σ) Q := K_iload_n fi_208_25 rfl <| K_iload_n fi_208_26 rfl <| R_icmp_ne fi_208_27 rfl
theorem b208_30 {d L : Nat} {σ : St} {Q : Option AV → AW → Prop} {u0 u1 u2 u3 u4 u5 u6 u7 u8 u9 u10 u11 u12 : AV} : R d 208 30 [u0, u1, u2, u3, u4, u5, u6, u7, u8, u9, u10, u11, u12] [] (WS L σ) Q = Q (some (vI (-2))) (WS L σ) := K_bipush fi_208_30 <| R_ireti fi_208_32 rfl
theorem b208_33 {d L : Nat} {σ : St} {Q : Option AV → AW → Prop} {u1 u2 u3 u4 u5 u6 u7 u8 u9 u10 u11 u12 : AV} (h1 : -2147483648 ≤ (i_shl 1 (σ 154 0)) - 1 ∧ (i_shl 1 (σ 154 0)) - 1 ≤ 2147483647) : R d 208 33 [vR 153, u1, u2, u3, u4, u5, u6, u7, u8, u9, u10, u11, u12] [] (WS L σ) Q = R d 208 57 [vR 153, u1, u2, u3, vI ((i_shl 1 (σ 154 0)) - 1), vI (-1), vI 0, vI 0, vI 0, u9, u10, u11, u12] [] (WS L σ) Q := K_iconst fi_208_33 <| K_aload_n fi_208_34 rfl <| K_gf fi_208_35 kd_153 mk_153_1 <| K_iconst fi_208_38 <| K_ia fi_208_39 kd_154 (by decide) (show (0 : Int) < 1580 by decide) <| K_ishl fi_208_40 <| K_iconst fi_208_41 <| K_isubx fi_208_42 h1 <| K_istore fi_208_43 (Nat.le_of_ble_eq_true rfl) rfl rfl <| K_iconst fi_208_45 <| K_istore fi_208_46 (Nat.le_of_ble_eq_true rfl) rfl rfl <| K_iconst fi_208_48 <| K_istore fi_208_49 (Nat.le_of_ble_eq_true rfl) rfl rfl <| K_iconst fi_208_51 <| K_istore fi_208_52 (Nat.le_of_ble_eq_true rfl) rfl rfl <| K_iconst fi_208_54 <| K_istore fi_208_55 (Nat.le_of_ble_eq_true rfl) rfl rfl <| rfl
theorem b208_57 {d L : Nat} {σ : St} {Q : Option AV → AW → Prop} {x8 x4 : Int} {u0 u1 u2 u3 u5 u6 u7 u9 u10 u11 u12 : AV} : R d 208 57 [u0, u1, u2, u3, vI x4, u5, u6, u7, vI x8, u9, u10, u11, u12] [] (WS L σ) Q = if x4 < x8 then R d 208 188 [u0, u1, u2, u3, vI x4, u5, u6, u7, vI x8, u9, u10, u11, u12] [] (WS L σ) Q else R d 208 64 [u0, u1, u2, u3, vI x4, u5, u6, u7, vI x8, u9, u10, u11, u12] [] (WS L σ) Q := K_iload fi_208_57 rfl <| K_iload fi_208_59 rfl <| R_icmp_gt fi_208_61 rfl
theorem b208_64 {d L : Nat} {σ : St} {Q : Option AV → AW → Prop} {x4 x8 : Int} {u0 u1 u2 u3 u5 u6 u7 u9 u10 u11 u12 : AV} : R d 208 64 [u0, u1, u2, u3, vI x4, u5, u6, u7, vI x8, u9, u10, u11, u12] [] (WS L σ) Q = if x8 < (i_and x4 (i_xor x8 (-1))) then R d 208 85 [u0, u1, u2, u3, vI x4, u5, u6, u7, vI x8, vI (i_and x4 (i_xor x8 (-1))), u10, u11, u12] [] (WS L σ) Q else R d 208 80 [u0, u1, u2, u3, vI x4, u5, u6, u7, vI x8, vI (i_and x4 (i_xor x8 (-1))), u10, u11, u12] [] (WS L σ) Q := K_iload fi_208_64 rfl <| K_iload fi_208_66 rfl <| K_iconst fi_208_68 <| K_ixor fi_208_69 <| K_iand fi_208_70 <| K_istore fi_208_71 (Nat.le_of_ble_eq_true rfl) rfl rfl <| K_iload fi_208_73 rfl <| K_iload fi_208_75 rfl <| R_icmp_lt fi_208_77 rfl
theorem b208_80 {d L : Nat} {σ : St} {Q : Option AV → AW → Prop} {x4 : Int} {u0 u1 u2 u3 u5 u6 u7 u8 u9 u10 u11 u12 : AV} : R d 208 80 [u0, u1, u2, u3, vI x4, u5, u6, u7, u8, u9, u10, u11, u12] [] (WS L σ) Q = if ¬ x4 = 0 then R d 208 182 [u0, u1, u2, u3, vI x4, u5, u6, u7, u8, u9, u10, u11, u12] [] (WS L σ) Q else R d 208 85 [u0, u1, u2, u3, vI x4, u5, u6, u7, u8, u9, u10, u11, u12] [] (WS L σ) Q := K_iload fi_208_80 rfl <| R_if_ne fi_208_82 rfl
theorem b208_85 {d L : Nat} {σ : St} {Q : Option AV → AW → Prop} {x2 x9 : Int} {u1 u3 u4 u5 u6 u7 u8 u10 u11 u12 : AV} : R (d + 1) 208 85 [vR 153, u1, vI x2, u3, u4, u5, u6, u7, u8, vI x9, u10, u11, u12] [] (WS L σ) Q = R d 169 0 [vR 153, vI x2, vI x9, vX 9, vX 9, vX 9, vX 9] [] (WS L σ) (fun r w => R (d + 1) 208 92 [vR 153, u1, vI x2, u3, u4, u5, u6, u7, u8, vI x9, u10, u11, u12] (am_push r []) w Q) := K_aload_n fi_208_85 rfl <| K_iload_n fi_208_86 rfl <| K_iload fi_208_87 rfl <| R_invV fi_208_89 (am_invV_of rfl (kd_153) (Nat.le_of_ble_eq_true rfl) (Nat.le_of_ble_eq_true rfl) rfl rfl)
theorem b208_92 {d L : Nat} {σ : St} {Q : Option AV → AW → Prop} {y0 x2 x8 : Int} {u1 u3 u4 u5 u6 u7 u9 u10 u11 u12 : AV} : R (d + 1) 208 92 [vR 153, u1, vI x2, u3, u4, u5, u6, u7, vI x8, u9, u10, u11, u12] [vI y0] (WS L σ) Q = R d 169 0 [vR 153, vI x2, vI x8, vX 9, vX 9, vX 9, vX 9] [] (WS L σ) (fun r w => R (d + 1) 208 99 [vR 153, u1, vI x2, u3, u4, u5, u6, u7, vI x8, u9, u10, u11, u12] (am_push r [vI y0]) w Q) := K_aload_n fi_208_92 rfl <| K_iload_n fi_208_93 rfl <| K_iload fi_208_94 rfl <| R_invV fi_208_96 (am_invV_of rfl (kd_153) (Nat.le_of_ble_eq_true rfl) (Nat.le_of_ble_eq_true rfl) rfl rfl)
theorem b208_99 {d L : Nat} {σ : St} {Q : Option AV → AW → Prop} {y0 y1 : Int} {u0 u1 u2 u3 u4 u5 u6 u7 u8 u9 u10 u11 u12 : AV} : R d 208 99 [u0, u1, u2, u3, u4, u5, u6, u7, u8, u9, u10, u11, u12] [vI y0, vI y1] (WS L σ) Q = if y1 ≤ y0 then R d 208 107 [u0, u1, u2, u3, u4, u5, u6, u7, u8, u9, u10, u11, u12] [] (WS L σ) Q else R d 208 102 [u0, u1, u2, u3, u4, u5, u6, u7, u8, u9, u10, u11, u12] [] (WS L σ) Q := R_icmp_le fi_208_99 rfl
theorem b208_102 {d L : Nat} {σ : St} {Q : Option AV → AW → Prop} {x8 : Int} {u0 u1 u2 u3 u4 u5 u6 u7 u9 u10 u11 u12 : AV} : R d 208 102 [u0, u1, u2, u3, u4, u5, u6, u7, vI x8, u9, u10, u11, u12] [] (WS L σ) Q = R d 208 109 [u0, u1, u2, u3, u4, u5, u6, u7, vI x8, u9, u10, u11, u12] [vI x8] (WS L σ) Q := K_iload fi_208_102 rfl <| R_goto fi_208_104 rfl
theorem b208_107 {d L : Nat} {σ : St} {Q : Option AV → AW → Prop} {x9 : Int} {u0 u1 u2 u3 u4 u5 u6 u7 u8 u10 u11 u12 : AV} : R d 208 107 [u0, u1, u2, u3, u4, u5, u6, u7, u8, vI x9, u10, u11, u12] [] (WS L σ) Q = R d 208 109 [u0, u1, u2, u3, u4, u5, u6, u7, u8, vI x9, u10, u11, u12] [vI x9] (WS L σ) Q := K_iload fi_208_107 rfl <| rfl
theorem b208_109 {d L : Nat} {σ : St} {Q : Option AV → AW → Prop} {y0 x1 : Int} {u2 u3 u4 u5 u6 u7 u8 u9 u10 u11 u12 : AV} : R (d + 1) 208 109 [vR 153, vI x1, u2, u3, u4, u5, u6, u7, u8, u9, u10, u11, u12] [vI y0] (WS L σ) Q = R d 169 0 [vR 153, vI x1, vI y0, vX 9, vX 9, vX 9, vX 9] [] (WS L σ) (fun r w => R (d + 1) 208 118 [vR 153, vI x1, u2, u3, u4, u5, u6, u7, u8, u9, vI y0, u11, u12] (am_push r []) w Q) := K_istore fi_208_109 (Nat.le_of_ble_eq_true rfl) rfl rfl <| K_aload_n fi_208_111 rfl <| K_iload_n fi_208_112 rfl <| K_iload fi_208_113 rfl <| R_invV fi_208_115 (am_invV_of rfl (kd_153) (Nat.le_of_ble_eq_true rfl) (Nat.le_of_ble_eq_true rfl) rfl rfl)
theorem b208_118 {d L : Nat} {σ : St} {Q : Option AV → AW → Prop} {y0 x5 : Int} {u0 u1 u2 u3 u4 u6 u7 u8 u9 u10 u11 u12 : AV} : R d 208 118 [u0, u1, u2, u3, u4, vI x5, u6, u7, u8, u9, u10, u11, u12] [vI y0] (WS L σ) Q = if x5 = (-1) then R d 208 133 [u0, u1, u2, u3, u4, vI x5, u6, u7, u8, u9, u10, vI y0, u12] [] (WS L σ) Q else R d 208 126 [u0, u1, u2, u3, u4, vI x5, u6, u7, u8, u9, u10, vI y0, u12] [] (WS L σ) Q := K_istore fi_208_118 (Nat.le_of_ble_eq_true rfl) rfl rfl <| K_iload fi_208_120 rfl <| K_iconst fi_208_122 <| R_icmp_eq fi_208_123 rfl
theorem b208_126 {d L : Nat} {σ : St} {Q : Option AV → AW → Prop} {x11 x6 : Int} {u0 u1 u2 u3 u4 u5 u7 u8 u9 u10 u12 : AV} : R d 208 126 [u0, u1, u2, u3, u4, u5, vI x6, u7, u8, u9, u10, vI x11, u12] [] (WS L σ) Q = if x11 ≤ x6 then R d 208 137 [u0, u1, u2, u3, u4, u5, vI x6, u7, u8, u9, u10, vI x11, u12] [] (WS L σ) Q else R d 208 133 [u0, u1, u2, u3, u4, u5, vI x6, u7, u8, u9, u10, vI x11, u12] [] (WS L σ) Q := K_iload fi_208_126 rfl <| K_iload fi_208_128 rfl <| R_icmp_le fi_208_130 rfl
theorem b208_133 {d L : Nat} {σ : St} {Q : Option AV → AW → Prop} {u0 u1 u2 u3 u4 u5 u6 u7 u8 u9 u10 u11 u12 : AV} : R d 208 133 [u0, u1, u2, u3, u4, u5, u6, u7, u8, u9, u10, u11, u12] [] (WS L σ) Q = R d 208 138 [u0, u1, u2, u3, u4, u5, u6, u7, u8, u9, u10, u11, u12] [vI 1] (WS L σ) Q := K_iconst fi_208_133 <| R_goto fi_208_134 rfl
theorem b208_137 {d L : Nat} {σ : St} {Q : Option AV → AW → Prop} {u0 u1 u2 u3 u4 u5 u6 u7 u8 u9 u10 u11 u12 : AV} : R d 208 137 [u0, u1, u2, u3, u4, u5, u6, u7, u8, u9, u10, u11, u12] [] (WS L σ) Q = R d 208 138 [u0, u1, u2, u3, u4, u5, u6, u7, u8, u9, u10, u11, u12] [vI 0] (WS L σ) Q := K_iconst fi_208_137 <| rfl
theorem b208_138 {d L : Nat} {σ : St} {Q : Option AV → AW → Prop} {y0 : Int} {u0 u1 u2 u3 u4 u5 u6 u7 u8 u9 u10 u11 u12 : AV} : R d 208 138 [u0, u1, u2, u3, u4, u5, u6, u7, u8, u9, u10, u11, u12] [vI y0] (WS L σ) Q = if y0 = 0 then R d 208 150 [u0, u1, u2, u3, u4, u5, u6, u7, u8, u9, u10, u11, vI y0] [] (WS L σ) Q else R d 208 145 [u0, u1, u2, u3, u4, u5, u6, u7, u8, u9, u10, u11, vI y0] [] (WS L σ) Q := K_istore fi_208_138 (Nat.le_of_ble_eq_true rfl) rfl rfl <| K_iload fi_208_140 rfl <| R_if_eq fi_208_142 rfl
theorem b208_145 {d L : Nat} {σ : St} {Q : Option AV → AW → Prop} {x8 : Int} {u0 u1 u2 u3 u4 u5 u6 u7 u9 u10 u11 u12 : AV} : R d 208 145 [u0, u1, u2, u3, u4, u5, u6, u7, vI x8, u9, u10, u11, u12] [] (WS L σ) Q = R d 208 152 [u0, u1, u2, u3, u4, u5, u6, u7, vI x8, u9, u10, u11, u12] [vI x8] (WS L σ) Q := K_iload fi_208_145 rfl <| R_goto fi_208_147 rfl
theorem b208_150 {d L : Nat} {σ : St} {Q : Option AV → AW → Prop} {x5 : Int} {u0 u1 u2 u3 u4 u6 u7 u8 u9 u10 u11 u12 : AV} : R d 208 150 [u0, u1, u2, u3, u4, vI x5, u6, u7, u8, u9, u10, u11, u12] [] (WS L σ) Q = R d 208 152 [u0, u1, u2, u3, u4, vI x5, u6, u7, u8, u9, u10, u11, u12] [vI x5] (WS L σ) Q := K_iload fi_208_150 rfl <| rfl
theorem b208_152 {d L : Nat} {σ : St} {Q : Option AV → AW → Prop} {y0 x12 : Int} {u0 u1 u2 u3 u4 u5 u6 u7 u8 u9 u10 u11 : AV} : R d 208 152 [u0, u1, u2, u3, u4, u5, u6, u7, u8, u9, u10, u11, vI x12] [vI y0] (WS L σ) Q = if x12 = 0 then R d 208 164 [u0, u1, u2, u3, u4, vI y0, u6, u7, u8, u9, u10, u11, vI x12] [] (WS L σ) Q else R d 208 159 [u0, u1, u2, u3, u4, vI y0, u6, u7, u8, u9, u10, u11, vI x12] [] (WS L σ) Q := K_istore fi_208_152 (Nat.le_of_ble_eq_true rfl) rfl rfl <| K_iload fi_208_154 rfl <| R_if_eq fi_208_156 rfl
theorem b208_159 {d L : Nat} {σ : St} {Q : Option AV → AW → Prop} {x10 : Int} {u0 u1 u2 u3 u4 u5 u6 u7 u8 u9 u11 u12 : AV} : R d 208 159 [u0, u1, u2, u3, u4, u5, u6, u7, u8, u9, vI x10, u11, u12] [] (WS L σ) Q = R d 208 166 [u0, u1, u2, u3, u4, u5, u6, u7, u8, u9, vI x10, u11, u12] [vI x10] (WS L σ) Q := K_iload fi_208_159 rfl <| R_goto fi_208_161 rfl
theorem b208_164 {d L : Nat} {σ : St} {Q : Option AV → AW → Prop} {x7 : Int} {u0 u1 u2 u3 u4 u5 u6 u8 u9 u10 u11 u12 : AV} : R d 208 164 [u0, u1, u2, u3, u4, u5, u6, vI x7, u8, u9, u10, u11, u12] [] (WS L σ) Q = R d 208 166 [u0, u1, u2, u3, u4, u5, u6, vI x7, u8, u9, u10, u11, u12] [vI x7] (WS L σ) Q := K_iload fi_208_164 rfl <| rfl
theorem b208_166 {d L : Nat} {σ : St} {Q : Option AV → AW → Prop} {y0 x12 : Int} {u0 u1 u2 u3 u4 u5 u6 u7 u8 u9 u10 u11 : AV} : R d 208 166 [u0, u1, u2, u3, u4, u5, u6, u7, u8, u9, u10, u11, vI x12] [vI y0] (WS L σ) Q = if x12 = 0 then R d 208 178 [u0, u1, u2, u3, u4, u5, u6, vI y0, u8, u9, u10, u11, vI x12] [] (WS L σ) Q else R d 208 173 [u0, u1, u2, u3, u4, u5, u6, vI y0, u8, u9, u10, u11, vI x12] [] (WS L σ) Q := K_istore fi_208_166 (Nat.le_of_ble_eq_true rfl) rfl rfl <| K_iload fi_208_168 rfl <| R_if_eq fi_208_170 rfl
theorem b208_173 {d L : Nat} {σ : St} {Q : Option AV → AW → Prop} {x11 : Int} {u0 u1 u2 u3 u4 u5 u6 u7 u8 u9 u10 u12 : AV} : R d 208 173 [u0, u1, u2, u3, u4, u5, u6, u7, u8, u9, u10, vI x11, u12] [] (WS L σ) Q = R d 208 180 [u0, u1, u2, u3, u4, u5, u6, u7, u8, u9, u10, vI x11, u12] [vI x11] (WS L σ) Q := K_iload fi_208_173 rfl <| R_goto fi_208_175 rfl
theorem b208_178 {d L : Nat} {σ : St} {Q : Option AV → AW → Prop} {x6 : Int} {u0 u1 u2 u3 u4 u5 u7 u8 u9 u10 u11 u12 : AV} : R d 208 178 [u0, u1, u2, u3, u4, u5, vI x6, u7, u8, u9, u10, u11, u12] [] (WS L σ) Q = R d 208 180 [u0, u1, u2, u3, u4, u5, vI x6, u7, u8, u9, u10, u11, u12] [vI x6] (WS L σ) Q := K_iload fi_208_178 rfl <| rfl
theorem b208_180 {d L : Nat} {σ : St} {Q : Option AV → AW → Prop} {y0 : Int} {u0 u1 u2 u3 u4 u5 u6 u7 u8 u9 u10 u11 u12 : AV} : R d 208 180 [u0, u1, u2, u3, u4, u5, u6, u7, u8, u9, u10, u11, u12] [vI y0] (WS L σ) Q = R d 208 182 [u0, u1, u2, u3, u4, u5, vI y0, u7, u8, u9, u10, u11, u12] [] (WS L σ) Q := K_istore fi_208_180 (Nat.le_of_ble_eq_true rfl) rfl rfl <| rfl
theorem b208_182 {d L : Nat} {σ : St} {Q : Option AV → AW → Prop} {x8 : Int} {u0 u1 u2 u3 u4 u5 u6 u7 u9 u10 u11 u12 : AV} (h1 : -2147483648 ≤ x8 + 1 ∧ x8 + 1 ≤ 2147483647) : R d 208 182 [u0, u1, u2, u3, u4, u5, u6, u7, vI x8, u9, u10, u11, u12] [] (WS L σ) Q = R d 208 57 [u0, u1, u2, u3, u4, u5, u6, u7, vI (x8 + 1), u9, u10, u11, u12] [] (WS L σ) Q := K_iincx fi_208_182 rfl (Nat.le_of_ble_eq_true rfl) rfl h1 rfl <| R_goto fi_208_185 rfl
theorem b208_188 {d L : Nat} {σ : St} {Q : Option AV → AW → Prop} {x3 : Int} {u0 u1 u2 u4 u5 u6 u7 u8 u9 u10 u11 u12 : AV} : R d 208 188 [u0, u1, u2, vI x3, u4, u5, u6, u7, u8, u9, u10, u11, u12] [] (WS L σ) Q = if ¬ x3 = 0 then R d 208 197 [u0, u1, u2, vI x3, u4, u5, u6, u7, u8, u9, u10, u11, u12] [] (WS L σ) Q else R d 208 192 [u0, u1, u2, vI x3, u4, u5, u6, u7, u8, u9, u10, u11, u12] [] (WS L σ) Q := K_iload_n fi_208_188 rfl <| R_if_ne fi_208_189 rfl
theorem b208_192 {d L : Nat} {σ : St} {Q : Option AV → AW → Prop} {x5 : Int} {u0 u1 u2 u3 u4 u6 u7 u8 u9 u10 u11 u12 : AV} : R d 208 192 [u0, u1, u2, u3, u4, vI x5, u6, u7, u8, u9, u10, u11, u12] [] (WS L σ) Q = R d 208 199 [u0, u1, u2, u3, u4, vI x5, u6, u7, u8, u9, u10, u11, u12] [vI x5] (WS L σ) Q := K_iload fi_208_192 rfl <| R_goto fi_208_194 rfl
theorem b208_197 {d L : Nat} {σ : St} {Q : Option AV → AW → Prop} {x7 : Int} {u0 u1 u2 u3 u4 u5 u6 u8 u9 u10 u11 u12 : AV} : R d 208 197 [u0, u1, u2, u3, u4, u5, u6, vI x7, u8, u9, u10, u11, u12] [] (WS L σ) Q = R d 208 199 [u0, u1, u2, u3, u4, u5, u6, vI x7, u8, u9, u10, u11, u12] [vI x7] (WS L σ) Q := K_iload fi_208_197 rfl <| rfl
theorem b208_199 {d L : Nat} {σ : St} {Q : Option AV → AW → Prop} {y0 : Int} {u0 u1 u2 u3 u4 u5 u6 u7 u8 u9 u10 u11 u12 : AV} : R d 208 199 [u0, u1, u2, u3, u4, u5, u6, u7, u8, u9, u10, u11, u12] [vI y0] (WS L σ) Q = Q (some (vI y0)) (WS L σ) := R_ireti fi_208_199 rfl
theorem fi_209_0 : am_find 209 0 = some (.aload_n 0, 1, 0, 0, 0) := by decide +kernel
theorem fi_209_1 : am_find 209 1 = some (.iload_n 1, 1, 0, 0, 0) := by decide +kernel
theorem fi_209_2 : am_find 209 2 = some (.invokevirtual 161, 3, 179, 1, 194) := by decide +kernel
theorem fi_209_5 : am_find 209 5 = some (.ifCond .eq 20, 3, 0, 0, 0) := by decide +kernel
theorem fi_209_8 : am_find 209 8 = some (.aload_n 0, 1, 0, 0, 0) := by decide +kernel
theorem fi_209_9 : am_find 209 9 = some (.iload_n 2, 1, 0, 0, 0) := by decide +kernel
theorem fi_209_10 : am_find 209 10 = some (.invokevirtual 161, 3, 179, 1, 194) := by decide +kernel
theorem fi_209_13 : am_find 209 13 = some (.ifCond .eq 12, 3, 0, 0, 0) := by decide +kernel
theorem fi_209_16 : am_find 209 16 = some (.iload_n 3, 1, 0, 0, 0) := by decide +kernel
theorem fi_209_17 : am_find 209 17 = some (.iconst 0, 1, 0, 0, 0) := by decide +kernel
theorem fi_209_18 : am_find 209 18 = some (.iconst 1, 1, 0, 1, 0) := by decide +kernel
theorem fi_209_19 : am_find 209 19 = some (.invokestatic 49, 3, 145, 3, 170) := by decide +kernel
theorem fi_209_22 : am_find 209 22 = some (.ifCond .ne 5, 3, 0, 0, 0) := by decide +kernel
theorem fi_209_25 : am_find 209 25 = some (.iconst (-1), 1, 0, (-1), 0) := by decide +kernel
theorem fi_209_26 : am_find 209 26 = some (.ireturn, 1, 0, 0, 0) := by decide +kernel
theorem fi_209_27 : am_find 209 27 = some (.iload_n 1, 1, 0, 0, 0) := by decide +kernel
theorem fi_209_28 : am_find 209 28 = some (.iload_n 2, 1, 0, 0, 0) := by decide +kernel
theorem fi_209_29 : am_find 209 29 = some (.if_icmp .ne 6, 3, 0, 0, 0) := by decide +kernel
theorem fi_209_32 : am_find 209 32 = some (.bipush (-2), 2, 0, (-2), 0) := by decide +kernel
theorem fi_209_34 : am_find 209 34 = some (.ireturn, 1, 0, 0, 0) := by decide +kernel
theorem fi_209_35 : am_find 209 35 = some (.aload_n 0, 1, 0, 0, 0) := by decide +kernel
theorem fi_209_36 : am_find 209 36 = some (.iload_n 1, 1, 0, 0, 0) := by decide +kernel
theorem fi_209_37 : am_find 209 37 = some (.iload_n 2, 1, 0, 0, 0) := by decide +kernel
theorem fi_209_38 : am_find 209 38 = some (.invokevirtual 238, 3, 210, 2, 213) := by decide +kernel
theorem fi_209_41 : am_find 209 41 = some (.iload_n 3, 1, 0, 0, 0) := by decide +kernel
theorem fi_209_42 : am_find 209 42 = some (.ifCond .ne 10, 3, 0, 0, 0) := by decide +kernel
theorem fi_209_45 : am_find 209 45 = some (.aload_n 0, 1, 0, 0, 0) := by decide +kernel
theorem fi_209_46 : am_find 209 46 = some (.getfield 232, 3, 10, 18, 121) := by decide +kernel
theorem fi_209_49 : am_find 209 49 = some (.goto 7, 3, 0, 0, 0) := by decide +kernel
theorem fi_209_52 : am_find 209 52 = some (.aload_n 0, 1, 0, 0, 0) := by decide +kernel
theorem fi_209_53 : am_find 209 53 = some (.getfield 235, 3, 10, 19, 122) := by decide +kernel
theorem fi_209_56 : am_find 209 56 = some (.ireturn, 1, 0, 0, 0) := by decide +kernel
theorem b209_0 {d L : Nat} {σ : St} {Q : Option AV → AW → Prop} {x1 : Int} {u2 u3 : AV} : R (d + 1) 209 0 [vR 153, vI x1, u2, u3] [] (WS L σ) Q = R d 179 0 [vR 153, vI x1] [] (WS L σ) (fun r w => R (d + 1) 209 5 [vR 153, vI x1, u2, u3] (am_push r []) w Q) := K_aload_n fi_209_0 rfl <| K_iload_n fi_209_1 rfl <| R_invV fi_209_2 (am_invV_of rfl (kd_153) (Nat.le_of_ble_eq_true rfl) (Nat.le_of_ble_eq_true rfl) rfl rfl)
theorem b209_5 {d L : Nat} {σ : St} {Q : Option AV → AW → Prop} {y0 : Int} {u0 u1 u2 u3 : AV} : R d 209 5 [u0, u1, u2, u3] [vI y0] (WS L σ) Q = if y0 = 0 then R d 209 25 [u0, u1, u2, u3] [] (WS L σ) Q else R d 209 8 [u0, u1, u2, u3] [] (WS L σ) Q := R_if_eq fi_209_5 rfl
theorem b209_8 {d L : Nat} {σ : St} {Q : Option AV → AW → Prop} {x2 : Int} {u1 u3 : AV} : R (d + 1) 209 8 [vR 153, u1, vI x2, u3] [] (WS L σ) Q = R d 179 0 [vR 153, vI x2] [] (WS L σ) (fun r w => R (d + 1) 209 13 [vR 153, u1, vI x2, u3] (am_push r []) w Q) := K_aload_n fi_209_8 rfl <| K_iload_n fi_209_9 rfl <| R_invV fi_209_10 (am_invV_of rfl (kd_153) (Nat.le_of_ble_eq_true rfl) (Nat.le_of_ble_eq_true rfl) rfl rfl)
theorem b209_13 {d L : Nat} {σ : St} {Q : Option AV → AW → Prop} {y0 : Int} {u0 u1 u2 u3 : AV} : R d 209 13 [u0, u1, u2, u3] [vI y0] (WS L σ) Q = if y0 = 0 then R d 209 25 [u0, u1, u2, u3] [] (WS L σ) Q else R d 209 16 [u0, u1, u2, u3] [] (WS L σ) Q := R_if_eq fi_209_13 rfl
theorem b209_16 {d L : Nat} {σ : St} {Q : Option AV → AW → Prop} {x3 : Int} {u0 u1 u2 : AV} : R (d + 1) 209 16 [u0, u1, u2, vI x3] [] (WS L σ) Q = R d 145 0 [vI x3, vI 0, vI 1] [] (WS L σ) (fun r w => R (d + 1) 209 22 [u0, u1, u2, vI x3] (am_push r []) w Q) := K_iload_n fi_209_16 rfl <| K_iconst fi_209_17 <| K_iconst fi_209_18 <| R_invS fi_209_19 (by decide) (am_invS_of (Nat.le_of_ble_eq_true rfl) rfl (Nat.le_of_ble_eq_true rfl) (Nat.le_of_ble_eq_true rfl) rfl rfl)
theorem b209_22 {d L : Nat} {σ : St} {Q : Option AV → AW → Prop} {y0 : Int} {u0 u1 u2 u3 : AV} : R d 209 22 [u0, u1, u2, u3] [vI y0] (WS L σ) Q = if ¬ y0 = 0 then R d 209 27 [u0, u1, u2, u3] [] (WS L σ) Q else R d 209 25 [u0, u1, u2, u3] [] (WS L σ) Q := R_if_ne fi_209_22 rfl
theorem b209_25 {d L : Nat} {σ : St} {Q : Option AV → AW → Prop} {u0 u1 u2 u3 : AV} : R d 209 25 [u0, u1, u2, u3] [] (WS L σ) Q = Q (some (vI (-1))) (WS L σ) := K_iconst fi_209_25 <| R_ireti fi_209_26 rfl
theorem b209_27 {d L : Nat} {σ : St} {Q : Option AV → AW → Prop} {x1 x2 : Int} {u0 u3 : AV} : R d 209 27 [u0, vI x1, vI x2, u3] [] (WS L σ) Q = if ¬ x1 = x2 then R d 209 35 [u0, vI x1, vI x2, u3] [] (WS L σ) Q else R d 209 32 [u0, vI x1, vI x2, u3] [] (WS L σ) Q := K_iload_n fi_209_27 rfl <| K_iload_n fi_209_28 rfl <| R_icmp_ne fi_209_29 rfl
theorem b209_32 {d L : Nat} {σ : St} {Q : Option AV → AW → Prop} {u0 u1 u2 u3 : AV} : R d 209 32 [u0, u1, u2, u3] [] (WS L σ) Q = Q (some (vI (-2))) (WS L σ) := K_bipush fi_209_32 <| R_ireti fi_209_34 rfl
theorem b209_35 {d L : Nat} {σ : St} {Q : Option AV → AW → Prop} {x1 x2 : Int} {u3 : AV} : R (d + 1) 209 35 [vR 153, vI x1, vI x2, u3] [] (WS L σ) Q = R d 210 0 [vR 153, vI x1, vI x2, vX 9, vX 9, vX 9, vX 9, vX 9] [] (WS L σ) (fun r w => R (d + 1) 209 41 [vR 153, vI x1, vI x2, u3] (am_push r []) w Q) := K_aload_n fi_209_35 rfl <| K_iload_n fi_209_36 rfl <| K_iload_n fi_209_37 rfl <| R_invV fi_209_38 (am_invV_of rfl (kd_153) (Nat.le_of_ble_eq_true rfl) (Nat.le_of_ble_eq_true rfl) rfl rfl)
theorem b209_41 {d L : Nat} {σ : St} {Q : Option AV → AW → Prop} {x3 : Int} {u0 u1 u2 : AV} : R d 209 41 [u0, u1, u2, vI x3] [] (WS L σ) Q = if ¬ x3 = 0 then R d 209 52 [u0, u1, u2, vI x3] [] (WS L σ) Q else R d 209 45 [u0, u1, u2, vI x3] [] (WS L σ) Q := K_iload_n fi_209_41 rfl <| R_if_ne fi_209_42 rfl
theorem b209_45 {d L : Nat} {σ : St} {Q : Option AV → AW → Prop} {u1 u2 u3 : AV} : R d 209 45 [vR 153, u1, u2, u3] [] (WS L σ) Q = R d 209 56 [vR 153, u1, u2, u3] [vI (σ 153 18)] (WS L σ) Q := K_aload_n fi_209_45 rfl <| K_gf fi_209_46 kd_153 mk_153_18 <| R_goto fi_209_49 rfl
theorem b209_52 {d L : Nat} {σ : St} {Q : Option AV → AW → Prop} {u1 u2 u3 : AV} : R d 209 52 [vR 153, u1, u2, u3] [] (WS L σ) Q = R d 209 56 [vR 153, u1, u2, u3] [vI (σ 153 19)] (WS L σ) Q := K_aload_n fi_209_52 rfl <| K_gf fi_209_53 kd_153 mk_153_19 <| rfl
theorem b209_56 {d L : Nat} {σ : St} {Q : Option AV → AW → Prop} {y0 : Int} {u0 u1 u2 u3 : AV} : R d 209 56 [u0, u1, u2, u3] [vI y0] (WS L σ) Q = Q (some (vI y0)) (WS L σ) := R_ireti fi_209_56 rfl
theorem fi_210_0 : am_find 210 0 = some (.aload_n 0, 1, 0, 0, 0) := by decide +kernel
theorem fi_210_1 : am_find 210 1 = some (.iconst 0, 1, 0, 0, 0) := by decide +kernel
theorem fi_210_2 : am_find 210 2 = some (.putfield 232, 3, 10, 18, 121) := by decide +kernel
theorem fi_210_5 : am_find 210 5 = some (.aload_n 0, 1, 0, 0, 0) := by decide +kernel
theorem fi_210_6 : am_find 210 6 = some (.bipush (-5), 2, 0, (-5), 0) := by decide +kernel
theorem fi_210_8 : am_find 210 8 = some (.putfield 235, 3, 10, 19, 122) := by decide +kernel
theorem fi_210_11 : am_find 210 11 = some (.aload_n 0, 1, 0, 0, 0) := by decide +kernel
theorem fi_210_12 : am_find 210 12 = some (.iload_n 1, 1, 0, 0, 0) := by decide +kernel
theorem fi_210_13 : am_find 210 13 = some (.invokevirtual 164, 3, 181, 1, 195) := by decide +kernel
theorem fi_210_16 : am_find 210 16 = some (.istore_n 3, 1, 0, 0, 0) := by decide +kernel
theorem fi_210_17 : am_find 210 17 = some (.aload_n 0, 1, 0, 0, 0) := by decide +kernel
theorem fi_210_18 : am_find 210 18 = some (.iload_n 2, 1, 0, 0, 0) := by decide +kernel
theorem fi_210_19 : am_find 210 19 = some (.invokevirtual 164, 3, 181, 1, 195) := by decide +kernel
theorem fi_210_22 : am_find 210 22 = some (.istore 4, 2, 0, 0, 0) := by decide +kernel
theorem fi_210_24 : am_find 210 24 = some (.iconst 0, 1, 0, 0, 0) := by decide +kernel
theorem fi_210_25 : am_find 210 25 = some (.istore 5, 2, 0, 0, 0) := by decide +kernel
theorem fi_210_27 : am_find 210 27 = some (.iload 5, 2, 0, 0, 0) := by decide +kernel
theorem fi_210_29 : am_find 210 29 = some (.aload_n 0, 1, 0, 0, 0) := by decide +kernel
theorem fi_210_30 : am_find 210 30 = some (.getfield 7, 3, 10, 1, 101) := by decide +kernel
theorem fi_210_33 : am_find 210 33 = some (.iconst 0, 1, 0, 0, 0) := by decide +kernel
theorem fi_210_34 : am_find 210 34 = some (.iaload, 1, 0, 0, 0) := by decide +kernel
theorem fi_210_35 : am_find 210 35 = some (.if_icmp .ge 154, 3, 0, 0, 0) := by decide +kernel
theorem fi_210_38 : am_find 210 38 = some (.iconst 0, 1, 0, 0, 0) := by decide +kernel
theorem fi_210_39 : am_find 210 39 = some (.istore 6, 2, 0, 0, 0) := by decide +kernel
theorem fi_210_41 : am_find 210 41 = some (.iload 6, 2, 0, 0, 0) := by decide +kernel
theorem fi_210_43 : am_find 210 43 = some (.aload_n 0, 1, 0, 0, 0) := by decide +kernel
theorem fi_210_44 : am_find 210 44 = some (.getfield 7, 3, 10, 1, 101) := by decide +kernel
theorem fi_210_47 : am_find 210 47 = some (.iconst 0, 1, 0, 0, 0) := by decide +kernel
theorem fi_210_48 : am_find 210 48 = some (.iaload, 1, 0, 0, 0) := by decide +kernel
theorem fi_210_49 : am_find 210 49 = some (.if_icmp .ge 134, 3, 0, 0, 0) := by decide +kernel
theorem fi_210_52 : am_find 210 52 = some (.iload_n 3, 1, 0, 0, 0) := by decide +kernel
theorem fi_210_53 : am_find 210 53 = some (.iload 5, 2, 0, 0, 0) := by decide +kernel
theorem fi_210_55 : am_find 210 55 = some (.ishr, 1, 0, 0, 0) := by decide +kernel
theorem fi_210_56 : am_find 210 56 = some (.iconst 1, 1, 0, 1, 0) := by decide +kernel
theorem fi_210_57 : am_find 210 57 = some (.iand, 1, 0, 0, 0) := by decide +kernel
theorem fi_210_58 : am_find 210 58 = some (.iconst 1, 1, 0, 1, 0) := by decide +kernel
theorem fi_210_59 : am_find 210 59 = some (.if_icmp .ne 18, 3, 0, 0, 0) := by decide +kernel
theorem fi_210_62 : am_find 210 62 = some (.iload 4, 2, 0, 0, 0) := by decide +kernel
theorem fi_210_64 : am_find 210 64 = some (.iload 6, 2, 0, 0, 0) := by decide +kernel
theorem fi_210_66 : am_find 210 66 = some (.ishr, 1, 0, 0, 0) := by decide +kernel
theorem fi_210_67 : am_find 210 67 = some (.iconst 1, 1, 0, 1, 0) := by decide +kernel
theorem fi_210_68 : am_find 210 68 = some (.iand, 1, 0, 0, 0) := by decide +kernel
theorem fi_210_69 : am_find 210 69 = some (.iconst 1, 1, 0, 1, 0) := by decide +kernel
theorem fi_210_70 : am_find 210 70 = some (.if_icmp .ne 7, 3, 0, 0, 0) := by decide +kernel
theorem fi_210_73 : am_find 210 73 = some (.iconst 1, 1, 0, 1, 0) := by decide +kernel
theorem fi_210_74 : am_find 210 74 = some (.goto 4, 3, 0, 0, 0) := by decide +kernel
theorem fi_210_77 : am_find 210 77 = some (.iconst 0, 1, 0, 0, 0) := by decide +kernel
theorem fi_210_78 : am_find 210 78 = some (.istore 7, 2, 0, 0, 0) := by decide +kernel
theorem fi_210_80 : am_find 210 80 = some (.iload 7, 2, 0, 0, 0) := by decide +kernel
theorem fi_210_82 : am_find 210 82 = some (.ifCond .eq 95, 3, 0, 0, 0) := by decide +kernel
theorem fi_210_85 : am_find 210 85 = some (.aload_n 0, 1, 0, 0, 0) := by decide +kernel
theorem fi_210_86 : am_find 210 86 = some (.iload_n 1, 1, 0, 0, 0) := by decide +kernel
theorem fi_210_87 : am_find 210 87 = some (.iload_n 3, 1, 0, 0, 0) := by decide +kernel
theorem fi_210_88 : am_find 210 88 = some (.iconst 1, 1, 0, 1, 0) := by decide +kernel
theorem fi_210_89 : am_find 210 89 = some (.iload 5, 2, 0, 0, 0) := by decide +kernel
theorem fi_210_91 : am_find 210 91 = some (.ishl, 1, 0, 0, 0) := by decide +kernel
theorem fi_210_92 : am_find 210 92 = some (.iconst (-1), 1, 0, (-1), 0) := by decide +kernel
theorem fi_210_93 : am_find 210 93 = some (.ixor, 1, 0, 0, 0) := by decide +kernel
theorem fi_210_94 : am_find 210 94 = some (.iand, 1, 0, 0, 0) := by decide +kernel
theorem fi_210_95 : am_find 210 95 = some (.iconst 1, 1, 0, 1, 0) := by decide +kernel
theorem fi_210_96 : am_find 210 96 = some (.iload 6, 2, 0, 0, 0) := by decide +kernel
theorem fi_210_98 : am_find 210 98 = some (.ishl, 1, 0, 0, 0) := by decide +kernel
theorem fi_210_99 : am_find 210 99 = some (.ior, 1, 0, 0, 0) := by decide +kernel
theorem fi_210_100 : am_find 210 100 = some (.invokevirtual 155, 3, 169, 2, 190) := by decide +kernel
theorem fi_210_103 : am_find 210 103 = some (.aload_n 0, 1, 0, 0, 0) := by decide +kernel
theorem fi_210_104 : am_find 210 104 = some (.iload_n 1, 1, 0, 0, 0) := by decide +kernel
theorem fi_210_105 : am_find 210 105 = some (.iload_n 3, 1, 0, 0, 0) := by decide +kernel
theorem fi_210_106 : am_find 210 106 = some (.invokevirtual 155, 3, 169, 2, 190) := by decide +kernel
theorem fi_210_109 : am_find 210 109 = some (.if_icmp .le 68, 3, 0, 0, 0) := by decide +kernel
theorem fi_210_112 : am_find 210 112 = some (.aload_n 0, 1, 0, 0, 0) := by decide +kernel
theorem fi_210_113 : am_find 210 113 = some (.iload_n 2, 1, 0, 0, 0) := by decide +kernel
theorem fi_210_114 : am_find 210 114 = some (.iload 4, 2, 0, 0, 0) := by decide +kernel
theorem fi_210_116 : am_find 210 116 = some (.iconst 1, 1, 0, 1, 0) := by decide +kernel
theorem fi_210_117 : am_find 210 117 = some (.iload 6, 2, 0, 0, 0) := by decide +kernel
theorem fi_210_119 : am_find 210 119 = some (.ishl, 1, 0, 0, 0) := by decide +kernel
theorem fi_210_120 : am_find 210 120 = some (.iconst (-1), 1, 0, (-1), 0) := by decide +kernel
theorem fi_210_121 : am_find 210 121 = some (.ixor, 1, 0, 0, 0) := by decide +kernel
theorem fi_210_122 : am_find 210 122 = some (.iand, 1, 0, 0, 0) := by decide +kernel
theorem fi_210_123 : am_find 210 123 = some (.iconst 1, 1, 0, 1, 0) := by decide +kernel
theorem fi_210_124 : am_find 210 124 = some (.iload 5, 2, 0, 0, 0) := by decide +kernel
theorem fi_210_126 : am_find 210 126 = some (.ishl, 1, 0, 0, 0) := by decide +kernel
theorem fi_210_127 : am_find 210 127 = some (.ior, 1, 0, 0, 0) := by decide +kernel
theorem fi_210_128 : am_find 210 128 = some (.invokevirtual 155, 3, 169, 2, 190) := by decide +kernel
theorem fi_210_131 : am_find 210 131 = some (.aload_n 0, 1, 0, 0, 0) := by decide +kernel
theorem fi_210_132 : am_find 210 132 = some (.iload_n 2, 1, 0, 0, 0) := by decide +kernel
theorem fi_210_133 : am_find 210 133 = some (.iload 4, 2, 0, 0, 0) := by decide +kernel
theorem fi_210_135 : am_find 210 135 = some (.invokevirtual 155, 3, 169, 2, 190) := by decide +kernel
theorem fi_210_138 : am_find 210 138 = some (.if_icmp .le 39, 3, 0, 0, 0) := by decide +kernel
theorem fi_210_141 : am_find 210 141 = some (.aload_n 0, 1, 0, 0, 0) := by decide +kernel
theorem fi_210_142 : am_find 210 142 = some (.aload_n 0, 1, 0, 0, 0) := by decide +kernel
theorem fi_210_143 : am_find 210 143 = some (.getfield 232, 3, 10, 18, 121) := by decide +kernel
theorem fi_210_146 : am_find 210 146 = some (.ifCond .ne 14, 3, 0, 0, 0) := by decide +kernel
theorem fi_210_149 : am_find 210 149 = some (.bipush 10, 2, 0, 10, 0) := by decide +kernel
theorem fi_210_151 : am_find 210 151 = some (.iload 5, 2, 0, 0, 0) := by decide +kernel
theorem fi_210_153 : am_find 210 153 = some (.imul, 1, 0, 0, 0) := by decide +kernel
theorem fi_210_154 : am_find 210 154 = some (.iload 6, 2, 0, 0, 0) := by decide +kernel
theorem fi_210_156 : am_find 210 156 = some (.iadd, 1, 0, 0, 0) := by decide +kernel
theorem fi_210_157 : am_find 210 157 = some (.goto 7, 3, 0, 0, 0) := by decide +kernel
theorem fi_210_160 : am_find 210 160 = some (.aload_n 0, 1, 0, 0, 0) := by decide +kernel
theorem fi_210_161 : am_find 210 161 = some (.getfield 235, 3, 10, 19, 122) := by decide +kernel
theorem fi_210_164 : am_find 210 164 = some (.putfield 235, 3, 10, 19, 122) := by decide +kernel
theorem fi_210_167 : am_find 210 167 = some (.aload_n 0, 1, 0, 0, 0) := by decide +kernel
theorem fi_210_168 : am_find 210 168 = some (.dup, 1, 0, 0, 0) := by decide +kernel
theorem fi_210_169 : am_find 210 169 = some (.getfield 232, 3, 10, 18, 121) := by decide +kernel
theorem fi_210_172 : am_find 210 172 = some (.iconst 1, 1, 0, 1, 0) := by decide +kernel
theorem fi_210_173 : am_find 210 173 = some (.iadd, 1, 0, 0, 0) := by decide +kernel
theorem fi_210_174 : am_find 210 174 = some (.putfield 232, 3, 10, 18, 121) := by decide +kernel
theorem fi_210_177 : am_find 210 177 = some (.iinc 6 1, 3, 0, 0, 0) := by decide +kernel
theorem fi_210_180 : am_find 210 180 = some (.goto (-139), 3, 0, 0, 0) := by decide +kernel
theorem fi_210_183 : am_find 210 183 = some (.iinc 5 1, 3, 0, 0, 0) := by decide +kernel
theorem fi_210_186 : am_find 210 186 = some (.goto (-159), 3, 0, 0, 0) := by decide +kernel
theorem fi_210_189 : am_find 210 189 = some (.return_, 1, 0, 0, 0) := by decide +kernel
theorem b210_0 {d L : Nat} {σ : St} {Q : Option AV → AW → Prop} {u1 u2 u3 u4 u5 u6 u7 : AV} : R d 210 0 [vR 153, u1, u2, u3, u4, u5, u6, u7] [] (WS L σ) Q = R d 210 5 [vR 153, u1, u2, u3, u4, u5, u6, u7] [] (WS L (st2 σ 153 18 0)) Q := K_aload_n fi_210_0 rfl <| K_iconst fi_210_1 <| K_pf fi_210_2 kd_153 rfl rfl rfl rfl <| rfl
theorem b210_5 {d L : Nat} {σ : St} {Q : Option AV → AW → Prop} {u1 u2 u3 u4 u5 u6 u7 : AV} : R d 210 5 [vR 153, u1, u2, u3, u4, u5, u6, u7] [] (WS L σ) Q = R d 210 11 [vR 153, u1, u2, u3, u4, u5, u6, u7] [] (WS L (st2 σ 153 19 (-5))) Q := K_aload_n fi_210_5 rfl <| K_bipush fi_210_6 <| K_pf fi_210_8 kd_153 rfl rfl rfl rfl <| rfl
theorem b210_11 {d L : Nat} {σ : St} {Q : Option AV → AW → Prop} {x1 : Int} {u2 u3 u4 u5 u6 u7 : AV} : R (d + 1) 210 11 [vR 153, vI x1, u2, u3, u4, u5, u6, u7] [] (WS L σ) Q = R d 181 0 [vR 153, vI x1, vX 9, vX 9] [] (WS L σ) (fun r w => R (d + 1) 210 16 [vR 153, vI x1, u2, u3, u4, u5, u6, u7] (am_push r []) w Q) := K_aload_n fi_210_11 rfl <| K_iload_n fi_210_12 rfl <| R_invV fi_210_13 (am_invV_of rfl (kd_153) (Nat.le_of_ble_eq_true rfl) (Nat.le_of_ble_eq_true rfl) rfl rfl)
theorem b210_16 {d L : Nat} {σ : St} {Q : Option AV → AW → Prop} {y0 x2 : Int} {u1 u3 u4 u5 u6 u7 : AV} : R (d + 1) 210 16 [vR 153, u1, vI x2, u3, u4, u5, u6, u7] [vI y0] (WS L σ) Q = R d 181 0 [vR 153, vI x2, vX 9, vX 9] [] (WS L σ) (fun r w => R (d + 1) 210 22 [vR 153, u1, vI x2, vI y0, u4, u5, u6, u7] (am_push r []) w Q) := K_istore_n fi_210_16 (Nat.le_of_ble_eq_true rfl) rfl rfl <| K_aload_n fi_210_17 rfl <| K_iload_n fi_210_18 rfl <| R_invV fi_210_19 (am_invV_of rfl (kd_153) (Nat.le_of_ble_eq_true rfl) (Nat.le_of_ble_eq_true rfl) rfl rfl)
theorem b210_22 {d L : Nat} {σ : St} {Q : Option AV → AW → Prop} {y0 : Int} {u0 u1 u2 u3 u4 u5 u6 u7 : AV} : R d 210 22 [u0, u1, u2, u3, u4, u5, u6, u7] [vI y0] (WS L σ) Q = R d 210 27 [u0, u1, u2, u3, vI y0, vI 0, u6, u7] [] (WS L σ) Q := K_istore fi_210_22 (Nat.le_of_ble_eq_true rfl) rfl rfl <| K_iconst fi_210_24 <| K_istore fi_210_25 (Nat.le_of_ble_eq_true rfl) rfl rfl <| rfl
theorem b210_27 {d L : Nat} {σ : St} {Q : Option AV → AW → Prop} {x5 : Int} {u1 u2 u3 u4 u6 u7 : AV} : R d 210 27 [vR 153, u1, u2, u3, u4, vI x5, u6, u7] [] (WS L σ) Q = if (σ 154 0) ≤ x5 then R d 210 189 [vR 153, u1, u2, u3, u4, vI x5, u6, u7] [] (WS L σ) Q else R d 210 38 [vR 153, u1, u2, u3, u4, vI x5, u6, u7] [] (WS L σ) Q := K_iload fi_210_27 rfl <| K_aload_n fi_210_29 rfl <| K_gf fi_210_30 kd_153 mk_153_1 <| K_iconst fi_210_33 <| K_ia fi_210_34 kd_154 (by decide) (show (0 : Int) < 1580 by decide) <| R_icmp_ge fi_210_35 rfl
theorem b210_38 {d L : Nat} {σ : St} {Q : Option AV → AW → Prop} {u0 u1 u2 u3 u4 u5 u6 u7 : AV} : R d 210 38 [u0, u1, u2, u3, u4, u5, u6, u7] [] (WS L σ) Q = R d 210 41 [u0, u1, u2, u3, u4, u5, vI 0, u7] [] (WS L σ) Q := K_iconst fi_210_38 <| K_istore fi_210_39 (Nat.le_of_ble_eq_true rfl) rfl rfl <| rfl
theorem b210_41 {d L : Nat} {σ : St} {Q : Option AV → AW → Prop} {x6 : Int} {u1 u2 u3 u4 u5 u7 : AV} : R d 210 41 [vR 153, u1, u2, u3, u4, u5, vI x6, u7] [] (WS L σ) Q = if (σ 154 0) ≤ x6 then R d 210 183 [vR 153, u1, u2, u3, u4, u5, vI x6, u7] [] (WS L σ) Q else R d 210 52 [vR 153, u1, u2, u3, u4, u5, vI x6, u7] [] (WS L σ) Q := K_iload fi_210_41 rfl <| K_aload_n fi_210_43 rfl <| K_gf fi_210_44 kd_153 mk_153_1 <| K_iconst fi_210_47 <| K_ia fi_210_48 kd_154 (by decide) (show (0 : Int) < 1580 by decide) <| R_icmp_ge fi_210_49 rfl
theorem b210_52 {d L : Nat} {σ : St} {Q : Option AV → AW → Prop} {x3 x5 : Int} {u0 u1 u2 u4 u6 u7 : AV} : R d 210 52 [u0, u1, u2, vI x3, u4, vI x5, u6, u7] [] (WS L σ) Q = if ¬ (i_and (i_shr x3 x5) 1) = 1 then R d 210 77 [u0, u1, u2, vI x3, u4, vI x5, u6, u7] [] (WS L σ) Q else R d 210 62 [u0, u1, u2, vI x3, u4, vI x5, u6, u7] [] (WS L σ) Q := K_iload_n fi_210_52 rfl <| K_iload fi_210_53 rfl <| K_ishr fi_210_55 <| K_iconst fi_210_56 <| K_iand fi_210_57 <| K_iconst fi_210_58 <| R_icmp_ne fi_210_59 rfl
theorem b210_62 {d L : Nat} {σ : St} {Q : Option AV → AW → Prop} {x4 x6 : Int} {u0 u1 u2 u3 u5 u7 : AV} : R d 210 62 [u0, u1, u2, u3, vI x4, u5, vI x6, u7] [] (WS L σ) Q = if ¬ (i_and (i_shr x4 x6) 1) = 1 then R d 210 77 [u0, u1, u2, u3, vI x4, u5, vI x6, u7] [] (WS L σ) Q else R d 210 73 [u0, u1, u2, u3, vI x4, u5, vI x6, u7] [] (WS L σ) Q := K_iload fi_210_62 rfl <| K_iload fi_210_64 rfl <| K_ishr fi_210_66 <| K_iconst fi_210_67 <| K_iand fi_210_68 <| K_iconst fi_210_69 <| R_icmp_ne fi_210_70 rfl
theorem b210_73 {d L : Nat} {σ : St} {Q : Option AV → AW → Prop} {u0 u1 u2 u3 u4 u5 u6 u7 : AV} : R d 210 73 [u0, u1, u2, u3, u4, u5, u6, u7] [] (WS L σ) Q = R d 210 78 [u0, u1, u2, u3, u4, u5, u6, u7] [vI 1] (WS L σ) Q := K_iconst fi_210_73 <| R_goto fi_210_74 rfl
theorem b210_77 {d L : Nat} {σ : St} {Q : Option AV → AW → Prop} {u0 u1 u2 u3 u4 u5 u6 u7 : AV} : R d 210 77 [u0, u1, u2, u3, u4, u5, u6, u7] [] (WS L σ) Q = R d 210 78 [u0, u1, u2, u3, u4, u5, u6, u7] [vI 0] (WS L σ) Q := K_iconst fi_210_77 <| rfl
theorem b210_78 {d L : Nat} {σ : St} {Q : Option AV → AW → Prop} {y0 : Int} {u0 u1 u2 u3 u4 u5 u6 u7 : AV} : R d 210 78 [u0, u1, u2, u3, u4, u5, u6, u7] [vI y0] (WS L σ) Q = if y0 = 0 then R d 210 177 [u0, u1, u2, u3, u4, u5, u6, vI y0] [] (WS L σ) Q else R d 210 85 [u0, u1, u2, u3, u4, u5, u6, vI y0] [] (WS L σ) Q := K_istore fi_210_78 (Nat.le_of_ble_eq_true rfl) rfl rfl <| K_iload fi_210_80 rfl <| R_if_eq fi_210_82 rfl
theorem b210_85 {d L : Nat} {σ : St} {Q : Option AV → AW → Prop} {x1 x3 x5 x6 : Int} {u2 u4 u7 : AV} : R (d + 1) 210 85 [vR 153, vI x1, u2, vI x3, u4, vI x5, vI x6, u7] [] (WS L σ) Q = R d 169 0 [vR 153, vI x1, vI (i_or (i_and x3 (i_xor (i_shl 1 x5) (-1))) (i_shl 1 x6)), vX 9, vX 9, vX 9, vX 9] [] (WS L σ) (fun r w => R (d + 1) 210 103 [vR 153, vI x1, u2, vI x3, u4, vI x5, vI x6, u7] (am_push r []) w Q) := K_aload_n fi_210_85 rfl <| K_iload_n fi_210_86 rfl <| K_iload_n fi_210_87 rfl <| K_iconst fi_210_88 <| K_iload fi_210_89 rfl <| K_ishl fi_210_91 <| K_iconst fi_210_92 <| K_ixor fi_210_93 <| K_iand fi_210_94 <| K_iconst fi_210_95 <| K_iload fi_210_96 rfl <| K_ishl fi_210_98 <| K_ior fi_210_99 <| R_invV fi_210_100 (am_invV_of rfl (kd_153) (Nat.le_of_ble_eq_true rfl) (Nat.le_of_ble_eq_true rfl) rfl rfl)
theorem b210_103 {d L : Nat} {σ : St} {Q : Option AV → AW → Prop} {y0 x1 x3 : Int} {u2 u4 u5 u6 u7 : AV} : R (d + 1) 210 103 [vR 153, vI x1, u2, vI x3, u4, u5, u6, u7] [vI y0] (WS L σ) Q = R d 169 0 [vR 153, vI x1, vI x3, vX 9, vX 9, vX 9, vX 9] [] (WS L σ) (fun r w => R (d + 1) 210 109 [vR 153, vI x1, u2, vI x3, u4, u5, u6, u7] (am_push r [vI y0]) w Q) := K_aload_n fi_210_103 rfl <| K_iload_n fi_210_104 rfl <| K_iload_n fi_210_105 rfl <| R_invV fi_210_106 (am_invV_of rfl (kd_153) (Nat.le_of_ble_eq_true rfl) (Nat.le_of_ble_eq_true rfl) rfl rfl)
theorem b210_109 {d L : Nat} {σ : St} {Q : Option AV → AW → Prop} {y0 y1 : Int} {u0 u1 u2 u3 u4 u5 u6 u7 : AV} : R d 210 109 [u0, u1, u2, u3, u4, u5, u6, u7] [vI y0, vI y1] (WS L σ) Q = if y1 ≤ y0 then R d 210 177 [u0, u1, u2, u3, u4, u5, u6, u7] [] (WS L σ) Q else R d 210 112 [u0, u1, u2, u3, u4, u5, u6, u7] [] (WS L σ) Q := R_icmp_le fi_210_109 rfl
theorem b210_112 {d L : Nat} {σ : St} {Q : Option AV → AW → Prop} {x2 x4 x6 x5 : Int} {u1 u3 u7 : AV} : R (d + 1) 210 112 [vR 153, u1, vI x2, u3, vI x4, vI x5, vI x6, u7] [] (WS L σ) Q = R d 169 0 [vR 153, vI x2, vI (i_or (i_and x4 (i_xor (i_shl 1 x6) (-1))) (i_shl 1 x5)), vX 9, vX 9, vX 9, vX 9] [] (WS L σ) (fun r w => R (d + 1) 210 131 [vR 153, u1, vI x2, u3, vI x4, vI x5, vI x6, u7] (am_push r []) w Q) := K_aload_n fi_210_112 rfl <| K_iload_n fi_210_113 rfl <| K_iload fi_210_114 rfl <| K_iconst fi_210_116 <| K_iload fi_210_117 rfl <| K_ishl fi_210_119 <| K_iconst fi_210_120 <| K_ixor fi_210_121 <| K_iand fi_210_122 <| K_iconst fi_210_123 <| K_iload fi_210_124 rfl <| K_ishl fi_210_126 <| K_ior fi_210_127 <| R_invV fi_210_128 (am_invV_of rfl (kd_153) (Nat.le_of_ble_eq_true rfl) (Nat.le_of_ble_eq_true rfl) rfl rfl)
theorem b210_131 {d L : Nat} {σ : St} {Q : Option AV → AW → Prop} {y0 x2 x4 : Int} {u1 u3 u5 u6 u7 : AV} : R (d + 1) 210 131 [vR 153, u1, vI x2, u3, vI x4, u5, u6, u7] [vI y0] (WS L σ) Q = R d 169 0 [vR 153, vI x2, vI x4, vX 9, vX 9, vX 9, vX 9] [] (WS L σ) (fun r w => R (d + 1) 210 138 [vR 153, u1, vI x2, u3, vI x4, u5, u6, u7] (am_push r [vI y0]) w Q) := K_aload_n fi_210_131 rfl <| K_iload_n fi_210_132 rfl <| K_iload fi_210_133 rfl <| R_invV fi_210_135 (am_invV_of rfl (kd_153) (Nat.le_of_ble_eq_true rfl) (Nat.le_of_ble_eq_true rfl) rfl rfl)
theorem b210_138 {d L : Nat} {σ : St} {Q : Option AV → AW → Prop} {y0 y1 : Int} {u0 u1 u2 u3 u4 u5 u6 u7 : AV} : R d 210 138 [u0, u1, u2, u3, u4, u5, u6, u7] [vI y0, vI y1] (WS L σ) Q = if y1 ≤ y0 then R d 210 177 [u0, u1, u2, u3, u4, u5, u6, u7] [] (WS L σ) Q else R d 210 141 [u0, u1, u2, u3, u4, u5, u6, u7] [] (WS L σ) Q := R_icmp_le fi_210_138 rfl
theorem b210_141 {d L : Nat} {σ : St} {Q : Option AV → AW → Prop} {u1 u2 u3 u4 u5 u6 u7 : AV} : R d 210 141 [vR 153, u1, u2, u3, u4, u5, u6, u7] [] (WS L σ) Q = if ¬ (σ 153 18) = 0 then R d 210 160 [vR 153, u1, u2, u3, u4, u5, u6, u7] [vR 153] (WS L σ) Q else R d 210 149 [vR 153, u1, u2, u3, u4, u5, u6, u7] [vR 153] (WS L σ) Q := K_aload_n fi_210_141 rfl <| K_aload_n fi_210_142 rfl <| K_gf fi_210_143 kd_153 mk_153_18 <| R_if_ne fi_210_146 rfl
theorem b210_149 {d L : Nat} {σ : St} {Q : Option AV → AW → Prop} {x5 x6 : Int} {u0 u1 u2 u3 u4 u7 : AV} (h1 : -2147483648 ≤ 10 * x5 ∧ 10 * x5 ≤ 2147483647) (h2 : -2147483648 ≤ (10 * x5) + x6 ∧ (10 * x5) + x6 ≤ 2147483647) : R d 210 149 [u0, u1, u2, u3, u4, vI x5, vI x6, u7] [vR 153] (WS L σ) Q = R d 210 164 [u0, u1, u2, u3, u4, vI x5, vI x6, u7] [vI ((10 * x5) + x6), vR 153] (WS L σ) Q := K_bipush fi_210_149 <| K_iload fi_210_151 rfl <| K_imulx fi_210_153 h1 <| K_iload fi_210_154 rfl <| K_iaddx fi_210_156 h2 <| R_goto fi_210_157 rfl
theorem b210_160 {d L : Nat} {σ : St} {Q : Option AV → AW → Prop} {u1 u2 u3 u4 u5 u6 u7 : AV} : R d 210 160 [vR 153, u1, u2, u3, u4, u5, u6, u7] [vR 153] (WS L σ) Q = R d 210 164 [vR 153, u1, u2, u3, u4, u5, u6, u7] [vI (σ 153 19), vR 153] (WS L σ) Q := K_aload_n fi_210_160 rfl <| K_gf fi_210_161 kd_153 mk_153_19 <| rfl
theorem b210_164 {d L : Nat} {σ : St} {Q : Option AV → AW → Prop} {y0 : Int} {u0 u1 u2 u3 u4 u5 u6 u7 : AV} : R d 210 164 [u0, u1, u2, u3, u4, u5, u6, u7] [vI y0, vR 153] (WS L σ) Q = R d 210 167 [u0, u1, u2, u3, u4, u5, u6, u7] [] (WS L (st2 σ 153 19 y0)) Q := K_pf fi_210_164 kd_153 rfl rfl rfl rfl <| rfl
theorem b210_167 {d L : Nat} {σ : St} {Q : Option AV → AW → Prop} {u1 u2 u3 u4 u5 u6 u7 : AV} (h1 : -2147483648 ≤ (σ 153 18) + 1 ∧ (σ 153 18) + 1 ≤ 2147483647) : R d 210 167 [vR 153, u1, u2, u3, u4, u5, u6, u7] [] (WS L σ) Q = R d 210 177 [vR 153, u1, u2, u3, u4, u5, u6, u7] [] (WS L (st2 σ 153 18 ((σ 153 18) + 1))) Q := K_aload_n fi_210_167 rfl <| K_dupr fi_210_168 <| K_gf fi_210_169 kd_153 mk_153_18 <| K_iconst fi_210_172 <| K_iaddx fi_210_173 h1 <| K_pf fi_210_174 kd_153 rfl rfl rfl rfl <| rfl
theorem b210_177 {d L : Nat} {σ : St} {Q : Option AV → AW → Prop} {x6 : Int} {u0 u1 u2 u3 u4 u5 u7 : AV} (h1 : -2147483648 ≤ x6 + 1 ∧ x6 + 1 ≤ 2147483647) : R d 210 177 [u0, u1, u2, u3, u4, u5, vI x6, u7] [] (WS L σ) Q = R d 210 41 [u0, u1, u2, u3, u4, u5, vI (x6 + 1), u7] [] (WS L σ) Q := K_iincx fi_210_177 rfl (Nat.le_of_ble_eq_true rfl) rfl h1 rfl <| R_goto fi_210_180 rfl
theorem b210_183 {d L : Nat} {σ : St} {Q : Option AV → AW → Prop} {x5 : Int} {u0 u1 u2 u3 u4 u6 u7 : AV} (h1 : -2147483648 ≤ x5 + 1 ∧ x5 + 1 ≤ 2147483647) : R d 210 183 [u0, u1, u2, u3, u4, vI x5, u6, u7] [] (WS L σ) Q = R d 210 27 [u0, u1, u2, u3, u4, vI (x5 + 1), u6, u7] [] (WS L σ) Q := K_iincx fi_210_183 rfl (Nat.le_of_ble_eq_true rfl) rfl h1 rfl <| R_goto fi_210_186 rfl
theorem b210_189 {d L : Nat} {σ : St} {Q : Option AV → AW → Prop} {u0 u1 u2 u3 u4 u5 u6 u7 : AV} : R d 210 189 [u0, u1, u2, u3, u4, u5, u6, u7] [] (WS L σ) Q = Q none (WS L σ) := R_return fi_210_189
theorem fi_211_0 : am_find 211 0 = some (.aload_n 0, 1, 0, 0, 0) := by decide +kernel
theorem fi_211_1 : am_find 211 1 = some (.iload_n 1, 1, 0, 0, 0) := by decide +kernel
theorem fi_211_2 : am_find 211 2 = some (.invokevirtual 161, 3, 179, 1, 194) := by decide +kernel
theorem fi_211_5 : am_find 211 5 = some (.ifCond .eq 11, 3, 0, 0, 0) := by decide +kernel
theorem fi_211_8 : am_find 211 8 = some (.aload_n 0, 1, 0, 0, 0) := by decide +kernel
theorem fi_211_9 : am_find 211 9 = some (.iload_n 2, 1, 0, 0, 0) := by decide +kernel
theorem fi_211_10 : am_find 211 10 = some (.invokevirtual 161, 3, 179, 1, 194) := by decide +kernel
theorem fi_211_13 : am_find 211 13 = some (.ifCond .ne 5, 3, 0, 0, 0) := by decide +kernel
theorem fi_211_16 : am_find 211 16 = some (.iconst (-1), 1, 0, (-1), 0) := by decide +kernel
theorem fi_211_17 : am_find 211 17 = some (.ireturn, 1, 0, 0, 0) := by decide +kernel
theorem fi_211_18 : am_find 211 18 = some (.iload_n 1, 1, 0, 0, 0) := by decide +kernel
theorem fi_211_19 : am_find 211 19 = some (.iload_n 2, 1, 0, 0, 0) := by decide +kernel
theorem fi_211_20 : am_find 211 20 = some (.if_icmp .ne 6, 3, 0, 0, 0) := by decide +kernel
theorem fi_211_23 : am_find 211 23 = some (.bipush (-2), 2, 0, (-2), 0) := by decide +kernel
theorem fi_211_25 : am_find 211 25 = some (.ireturn, 1, 0, 0, 0) := by decide +kernel
theorem fi_211_26 : am_find 211 26 = some (.iconst 0, 1, 0, 0, 0) := by decide +kernel
theorem fi_211_27 : am_find 211 27 = some (.istore_n 3, 1, 0, 0, 0) := by decide +kernel
theorem fi_211_28 : am_find 211 28 = some (.iload_n 3, 1, 0, 0, 0) := by decide +kernel
theorem fi_211_29 : am_find 211 29 = some (.bipush 20, 2, 0, 20, 0) := by decide +kernel
theorem fi_211_31 : am_find 211 31 = some (.if_icmp .ge 58, 3, 0, 0, 0) := by decide +kernel
theorem fi_211_34 : am_find 211 34 = some (.aload_n 0, 1, 0, 0, 0) := by decide +kernel
theorem fi_211_35 : am_find 211 35 = some (.iload_n 1, 1, 0, 0, 0) := by decide +kernel
theorem fi_211_36 : am_find 211 36 = some (.iload_n 2, 1, 0, 0, 0) := by decide +kernel
theorem fi_211_37 : am_find 211 37 = some (.invokevirtual 238, 3, 210, 2, 213) := by decide +kernel
theorem fi_211_40 : am_find 211 40 = some (.aload_n 0, 1, 0, 0, 0) := by decide +kernel
theorem fi_211_41 : am_find 211 41 = some (.getfield 232, 3, 10, 18, 121) := by decide +kernel
theorem fi_211_44 : am_find 211 44 = some (.ifCond .ne 5, 3, 0, 0, 0) := by decide +kernel
theorem fi_211_47 : am_find 211 47 = some (.iload_n 3, 1, 0, 0, 0) := by decide +kernel
theorem fi_211_48 : am_find 211 48 = some (.ireturn, 1, 0, 0, 0) := by decide +kernel
theorem fi_211_49 : am_find 211 49 = some (.aload_n 0, 1, 0, 0, 0) := by decide +kernel
theorem fi_211_50 : am_find 211 50 = some (.getfield 7, 3, 10, 1, 101) := by decide +kernel
theorem fi_211_53 : am_find 211 53 = some (.sipush 203, 3, 0, 203, 0) := by decide +kernel
theorem fi_211_56 : am_find 211 56 = some (.aload_n 0, 1, 0, 0, 0) := by decide +kernel
theorem fi_211_57 : am_find 211 57 = some (.getfield 235, 3, 10, 19, 122) := by decide +kernel
theorem fi_211_60 : am_find 211 60 = some (.bipush 10, 2, 0, 10, 0) := by decide +kernel
theorem fi_211_62 : am_find 211 62 = some (.idiv, 1, 0, 0, 0) := by decide +kernel
theorem fi_211_63 : am_find 211 63 = some (.iadd, 1, 0, 0, 0) := by decide +kernel
theorem fi_211_64 : am_find 211 64 = some (.iload_n 2, 1, 0, 0, 0) := by decide +kernel
theorem fi_211_65 : am_find 211 65 = some (.iastore, 1, 0, 0, 0) := by decide +kernel
theorem fi_211_66 : am_find 211 66 = some (.aload_n 0, 1, 0, 0, 0) := by decide +kernel
theorem fi_211_67 : am_find 211 67 = some (.getfield 7, 3, 10, 1, 101) := by decide +kernel
theorem fi_211_70 : am_find 211 70 = some (.sipush 203, 3, 0, 203, 0) := by decide +kernel
theorem fi_211_73 : am_find 211 73 = some (.aload_n 0, 1, 0, 0, 0) := by decide +kernel
theorem fi_211_74 : am_find 211 74 = some (.getfield 235, 3, 10, 19, 122) := by decide +kernel
theorem fi_211_77 : am_find 211 77 = some (.bipush 10, 2, 0, 10, 0) := by decide +kernel
theorem fi_211_79 : am_find 211 79 = some (.irem, 1, 0, 0, 0) := by decide +kernel
theorem fi_211_80 : am_find 211 80 = some (.iadd, 1, 0, 0, 0) := by decide +kernel
theorem fi_211_81 : am_find 211 81 = some (.iload_n 1, 1, 0, 0, 0) := by decide +kernel
theorem fi_211_82 : am_find 211 82 = some (.iastore, 1, 0, 0, 0) := by decide +kernel
theorem fi_211_83 : am_find 211 83 = some (.iinc 3 1, 3, 0, 0, 0) := by decide +kernel
theorem fi_211_86 : am_find 211 86 = some (.goto (-58), 3, 0, 0, 0) := by decide +kernel
theorem fi_211_89 : am_find 211 89 = some (.bipush 20, 2, 0, 20, 0) := by decide +kernel
theorem fi_211_91 : am_find 211 91 = some (.ireturn, 1, 0, 0, 0) := by decide +kernel
theorem b211_0 {d L : Nat} {σ : St} {Q : Option AV → AW → Prop} {x1 : Int} {u2 u3 : AV} : R (d + 1) 211 0 [vR 153, vI x1, u2, u3] [] (WS L σ) Q = R d 179 0 [vR 153, vI x1] [] (WS L σ) (fun r w => R (d + 1) 211 5 [vR 153, vI x1, u2, u3] (am_push r []) w Q) := K_aload_n fi_211_0 rfl <| K_iload_n fi_211_1 rfl <| R_invV fi_211_2 (am_invV_of rfl (kd_153) (Nat.le_of_ble_eq_true rfl) (Nat.le_of_ble_eq_true rfl) rfl rfl)
theorem b211_5 {d L : Nat} {σ : St} {Q : Option AV → AW → Prop} {y0 : Int} {u0 u1 u2 u3 : AV} : R d 211 5 [u0, u1, u2, u3] [vI y0] (WS L σ) Q = if y0 = 0 then R d 211 16 [u0, u1, u2, u3] [] (WS L σ) Q else R d 211 8 [u0, u1, u2, u3] [] (WS L σ) Q := R_if_eq fi_211_5 rfl
theorem b211_8 {d L : Nat} {σ : St} {Q : Option AV → AW → Prop} {x2 : Int} {u1 u3 : AV} : R (d + 1) 211 8 [vR 153, u1, vI x2, u3] [] (WS L σ) Q = R d 179 0 [vR 153, vI x2] [] (WS L σ) (fun r w => R (d + 1) 211 13 [vR 153, u1, vI x2, u3] (am_push r []) w Q) := K_aload_n fi_211_8 rfl <| K_iload_n fi_211_9 rfl <| R_invV fi_211_10 (am_invV_of rfl (kd_153) (Nat.le_of_ble_eq_true rfl) (Nat.le_of_ble_eq_true rfl) rfl rfl)
theorem b211_13 {d L : Nat} {σ : St} {Q : Option AV → AW → Prop} {y0 : Int} {u0 u1 u2 u3 : AV} : R d 211 13 [u0, u1, u2, u3] [vI y0] (WS L σ) Q = if ¬ y0 = 0 then R d 211 18 [u0, u1, u2, u3] [] (WS L σ) Q else R d 211 16 [u0, u1, u2, u3] [] (WS L σ) Q := R_if_ne fi_211_13 rfl
theorem b211_16 {d L : Nat} {σ : St} {Q : Option AV → AW → Prop} {u0 u1 u2 u3 : AV} : R d 211 16 [u0, u1, u2, u3] [] (WS L σ) Q = Q (some (vI (-1))) (WS L σ) := K_iconst fi_211_16 <| R_ireti fi_211_17 rfl
theorem b211_18 {d L : Nat} {σ : St} {Q : Option AV → AW → Prop} {x1 x2 : Int} {u0 u3 : AV} : R d 211 18 [u0, vI x1, vI x2, u3] [] (WS L σ) Q = if ¬ x1 = x2 then R d 211 26 [u0, vI x1, vI x2, u3] [] (WS L σ) Q else R d 211 23 [u0, vI x1, vI x2, u3] [] (WS L σ) Q := K_iload_n fi_211_18 rfl <| K_iload_n fi_211_19 rfl <| R_icmp_ne fi_211_20 rfl
theorem b211_23 {d L : Nat} {σ : St} {Q : Option AV → AW → Prop} {u0 u1 u2 u3 : AV} : R d 211 23 [u0, u1, u2, u3] [] (WS L σ) Q = Q (some (vI (-2))) (WS L σ) := K_bipush fi_211_23 <| R_ireti fi_211_25 rfl
theorem b211_26 {d L : Nat} {σ : St} {Q : Option AV → AW → Prop} {u0 u1 u2 u3 : AV} : R d 211 26 [u0, u1, u2, u3] [] (WS L σ) Q = R d 211 28 [u0, u1, u2, vI 0] [] (WS L σ) Q := K_iconst fi_211_26 <| K_istore_n fi_211_27 (Nat.le_of_ble_eq_true rfl) rfl rfl <| rfl
theorem b211_28 {d L : Nat} {σ : St} {Q : Option AV → AW → Prop} {x3 : Int} {u0 u1 u2 : AV} : R d 211 28 [u0, u1, u2, vI x3] [] (WS L σ) Q = if 20 ≤ x3 then R d 211 89 [u0, u1, u2, vI x3] [] (WS L σ) Q else R d 211 34 [u0, u1, u2, vI x3] [] (WS L σ) Q := K_iload_n fi_211_28 rfl <| K_bipush fi_211_29 <| R_icmp_ge fi_211_31 rfl
theorem b211_34 {d L : Nat} {σ : St} {Q : Option AV → AW → Prop} {x1 x2 : Int} {u3 : AV} : R (d + 1) 211 34 [vR 153, vI x1, vI x2, u3] [] (WS L σ) Q = R d 210 0 [vR 153, vI x1, vI x2, vX 9, vX 9, vX 9, vX 9, vX 9] [] (WS L σ) (fun r w => R (d + 1) 211 40 [vR 153, vI x1, vI x2, u3] (am_push r []) w Q) := K_aload_n fi_211_34 rfl <| K_iload_n fi_211_35 rfl <| K_iload_n fi_211_36 rfl <| R_invV fi_211_37 (am_invV_of rfl (kd_153) (Nat.le_of_ble_eq_true rfl) (Nat.le_of_ble_eq_true rfl) rfl rfl)
theorem b211_40 {d L : Nat} {σ : St} {Q : Option AV → AW → Prop} {u1 u2 u3 : AV} : R d 211 40 [vR 153, u1, u2, u3] [] (WS L σ) Q = if ¬ (σ 153 18) = 0 then R d 211 49 [vR 153, u1, u2, u3] [] (WS L σ) Q else R d 211 47 [vR 153, u1, u2, u3] [] (WS L σ) Q := K_aload_n fi_211_40 rfl <| K_gf fi_211_41 kd_153 mk_153_18 <| R_if_ne fi_211_44 rfl
theorem b211_47 {d L : Nat} {σ : St} {Q : Option AV → AW → Prop} {x3 : Int} {u0 u1 u2 : AV} : R d 211 47 [u0, u1, u2, vI x3] [] (WS L σ) Q = Q (some (vI x3)) (WS L σ) := K_iload_n fi_211_47 rfl <| R_ireti fi_211_48 rfl
theorem b211_49 {d L : Nat} {σ : St} {Q : Option AV → AW → Prop} {x2 : Int} {u1 u3 : AV} (h1 : -2147483648 ≤ 203 + (i_div (σ 153 19) 10) ∧ 203 + (i_div (σ 153 19) 10) ≤ 2147483647) (h2 : 0 ≤ 203 + (i_div (σ 153 19) 10)) (h3 : (203 + (i_div (σ 153 19) 10)) < 1580) : R d 211 49 [vR 153, u1, vI x2, u3] [] (WS L σ) Q = R d 211 66 [vR 153, u1, vI x2, u3] [] (WS L (st2 σ 154 (203 + (i_div (σ 153 19) 10)) x2)) Q := K_aload_n fi_211_49 rfl <| K_gf fi_211_50 kd_153 mk_153_1 <| K_sipush fi_211_53 <| K_aload_n fi_211_56 rfl <| K_gf fi_211_57 kd_153 mk_153_19 <| K_bipush fi_211_60 <| K_idiv fi_211_62 (by decide) <| K_iaddx fi_211_63 h1 <| K_iload_n fi_211_64 rfl <| K_is fi_211_65 kd_154 h2 h3 <| rfl
theorem b211_66 {d L : Nat} {σ : St} {Q : Option AV → AW → Prop} {x1 : Int} {u2 u3 : AV} (h1 : -2147483648 ≤ 203 + (i_rem (σ 153 19) 10) ∧ 203 + (i_rem (σ 153 19) 10) ≤ 2147483647) (h2 : 0 ≤ 203 + (i_rem (σ 153 19) 10)) (h3 : (203 + (i_rem (σ 153 19) 10)) < 1580) : R d 211 66 [vR 153, vI x1, u2, u3] [] (WS L σ) Q = R d 211 83 [vR 153, vI x1, u2, u3] [] (WS L (st2 σ 154 (203 + (i_rem (σ 153 19) 10)) x1)) Q := K_aload_n fi_211_66 rfl <| K_gf fi_211_67 kd_153 mk_153_1 <| K_sipush fi_211_70 <| K_aload_n fi_211_73 rfl <| K_gf fi_211_74 kd_153 mk_153_19 <| K_bipush fi_211_77 <| K_irem fi_211_79 (by decide) <| K_iaddx fi_211_80 h1 <| K_iload_n fi_211_81 rfl <| K_is fi_211_82 kd_154 h2 h3 <| rfl
theorem b211_83 {d L : Nat} {σ : St} {Q : Option AV → AW → Prop} {x3 : Int} {u0 u1 u2 : AV} (h1 : -2147483648 ≤ x3 + 1 ∧ x3 + 1 ≤ 2147483647) : R d 211 83 [u0, u1, u2, vI x3] [] (WS L σ) Q = R d 211 28 [u0, u1, u2, vI (x3 + 1)] [] (WS L σ) Q := K_iincx fi_211_83 rfl (Nat.le_of_ble_eq_true rfl) rfl h1 rfl <| R_goto fi_211_86 rfl
theorem b211_89 {d L : Nat} {σ : St} {Q : Option AV → AW → Prop} {u0 u1 u2 u3 : AV} : R d 211 89 [u0, u1, u2, u3] [] (WS L σ) Q = Q (some (vI 20)) (WS L σ) := K_bipush fi_211_89 <| R_ireti fi_211_91 rfl
theorem fi_212_0 : am_find 212 0 = some (.iload_n 1, 1, 0, 0, 0) := by decide +kernel
theorem fi_212_1 : am_find 212 1 = some (.invokestatic 144, 3, 167, 1, 189) := by decide +kernel
theorem fi_212_4 : am_find 212 4 = some (.ifCond .eq 19, 3, 0, 0, 0) := by decide +kernel
theorem fi_212_7 : am_find 212 7 = some (.aload_n 0, 1, 0, 0, 0) := by decide +kernel
theorem fi_212_8 : am_find 212 8 = some (.iload_n 2, 1, 0, 0, 0) := by decide +kernel
theorem fi_212_9 : am_find 212 9 = some (.invokevirtual 53, 3, 147, 1, 171) := by decide +kernel
theorem fi_212_12 : am_find 212 12 = some (.ifCond .eq 11, 3, 0, 0, 0) := by decide +kernel
theorem fi_212_15 : am_find 212 15 = some (.aload_n 0, 1, 0, 0, 0) := by decide +kernel
theorem fi_212_16 : am_find 212 16 = some (.iload_n 3, 1, 0, 0, 0) := by decide +kernel
theorem fi_212_17 : am_find 212 17 = some (.invokevirtual 53, 3, 147, 1, 171) := by decide +kernel
theorem fi_212_20 : am_find 212 20 = some (.ifCond .ne 5, 3, 0, 0, 0) := by decide +kernel
theorem fi_212_23 : am_find 212 23 = some (.iconst (-1), 1, 0, (-1), 0) := by decide +kernel
theorem fi_212_24 : am_find 212 24 = some (.ireturn, 1, 0, 0, 0) := by decide +kernel
theorem fi_212_25 : am_find 212 25 = some (.iload_n 2, 1, 0, 0, 0) := by decide +kernel
theorem fi_212_26 : am_find 212 26 = some (.iload_n 3, 1, 0, 0, 0) := by decide +kernel
theorem fi_212_27 : am_find 212 27 = some (.if_icmp .ne 6, 3, 0, 0, 0) := by decide +kernel
theorem fi_212_30 : am_find 212 30 = some (.bipush (-2), 2, 0, (-2), 0) := by decide +kernel
theorem fi_212_32 : am_find 212 32 = some (.ireturn, 1, 0, 0, 0) := by decide +kernel
theorem fi_212_33 : am_find 212 33 = some (.iconst 0, 1, 0, 0, 0) := by decide +kernel
theorem fi_212_34 : am_find 212 34 = some (.istore 4, 2, 0, 0, 0) := by decide +kernel
theorem fi_212_36 : am_find 212 36 = some (.iconst 0, 1, 0, 0, 0) := by decide +kernel
theorem fi_212_37 : am_find 212 37 = some (.istore 5, 2, 0, 0, 0) := by decide +kernel
theorem fi_212_39 : am_find 212 39 = some (.iload 5, 2, 0, 0, 0) := by decide +kernel
theorem fi_212_41 : am_find 212 41 = some (.aload_n 0, 1, 0, 0, 0) := by decide +kernel
theorem fi_212_42 : am_find 212 42 = some (.getfield 7, 3, 10, 1, 101) := by decide +kernel
theorem fi_212_45 : am_find 212 45 = some (.iconst 3, 1, 0, 3, 0) := by decide +kernel
theorem fi_212_46 : am_find 212 46 = some (.iaload, 1, 0, 0, 0) := by decide +kernel
theorem fi_212_47 : am_find 212 47 = some (.if_icmp .ge 116, 3, 0, 0, 0) := by decide +kernel
theorem fi_212_50 : am_find 212 50 = some (.iconst 0, 1, 0, 0, 0) := by decide +kernel
theorem fi_212_51 : am_find 212 51 = some (.istore 6, 2, 0, 0, 0) := by decide +kernel
theorem fi_212_53 : am_find 212 53 = some (.iconst 0, 1, 0, 0, 0) := by decide +kernel
theorem fi_212_54 : am_find 212 54 = some (.istore 7, 2, 0, 0, 0) := by decide +kernel
theorem fi_212_56 : am_find 212 56 = some (.iload 7, 2, 0, 0, 0) := by decide +kernel
theorem fi_212_58 : am_find 212 58 = some (.aload_n 0, 1, 0, 0, 0) := by decide +kernel
theorem fi_212_59 : am_find 212 59 = some (.getfield 7, 3, 10, 1, 101) := by decide +kernel
theorem fi_212_62 : am_find 212 62 = some (.sipush 1369, 3, 0, 1369, 0) := by decide +kernel
theorem fi_212_65 : am_find 212 65 = some (.iload 5, 2, 0, 0, 0) := by decide +kernel
theorem fi_212_67 : am_find 212 67 = some (.iadd, 1, 0, 0, 0) := by decide +kernel
theorem fi_212_68 : am_find 212 68 = some (.iaload, 1, 0, 0, 0) := by decide +kernel
theorem fi_212_69 : am_find 212 69 = some (.if_icmp .ge 88, 3, 0, 0, 0) := by decide +kernel
theorem fi_212_72 : am_find 212 72 = some (.aload_n 0, 1, 0, 0, 0) := by decide +kernel
theorem fi_212_73 : am_find 212 73 = some (.getfield 7, 3, 10, 1, 101) := by decide +kernel
theorem fi_212_76 : am_find 212 76 = some (.sipush 1381, 3, 0, 1381, 0) := by decide +kernel
theorem fi_212_79 : am_find 212 79 = some (.bipush 8, 2, 0, 8, 0) := by decide +kernel
theorem fi_212_81 : am_find 212 81 = some (.iload 5, 2, 0, 0, 0) := by decide +kernel
theorem fi_212_83 : am_find 212 83 = some (.imul, 1, 0, 0, 0) := by decide +kernel
theorem fi_212_84 : am_find 212 84 = some (.iadd, 1, 0, 0, 0) := by decide +kernel
theorem fi_212_85 : am_find 212 85 = some (.iload 7, 2, 0, 0, 0) := by decide +kernel
theorem fi_212_87 : am_find 212 87 = some (.iadd, 1, 0, 0, 0) := by decide +kernel
theorem fi_212_88 : am_find 212 88 = some (.iaload, 1, 0, 0, 0) := by decide +kernel
theorem fi_212_89 : am_find 212 89 = some (.istore 8, 2, 0, 0, 0) := by decide +kernel
theorem fi_212_91 : am_find 212 91 = some (.iload 4, 2, 0, 0, 0) := by decide +kernel
theorem fi_212_93 : am_find 212 93 = some (.iload 6, 2, 0, 0, 0) := by decide +kernel
theorem fi_212_95 : am_find 212 95 = some (.ifCond .eq 13, 3, 0, 0, 0) := by decide +kernel
theorem fi_212_98 : am_find 212 98 = some (.iload 8, 2, 0, 0, 0) := by decide +kernel
theorem fi_212_100 : am_find 212 100 = some (.iload_n 3, 1, 0, 0, 0) := by decide +kernel
theorem fi_212_101 : am_find 212 101 = some (.if_icmp .ne 7, 3, 0, 0, 0) := by decide +kernel
theorem fi_212_104 : am_find 212 104 = some (.iconst 1, 1, 0, 1, 0) := by decide +kernel
theorem fi_212_105 : am_find 212 105 = some (.goto 4, 3, 0, 0, 0) := by decide +kernel
theorem fi_212_108 : am_find 212 108 = some (.iconst 0, 1, 0, 0, 0) := by decide +kernel
theorem fi_212_109 : am_find 212 109 = some (.iadd, 1, 0, 0, 0) := by decide +kernel
theorem fi_212_110 : am_find 212 110 = some (.istore 4, 2, 0, 0, 0) := by decide +kernel
theorem fi_212_112 : am_find 212 112 = some (.iload 6, 2, 0, 0, 0) := by decide +kernel
theorem fi_212_114 : am_find 212 114 = some (.ifCond .ne 30, 3, 0, 0, 0) := by decide +kernel
theorem fi_212_117 : am_find 212 117 = some (.iload 8, 2, 0, 0, 0) := by decide +kernel
theorem fi_212_119 : am_find 212 119 = some (.iload_n 2, 1, 0, 0, 0) := by decide +kernel
theorem fi_212_120 : am_find 212 120 = some (.if_icmp .ne 28, 3, 0, 0, 0) := by decide +kernel
theorem fi_212_123 : am_find 212 123 = some (.aload_n 0, 1, 0, 0, 0) := by decide +kernel
theorem fi_212_124 : am_find 212 124 = some (.getfield 7, 3, 10, 1, 101) := by decide +kernel
theorem fi_212_127 : am_find 212 127 = some (.sipush 1477, 3, 0, 1477, 0) := by decide +kernel
theorem fi_212_130 : am_find 212 130 = some (.bipush 8, 2, 0, 8, 0) := by decide +kernel
theorem fi_212_132 : am_find 212 132 = some (.iload 5, 2, 0, 0, 0) := by decide +kernel
theorem fi_212_134 : am_find 212 134 = some (.imul, 1, 0, 0, 0) := by decide +kernel
theorem fi_212_135 : am_find 212 135 = some (.iadd, 1, 0, 0, 0) := by decide +kernel
theorem fi_212_136 : am_find 212 136 = some (.iload 7, 2, 0, 0, 0) := by decide +kernel
theorem fi_212_138 : am_find 212 138 = some (.iadd, 1, 0, 0, 0) := by decide +kernel
theorem fi_212_139 : am_find 212 139 = some (.iaload, 1, 0, 0, 0) := by decide +kernel
theorem fi_212_140 : am_find 212 140 = some (.iload_n 1, 1, 0, 0, 0) := by decide +kernel
theorem fi_212_141 : am_find 212 141 = some (.if_icmp .ne 7, 3, 0, 0, 0) := by decide +kernel
theorem fi_212_144 : am_find 212 144 = some (.iconst 1, 1, 0, 1, 0) := by decide +kernel
theorem fi_212_145 : am_find 212 145 = some (.goto 4, 3, 0, 0, 0) := by decide +kernel
theorem fi_212_148 : am_find 212 148 = some (.iconst 0, 1, 0, 0, 0) := by decide +kernel
theorem fi_212_149 : am_find 212 149 = some (.istore 6, 2, 0, 0, 0) := by decide +kernel
theorem fi_212_151 : am_find 212 151 = some (.iinc 7 1, 3, 0, 0, 0) := by decide +kernel
theorem fi_212_154 : am_find 212 154 = some (.goto (-98), 3, 0, 0, 0) := by decide +kernel
theorem fi_212_157 : am_find 212 157 = some (.iinc 5 1, 3, 0, 0, 0) := by decide +kernel
theorem fi_212_160 : am_find 212 160 = some (.goto (-121), 3, 0, 0, 0) := by decide +kernel
theorem fi_212_163 : am_find 212 163 = some (.iload 4, 2, 0, 0, 0) := by decide +kernel
theorem fi_212_165 : am_find 212 165 = some (.ireturn, 1, 0, 0, 0) := by decide +kernel
theorem b212_0 {d L : Nat} {σ : St} {Q : Option AV → AW → Prop} {x1 : Int} {u0 u2 u3 u4 u5 u6 u7 u8 : AV} : R (d + 1) 212 0 [u0, vI x1, u2, u3, u4, u5, u6, u7, u8] [] (WS L σ) Q = R d 167 0 [vI x1] [] (WS L σ) (fun r w => R (d + 1) 212 4 [u0, vI x1, u2, u3, u4, u5, u6, u7, u8] (am_push r []) w Q) := K_iload_n fi_212_0 rfl <| R_invS fi_212_1 (by decide) (am_invS_of (Nat.le_of_ble_eq_true rfl) rfl (Nat.le_of_ble_eq_true rfl) (Nat.le_of_ble_eq_true rfl) rfl rfl)
theorem b212_4 {d L : Nat} {σ : St} {Q : Option AV → AW → Prop} {y0 : Int} {u0 u1 u2 u3 u4 u5 u6 u7 u8 : AV} : R d 212 4 [u0, u1, u2, u3, u4, u5, u6, u7, u8] [vI y0] (WS L σ) Q = if y0 = 0 then R d 212 23 [u0, u1, u2, u3, u4, u5, u6, u7, u8] [] (WS L σ) Q else R d 212 7 [u0, u1, u2, u3, u4, u5, u6, u7, u8] [] (WS L σ) Q := R_if_eq fi_212_4 rfl
theorem b212_7 {d L : Nat} {σ : St} {Q : Option AV → AW → Prop} {x2 : Int} {u1 u3 u4 u5 u6 u7 u8 : AV} : R (d + 1) 212 7 [vR 153, u1, vI x2, u3, u4, u5, u6, u7, u8] [] (WS L σ) Q = R d 147 0 [vR 153, vI x2] [] (WS L σ) (fun r w => R (d + 1) 212 12 [vR 153, u1, vI x2, u3, u4, u5, u6, u7, u8] (am_push r []) w Q) := K_aload_n fi_212_7 rfl <| K_iload_n fi_212_8 rfl <| R_invV fi_212_9 (am_invV_of rfl (kd_153) (Nat.le_of_ble_eq_true rfl) (Nat.le_of_ble_eq_true rfl) rfl rfl)
theorem b212_12 {d L : Nat} {σ : St} {Q : Option AV → AW → Prop} {y0 : Int} {u0 u1 u2 u3 u4 u5 u6 u7 u8 : AV} : R d 212 12 [u0, u1, u2, u3, u4, u5, u6, u7, u8] [vI y0] (WS L σ) Q = if y0 = 0 then R d 212 23 [u0, u1, u2, u3, u4, u5, u6, u7, u8] [] (WS L σ) Q else R d 212 15 [u0, u1, u2, u3, u4, u5, u6, u7, u8] [] (WS L σ) Q := R_if_eq fi_212_12 rfl
theorem b212_15 {d L : Nat} {σ : St} {Q : Option AV → AW → Prop} {x3 : Int} {u1 u2 u4 u5 u6 u7 u8 : AV} : R (d + 1) 212 15 [vR 153, u1, u2, vI x3, u4, u5, u6, u7, u8] [] (WS L σ) Q = R d 147 0 [vR 153, vI x3] [] (WS L σ) (fun r w => R (d + 1) 212 20 [vR 153, u1, u2, vI x3, u4, u5, u6, u7, u8] (am_push r []) w Q) := K_aload_n fi_212_15 rfl <| K_iload_n fi_212_16 rfl <| R_invV fi_212_17 (am_invV_of rfl (kd_153) (Nat.le_of_ble_eq_true rfl) (Nat.le_of_ble_eq_true rfl) rfl rfl)
theorem b212_20 {d L : Nat} {σ : St} {Q : Option AV → AW → Prop} {y0 : Int} {u0 u1 u2 u3 u4 u5 u6 u7 u8 : AV} : R d 212 20 [u0, u1, u2, u3, u4, u5, u6, u7, u8] [vI y0] (WS L σ) Q = if ¬ y0 = 0 then R d 212 25 [u0, u1, u2, u3, u4, u5, u6, u7, u8] [] (WS L σ) Q else R d 212 23 [u0, u1, u2, u3, u4, u5, u6, u7, u8] [] (WS L σ) Q := R_if_ne fi_212_20 rfl
theorem b212_23 {d L : Nat} {σ : St} {Q : Option AV → AW → Prop} {u0 u1 u2 u3 u4 u5 u6 u7 u8 : AV} : R d 212 23 [u0, u1, u2, u3, u4, u5, u6, u7, u8] [] (WS L σ) Q = Q (some (vI (-1))) (WS L σ) := K_iconst fi_212_23 <| R_ireti fi_212_24 rfl
theorem b212_25 {d L : Nat} {σ : St} {Q : Option AV → AW → Prop} {x2 x3 : Int} {u0 u1 u4 u5 u6 u7 u8 : AV} : R d 212 25 [u0, u1, vI x2, vI x3, u4, u5, u6, u7, u8] [] (WS L σ) Q = if ¬ x2 = x3 then R d 212 33 [u0, u1, vI x2, vI x3, u4, u5, u6, u7, u8] [] (WS L σ) Q else R d 212 30 [u0, u1, vI x2, vI x3, u4, u5, u6, u7, u8] [] (WS L σ) Q := K_iload_n fi_212_25 rfl <| K_iload_n fi_212_26 rfl <| R_icmp_ne fi_212_27 rfl
theorem b212_30 {d L : Nat} {σ : St} {Q : Option AV → AW → Prop} {u0 u1 u2 u3 u4 u5 u6 u7 u8 : AV} : R d 212 30 [u0, u1, u2, u3, u4, u5, u6, u7, u8] [] (WS L σ) Q = Q (some (vI (-2))) (WS L σ) := K_bipush fi_212_30 <| R_ireti fi_212_32 rfl
theorem b212_33 {d L : Nat} {σ : St} {Q : Option AV → AW → Prop} {u0 u1 u2 u3 u4 u5 u6 u7 u8 : AV} : R d 212 33 [u0, u1, u2, u3, u4, u5, u6, u7, u8] [] (WS L σ) Q = R d 212 39 [u0, u1, u2, u3, vI 0, vI 0, u6, u7, u8] [] (WS L σ) Q := K_iconst fi_212_33 <| K_istore fi_212_34 (Nat.le_of_ble_eq_true rfl) rfl rfl <| K_iconst fi_212_36 <| K_istore fi_212_37 (Nat.le_of_ble_eq_true rfl) rfl rfl <| rfl
theorem b212_39 {d L : Nat} {σ : St} {Q : Option AV → AW → Prop} {x5 : Int} {u1 u2 u3 u4 u6 u7 u8 : AV} : R d 212 39 [vR 153, u1, u2, u3, u4, vI x5, u6, u7, u8] [] (WS L σ) Q = if (σ 154 3) ≤ x5 then R d 212 163 [vR 153, u1, u2, u3, u4, vI x5, u6, u7, u8] [] (WS L σ) Q else R d 212 50 [vR 153, u1, u2, u3, u4, vI x5, u6, u7, u8] [] (WS L σ) Q := K_iload fi_212_39 rfl <| K_aload_n fi_212_41 rfl <| K_gf fi_212_42 kd_153 mk_153_1 <| K_iconst fi_212_45 <| K_ia fi_212_46 kd_154 (by decide) (show (3 : Int) < 1580 by decide) <| R_icmp_ge fi_212_47 rfl
theorem b212_50 {d L : Nat} {σ : St} {Q : Option AV → AW → Prop} {u0 u1 u2 u3 u4 u5 u6 u7 u8 : AV} : R d 212 50 [u0, u1, u2, u3, u4, u5, u6, u7, u8] [] (WS L σ) Q = R d 212 56 [u0, u1, u2, u3, u4, u5, vI 0, vI 0, u8] [] (WS L σ) Q := K_iconst fi_212_50 <| K_istore fi_212_51 (Nat.le_of_ble_eq_true rfl) rfl rfl <| K_iconst fi_212_53 <| K_istore fi_212_54 (Nat.le_of_ble_eq_true rfl) rfl rfl <| rfl
theorem b212_56 {d L : Nat} {σ : St} {Q : Option AV → AW → Prop} {x7 x5 : Int} {u1 u2 u3 u4 u6 u8 : AV} (h1 : -2147483648 ≤ 1369 + x5 ∧ 1369 + x5 ≤ 2147483647) (h2 : 0 ≤ 1369 + x5) (h3 : (1369 + x5) < 1580) : R d 212 56 [vR 153, u1, u2, u3, u4, vI x5, u6, vI x7, u8] [] (WS L σ) Q = if (σ 154 (1369 + x5)) ≤ x7 then R d 212 157 [vR 153, u1, u2, u3, u4, vI x5, u6, vI x7, u8] [] (WS L σ) Q else R d 212 72 [vR 153, u1, u2, u3, u4, vI x5, u6, vI x7, u8] [] (WS L σ) Q := K_iload fi_212_56 rfl <| K_aload_n fi_212_58 rfl <| K_gf fi_212_59 kd_153 mk_153_1 <| K_sipush fi_212_62 <| K_iload fi_212_65 rfl <| K_iaddx fi_212_67 h1 <| K_ia fi_212_68 kd_154 h2 h3 <| R_icmp_ge fi_212_69 rfl
theorem b212_72 {d L : Nat} {σ : St} {Q : Option AV → AW → Prop} {x5 x7 x4 x6 : Int} {u1 u2 u3 u8 : AV} (h1 : -2147483648 ≤ 8 * x5 ∧ 8 * x5 ≤ 2147483647) (h2 : -2147483648 ≤ 1381 + (8 * x5) ∧ 1381 + (8 * x5) ≤ 2147483647) (h3 : -2147483648 ≤ (1381 + (8 * x5)) + x7 ∧ (1381 + (8 * x5)) + x7 ≤ 2147483647) (h4 : 0 ≤ (1381 + (8 * x5)) + x7) (h5 : ((1381 + (8 * x5)) + x7) < 1580) : R d 212 72 [vR 153, u1, u2, u3, vI x4, vI x5, vI x6, vI x7, u8] [] (WS L σ) Q = if x6 = 0 then R d 212 108 [vR 153, u1, u2, u3, vI x4, vI x5, vI x6, vI x7, vI (σ 154 ((1381 + (8 * x5)) + x7))] [vI x4] (WS L σ) Q else R d 212 98 [vR 153, u1, u2, u3, vI x4, vI x5, vI x6, vI x7, vI (σ 154 ((1381 + (8 * x5)) + x7))] [vI x4] (WS L σ) Q := K_aload_n fi_212_72 rfl <| K_gf fi_212_73 kd_153 mk_153_1 <| K_sipush fi_212_76 <| K_bipush fi_212_79 <| K_iload fi_212_81 rfl <| K_imulx fi_212_83 h1 <| K_iaddx fi_212_84 h2 <| K_iload fi_212_85 rfl <| K_iaddx fi_212_87 h3 <| K_ia fi_212_88 kd_154 h4 h5 <| K_istore fi_212_89 (Nat.le_of_ble_eq_true rfl) rfl rfl <| K_iload fi_212_91 rfl <| K_iload fi_212_93 rfl <| R_if_eq fi_212_95 rfl
theorem b212_98 {d L : Nat} {σ : St} {Q : Option AV → AW → Prop} {y0 x8 x3 : Int} {u0 u1 u2 u4 u5 u6 u7 : AV} : R d 212 98 [u0, u1, u2, vI x3, u4, u5, u6, u7, vI x8] [vI y0] (WS L σ) Q = if ¬ x8 = x3 then R d 212 108 [u0, u1, u2, vI x3, u4, u5, u6, u7, vI x8] [vI y0] (WS L σ) Q else R d 212 104 [u0, u1, u2, vI x3, u4, u5, u6, u7, vI x8] [vI y0] (WS L σ) Q := K_iload fi_212_98 rfl <| K_iload_n fi_212_100 rfl <| R_icmp_ne fi_212_101 rfl
theorem b212_104 {d L : Nat} {σ : St} {Q : Option AV → AW → Prop} {y0 : Int} {u0 u1 u2 u3 u4 u5 u6 u7 u8 : AV} : R d 212 104 [u0, u1, u2, u3, u4, u5, u6, u7, u8] [vI y0] (WS L σ) Q = R d 212 109 [u0, u1, u2, u3, u4, u5, u6, u7, u8] [vI 1, vI y0] (WS L σ) Q := K_iconst fi_212_104 <| R_goto fi_212_105 rfl
theorem b212_108 {d L : Nat} {σ : St} {Q : Option AV → AW → Prop} {y0 : Int} {u0 u1 u2 u3 u4 u5 u6 u7 u8 : AV} : R d 212 108 [u0, u1, u2, u3, u4, u5, u6, u7, u8] [vI y0] (WS L σ) Q = R d 212 109 [u0, u1, u2, u3, u4, u5, u6, u7, u8] [vI 0, vI y0] (WS L σ) Q := K_iconst fi_212_108 <| rfl
theorem b212_109 {d L : Nat} {σ : St} {Q : Option AV → AW → Prop} {y0 y1 x6 : Int} {u0 u1 u2 u3 u4 u5 u7 u8 : AV} (h1 : -2147483648 ≤ y1 + y0 ∧ y1 + y0 ≤ 2147483647) : R d 212 109 [u0, u1, u2, u3, u4, u5, vI x6, u7, u8] [vI y0, vI y1] (WS L σ) Q = if ¬ x6 = 0 then R d 212 144 [u0, u1, u2, u3, vI (y1 + y0), u5, vI x6, u7, u8] [] (WS L σ) Q else R d 212 117 [u0, u1, u2, u3, vI (y1 + y0), u5, vI x6, u7, u8] [] (WS L σ) Q := K_iaddx fi_212_109 h1 <| K_istore fi_212_110 (Nat.le_of_ble_eq_true rfl) rfl rfl <| K_iload fi_212_112 rfl <| R_if_ne fi_212_114 rfl
theorem b212_117 {d L : Nat} {σ : St} {Q : Option AV → AW → Prop} {x8 x2 : Int} {u0 u1 u3 u4 u5 u6 u7 : AV} : R d 212 117 [u0, u1, vI x2, u3, u4, u5, u6, u7, vI x8] [] (WS L σ) Q = if ¬ x8 = x2 then R d 212 148 [u0, u1, vI x2, u3, u4, u5, u6, u7, vI x8] [] (WS L σ) Q else R d 212 123 [u0, u1, vI x2, u3, u4, u5, u6, u7, vI x8] [] (WS L σ) Q := K_iload fi_212_117 rfl <| K_iload_n fi_212_119 rfl <| R_icmp_ne fi_212_120 rfl
theorem b212_123 {d L : Nat} {σ : St} {Q : Option AV → AW → Prop} {x5 x7 x1 : Int} {u2 u3 u4 u6 u8 : AV} (h1 : -2147483648 ≤ 8 * x5 ∧ 8 * x5 ≤ 2147483647) (h2 : -2147483648 ≤ 1477 + (8 * x5) ∧ 1477 + (8 * x5) ≤ 2147483647) (h3 : -2147483648 ≤ (1477 + (8 * x5)) + x7 ∧ (1477 + (8 * x5)) + x7 ≤ 2147483647) (h4 : 0 ≤ (1477 + (8 * x5)) + x7) (h5 : ((1477 + (8 * x5)) + x7) < 1580) : R d 212 123 [vR 153, vI x1, u2, u3, u4, vI x5, u6, vI x7, u8] [] (WS L σ) Q = if ¬ (σ 154 ((1477 + (8 * x5)) + x7)) = x1 then R d 212 148 [vR 153, vI x1, u2, u3, u4, vI x5, u6, vI x7, u8] [] (WS L σ) Q else R d 212 144 [vR 153, vI x1, u2, u3, u4, vI x5, u6, vI x7, u8] [] (WS L σ) Q := K_aload_n fi_212_123 rfl <| K_gf fi_212_124 kd_153 mk_153_1 <| K_sipush fi_212_127 <| K_bipush fi_212_130 <| K_iload fi_212_132 rfl <| K_imulx fi_212_134 h1 <| K_iaddx fi_212_135 h2 <| K_iload fi_212_136 rfl <| K_iaddx fi_212_138 h3 <| K_ia fi_212_139 kd_154 h4 h5 <| K_iload_n fi_212_140 rfl <| R_icmp_ne fi_212_141 rfl
theorem b212_144 {d L : Nat} {σ : St} {Q : Option AV → AW → Prop} {u0 u1 u2 u3 u4 u5 u6 u7 u8 : AV} : R d 212 144 [u0, u1, u2, u3, u4, u5, u6, u7, u8] [] (WS L σ) Q = R d 212 149 [u0, u1, u2, u3, u4, u5, u6, u7, u8] [vI 1] (WS L σ) Q := K_iconst fi_212_144 <| R_goto fi_212_145 rfl
theorem b212_148 {d L : Nat} {σ : St} {Q : Option AV → AW → Prop} {u0 u1 u2 u3 u4 u5 u6 u7 u8 : AV} : R d 212 148 [u0, u1, u2, u3, u4, u5, u6, u7, u8] [] (WS L σ) Q = R d 212 149 [u0, u1, u2, u3, u4, u5, u6, u7, u8] [vI 0] (WS L σ) Q := K_iconst fi_212_148 <| rfl
theorem b212_149 {d L : Nat} {σ : St} {Q : Option AV → AW → Prop} {y0 x7 : Int} {u0 u1 u2 u3 u4 u5 u6 u8 : AV} (h1 : -2147483648 ≤ x7 + 1 ∧ x7 + 1 ≤ 2147483647) : R d 212 149 [u0, u1, u2, u3, u4, u5, u6, vI x7, u8] [vI y0] (WS L σ) Q = R d 212 56 [u0, u1, u2, u3, u4, u5, vI y0, vI (x7 + 1), u8] [] (WS L σ) Q := K_istore fi_212_149 (Nat.le_of_ble_eq_true rfl) rfl rfl <| K_iincx fi_212_151 rfl (Nat.le_of_ble_eq_true rfl) rfl h1 rfl <| R_goto fi_212_154 rfl
theorem b212_157 {d L : Nat} {σ : St} {Q : Option AV → AW → Prop} {x5 : Int} {u0 u1 u2 u3 u4 u6 u7 u8 : AV} (h1 : -2147483648 ≤ x5 + 1 ∧ x5 + 1 ≤ 2147483647) : R d 212 157 [u0, u1, u2, u3, u4, vI x5, u6, u7, u8] [] (WS L σ) Q = R d 212 39 [u0, u1, u2, u3, u4, vI (x5 + 1), u6, u7, u8] [] (WS L σ) Q := K_iincx fi_212_157 rfl (Nat.le_of_ble_eq_true rfl) rfl h1 rfl <| R_goto fi_212_160 rfl
theorem b212_163 {d L : Nat} {σ : St} {Q : Option AV → AW → Prop} {x4 : Int} {u0 u1 u2 u3 u5 u6 u7 u8 : AV} : R d 212 163 [u0, u1, u2, u3, vI x4, u5, u6, u7, u8] [] (WS L σ) Q = Q (some (vI x4)) (WS L σ) := K_iload fi_212_163 rfl <| R_ireti fi_212_165 rfl
theorem fi_213_0 : am_find 213 0 = some (.iload_n 1, 1, 0, 0, 0) := by decide +kernel
theorem fi_213_1 : am_find 213 1 = some (.invokestatic 144, 3, 167, 1, 189) := by decide +kernel
theorem fi_213_4 : am_find 213 4 = some (.ifCond .ne 5, 3, 0, 0, 0) := by decide +kernel
theorem fi_213_7 : am_find 213 7 = some (.iconst (-1), 1, 0, (-1), 0) := by decide +kernel
theorem fi_213_8 : am_find 213 8 = some (.ireturn, 1, 0, 0, 0) := by decide +kernel
theorem fi_213_9 : am_find 213 9 = some (.aload_n 0, 1, 0, 0, 0) := by decide +kernel
theorem fi_213_10 : am_find 213 10 = some (.getfield 7, 3, 10, 1, 101) := by decide +kernel
theorem fi_213_13 : am_find 213 13 = some (.iconst 0, 1, 0, 0, 0) := by decide +kernel
theorem fi_213_14 : am_find 213 14 = some (.iaload, 1, 0, 0, 0) := by decide +kernel
theorem fi_213_15 : am_find 213 15 = some (.bipush 6, 2, 0, 6, 0) := by decide +kernel
theorem fi_213_17 : am_find 213 17 = some (.if_icmp .le 6, 3, 0, 0, 0) := by decide +kernel
theorem fi_213_20 : am_find 213 20 = some (.bipush (-9), 2, 0, (-9), 0) := by decide +kernel
theorem fi_213_22 : am_find 213 22 = some (.ireturn, 1, 0, 0, 0) := by decide +kernel
theorem fi_213_23 : am_find 213 23 = some (.iload_n 2, 1, 0, 0, 0) := by decide +kernel
theorem fi_213_24 : am_find 213 24 = some (.iconst (-1), 1, 0, (-1), 0) := by decide +kernel
theorem fi_213_25 : am_find 213 25 = some (.aload_n 0, 1, 0, 0, 0) := by decide +kernel
theorem fi_213_26 : am_find 213 26 = some (.getfield 7, 3, 10, 1, 101) := by decide +kernel
theorem fi_213_29 : am_find 213 29 = some (.iconst 0, 1, 0, 0, 0) := by decide +kernel
theorem fi_213_30 : am_find 213 30 = some (.iaload, 1, 0, 0, 0) := by decide +kernel
theorem fi_213_31 : am_find 213 31 = some (.iconst 1, 1, 0, 1, 0) := by decide +kernel
theorem fi_213_32 : am_find 213 32 = some (.isub, 1, 0, 0, 0) := by decide +kernel
theorem fi_213_33 : am_find 213 33 = some (.invokestatic 49, 3, 145, 3, 170) := by decide +kernel
theorem fi_213_36 : am_find 213 36 = some (.ifCond .ne 5, 3, 0, 0, 0) := by decide +kernel
theorem fi_213_39 : am_find 213 39 = some (.iconst (-1), 1, 0, (-1), 0) := by decide +kernel
theorem fi_213_40 : am_find 213 40 = some (.ireturn, 1, 0, 0, 0) := by decide +kernel
theorem fi_213_41 : am_find 213 41 = some (.aload_n 0, 1, 0, 0, 0) := by decide +kernel
theorem fi_213_42 : am_find 213 42 = some (.iconst (-1), 1, 0, (-1), 0) := by decide +kernel
theorem fi_213_43 : am_find 213 43 = some (.putfield 245, 3, 10, 23, 123) := by decide +kernel
theorem fi_213_46 : am_find 213 46 = some (.aload_n 0, 1, 0, 0, 0) := by decide +kernel
theorem fi_213_47 : am_find 213 47 = some (.iload_n 1, 1, 0, 0, 0) := by decide +kernel
theorem fi_213_48 : am_find 213 48 = some (.iconst 0, 1, 0, 0, 0) := by decide +kernel
theorem fi_213_49 : am_find 213 49 = some (.iconst 0, 1, 0, 0, 0) := by decide +kernel
theorem fi_213_50 : am_find 213 50 = some (.invokevirtual 248, 3, 214, 3, 214) := by decide +kernel
theorem fi_213_53 : am_find 213 53 = some (.iload_n 2, 1, 0, 0, 0) := by decide +kernel
theorem fi_213_54 : am_find 213 54 = some (.iconst (-1), 1, 0, (-1), 0) := by decide +kernel
theorem fi_213_55 : am_find 213 55 = some (.if_icmp .ne 10, 3, 0, 0, 0) := by decide +kernel
theorem fi_213_58 : am_find 213 58 = some (.aload_n 0, 1, 0, 0, 0) := by decide +kernel
theorem fi_213_59 : am_find 213 59 = some (.getfield 245, 3, 10, 23, 123) := by decide +kernel
theorem fi_213_62 : am_find 213 62 = some (.goto 9, 3, 0, 0, 0) := by decide +kernel
theorem fi_213_65 : am_find 213 65 = some (.aload_n 0, 1, 0, 0, 0) := by decide +kernel
theorem fi_213_66 : am_find 213 66 = some (.getfield 39, 3, 10, 22, 110) := by decide +kernel
theorem fi_213_69 : am_find 213 69 = some (.iload_n 2, 1, 0, 0, 0) := by decide +kernel
theorem fi_213_70 : am_find 213 70 = some (.iaload, 1, 0, 0, 0) := by decide +kernel
theorem fi_213_71 : am_find 213 71 = some (.ireturn, 1, 0, 0, 0) := by decide +kernel
theorem b213_0 {d L : Nat} {σ : St} {Q : Option AV → AW → Prop} {x1 : Int} {u0 u2 : AV} : R (d + 1) 213 0 [u0, vI x1, u2] [] (WS L σ) Q = R d 167 0 [vI x1] [] (WS L σ) (fun r w => R (d + 1) 213 4 [u0, vI x1, u2] (am_push r []) w Q) := K_iload_n fi_213_0 rfl <| R_invS fi_213_1 (by decide) (am_invS_of (Nat.le_of_ble_eq_true rfl) rfl (Nat.le_of_ble_eq_true rfl) (Nat.le_of_ble_eq_true rfl) rfl rfl)
theorem b213_4 {d L : Nat} {σ : St} {Q : Option AV → AW → Prop} {y0 : Int} {u0 u1 u2 : AV} : R d 213 4 [u0, u1, u2] [vI y0] (WS L σ) Q = if ¬ y0 = 0 then R d 213 9 [u0, u1, u2] [] (WS L σ) Q else R d 213 7 [u0, u1, u2] [] (WS L σ) Q := R_if_ne fi_213_4 rfl
theorem b213_7 {d L : Nat} {σ : St} {Q : Option AV → AW → Prop} {u0 u1 u2 : AV} : R d 213 7 [u0, u1, u2] [] (WS L σ) Q = Q (some (vI (-1))) (WS L σ) := K_iconst fi_213_7 <| R_ireti fi_213_8 rfl
theorem b213_9 {d L : Nat} {σ : St} {Q : Option AV → AW → Prop} {u1 u2 : AV} : R d 213 9 [vR 153, u1, u2] [] (WS L σ) Q = if (σ 154 0) ≤ 6 then R d 213 23 [vR 153, u1, u2] [] (WS L σ) Q else R d 213 20 [vR 153, u1, u2] [] (WS L σ) Q := K_aload_n fi_213_9 rfl <| K_gf fi_213_10 kd_153 mk_153_1 <| K_iconst fi_213_13 <| K_ia fi_213_14 kd_154 (by decide) (show (0 : Int) < 1580 by decide) <| K_bipush fi_213_15 <| R_icmp_le fi_213_17 rfl
theorem b213_20 {d L : Nat} {σ : St} {Q : Option AV → AW → Prop} {u0 u1 u2 : AV} : R d 213 20 [u0, u1, u2] [] (WS L σ) Q = Q (some (vI (-9))) (WS L σ) := K_bipush fi_213_20 <| R_ireti fi_213_22 rfl
theorem b213_23 {d L : Nat} {σ : St} {Q : Option AV → AW → Prop} {x2 : Int} {u1 : AV} (h1 : -2147483648 ≤ (σ 154 0) - 1 ∧ (σ 154 0) - 1 ≤ 2147483647) : R (d + 1) 213 23 [vR 153, u1, vI x2] [] (WS L σ) Q = R d 145 0 [vI x2, vI (-1), vI ((σ 154 0) - 1)] [] (WS L σ) (fun r w => R (d + 1) 213 36 [vR 153, u1, vI x2] (am_push r []) w Q) := K_iload_n fi_213_23 rfl <| K_iconst fi_213_24 <| K_aload_n fi_213_25 rfl <| K_gf fi_213_26 kd_153 mk_153_1 <| K_iconst fi_213_29 <| K_ia fi_213_30 kd_154 (by decide) (show (0 : Int) < 1580 by decide) <| K_iconst fi_213_31 <| K_isubx fi_213_32 h1 <| R_invS fi_213_33 (by decide) (am_invS_of (Nat.le_of_ble_eq_true rfl) rfl (Nat.le_of_ble_eq_true rfl) (Nat.le_of_ble_eq_true rfl) rfl rfl)
theorem b213_36 {d L : Nat} {σ : St} {Q : Option AV → AW → Prop} {y0 : Int} {u0 u1 u2 : AV} : R d 213 36 [u0, u1, u2] [vI y0] (WS L σ) Q = if ¬ y0 = 0 then R d 213 41 [u0, u1, u2] [] (WS L σ) Q else R d 213 39 [u0, u1, u2] [] (WS L σ) Q := R_if_ne fi_213_36 rfl
theorem b213_39 {d L : Nat} {σ : St} {Q : Option AV → AW → Prop} {u0 u1 u2 : AV} : R d 213 39 [u0, u1, u2] [] (WS L σ) Q = Q (some (vI (-1))) (WS L σ) := K_iconst fi_213_39 <| R_ireti fi_213_40 rfl
theorem b213_41 {d L : Nat} {σ : St} {Q : Option AV → AW → Prop} {u1 u2 : AV} : R d 213 41 [vR 153, u1, u2] [] (WS L σ) Q = R d 213 46 [vR 153, u1, u2] [] (WS L (st2 σ 153 23 (-1))) Q := K_aload_n fi_213_41 rfl <| K_iconst fi_213_42 <| K_pf fi_213_43 kd_153 rfl rfl rfl rfl <| rfl
theorem b213_46 {d L : Nat} {σ : St} {Q : Option AV → AW → Prop} {x1 : Int} {u2 : AV} : R (d + 1) 213 46 [vR 153, vI x1, u2] [] (WS L σ) Q = R d 214 0 [vR 153, vI x1, vI 0, vI 0, vX 9, vX 9] [] (WS L σ) (fun r w => R (d + 1) 213 53 [vR 153, vI x1, u2] (am_push r []) w Q) := K_aload_n fi_213_46 rfl <| K_iload_n fi_213_47 rfl <| K_iconst fi_213_48 <| K_iconst fi_213_49 <| R_invV fi_213_50 (am_invV_of rfl (kd_153) (Nat.le_of_ble_eq_true rfl) (Nat.le_of_ble_eq_true rfl) rfl rfl)
theorem b213_53 {d L : Nat} {σ : St} {Q : Option AV → AW → Prop} {x2 : Int} {u0 u1 : AV} : R d 213 53 [u0, u1, vI x2] [] (WS L σ) Q = if ¬ x2 = (-1) then R d 213 65 [u0, u1, vI x2] [] (WS L σ) Q else R d 213 58 [u0, u1, vI x2] [] (WS L σ) Q := K_iload_n fi_213_53 rfl <| K_iconst fi_213_54 <| R_icmp_ne fi_213_55 rfl
theorem b213_58 {d L : Nat} {σ : St} {Q : Option AV → AW → Prop} {u1 u2 : AV} : R d 213 58 [vR 153, u1, u2] [] (WS L σ) Q = R d 213 71 [vR 153, u1, u2] [vI (σ 153 23)] (WS L σ) Q := K_aload_n fi_213_58 rfl <| K_gf fi_213_59 kd_153 mk_153_23 <| R_goto fi_213_62 rfl
theorem b213_65 {d L : Nat} {σ : St} {Q : Option AV → AW → Prop} {x2 : Int} {u1 : AV} (h1 : 0 ≤ x2) (h2 : x2 < 8) : R d 213 65 [vR 153, u1, vI x2] [] (WS L σ) Q = R d 213 71 [vR 153, u1, vI x2] [vI (σ 163 x2)] (WS L σ) Q := K_aload_n fi_213_65 rfl <| K_gf fi_213_66 kd_153 mk_153_22 <| K_iload_n fi_213_69 rfl <| K_ia fi_213_70 kd_163 h1 h2 <| rfl
theorem b213_71 {d L : Nat} {σ : St} {Q : Option AV → AW → Prop} {y0 : Int} {u0 u1 u2 : AV} : R d 213 71 [u0, u1, u2] [vI y0] (WS L σ) Q = Q (some (vI y0)) (WS L σ) := R_ireti fi_213_71 rfl
theorem fi_214_0 : am_find 214 0 = some (.iload_n 3, 1, 0, 0, 0) := by decide +kernel
theorem fi_214_1 : am_find 214 1 = some (.aload_n 0, 1, 0, 0, 0) := by decide +kernel
theorem fi_214_2 : am_find 214 2 = some (.getfield 7, 3, 10, 1, 101) := by decide +kernel
theorem fi_214_5 : am_find 214 5 = some (.iconst 0, 1, 0, 0, 0) := by decide +kernel
theorem fi_214_6 : am_find 214 6 = some (.iaload, 1, 0, 0, 0) := by decide +kernel
theorem fi_214_7 : am_find 214 7 = some (.if_icmp .ne 63, 3, 0, 0, 0) := by decide +kernel
theorem fi_214_10 : am_find 214 10 = some (.aload_n 0, 1, 0, 0, 0) := by decide +kernel
theorem fi_214_11 : am_find 214 11 = some (.iload_n 1, 1, 0, 0, 0) := by decide +kernel
theorem fi_214_12 : am_find 214 12 = some (.invokevirtual 242, 3, 215, 1, 215) := by decide +kernel
theorem fi_214_15 : am_find 214 15 = some (.istore 4, 2, 0, 0, 0) := by decide +kernel
theorem fi_214_17 : am_find 214 17 = some (.aload_n 0, 1, 0, 0, 0) := by decide +kernel
theorem fi_214_18 : am_find 214 18 = some (.getfield 245, 3, 10, 23, 123) := by decide +kernel
theorem fi_214_21 : am_find 214 21 = some (.iconst (-1), 1, 0, (-1), 0) := by decide +kernel
theorem fi_214_22 : am_find 214 22 = some (.if_icmp .eq 12, 3, 0, 0, 0) := by decide +kernel
theorem fi_214_25 : am_find 214 25 = some (.iload 4, 2, 0, 0, 0) := by decide +kernel
theorem fi_214_27 : am_find 214 27 = some (.aload_n 0, 1, 0, 0, 0) := by decide +kernel
theorem fi_214_28 : am_find 214 28 = some (.getfield 245, 3, 10, 23, 123) := by decide +kernel
theorem fi_214_31 : am_find 214 31 = some (.if_icmp .ge 38, 3, 0, 0, 0) := by decide +kernel
theorem fi_214_34 : am_find 214 34 = some (.aload_n 0, 1, 0, 0, 0) := by decide +kernel
theorem fi_214_35 : am_find 214 35 = some (.iload 4, 2, 0, 0, 0) := by decide +kernel
theorem fi_214_37 : am_find 214 37 = some (.putfield 245, 3, 10, 23, 123) := by decide +kernel
theorem fi_214_40 : am_find 214 40 = some (.iconst 0, 1, 0, 0, 0) := by decide +kernel
theorem fi_214_41 : am_find 214 41 = some (.istore 5, 2, 0, 0, 0) := by decide +kernel
theorem fi_214_43 : am_find 214 43 = some (.iload 5, 2, 0, 0, 0) := by decide +kernel
theorem fi_214_45 : am_find 214 45 = some (.iload_n 3, 1, 0, 0, 0) := by decide +kernel
theorem fi_214_46 : am_find 214 46 = some (.if_icmp .ge 23, 3, 0, 0, 0) := by decide +kernel
theorem fi_214_49 : am_find 214 49 = some (.aload_n 0, 1, 0, 0, 0) := by decide +kernel
theorem fi_214_50 : am_find 214 50 = some (.getfield 39, 3, 10, 22, 110) := by decide +kernel
theorem fi_214_53 : am_find 214 53 = some (.iload 5, 2, 0, 0, 0) := by decide +kernel
theorem fi_214_55 : am_find 214 55 = some (.aload_n 0, 1, 0, 0, 0) := by decide +kernel
theorem fi_214_56 : am_find 214 56 = some (.getfield 36, 3, 10, 21, 109) := by decide +kernel
theorem fi_214_59 : am_find 214 59 = some (.iload 5, 2, 0, 0, 0) := by decide +kernel
theorem fi_214_61 : am_find 214 61 = some (.iaload, 1, 0, 0, 0) := by decide +kernel
theorem fi_214_62 : am_find 214 62 = some (.iastore, 1, 0, 0, 0) := by decide +kernel
theorem fi_214_63 : am_find 214 63 = some (.iinc 5 1, 3, 0, 0, 0) := by decide +kernel
theorem fi_214_66 : am_find 214 66 = some (.goto (-23), 3, 0, 0, 0) := by decide +kernel
theorem fi_214_69 : am_find 214 69 = some (.return_, 1, 0, 0, 0) := by decide +kernel
theorem fi_214_70 : am_find 214 70 = some (.iconst 0, 1, 0, 0, 0) := by decide +kernel
theorem fi_214_71 : am_find 214 71 = some (.istore 4, 2, 0, 0, 0) := by decide +kernel
theorem fi_214_73 : am_find 214 73 = some (.iload 4, 2, 0, 0, 0) := by decide +kernel
theorem fi_214_75 : am_find 214 75 = some (.aload_n 0, 1, 0, 0, 0) := by decide +kernel
theorem fi_214_76 : am_find 214 76 = some (.getfield 7, 3, 10, 1, 101) := by decide +kernel
theorem fi_214_79 : am_find 214 79 = some (.iconst 0, 1, 0, 0, 0) := by decide +kernel
theorem fi_214_80 : am_find 214 80 = some (.iaload, 1, 0, 0, 0) := by decide +kernel
theorem fi_214_81 : am_find 214 81 = some (.if_icmp .ge 48, 3, 0, 0, 0) := by decide +kernel
theorem fi_214_84 : am_find 214 84 = some (.iload_n 2, 1, 0, 0, 0) := by decide +kernel
theorem fi_214_85 : am_find 214 85 = some (.iload 4, 2, 0, 0, 0) := by decide +kernel
theorem fi_214_87 : am_find 214 87 = some (.ishr, 1, 0, 0, 0) := by decide +kernel
theorem fi_214_88 : am_find 214 88 = some (.iconst 1, 1, 0, 1, 0) := by decide +kernel
theorem fi_214_89 : am_find 214 89 = some (.iand, 1, 0, 0, 0) := by decide +kernel
theorem fi_214_90 : am_find 214 90 = some (.ifCond .ne 33, 3, 0, 0, 0) := by decide +kernel
theorem fi_214_93 : am_find 214 93 = some (.aload_n 0, 1, 0, 0, 0) := by decide +kernel
theorem fi_214_94 : am_find 214 94 = some (.getfield 36, 3, 10, 21, 109) := by decide +kernel
theorem fi_214_97 : am_find 214 97 = some (.iload_n 3, 1, 0, 0, 0) := by decide +kernel
theorem fi_214_98 : am_find 214 98 = some (.iload 4, 2, 0, 0, 0) := by decide +kernel
theorem fi_214_100 : am_find 214 100 = some (.iastore, 1, 0, 0, 0) := by decide +kernel
theorem fi_214_101 : am_find 214 101 = some (.aload_n 0, 1, 0, 0, 0) := by decide +kernel
theorem fi_214_102 : am_find 214 102 = some (.getfield 33, 3, 10, 20, 108) := by decide +kernel
theorem fi_214_105 : am_find 214 105 = some (.iload 4, 2, 0, 0, 0) := by decide +kernel
theorem fi_214_107 : am_find 214 107 = some (.iload_n 3, 1, 0, 0, 0) := by decide +kernel
theorem fi_214_108 : am_find 214 108 = some (.iastore, 1, 0, 0, 0) := by decide +kernel
theorem fi_214_109 : am_find 214 109 = some (.aload_n 0, 1, 0, 0, 0) := by decide +kernel
theorem fi_214_110 : am_find 214 110 = some (.iload_n 1, 1, 0, 0, 0) := by decide +kernel
theorem fi_214_111 : am_find 214 111 = some (.iload_n 2, 1, 0, 0, 0) := by decide +kernel
theorem fi_214_112 : am_find 214 112 = some (.iconst 1, 1, 0, 1, 0) := by decide +kernel
theorem fi_214_113 : am_find 214 113 = some (.iload 4, 2, 0, 0, 0) := by decide +kernel
theorem fi_214_115 : am_find 214 115 = some (.ishl, 1, 0, 0, 0) := by decide +kernel
theorem fi_214_116 : am_find 214 116 = some (.ior, 1, 0, 0, 0) := by decide +kernel
theorem fi_214_117 : am_find 214 117 = some (.iload_n 3, 1, 0, 0, 0) := by decide +kernel
theorem fi_214_118 : am_find 214 118 = some (.iconst 1, 1, 0, 1, 0) := by decide +kernel
theorem fi_214_119 : am_find 214 119 = some (.iadd, 1, 0, 0, 0) := by decide +kernel
theorem fi_214_120 : am_find 214 120 = some (.invokevirtual 248, 3, 214, 3, 214) := by decide +kernel
theorem fi_214_123 : am_find 214 123 = some (.iinc 4 1, 3, 0, 0, 0) := by decide +kernel
theorem fi_214_126 : am_find 214 126 = some (.goto (-53), 3, 0, 0, 0) := by decide +kernel
theorem fi_214_129 : am_find 214 129 = some (.return_, 1, 0, 0, 0) := by decide +kernel
theorem b214_0 {d L : Nat} {σ : St} {Q : Option AV → AW → Prop} {x3 : Int} {u1 u2 u4 u5 : AV} : R d 214 0 [vR 153, u1, u2, vI x3, u4, u5] [] (WS L σ) Q = if ¬ x3 = (σ 154 0) then R d 214 70 [vR 153, u1, u2, vI x3, u4, u5] [] (WS L σ) Q else R d 214 10 [vR 153, u1, u2, vI x3, u4, u5] [] (WS L σ) Q := K_iload_n fi_214_0 rfl <| K_aload_n fi_214_1 rfl <| K_gf fi_214_2 kd_153 mk_153_1 <| K_iconst fi_214_5 <| K_ia fi_214_6 kd_154 (by decide) (show (0 : Int) < 1580 by decide) <| R_icmp_ne fi_214_7 rfl
theorem b214_10 {d L : Nat} {σ : St} {Q : Option AV → AW → Prop} {x1 : Int} {u2 u3 u4 u5 : AV} : R (d + 1) 214 10 [vR 153, vI x1, u2, u3, u4, u5] [] (WS L σ) Q = R d 215 0 [vR 153, vI x1, vX 9, vX 9, vX 9, vX 9, vX 9] [] (WS L σ) (fun r w => R (d + 1) 214 15 [vR 153, vI x1, u2, u3, u4, u5] (am_push r []) w Q) := K_aload_n fi_214_10 rfl <| K_iload_n fi_214_11 rfl <| R_invV fi_214_12 (am_invV_of rfl (kd_153) (Nat.le_of_ble_eq_true rfl) (Nat.le_of_ble_eq_true rfl) rfl rfl)
theorem b214_15 {d L : Nat} {σ : St} {Q : Option AV → AW → Prop} {y0 : Int} {u1 u2 u3 u4 u5 : AV} : R d 214 15 [vR 153, u1, u2, u3, u4, u5] [vI y0] (WS L σ) Q = if (σ 153 23) = (-1) then R d 214 34 [vR 153, u1, u2, u3, vI y0, u5] [] (WS L σ) Q else R d 214 25 [vR 153, u1, u2, u3, vI y0, u5] [] (WS L σ) Q := K_istore fi_214_15 (Nat.le_of_ble_eq_true rfl) rfl rfl <| K_aload_n fi_214_17 rfl <| K_gf fi_214_18 kd_153 mk_153_23 <| K_iconst fi_214_21 <| R_icmp_eq fi_214_22 rfl
theorem b214_25 {d L : Nat} {σ : St} {Q : Option AV → AW → Prop} {x4 : Int} {u1 u2 u3 u5 : AV} : R d 214 25 [vR 153, u1, u2, u3, vI x4, u5] [] (WS L σ) Q = if (σ 153 23) ≤ x4 then R d 214 69 [vR 153, u1, u2, u3, vI x4, u5] [] (WS L σ) Q else R d 214 34 [vR 153, u1, u2, u3, vI x4, u5] [] (WS L σ) Q := K_iload fi_214_25 rfl <| K_aload_n fi_214_27 rfl <| K_gf fi_214_28 kd_153 mk_153_23 <| R_icmp_ge fi_214_31 rfl
theorem b214_34 {d L : Nat} {σ : St} {Q : Option AV → AW → Prop} {x4 : Int} {u1 u2 u3 u5 : AV} : R d 214 34 [vR 153, u1, u2, u3, vI x4, u5] [] (WS L σ) Q = R d 214 40 [vR 153, u1, u2, u3, vI x4, u5] [] (WS L (st2 σ 153 23 x4)) Q := K_aload_n fi_214_34 rfl <| K_iload fi_214_35 rfl <| K_pf fi_214_37 kd_153 rfl rfl rfl rfl <| rfl
theorem b214_40 {d L : Nat} {σ : St} {Q : Option AV → AW → Prop} {u0 u1 u2 u3 u4 u5 : AV} : R d 214 40 [u0, u1, u2, u3, u4, u5] [] (WS L σ) Q = R d 214 43 [u0, u1, u2, u3, u4, vI 0] [] (WS L σ) Q := K_iconst fi_214_40 <| K_istore fi_214_41 (Nat.le_of_ble_eq_true rfl) rfl rfl <| rfl
theorem b214_43 {d L : Nat} {σ : St} {Q : Option AV → AW → Prop} {x5 x3 : Int} {u0 u1 u2 u4 : AV} : R d 214 43 [u0, u1, u2, vI x3, u4, vI x5] [] (WS L σ) Q = if x3 ≤ x5 then R d 214 69 [u0, u1, u2, vI x3, u4, vI x5] [] (WS L σ) Q else R d 214 49 [u0, u1, u2, vI x3, u4, vI x5] [] (WS L σ) Q := K_iload fi_214_43 rfl <| K_iload_n fi_214_45 rfl <| R_icmp_ge fi_214_46 rfl
theorem b214_49 {d L : Nat} {σ : St} {Q : Option AV → AW → Prop} {x5 : Int} {u1 u2 u3 u4 : AV} (h1 : 0 ≤ x5) (h2 : x5 < 8) : R d 214 49 [vR 153, u1, u2, u3, u4, vI x5] [] (WS L σ) Q = R d 214 63 [vR 153, u1, u2, u3, u4, vI x5] [] (WS L (st2 σ 163 x5 (σ 162 x5))) Q := K_aload_n fi_214_49 rfl <| K_gf fi_214_50 kd_153 mk_153_22 <| K_iload fi_214_53 rfl <| K_aload_n fi_214_55 rfl <| K_gf fi_214_56 kd_153 mk_153_21 <| K_iload fi_214_59 rfl <| K_ia fi_214_61 kd_162 h1 h2 <| K_is fi_214_62 kd_163 h1 h2 <| rfl
theorem b214_63 {d L : Nat} {σ : St} {Q : Option AV → AW → Prop} {x5 : Int} {u0 u1 u2 u3 u4 : AV} (h1 : -2147483648 ≤ x5 + 1 ∧ x5 + 1 ≤ 2147483647) : R d 214 63 [u0, u1, u2, u3, u4, vI x5] [] (WS L σ) Q = R d 214 43 [u0, u1, u2, u3, u4, vI (x5 + 1)] [] (WS L σ) Q := K_iincx fi_214_63 rfl (Nat.le_of_ble_eq_true rfl) rfl h1 rfl <| R_goto fi_214_66 rfl
theorem b214_69 {d L : Nat} {σ : St} {Q : Option AV → AW → Prop} {u0 u1 u2 u3 u4 u5 : AV} : R d 214 69 [u0, u1, u2, u3, u4, u5] [] (WS L σ) Q = Q none (WS L σ) := R_return fi_214_69
theorem b214_70 {d L : Nat} {σ : St} {Q : Option AV → AW → Prop} {u0 u1 u2 u3 u4 u5 : AV} : R d 214 70 [u0, u1, u2, u3, u4, u5] [] (WS L σ) Q = R d 214 73 [u0, u1, u2, u3, vI 0, u5] [] (WS L σ) Q := K_iconst fi_214_70 <| K_istore fi_214_71 (Nat.le_of_ble_eq_true rfl) rfl rfl <| rfl
theorem b214_73 {d L : Nat} {σ : St} {Q : Option AV → AW → Prop} {x4 : Int} {u1 u2 u3 u5 : AV} : R d 214 73 [vR 153, u1, u2, u3, vI x4, u5] [] (WS L σ) Q = if (σ 154 0) ≤ x4 then R d 214 129 [vR 153, u1, u2, u3, vI x4, u5] [] (WS L σ) Q else R d 214 84 [vR 153, u1, u2, u3, vI x4, u5] [] (WS L σ) Q := K_iload fi_214_73 rfl <| K_aload_n fi_214_75 rfl <| K_gf fi_214_76 kd_153 mk_153_1 <| K_iconst fi_214_79 <| K_ia fi_214_80 kd_154 (by decide) (show (0 : Int) < 1580 by decide) <| R_icmp_ge fi_214_81 rfl
theorem b214_84 {d L : Nat} {σ : St} {Q : Option AV → AW → Prop} {x2 x4 : Int} {u0 u1 u3 u5 : AV} : R d 214 84 [u0, u1, vI x2, u3, vI x4, u5] [] (WS L σ) Q = if ¬ (i_and (i_shr x2 x4) 1) = 0 then R d 214 123 [u0, u1, vI x2, u3, vI x4, u5] [] (WS L σ) Q else R d 214 93 [u0, u1, vI x2, u3, vI x4, u5] [] (WS L σ) Q := K_iload_n fi_214_84 rfl <| K_iload fi_214_85 rfl <| K_ishr fi_214_87 <| K_iconst fi_214_88 <| K_iand fi_214_89 <| R_if_ne fi_214_90 rfl
theorem b214_93 {d L : Nat} {σ : St} {Q : Option AV → AW → Prop} {x3 x4 : Int} {u1 u2 u5 : AV} (h1 : 0 ≤ x3) (h2 : x3 < 8) : R d 214 93 [vR 153, u1, u2, vI x3, vI x4, u5] [] (WS L σ) Q = R d 214 101 [vR 153, u1, u2, vI x3, vI x4, u5] [] (WS L (st2 σ 162 x3 x4)) Q := K_aload_n fi_214_93 rfl <| K_gf fi_214_94 kd_153 mk_153_21 <| K_iload_n fi_214_97 rfl <| K_iload fi_214_98 rfl <| K_is fi_214_100 kd_162 h1 h2 <| rfl
theorem b214_101 {d L : Nat} {σ : St} {Q : Option AV → AW → Prop} {x4 x3 : Int} {u1 u2 u5 : AV} (h1 : 0 ≤ x4) (h2 : x4 < 8) : R d 214 101 [vR 153, u1, u2, vI x3, vI x4, u5] [] (WS L σ) Q = R d 214 109 [vR 153, u1, u2, vI x3, vI x4, u5] [] (WS L (st2 σ 161 x4 x3)) Q := K_aload_n fi_214_101 rfl <| K_gf fi_214_102 kd_153 mk_153_20 <| K_iload fi_214_105 rfl <| K_iload_n fi_214_107 rfl <| K_is fi_214_108 kd_161 h1 h2 <| rfl
theorem b214_109 {d L : Nat} {σ : St} {Q : Option AV → AW → Prop} {x1 x2 x4 x3 : Int} {u5 : AV} (h1 : -2147483648 ≤ x3 + 1 ∧ x3 + 1 ≤ 2147483647) : R (d + 1) 214 109 [vR 153, vI x1, vI x2, vI x3, vI x4, u5] [] (WS L σ) Q = R d 214 0 [vR 153, vI x1, vI (i_or x2 (i_shl 1 x4)), vI (x3 + 1), vX 9, vX 9] [] (WS L σ) (fun r w => R (d + 1) 214 123 [vR 153, vI x1, vI x2, vI x3, vI x4, u5] (am_push r []) w Q) := K_aload_n fi_214_109 rfl <| K_iload_n fi_214_110 rfl <| K_iload_n fi_214_111 rfl <| K_iconst fi_214_112 <| K_iload fi_214_113 rfl <| K_ishl fi_214_115 <| K_ior fi_214_116 <| K_iload_n fi_214_117 rfl <| K_iconst fi_214_118 <| K_iaddx fi_214_119 h1 <| R_invV fi_214_120 (am_invV_of rfl (kd_153) (Nat.le_of_ble_eq_true rfl) (Nat.le_of_ble_eq_true rfl) rfl rfl)
theorem b214_123 {d L : Nat} {σ : St} {Q : Option AV → AW → Prop} {x4 : Int} {u0 u1 u2 u3 u5 : AV} (h1 : -2147483648 ≤ x4 + 1 ∧ x4 + 1 ≤ 2147483647) : R d 214 123 [u0, u1, u2, u3, vI x4, u5] [] (WS L σ) Q = R d 214 73 [u0, u1, u2, u3, vI (x4 + 1), u5] [] (WS L σ) Q := K_iincx fi_214_123 rfl (Nat.le_of_ble_eq_true rfl) rfl h1 rfl <| R_goto fi_214_126 rfl
theorem b214_129 {d L : Nat} {σ : St} {Q : Option AV → AW → Prop} {u0 u1 u2 u3 u4 u5 : AV} : R d 214 129 [u0, u1, u2, u3, u4, u5] [] (WS L σ) Q = Q none (WS L σ) := R_return fi_214_129
theorem fi_215_0 : am_find 215 0 = some (.iconst 0, 1, 0, 0, 0) := by decide +kernel
theorem fi_215_1 : am_find 215 1 = some (.istore_n 2, 1, 0, 0, 0) := by decide +kernel
theorem fi_215_2 : am_find 215 2 = some (.iconst 0, 1, 0, 0, 0) := by decide +kernel
theorem fi_215_3 : am_find 215 3 = some (.istore_n 3, 1, 0, 0, 0) := by decide +kernel
theorem fi_215_4 : am_find 215 4 = some (.iload_n 3, 1, 0, 0, 0) := by decide +kernel
theorem fi_215_5 : am_find 215 5 = some (.aload_n 0, 1, 0, 0, 0) := by decide +kernel
theorem fi_215_6 : am_find 215 6 = some (.getfield 7, 3, 10, 1, 101) := by decide +kernel
theorem fi_215_9 : am_find 215 9 = some (.iconst 3, 1, 0, 3, 0) := by decide +kernel
theorem fi_215_10 : am_find 215 10 = some (.iaload, 1, 0, 0, 0) := by decide +kernel
theorem fi_215_11 : am_find 215 11 = some (.if_icmp .ge 153, 3, 0, 0, 0) := by decide +kernel
theorem fi_215_14 : am_find 215 14 = some (.iconst 0, 1, 0, 0, 0) := by decide +kernel
theorem fi_215_15 : am_find 215 15 = some (.istore 4, 2, 0, 0, 0) := by decide +kernel
theorem fi_215_17 : am_find 215 17 = some (.iload 4, 2, 0, 0, 0) := by decide +kernel
theorem fi_215_19 : am_find 215 19 = some (.aload_n 0, 1, 0, 0, 0) := by decide +kernel
theorem fi_215_20 : am_find 215 20 = some (.getfield 7, 3, 10, 1, 101) := by decide +kernel
theorem fi_215_23 : am_find 215 23 = some (.sipush 1369, 3, 0, 1369, 0) := by decide +kernel
theorem fi_215_26 : am_find 215 26 = some (.iload_n 3, 1, 0, 0, 0) := by decide +kernel
theorem fi_215_27 : am_find 215 27 = some (.iadd, 1, 0, 0, 0) := by decide +kernel
theorem fi_215_28 : am_find 215 28 = some (.iaload, 1, 0, 0, 0) := by decide +kernel
theorem fi_215_29 : am_find 215 29 = some (.if_icmp .ge 129, 3, 0, 0, 0) := by decide +kernel
theorem fi_215_32 : am_find 215 32 = some (.iconst 0, 1, 0, 0, 0) := by decide +kernel
theorem fi_215_33 : am_find 215 33 = some (.istore 5, 2, 0, 0, 0) := by decide +kernel
theorem fi_215_35 : am_find 215 35 = some (.iload 4, 2, 0, 0, 0) := by decide +kernel
theorem fi_215_37 : am_find 215 37 = some (.iconst 1, 1, 0, 1, 0) := by decide +kernel
theorem fi_215_38 : am_find 215 38 = some (.iadd, 1, 0, 0, 0) := by decide +kernel
theorem fi_215_39 : am_find 215 39 = some (.istore 6, 2, 0, 0, 0) := by decide +kernel
theorem fi_215_41 : am_find 215 41 = some (.iload 6, 2, 0, 0, 0) := by decide +kernel
theorem fi_215_43 : am_find 215 43 = some (.aload_n 0, 1, 0, 0, 0) := by decide +kernel
theorem fi_215_44 : am_find 215 44 = some (.getfield 7, 3, 10, 1, 101) := by decide +kernel
theorem fi_215_47 : am_find 215 47 = some (.sipush 1369, 3, 0, 1369, 0) := by decide +kernel
theorem fi_215_50 : am_find 215 50 = some (.iload_n 3, 1, 0, 0, 0) := by decide +kernel
theorem fi_215_51 : am_find 215 51 = some (.iadd, 1, 0, 0, 0) := by decide +kernel
theorem fi_215_52 : am_find 215 52 = some (.iaload, 1, 0, 0, 0) := by decide +kernel
theorem fi_215_53 : am_find 215 53 = some (.if_icmp .ge 66, 3, 0, 0, 0) := by decide +kernel
theorem fi_215_56 : am_find 215 56 = some (.iload 5, 2, 0, 0, 0) := by decide +kernel
theorem fi_215_58 : am_find 215 58 = some (.ifCond .ne 48, 3, 0, 0, 0) := by decide +kernel
theorem fi_215_61 : am_find 215 61 = some (.aload_n 0, 1, 0, 0, 0) := by decide +kernel
theorem fi_215_62 : am_find 215 62 = some (.getfield 33, 3, 10, 20, 108) := by decide +kernel
theorem fi_215_65 : am_find 215 65 = some (.aload_n 0, 1, 0, 0, 0) := by decide +kernel
theorem fi_215_66 : am_find 215 66 = some (.getfield 7, 3, 10, 1, 101) := by decide +kernel
theorem fi_215_69 : am_find 215 69 = some (.sipush 1381, 3, 0, 1381, 0) := by decide +kernel
theorem fi_215_72 : am_find 215 72 = some (.bipush 8, 2, 0, 8, 0) := by decide +kernel
theorem fi_215_74 : am_find 215 74 = some (.iload_n 3, 1, 0, 0, 0) := by decide +kernel
theorem fi_215_75 : am_find 215 75 = some (.imul, 1, 0, 0, 0) := by decide +kernel
theorem fi_215_76 : am_find 215 76 = some (.iadd, 1, 0, 0, 0) := by decide +kernel
theorem fi_215_77 : am_find 215 77 = some (.iload 6, 2, 0, 0, 0) := by decide +kernel
theorem fi_215_79 : am_find 215 79 = some (.iadd, 1, 0, 0, 0) := by decide +kernel
theorem fi_215_80 : am_find 215 80 = some (.iaload, 1, 0, 0, 0) := by decide +kernel
theorem fi_215_81 : am_find 215 81 = some (.iaload, 1, 0, 0, 0) := by decide +kernel
theorem fi_215_82 : am_find 215 82 = some (.aload_n 0, 1, 0, 0, 0) := by decide +kernel
theorem fi_215_83 : am_find 215 83 = some (.getfield 33, 3, 10, 20, 108) := by decide +kernel
theorem fi_215_86 : am_find 215 86 = some (.aload_n 0, 1, 0, 0, 0) := by decide +kernel
theorem fi_215_87 : am_find 215 87 = some (.getfield 7, 3, 10, 1, 101) := by decide +kernel
theorem fi_215_90 : am_find 215 90 = some (.sipush 1381, 3, 0, 1381, 0) := by decide +kernel
theorem fi_215_93 : am_find 215 93 = some (.bipush 8, 2, 0, 8, 0) := by decide +kernel
theorem fi_215_95 : am_find 215 95 = some (.iload_n 3, 1, 0, 0, 0) := by decide +kernel
theorem fi_215_96 : am_find 215 96 = some (.imul, 1, 0, 0, 0) := by decide +kernel
theorem fi_215_97 : am_find 215 97 = some (.iadd, 1, 0, 0, 0) := by decide +kernel
theorem fi_215_98 : am_find 215 98 = some (.iload 4, 2, 0, 0, 0) := by decide +kernel
theorem fi_215_100 : am_find 215 100 = some (.iadd, 1, 0, 0, 0) := by decide +kernel
theorem fi_215_101 : am_find 215 101 = some (.iaload, 1, 0, 0, 0) := by decide +kernel
theorem fi_215_102 : am_find 215 102 = some (.iaload, 1, 0, 0, 0) := by decide +kernel
theorem fi_215_103 : am_find 215 103 = some (.if_icmp .ge 7, 3, 0, 0, 0) := by decide +kernel
theorem fi_215_106 : am_find 215 106 = some (.iconst 1, 1, 0, 1, 0) := by decide +kernel
theorem fi_215_107 : am_find 215 107 = some (.goto 4, 3, 0, 0, 0) := by decide +kernel
theorem fi_215_110 : am_find 215 110 = some (.iconst 0, 1, 0, 0, 0) := by decide +kernel
theorem fi_215_111 : am_find 215 111 = some (.istore 5, 2, 0, 0, 0) := by decide +kernel
theorem fi_215_113 : am_find 215 113 = some (.iinc 6 1, 3, 0, 0, 0) := by decide +kernel
theorem fi_215_116 : am_find 215 116 = some (.goto (-75), 3, 0, 0, 0) := by decide +kernel
theorem fi_215_119 : am_find 215 119 = some (.iload_n 2, 1, 0, 0, 0) := by decide +kernel
theorem fi_215_120 : am_find 215 120 = some (.iload 5, 2, 0, 0, 0) := by decide +kernel
theorem fi_215_122 : am_find 215 122 = some (.ifCond .eq 27, 3, 0, 0, 0) := by decide +kernel
theorem fi_215_125 : am_find 215 125 = some (.aload_n 0, 1, 0, 0, 0) := by decide +kernel
theorem fi_215_126 : am_find 215 126 = some (.getfield 7, 3, 10, 1, 101) := by decide +kernel
theorem fi_215_129 : am_find 215 129 = some (.sipush 1477, 3, 0, 1477, 0) := by decide +kernel
theorem fi_215_132 : am_find 215 132 = some (.bipush 8, 2, 0, 8, 0) := by decide +kernel
theorem fi_215_134 : am_find 215 134 = some (.iload_n 3, 1, 0, 0, 0) := by decide +kernel
theorem fi_215_135 : am_find 215 135 = some (.imul, 1, 0, 0, 0) := by decide +kernel
theorem fi_215_136 : am_find 215 136 = some (.iadd, 1, 0, 0, 0) := by decide +kernel
theorem fi_215_137 : am_find 215 137 = some (.iload 4, 2, 0, 0, 0) := by decide +kernel
theorem fi_215_139 : am_find 215 139 = some (.iadd, 1, 0, 0, 0) := by decide +kernel
theorem fi_215_140 : am_find 215 140 = some (.iaload, 1, 0, 0, 0) := by decide +kernel
theorem fi_215_141 : am_find 215 141 = some (.iload_n 1, 1, 0, 0, 0) := by decide +kernel
theorem fi_215_142 : am_find 215 142 = some (.if_icmp .ne 7, 3, 0, 0, 0) := by decide +kernel
theorem fi_215_145 : am_find 215 145 = some (.iconst 1, 1, 0, 1, 0) := by decide +kernel
theorem fi_215_146 : am_find 215 146 = some (.goto 4, 3, 0, 0, 0) := by decide +kernel
theorem fi_215_149 : am_find 215 149 = some (.iconst 0, 1, 0, 0, 0) := by decide +kernel
theorem fi_215_150 : am_find 215 150 = some (.iadd, 1, 0, 0, 0) := by decide +kernel
theorem fi_215_151 : am_find 215 151 = some (.istore_n 2, 1, 0, 0, 0) := by decide +kernel
theorem fi_215_152 : am_find 215 152 = some (.iinc 4 1, 3, 0, 0, 0) := by decide +kernel
theorem fi_215_155 : am_find 215 155 = some (.goto (-138), 3, 0, 0, 0) := by decide +kernel
theorem fi_215_158 : am_find 215 158 = some (.iinc 3 1, 3, 0, 0, 0) := by decide +kernel
theorem fi_215_161 : am_find 215 161 = some (.goto (-157), 3, 0, 0, 0) := by decide +kernel
theorem fi_215_164 : am_find 215 164 = some (.iload_n 2, 1, 0, 0, 0) := by decide +kernel
theorem fi_215_165 : am_find 215 165 = some (.ireturn, 1, 0, 0, 0) := by decide +kernel
theorem b215_0 {d L : Nat} {σ : St} {Q : Option AV → AW → Prop} {x1 : Int} {u0 u2 u3 u4 u5 u6 : AV} : R d 215 0 [u0, vI x1, u2, u3, u4, u5, u6] [] (WS L σ) Q = R d 215 4 [u0, vI x1, vI 0, vI 0, u4, u5, u6] [] (WS L σ) Q := K_iconst fi_215_0 <| K_istore_n fi_215_1 (Nat.le_of_ble_eq_true rfl) rfl rfl <| K_iconst fi_215_2 <| K_istore_n fi_215_3 (Nat.le_of_ble_eq_true rfl) rfl rfl <| rfl
theorem b215_4 {d L : Nat} {σ : St} {Q : Option AV → AW → Prop} {x3 : Int} {u1 u2 u4 u5 u6 : AV} : R d 215 4 [vR 153, u1, u2, vI x3, u4, u5, u6] [] (WS L σ) Q = if (σ 154 3) ≤ x3 then R d 215 164 [vR 153, u1, u2, vI x3, u4, u5, u6] [] (WS L σ) Q else R d 215 14 [vR 153, u1, u2, vI x3, u4, u5, u6] [] (WS L σ) Q := K_iload_n fi_215_4 rfl <| K_aload_n fi_215_5 rfl <| K_gf fi_215_6 kd_153 mk_153_1 <| K_iconst fi_215_9 <| K_ia fi_215_10 kd_154 (by decide) (show (3 : Int) < 1580 by decide) <| R_icmp_ge fi_215_11 rfl
theorem b215_14 {d L : Nat} {σ : St} {Q : Option AV → AW → Prop} {u0 u1 u2 u3 u4 u5 u6 : AV} : R d 215 14 [u0, u1, u2, u3, u4, u5, u6] [] (WS L σ) Q = R d 215 17 [u0, u1, u2, u3, vI 0, u5, u6] [] (WS L σ) Q := K_iconst fi_215_14 <| K_istore fi_215_15 (Nat.le_of_ble_eq_true rfl) rfl rfl <| rfl
theorem b215_17 {d L : Nat} {σ : St} {Q : Option AV → AW → Prop} {x4 x3 : Int} {u1 u2 u5 u6 : AV} (h1 : -2147483648 ≤ 1369 + x3 ∧ 1369 + x3 ≤ 2147483647) (h2 : 0 ≤ 1369 + x3) (h3 : (1369 + x3) < 1580) : R d 215 17 [vR 153, u1, u2, vI x3, vI x4, u5, u6] [] (WS L σ) Q = if (σ 154 (1369 + x3)) ≤ x4 then R d 215 158 [vR 153, u1, u2, vI x3, vI x4, u5, u6] [] (WS L σ) Q else R d 215 32 [vR 153, u1, u2, vI x3, vI x4, u5, u6] [] (WS L σ) Q := K_iload fi_215_17 rfl <| K_aload_n fi_215_19 rfl <| K_gf fi_215_20 kd_153 mk_153_1 <| K_sipush fi_215_23 <| K_iload_n fi_215_26 rfl <| K_iaddx fi_215_27 h1 <| K_ia fi_215_28 kd_154 h2 h3 <| R_icmp_ge fi_215_29 rfl
theorem b215_32 {d L : Nat} {σ : St} {Q : Option AV → AW → Prop} {x4 : Int} {u0 u1 u2 u3 u5 u6 : AV} (h1 : -2147483648 ≤ x4 + 1 ∧ x4 + 1 ≤ 2147483647) : R d 215 32 [u0, u1, u2, u3, vI x4, u5, u6] [] (WS L σ) Q = R d 215 41 [u0, u1, u2, u3, vI x4, vI 0, vI (x4 + 1)] [] (WS L σ) Q := K_iconst fi_215_32 <| K_istore fi_215_33 (Nat.le_of_ble_eq_true rfl) rfl rfl <| K_iload fi_215_35 rfl <| K_iconst fi_215_37 <| K_iaddx fi_215_38 h1 <| K_istore fi_215_39 (Nat.le_of_ble_eq_true rfl) rfl rfl <| rfl
theorem b215_41 {d L : Nat} {σ : St} {Q : Option AV → AW → Prop} {x6 x3 : Int} {u1 u2 u4 u5 : AV} (h1 : -2147483648 ≤ 1369 + x3 ∧ 1369 + x3 ≤ 2147483647) (h2 : 0 ≤ 1369 + x3) (h3 : (1369 + x3) < 1580) : R d 215 41 [vR 153, u1, u2, vI x3, u4, u5, vI x6] [] (WS L σ) Q = if (σ 154 (1369 + x3)) ≤ x6 then R d 215 119 [vR 153, u1, u2, vI x3, u4, u5, vI x6] [] (WS L σ) Q else R d 215 56 [vR 153, u1, u2, vI x3, u4, u5, vI x6] [] (WS L σ) Q := K_iload fi_215_41 rfl <| K_aload_n fi_215_43 rfl <| K_gf fi_215_44 kd_153 mk_153_1 <| K_sipush fi_215_47 <| K_iload_n fi_215_50 rfl <| K_iaddx fi_215_51 h1 <| K_ia fi_215_52 kd_154 h2 h3 <| R_icmp_ge fi_215_53 rfl
theorem b215_56 {d L : Nat} {σ : St} {Q : Option AV → AW → Prop} {x5 : Int} {u0 u1 u2 u3 u4 u6 : AV} : R d 215 56 [u0, u1, u2, u3, u4, vI x5, u6] [] (WS L σ) Q = if ¬ x5 = 0 then R d 215 106 [u0, u1, u2, u3, u4, vI x5, u6] [] (WS L σ) Q else R d 215 61 [u0, u1, u2, u3, u4, vI x5, u6] [] (WS L σ) Q := K_iload fi_215_56 rfl <| R_if_ne fi_215_58 rfl
theorem b215_61 {d L : Nat} {σ : St} {Q : Option AV → AW → Prop} {x3 x6 x4 : Int} {u1 u2 u5 : AV} (h1 : -2147483648 ≤ 8 * x3 ∧ 8 * x3 ≤ 2147483647) (h2 : -2147483648 ≤ 1381 + (8 * x3) ∧ 1381 + (8 * x3) ≤ 2147483647) (h3 : -2147483648 ≤ (1381 + (8 * x3)) + x6 ∧ (1381 + (8 * x3)) + x6 ≤ 2147483647) (h4 : 0 ≤ (1381 + (8 * x3)) + x6) (h5 : ((1381 + (8 * x3)) + x6) < 1580) (h6 : 0 ≤ σ 154 ((1381 + (8 * x3)) + x6)) (h7 : (σ 154 ((1381 + (8 * x3)) + x6)) < 8) (h8 : -2147483648 ≤ (1381 + (8 * x3)) + x4 ∧ (1381 + (8 * x3)) + x4 ≤ 2147483647) (h9 : 0 ≤ (1381 + (8 * x3)) + x4) (h10 : ((1381 + (8 * x3)) + x4) < 1580) (h11 : 0 ≤ σ 154 ((1381 + (8 * x3)) + x4)) (h12 : (σ 154 ((1381 + (8 * x3)) + x4)) < 8) : R d 215 61 [vR 153, u1, u2, vI x3, vI x4, u5, vI x6] [] (WS L σ) Q = if (σ 161 (σ 154 ((1381 + (8 * x3)) + x4))) ≤ (σ 161 (σ 154 ((1381 + (8 * x3)) + x6))) then R d 215 110 [vR 153, u1, u2, vI x3, vI x4, u5, vI x6] [] (WS L σ) Q else R d 215 106 [vR 153, u1, u2, vI x3, vI x4, u5, vI x6] [] (WS L σ) Q := K_aload_n fi_215_61 rfl <| K_gf fi_215_62 kd_153 mk_153_20 <| K_aload_n fi_215_65 rfl <| K_gf fi_215_66 kd_153 mk_153_1 <| K_sipush fi_215_69 <| K_bipush fi_215_72 <| K_iload_n fi_215_74 rfl <| K_imulx fi_215_75 h1 <| K_iaddx fi_215_76 h2 <| K_iload fi_215_77 rfl <| K_iaddx fi_215_79 h3 <| K_ia fi_215_80 kd_154 h4 h5 <| K_ia fi_215_81 kd_161 h6 h7 <| K_aload_n fi_215_82 rfl <| K_gf fi_215_83 kd_153 mk_153_20 <| K_aload_n fi_215_86 rfl <| K_gf fi_215_87 kd_153 mk_153_1 <| K_sipush fi_215_90 <| K_bipush fi_215_93 <| K_iload_n fi_215_95 rfl <| K_imulx fi_215_96 h1 <| K_iaddx fi_215_97 h2 <| K_iload fi_215_98 rfl <| K_iaddx fi_215_100 h8 <| K_ia fi_215_101 kd_154 h9 h10 <| K_ia fi_215_102 kd_161 h11 h12 <| R_icmp_ge fi_215_103 rfl
theorem b215_106 {d L : Nat} {σ : St} {Q : Option AV → AW → Prop} {u0 u1 u2 u3 u4 u5 u6 : AV} : R d 215 106 [u0, u1, u2, u3, u4, u5, u6] [] (WS L σ) Q = R d 215 111 [u0, u1, u2, u3, u4, u5, u6] [vI 1] (WS L σ) Q := K_iconst fi_215_106 <| R_goto fi_215_107 rfl
theorem b215_110 {d L : Nat} {σ : St} {Q : Option AV → AW → Prop} {u0 u1 u2 u3 u4 u5 u6 : AV} : R d 215 110 [u0, u1, u2, u3, u4, u5, u6] [] (WS L σ) Q = R d 215 111 [u0, u1, u2, u3, u4, u5, u6] [vI 0] (WS L σ) Q := K_iconst fi_215_110 <| rfl
theorem b215_111 {d L : Nat} {σ : St} {Q : Option AV → AW → Prop} {y0 x6 : Int} {u0 u1 u2 u3 u4 u5 : AV} (h1 : -2147483648 ≤ x6 + 1 ∧ x6 + 1 ≤ 2147483647) : R d 215 111 [u0, u1, u2, u3, u4, u5, vI x6] [vI y0] (WS L σ) Q = R d 215 41 [u0, u1, u2, u3, u4, vI y0, vI (x6 + 1)] [] (WS L σ) Q := K_istore fi_215_111 (Nat.le_of_ble_eq_true rfl) rfl rfl <| K_iincx fi_215_113 rfl (Nat.le_of_ble_eq_true rfl) rfl h1 rfl <| R_goto fi_215_116 rfl
theorem b215_119 {d L : Nat} {σ : St} {Q : Option AV → AW → Prop} {x2 x5 : Int} {u0 u1 u3 u4 u6 : AV} : R d 215 119 [u0, u1, vI x2, u3, u4, vI x5, u6] [] (WS L σ) Q = if x5 = 0 then R d 215 149 [u0, u1, vI x2, u3, u4, vI x5, u6] [vI x2] (WS L σ) Q else R d 215 125 [u0, u1, vI x2, u3, u4, vI x5, u6] [vI x2] (WS L σ) Q := K_iload_n fi_215_119 rfl <| K_iload fi_215_120 rfl <| R_if_eq fi_215_122 rfl
theorem b215_125 {d L : Nat} {σ : St} {Q : Option AV → AW → Prop} {y0 x3 x4 x1 : Int} {u2 u5 u6 : AV} (h1 : -2147483648 ≤ 8 * x3 ∧ 8 * x3 ≤ 2147483647) (h2 : -2147483648 ≤ 1477 + (8 * x3) ∧ 1477 + (8 * x3) ≤ 2147483647) (h3 : -2147483648 ≤ (1477 + (8 * x3)) + x4 ∧ (1477 + (8 * x3)) + x4 ≤ 2147483647) (h4 : 0 ≤ (1477 + (8 * x3)) + x4) (h5 : ((1477 + (8 * x3)) + x4) < 1580) : R d 215 125 [vR 153, vI x1, u2, vI x3, vI x4, u5, u6] [vI y0] (WS L σ) Q = if ¬ (σ 154 ((1477 + (8 * x3)) + x4)) = x1 then R d 215 149 [vR 153, vI x1, u2, vI x3, vI x4, u5, u6] [vI y0] (WS L σ) Q else R d 215 145 [vR 153, vI x1, u2, vI x3, vI x4, u5, u6] [vI y0] (WS L σ) Q := K_aload_n fi_215_125 rfl <| K_gf fi_215_126 kd_153 mk_153_1 <| K_sipush fi_215_129 <| K_bipush fi_215_132 <| K_iload_n fi_215_134 rfl <| K_imulx fi_215_135 h1 <| K_iaddx fi_215_136 h2 <| K_iload fi_215_137 rfl <| K_iaddx fi_215_139 h3 <| K_ia fi_215_140 kd_154 h4 h5 <| K_iload_n fi_215_141 rfl <| R_icmp_ne fi_215_142 rfl
theorem b215_145 {d L : Nat} {σ : St} {Q : Option AV → AW → Prop} {y0 : Int} {u0 u1 u2 u3 u4 u5 u6 : AV} : R d 215 145 [u0, u1, u2, u3, u4, u5, u6] [vI y0] (WS L σ) Q = R d 215 150 [u0, u1, u2, u3, u4, u5, u6] [vI 1, vI y0] (WS L σ) Q := K_iconst fi_215_145 <| R_goto fi_215_146 rfl
theorem b215_149 {d L : Nat} {σ : St} {Q : Option AV → AW → Prop} {y0 : Int} {u0 u1 u2 u3 u4 u5 u6 : AV} : R d 215 149 [u0, u1, u2, u3, u4, u5, u6] [vI y0] (WS L σ) Q = R d 215 150 [u0, u1, u2, u3, u4, u5, u6] [vI 0, vI y0] (WS L σ) Q := K_iconst fi_215_149 <| rfl
theorem b215_150 {d L : Nat} {σ : St} {Q : Option AV → AW → Prop} {y0 y1 x1 x4 : Int} {u0 u2 u3 u5 u6 : AV} (h1 : -2147483648 ≤ y1 + y0 ∧ y1 + y0 ≤ 2147483647) (h2 : -2147483648 ≤ x4 + 1 ∧ x4 + 1 ≤ 2147483647) : R d 215 150 [u0, vI x1, u2, u3, vI x4, u5, u6] [vI y0, vI y1] (WS L σ) Q = R d 215 17 [u0, vI x1, vI (y1 + y0), u3, vI (x4 + 1), u5, u6] [] (WS L σ) Q := K_iaddx fi_215_150 h1 <| K_istore_n fi_215_151 (Nat.le_of_ble_eq_true rfl) rfl rfl <| K_iincx fi_215_152 rfl (Nat.le_of_ble_eq_true rfl) rfl h2 rfl <| R_goto fi_215_155 rfl
theorem b215_158 {d L : Nat} {σ : St} {Q : Option AV → AW → Prop} {x3 : Int} {u0 u1 u2 u4 u5 u6 : AV} (h1 : -2147483648 ≤ x3 + 1 ∧ x3 + 1 ≤ 2147483647) : R d 215 158 [u0, u1, u2, vI x3, u4, u5, u6] [] (WS L σ) Q = R d 215 4 [u0, u1, u2, vI (x3 + 1), u4, u5, u6] [] (WS L σ) Q := K_iincx fi_215_158 rfl (Nat.le_of_ble_eq_true rfl) rfl h1 rfl <| R_goto fi_215_161 rfl
theorem b215_164 {d L : Nat} {σ : St} {Q : Option AV → AW → Prop} {x2 : Int} {u0 u1 u3 u4 u5 u6 : AV} : R d 215 164 [u0, u1, vI x2, u3, u4, u5, u6] [] (WS L σ) Q = Q (some (vI x2)) (WS L σ) := K_iload_n fi_215_164 rfl <| R_ireti fi_215_165 rfl
theorem fi_216_0 : am_find 216 0 = some (.aload_n 0, 1, 0, 0, 0) := by decide +kernel
theorem fi_216_1 : am_find 216 1 = some (.iload_n 1, 1, 0, 0, 0) := by decide +kernel
theorem fi_216_2 : am_find 216 2 = some (.invokevirtual 53, 3, 147, 1, 171) := by decide +kernel
theorem fi_216_5 : am_find 216 5 = some (.ifCond .eq 11, 3, 0, 0, 0) := by decide +kernel
theorem fi_216_8 : am_find 216 8 = some (.aload_n 0, 1, 0, 0, 0) := by decide +kernel
theorem fi_216_9 : am_find 216 9 = some (.iload_n 1, 1, 0, 0, 0) := by decide +kernel
theorem fi_216_10 : am_find 216 10 = some (.invokevirtual 204, 3, 205, 1, 212) := by decide +kernel
theorem fi_216_13 : am_find 216 13 = some (.goto 4, 3, 0, 0, 0) := by decide +kernel
theorem fi_216_16 : am_find 216 16 = some (.iconst (-1), 1, 0, (-1), 0) := by decide +kernel
theorem fi_216_17 : am_find 216 17 = some (.ireturn, 1, 0, 0, 0) := by decide +kernel
theorem b216_0 {d L : Nat} {σ : St} {Q : Option AV → AW → Prop} {x1 : Int} : R (d + 1) 216 0 [vR 153, vI x1] [] (WS L σ) Q = R d 147 0 [vR 153, vI x1] [] (WS L σ) (fun r w => R (d + 1) 216 5 [vR 153, vI x1] (am_push r []) w Q) := K_aload_n fi_216_0 rfl <| K_iload_n fi_216_1 rfl <| R_invV fi_216_2 (am_invV_of rfl (kd_153) (Nat.le_of_ble_eq_true rfl) (Nat.le_of_ble_eq_true rfl) rfl rfl)
theorem b216_5 {d L : Nat} {σ : St} {Q : Option AV → AW → Prop} {y0 : Int} {u0 u1 : AV} : R d 216 5 [u0, u1] [vI y0] (WS L σ) Q = if y0 = 0 then R d 216 16 [u0, u1] [] (WS L σ) Q else R d 216 8 [u0, u1] [] (WS L σ) Q := R_if_eq fi_216_5 rfl
theorem b216_8 {d L : Nat} {σ : St} {Q : Option AV → AW → Prop} {x1 : Int} : R (d + 1) 216 8 [vR 153, vI x1] [] (WS L σ) Q = R d 205 0 [vR 153, vI x1, vX 9, vX 9] [] (WS L σ) (fun r w => R (d + 1) 216 13 [vR 153, vI x1] (am_push r []) w Q) := K_aload_n fi_216_8 rfl <| K_iload_n fi_216_9 rfl <| R_invV fi_216_10 (am_invV_of rfl (kd_153) (Nat.le_of_ble_eq_true rfl) (Nat.le_of_ble_eq_true rfl) rfl rfl)
theorem b216_13 {d L : Nat} {σ : St} {Q : Option AV → AW → Prop} {y0 : Int} {u0 u1 : AV} : R d 216 13 [u0, u1] [vI y0] (WS L σ) Q = R d 216 17 [u0, u1] [vI y0] (WS L σ) Q := R_goto fi_216_13 rfl
theorem b216_16 {d L : Nat} {σ : St} {Q : Option AV → AW → Prop} {u0 u1 : AV} : R d 216 16 [u0, u1] [] (WS L σ) Q = R d 216 17 [u0, u1] [vI (-1)] (WS L σ) Q := K_iconst fi_216_16 <| rfl
theorem b216_17 {d L : Nat} {σ : St} {Q : Option AV → AW → Prop} {y0 : Int} {u0 u1 : AV} : R d 216 17 [u0, u1] [vI y0] (WS L σ) Q = Q (some (vI y0)) (WS L σ) := R_ireti fi_216_17 rfl
theorem fi_217_0 : am_find 217 0 = some (.aload_n 0, 1, 0, 0, 0) := by decide +kernel
theorem fi_217_1 : am_find 217 1 = some (.iconst 0, 1, 0, 0, 0) := by decide +kernel
theorem fi_217_2 : am_find 217 2 = some (.putfield 252, 3, 10, 25, 124) := by decide +kernel
theorem fi_217_5 : am_find 217 5 = some (.iload_n 1, 1, 0, 0, 0) := by decide +kernel
theorem fi_217_6 : am_find 217 6 = some (.invokestatic 144, 3, 167, 1, 189) := by decide +kernel
theorem fi_217_9 : am_find 217 9 = some (.ifCond .eq 12, 3, 0, 0, 0) := by decide +kernel
theorem fi_217_12 : am_find 217 12 = some (.iload_n 2, 1, 0, 0, 0) := by decide +kernel
theorem fi_217_13 : am_find 217 13 = some (.iconst 0, 1, 0, 0, 0) := by decide +kernel
theorem fi_217_14 : am_find 217 14 = some (.iconst 2, 1, 0, 2, 0) := by decide +kernel
theorem fi_217_15 : am_find 217 15 = some (.invokestatic 49, 3, 145, 3, 170) := by decide +kernel
theorem fi_217_18 : am_find 217 18 = some (.ifCond .ne 5, 3, 0, 0, 0) := by decide +kernel
theorem fi_217_21 : am_find 217 21 = some (.iconst 0, 1, 0, 0, 0) := by decide +kernel
theorem fi_217_22 : am_find 217 22 = some (.ireturn, 1, 0, 0, 0) := by decide +kernel
theorem fi_217_23 : am_find 217 23 = some (.aload_n 0, 1, 0, 0, 0) := by decide +kernel
theorem fi_217_24 : am_find 217 24 = some (.aload_n 0, 1, 0, 0, 0) := by decide +kernel
theorem fi_217_25 : am_find 217 25 = some (.getfield 7, 3, 10, 1, 101) := by decide +kernel
theorem fi_217_28 : am_find 217 28 = some (.sipush 157, 3, 0, 157, 0) := by decide +kernel
theorem fi_217_31 : am_find 217 31 = some (.iload_n 1, 1, 0, 0, 0) := by decide +kernel
theorem fi_217_32 : am_find 217 32 = some (.iadd, 1, 0, 0, 0) := by decide +kernel
theorem fi_217_33 : am_find 217 33 = some (.iaload, 1, 0, 0, 0) := by decide +kernel
theorem fi_217_34 : am_find 217 34 = some (.putfield 261, 3, 10, 26, 125) := by decide +kernel
theorem fi_217_37 : am_find 217 37 = some (.aload_n 0, 1, 0, 0, 0) := by decide +kernel
theorem fi_217_38 : am_find 217 38 = some (.iload_n 1, 1, 0, 0, 0) := by decide +kernel
theorem fi_217_39 : am_find 217 39 = some (.putfield 258, 3, 10, 27, 126) := by decide +kernel
theorem fi_217_42 : am_find 217 42 = some (.aload_n 0, 1, 0, 0, 0) := by decide +kernel
theorem fi_217_43 : am_find 217 43 = some (.iconst 0, 1, 0, 0, 0) := by decide +kernel
theorem fi_217_44 : am_find 217 44 = some (.putfield 273, 3, 10, 28, 127) := by decide +kernel
theorem fi_217_47 : am_find 217 47 = some (.iconst 0, 1, 0, 0, 0) := by decide +kernel
theorem fi_217_48 : am_find 217 48 = some (.istore 4, 2, 0, 0, 0) := by decide +kernel
theorem fi_217_50 : am_find 217 50 = some (.iload 4, 2, 0, 0, 0) := by decide +kernel
theorem fi_217_52 : am_find 217 52 = some (.aload_n 0, 1, 0, 0, 0) := by decide +kernel
theorem fi_217_53 : am_find 217 53 = some (.getfield 7, 3, 10, 1, 101) := by decide +kernel
theorem fi_217_56 : am_find 217 56 = some (.iconst 0, 1, 0, 0, 0) := by decide +kernel
theorem fi_217_57 : am_find 217 57 = some (.iaload, 1, 0, 0, 0) := by decide +kernel
theorem fi_217_58 : am_find 217 58 = some (.if_icmp .ge 38, 3, 0, 0, 0) := by decide +kernel
theorem fi_217_61 : am_find 217 61 = some (.aload_n 0, 1, 0, 0, 0) := by decide +kernel
theorem fi_217_62 : am_find 217 62 = some (.dup, 1, 0, 0, 0) := by decide +kernel
theorem fi_217_63 : am_find 217 63 = some (.getfield 273, 3, 10, 28, 127) := by decide +kernel
theorem fi_217_66 : am_find 217 66 = some (.aload_n 0, 1, 0, 0, 0) := by decide +kernel
theorem fi_217_67 : am_find 217 67 = some (.getfield 7, 3, 10, 1, 101) := by decide +kernel
theorem fi_217_70 : am_find 217 70 = some (.sipush 146, 3, 0, 146, 0) := by decide +kernel
theorem fi_217_73 : am_find 217 73 = some (.iload 4, 2, 0, 0, 0) := by decide +kernel
theorem fi_217_75 : am_find 217 75 = some (.iadd, 1, 0, 0, 0) := by decide +kernel
theorem fi_217_76 : am_find 217 76 = some (.iaload, 1, 0, 0, 0) := by decide +kernel
theorem fi_217_77 : am_find 217 77 = some (.iload_n 1, 1, 0, 0, 0) := by decide +kernel
theorem fi_217_78 : am_find 217 78 = some (.if_icmp .ne 7, 3, 0, 0, 0) := by decide +kernel
theorem fi_217_81 : am_find 217 81 = some (.iconst 1, 1, 0, 1, 0) := by decide +kernel
theorem fi_217_82 : am_find 217 82 = some (.goto 4, 3, 0, 0, 0) := by decide +kernel
theorem fi_217_85 : am_find 217 85 = some (.iconst 0, 1, 0, 0, 0) := by decide +kernel
theorem fi_217_86 : am_find 217 86 = some (.iadd, 1, 0, 0, 0) := by decide +kernel
theorem fi_217_87 : am_find 217 87 = some (.putfield 273, 3, 10, 28, 127) := by decide +kernel
theorem fi_217_90 : am_find 217 90 = some (.iinc 4 1, 3, 0, 0, 0) := by decide +kernel
theorem fi_217_93 : am_find 217 93 = some (.goto (-43), 3, 0, 0, 0) := by decide +kernel
theorem fi_217_96 : am_find 217 96 = some (.iload_n 2, 1, 0, 0, 0) := by decide +kernel
theorem fi_217_97 : am_find 217 97 = some (.ifCond .ne 11, 3, 0, 0, 0) := by decide +kernel
theorem fi_217_100 : am_find 217 100 = some (.aload_n 0, 1, 0, 0, 0) := by decide +kernel
theorem fi_217_101 : am_find 217 101 = some (.iload_n 3, 1, 0, 0, 0) := by decide +kernel
theorem fi_217_102 : am_find 217 102 = some (.invokevirtual 270, 3, 218, 1, 216) := by decide +kernel
theorem fi_217_105 : am_find 217 105 = some (.goto 21, 3, 0, 0, 0) := by decide +kernel
theorem fi_217_108 : am_find 217 108 = some (.iload_n 2, 1, 0, 0, 0) := by decide +kernel
theorem fi_217_109 : am_find 217 109 = some (.iconst 1, 1, 0, 1, 0) := by decide +kernel
theorem fi_217_110 : am_find 217 110 = some (.if_icmp .ne 11, 3, 0, 0, 0) := by decide +kernel
theorem fi_217_113 : am_find 217 113 = some (.aload_n 0, 1, 0, 0, 0) := by decide +kernel
theorem fi_217_114 : am_find 217 114 = some (.iload_n 3, 1, 0, 0, 0) := by decide +kernel
theorem fi_217_115 : am_find 217 115 = some (.invokevirtual 279, 3, 222, 1, 217) := by decide +kernel
theorem fi_217_118 : am_find 217 118 = some (.goto 8, 3, 0, 0, 0) := by decide +kernel
theorem fi_217_121 : am_find 217 121 = some (.aload_n 0, 1, 0, 0, 0) := by decide +kernel
theorem fi_217_122 : am_find 217 122 = some (.iload_n 3, 1, 0, 0, 0) := by decide +kernel
theorem fi_217_123 : am_find 217 123 = some (.invokevirtual 285, 3, 224, 1, 218) := by decide +kernel
theorem fi_217_126 : am_find 217 126 = some (.ireturn, 1, 0, 0, 0) := by decide +kernel
theorem b217_0 {d L : Nat} {σ : St} {Q : Option AV → AW → Prop} {u1 u2 u3 u4 : AV} : R d 217 0 [vR 153, u1, u2, u3, u4] [] (WS L σ) Q = R d 217 5 [vR 153, u1, u2, u3, u4] [] (WS L (st2 σ 153 25 0)) Q := K_aload_n fi_217_0 rfl <| K_iconst fi_217_1 <| K_pf fi_217_2 kd_153 rfl rfl rfl rfl <| rfl
theorem b217_5 {d L : Nat} {σ : St} {Q : Option AV → AW → Prop} {x1 : Int} {u0 u2 u3 u4 : AV} : R (d + 1) 217 5 [u0, vI x1, u2, u3, u4] [] (WS L σ) Q = R d 167 0 [vI x1] [] (WS L σ) (fun r w => R (d + 1) 217 9 [u0, vI x1, u2, u3, u4] (am_push r []) w Q) := K_iload_n fi_217_5 rfl <| R_invS fi_217_6 (by decide) (am_invS_of (Nat.le_of_ble_eq_true rfl) rfl (Nat.le_of_ble_eq_true rfl) (Nat.le_of_ble_eq_true rfl) rfl rfl)
theorem b217_9 {d L : Nat} {σ : St} {Q : Option AV → AW → Prop} {y0 : Int} {u0 u1 u2 u3 u4 : AV} : R d 217 9 [u0, u1, u2, u3, u4] [vI y0] (WS L σ) Q = if y0 = 0 then R d 217 21 [u0, u1, u2, u3, u4] [] (WS L σ) Q else R d 217 12 [u0, u1, u2, u3, u4] [] (WS L σ) Q := R_if_eq fi_217_9 rfl
theorem b217_12 {d L : Nat} {σ : St} {Q : Option AV → AW → Prop} {x2 : Int} {u0 u1 u3 u4 : AV} : R (d + 1) 217 12 [u0, u1, vI x2, u3, u4] [] (WS L σ) Q = R d 145 0 [vI x2, vI 0, vI 2] [] (WS L σ) (fun r w => R (d + 1) 217 18 [u0, u1, vI x2, u3, u4] (am_push r []) w Q) := K_iload_n fi_217_12 rfl <| K_iconst fi_217_13 <| K_iconst fi_217_14 <| R_invS fi_217_15 (by decide) (am_invS_of (Nat.le_of_ble_eq_true rfl) rfl (Nat.le_of_ble_eq_true rfl) (Nat.le_of_ble_eq_true rfl) rfl rfl)
theorem b217_18 {d L : Nat} {σ : St} {Q : Option AV → AW → Prop} {y0 : Int} {u0 u1 u2 u3 u4 : AV} : R d 217 18 [u0, u1, u2, u3, u4] [vI y0] (WS L σ) Q = if ¬ y0 = 0 then R d 217 23 [u0, u1, u2, u3, u4] [] (WS L σ) Q else R d 217 21 [u0, u1, u2, u3, u4] [] (WS L σ) Q := R_if_ne fi_217_18 rfl
theorem b217_21 {d L : Nat} {σ : St} {Q : Option AV → AW → Prop} {u0 u1 u2 u3 u4 : AV} : R d 217 21 [u0, u1, u2, u3, u4] [] (WS L σ) Q = Q (some (vI 0)) (WS L σ) := K_iconst fi_217_21 <| R_ireti fi_217_22 rfl
theorem b217_23 {d L : Nat} {σ : St} {Q : Option AV → AW → Prop} {x1 : Int} {u2 u3 u4 : AV} (h1 : -2147483648 ≤ 157 + x1 ∧ 157 + x1 ≤ 2147483647) (h2 : 0 ≤ 157 + x1) (h3 : (157 + x1) < 1580) : R d 217 23 [vR 153, vI x1, u2, u3, u4] [] (WS L σ) Q = R d 217 37 [vR 153, vI x1, u2, u3, u4] [] (WS L (st2 σ 153 26 (σ 154 (157 + x1)))) Q := K_aload_n fi_217_23 rfl <| K_aload_n fi_217_24 rfl <| K_gf fi_217_25 kd_153 mk_153_1 <| K_sipush fi_217_28 <| K_iload_n fi_217_31 rfl <| K_iaddx fi_217_32 h1 <| K_ia fi_217_33 kd_154 h2 h3 <| K_pf fi_217_34 kd_153 rfl rfl rfl rfl <| rfl
theorem b217_37 {d L : Nat} {σ : St} {Q : Option AV → AW → Prop} {x1 : Int} {u2 u3 u4 : AV} : R d 217 37 [vR 153, vI x1, u2, u3, u4] [] (WS L σ) Q = R d 217 42 [vR 153, vI x1, u2, u3, u4] [] (WS L (st2 σ 153 27 x1)) Q := K_aload_n fi_217_37 rfl <| K_iload_n fi_217_38 rfl <| K_pf fi_217_39 kd_153 rfl rfl rfl rfl <| rfl
theorem b217_42 {d L : Nat} {σ : St} {Q : Option AV → AW → Prop} {u1 u2 u3 u4 : AV} : R d 217 42 [vR 153, u1, u2, u3, u4] [] (WS L σ) Q = R d 217 47 [vR 153, u1, u2, u3, u4] [] (WS L (st2 σ 153 28 0)) Q := K_aload_n fi_217_42 rfl <| K_iconst fi_217_43 <| K_pf fi_217_44 kd_153 rfl rfl rfl rfl <| rfl
theorem b217_47 {d L : Nat} {σ : St} {Q : Option AV → AW → Prop} {u0 u1 u2 u3 u4 : AV} : R d 217 47 [u0, u1, u2, u3, u4] [] (WS L σ) Q = R d 217 50 [u0, u1, u2, u3, vI 0] [] (WS L σ) Q := K_iconst fi_217_47 <| K_istore fi_217_48 (Nat.le_of_ble_eq_true rfl) rfl rfl <| rfl
theorem b217_50 {d L : Nat} {σ : St} {Q : Option AV → AW → Prop} {x4 : Int} {u1 u2 u3 : AV} : R d 217 50 [vR 153, u1, u2, u3, vI x4] [] (WS L σ) Q = if (σ 154 0) ≤ x4 then R d 217 96 [vR 153, u1, u2, u3, vI x4] [] (WS L σ) Q else R d 217 61 [vR 153, u1, u2, u3, vI x4] [] (WS L σ) Q := K_iload fi_217_50 rfl <| K_aload_n fi_217_52 rfl <| K_gf fi_217_53 kd_153 mk_153_1 <| K_iconst fi_217_56 <| K_ia fi_217_57 kd_154 (by decide) (show (0 : Int) < 1580 by decide) <| R_icmp_ge fi_217_58 rfl
theorem b217_61 {d L : Nat} {σ : St} {Q : Option AV → AW → Prop} {x4 x1 : Int} {u2 u3 : AV} (h1 : -2147483648 ≤ 146 + x4 ∧ 146 + x4 ≤ 2147483647) (h2 : 0 ≤ 146 + x4) (h3 : (146 + x4) < 1580) : R d 217 61 [vR 153, vI x1, u2, u3, vI x4] [] (WS L σ) Q = if ¬ (σ 154 (146 + x4)) = x1 then R d 217 85 [vR 153, vI x1, u2, u3, vI x4] [vI (σ 153 28), vR 153] (WS L σ) Q else R d 217 81 [vR 153, vI x1, u2, u3, vI x4] [vI (σ 153 28), vR 153] (WS L σ) Q := K_aload_n fi_217_61 rfl <| K_dupr fi_217_62 <| K_gf fi_217_63 kd_153 mk_153_28 <| K_aload_n fi_217_66 rfl <| K_gf fi_217_67 kd_153 mk_153_1 <| K_sipush fi_217_70 <| K_iload fi_217_73 rfl <| K_iaddx fi_217_75 h1 <| K_ia fi_217_76 kd_154 h2 h3 <| K_iload_n fi_217_77 rfl <| R_icmp_ne fi_217_78 rfl
theorem b217_81 {d L : Nat} {σ : St} {Q : Option AV → AW → Prop} {y0 : Int} {u0 u1 u2 u3 u4 : AV} : R d 217 81 [u0, u1, u2, u3, u4] [vI y0, vR 153] (WS L σ) Q = R d 217 86 [u0, u1, u2, u3, u4] [vI 1, vI y0, vR 153] (WS L σ) Q := K_iconst fi_217_81 <| R_goto fi_217_82 rfl
theorem b217_85 {d L : Nat} {σ : St} {Q : Option AV → AW → Prop} {y0 : Int} {u0 u1 u2 u3 u4 : AV} : R d 217 85 [u0, u1, u2, u3, u4] [vI y0, vR 153] (WS L σ) Q = R d 217 86 [u0, u1, u2, u3, u4] [vI 0, vI y0, vR 153] (WS L σ) Q := K_iconst fi_217_85 <| rfl
theorem b217_86 {d L : Nat} {σ : St} {Q : Option AV → AW → Prop} {y0 y1 : Int} {u0 u1 u2 u3 u4 : AV} (h1 : -2147483648 ≤ y1 + y0 ∧ y1 + y0 ≤ 2147483647) : R d 217 86 [u0, u1, u2, u3, u4] [vI y0, vI y1, vR 153] (WS L σ) Q = R d 217 90 [u0, u1, u2, u3, u4] [] (WS L (st2 σ 153 28 (y1 + y0))) Q := K_iaddx fi_217_86 h1 <| K_pf fi_217_87 kd_153 rfl rfl rfl rfl <| rfl
theorem b217_90 {d L : Nat} {σ : St} {Q : Option AV → AW → Prop} {x4 : Int} {u0 u1 u2 u3 : AV} (h1 : -2147483648 ≤ x4 + 1 ∧ x4 + 1 ≤ 2147483647) : R d 217 90 [u0, u1, u2, u3, vI x4] [] (WS L σ) Q = R d 217 50 [u0, u1, u2, u3, vI (x4 + 1)] [] (WS L σ) Q := K_iincx fi_217_90 rfl (Nat.le_of_ble_eq_true rfl) rfl h1 rfl <| R_goto fi_217_93 rfl
theorem b217_96 {d L : Nat} {σ : St} {Q : Option AV → AW → Prop} {x2 : Int} {u0 u1 u3 u4 : AV} : R d 217 96 [u0, u1, vI x2, u3, u4] [] (WS L σ) Q = if ¬ x2 = 0 then R d 217 108 [u0, u1, vI x2, u3, u4] [] (WS L σ) Q else R d 217 100 [u0, u1, vI x2, u3, u4] [] (WS L σ) Q := K_iload_n fi_217_96 rfl <| R_if_ne fi_217_97 rfl
theorem b217_100 {d L : Nat} {σ : St} {Q : Option AV → AW → Prop} {x3 : Int} {u1 u2 u4 : AV} : R (d + 1) 217 100 [vR 153, u1, u2, vI x3, u4] [] (WS L σ) Q = R d 218 0 [vR 153, vI x3] [] (WS L σ) (fun r w => R (d + 1) 217 105 [vR 153, u1, u2, vI x3, u4] (am_push r []) w Q) := K_aload_n fi_217_100 rfl <| K_iload_n fi_217_101 rfl <| R_invV fi_217_102 (am_invV_of rfl (kd_153) (Nat.le_of_ble_eq_true rfl) (Nat.le_of_ble_eq_true rfl) rfl rfl)
theorem b217_105 {d L : Nat} {σ : St} {Q : Option AV → AW → Prop} {y0 : Int} {u0 u1 u2 u3 u4 : AV} : R d 217 105 [u0, u1, u2, u3, u4] [vI y0] (WS L σ) Q = R d 217 126 [u0, u1, u2, u3, u4] [vI y0] (WS L σ) Q := R_goto fi_217_105 rfl
theorem b217_108 {d L : Nat} {σ : St} {Q : Option AV → AW → Prop} {x2 : Int} {u0 u1 u3 u4 : AV} : R d 217 108 [u0, u1, vI x2, u3, u4] [] (WS L σ) Q = if ¬ x2 = 1 then R d 217 121 [u0, u1, vI x2, u3, u4] [] (WS L σ) Q else R d 217 113 [u0, u1, vI x2, u3, u4] [] (WS L σ) Q := K_iload_n fi_217_108 rfl <| K_iconst fi_217_109 <| R_icmp_ne fi_217_110 rfl
theorem b217_113 {d L : Nat} {σ : St} {Q : Option AV → AW → Prop} {x3 : Int} {u1 u2 u4 : AV} : R (d + 1) 217 113 [vR 153, u1, u2, vI x3, u4] [] (WS L σ) Q = R d 222 0 [vR 153, vI x3] [] (WS L σ) (fun r w => R (d + 1) 217 118 [vR 153, u1, u2, vI x3, u4] (am_push r []) w Q) := K_aload_n fi_217_113 rfl <| K_iload_n fi_217_114 rfl <| R_invV fi_217_115 (am_invV_of rfl (kd_153) (Nat.le_of_ble_eq_true rfl) (Nat.le_of_ble_eq_true rfl) rfl rfl)
theorem b217_118 {d L : Nat} {σ : St} {Q : Option AV → AW → Prop} {y0 : Int} {u0 u1 u2 u3 u4 : AV} : R d 217 118 [u0, u1, u2, u3, u4] [vI y0] (WS L σ) Q = R d 217 126 [u0, u1, u2, u3, u4] [vI y0] (WS L σ) Q := R_goto fi_217_118 rfl
theorem b217_121 {d L : Nat} {σ : St} {Q : Option AV → AW → Prop} {x3 : Int} {u1 u2 u4 : AV} : R (d + 1) 217 121 [vR 153, u1, u2, vI x3, u4] [] (WS L σ) Q = R d 224 0 [vR 153, vI x3, vX 9] [] (WS L σ) (fun r w => R (d + 1) 217 126 [vR 153, u1, u2, vI x3, u4] (am_push r []) w Q) := K_aload_n fi_217_121 rfl <| K_iload_n fi_217_122 rfl <| R_invV fi_217_123 (am_invV_of rfl (kd_153) (Nat.le_of_ble_eq_true rfl) (Nat.le_of_ble_eq_true rfl) rfl rfl)
theorem b217_126 {d L : Nat} {σ : St} {Q : Option AV → AW → Prop} {y0 : Int} {u0 u1 u2 u3 u4 : AV} : R d 217 126 [u0, u1, u2, u3, u4] [vI y0] (WS L σ) Q = Q (some (vI y0)) (WS L σ) := R_ireti fi_217_126 rfl
theorem fi_218_0 : am_find 218 0 = some (.aload_n 0, 1, 0, 0, 0) := by decide +kernel
theorem fi_218_1 : am_find 218 1 = some (.getfield 261, 3, 10, 26, 125) := by decide +kernel
theorem fi_218_4 : am_find 218 4 = some (.iconst 1, 1, 0, 1, 0) := by decide +kernel
theorem fi_218_5 : am_find 218 5 = some (.invokestatic 264, 3, 219, 2, 219) := by decide +kernel
theorem fi_218_8 : am_find 218 8 = some (.ifCond .eq 17, 3, 0, 0, 0) := by decide +kernel
theorem fi_218_11 : am_find 218 11 = some (.aload_n 0, 1, 0, 0, 0) := by decide +kernel
theorem fi_218_12 : am_find 218 12 = some (.bipush 11, 2, 0, 11, 0) := by decide +kernel
theorem fi_218_14 : am_find 218 14 = some (.invokevirtual 255, 3, 220, 1, 220) := by decide +kernel
theorem fi_218_17 : am_find 218 17 = some (.aload_n 0, 1, 0, 0, 0) := by decide +kernel
theorem fi_218_18 : am_find 218 18 = some (.iload_n 1, 1, 0, 0, 0) := by decide +kernel
theorem fi_218_19 : am_find 218 19 = some (.iconst 3, 1, 0, 3, 0) := by decide +kernel
theorem fi_218_20 : am_find 218 20 = some (.imul, 1, 0, 0, 0) := by decide +kernel
theorem fi_218_21 : am_find 218 21 = some (.invokevirtual 267, 3, 221, 1, 221) := by decide +kernel
theorem fi_218_24 : am_find 218 24 = some (.ireturn, 1, 0, 0, 0) := by decide +kernel
theorem fi_218_25 : am_find 218 25 = some (.aload_n 0, 1, 0, 0, 0) := by decide +kernel
theorem fi_218_26 : am_find 218 26 = some (.getfield 261, 3, 10, 26, 125) := by decide +kernel
theorem fi_218_29 : am_find 218 29 = some (.iconst 4, 1, 0, 4, 0) := by decide +kernel
theorem fi_218_30 : am_find 218 30 = some (.if_icmp .ne 20, 3, 0, 0, 0) := by decide +kernel
theorem fi_218_33 : am_find 218 33 = some (.aload_n 0, 1, 0, 0, 0) := by decide +kernel
theorem fi_218_34 : am_find 218 34 = some (.bipush 51, 2, 0, 51, 0) := by decide +kernel
theorem fi_218_36 : am_find 218 36 = some (.invokevirtual 255, 3, 220, 1, 220) := by decide +kernel
theorem fi_218_39 : am_find 218 39 = some (.aload_n 0, 1, 0, 0, 0) := by decide +kernel
theorem fi_218_40 : am_find 218 40 = some (.iload_n 1, 1, 0, 0, 0) := by decide +kernel
theorem fi_218_41 : am_find 218 41 = some (.invokevirtual 267, 3, 221, 1, 221) := by decide +kernel
theorem fi_218_44 : am_find 218 44 = some (.aload_n 0, 1, 0, 0, 0) := by decide +kernel
theorem fi_218_45 : am_find 218 45 = some (.getfield 258, 3, 10, 27, 126) := by decide +kernel
theorem fi_218_48 : am_find 218 48 = some (.ixor, 1, 0, 0, 0) := by decide +kernel
theorem fi_218_49 : am_find 218 49 = some (.ireturn, 1, 0, 0, 0) := by decide +kernel
theorem fi_218_50 : am_find 218 50 = some (.aload_n 0, 1, 0, 0, 0) := by decide +kernel
theorem fi_218_51 : am_find 218 51 = some (.iload_n 1, 1, 0, 0, 0) := by decide +kernel
theorem fi_218_52 : am_find 218 52 = some (.invokevirtual 267, 3, 221, 1, 221) := by decide +kernel
theorem fi_218_55 : am_find 218 55 = some (.ireturn, 1, 0, 0, 0) := by decide +kernel
theorem b218_0 {d L : Nat} {σ : St} {Q : Option AV → AW → Prop} {u1 : AV} : R (d + 1) 218 0 [vR 153, u1] [] (WS L σ) Q = R d 219 0 [vI (σ 153 26), vI 1] [] (WS L σ) (fun r w => R (d + 1) 218 8 [vR 153, u1] (am_push r []) w Q) := K_aload_n fi_218_0 rfl <| K_gf fi_218_1 kd_153 mk_153_26 <| K_iconst fi_218_4 <| R_invS fi_218_5 (by decide) (am_invS_of (Nat.le_of_ble_eq_true rfl) rfl (Nat.le_of_ble_eq_true rfl) (Nat.le_of_ble_eq_true rfl) rfl rfl)
theorem b218_8 {d L : Nat} {σ : St} {Q : Option AV → AW → Prop} {y0 : Int} {u0 u1 : AV} : R d 218 8 [u0, u1] [vI y0] (WS L σ) Q = if y0 = 0 then R d 218 25 [u0, u1] [] (WS L σ) Q else R d 218 11 [u0, u1] [] (WS L σ) Q := R_if_eq fi_218_8 rfl
theorem b218_11 {d L : Nat} {σ : St} {Q : Option AV → AW → Prop} {u1 : AV} : R (d + 1) 218 11 [vR 153, u1] [] (WS L σ) Q = R d 220 0 [vR 153, vI 11] [] (WS L σ) (fun r w => R (d + 1) 218 17 [vR 153, u1] (am_push r []) w Q) := K_aload_n fi_218_11 rfl <| K_bipush fi_218_12 <| R_invV fi_218_14 (am_invV_of rfl (kd_153) (Nat.le_of_ble_eq_true rfl) (Nat.le_of_ble_eq_true rfl) rfl rfl)
theorem b218_17 {d L : Nat} {σ : St} {Q : Option AV → AW → Prop} {x1 : Int} : R (d + 1) 218 17 [vR 153, vI x1] [] (WS L σ) Q = R d 221 0 [vR 153, vI (wr (x1 * 3))] [] (WS L σ) (fun r w => R (d + 1) 218 24 [vR 153, vI x1] (am_push r []) w Q) := K_aload_n fi_218_17 rfl <| K_iload_n fi_218_18 rfl <| K_iconst fi_218_19 <| K_imul fi_218_20 <| R_invV fi_218_21 (am_invV_of rfl (kd_153) (Nat.le_of_ble_eq_true rfl) (Nat.le_of_ble_eq_true rfl) rfl rfl)
theorem b218_24 {d L : Nat} {σ : St} {Q : Option AV → AW → Prop} {y0 : Int} {u0 u1 : AV} : R d 218 24 [u0, u1] [vI y0] (WS L σ) Q = Q (some (vI y0)) (WS L σ) := R_ireti fi_218_24 rfl
theorem b218_25 {d L : Nat} {σ : St} {Q : Option AV → AW → Prop} {u1 : AV} : R d 218 25 [vR 153, u1] [] (WS L σ) Q = if ¬ (σ 153 26) = 4 then R d 218 50 [vR 153, u1] [] (WS L σ) Q else R d 218 33 [vR 153, u1] [] (WS L σ) Q := K_aload_n fi_218_25 rfl <| K_gf fi_218_26 kd_153 mk_153_26 <| K_iconst fi_218_29 <| R_icmp_ne fi_218_30 rfl
theorem b218_33 {d L : Nat} {σ : St} {Q : Option AV → AW → Prop} {u1 : AV} : R (d + 1) 218 33 [vR 153, u1] [] (WS L σ) Q = R d 220 0 [vR 153, vI 51] [] (WS L σ) (fun r w => R (d + 1) 218 39 [vR 153, u1] (am_push r []) w Q) := K_aload_n fi_218_33 rfl <| K_bipush fi_218_34 <| R_invV fi_218_36 (am_invV_of rfl (kd_153) (Nat.le_of_ble_eq_true rfl) (Nat.le_of_ble_eq_true rfl) rfl rfl)
theorem b218_39 {d L : Nat} {σ : St} {Q : Option AV → AW → Prop} {x1 : Int} : R (d + 1) 218 39 [vR 153, vI x1] [] (WS L σ) Q = R d 221 0 [vR 153, vI x1] [] (WS L σ) (fun r w => R (d + 1) 218 44 [vR 153, vI x1] (am_push r []) w Q) := K_aload_n fi_218_39 rfl <| K_iload_n fi_218_40 rfl <| R_invV fi_218_41 (am_invV_of rfl (kd_153) (Nat.le_of_ble_eq_true rfl) (Nat.le_of_ble_eq_true rfl) rfl rfl)
theorem b218_44 {d L : Nat} {σ : St} {Q : Option AV → AW → Prop} {y0 : Int} {u1 : AV} : R d 218 44 [vR 153, u1] [vI y0] (WS L σ) Q = Q (some (vI (i_xor y0 (σ 153 27)))) (WS L σ) := K_aload_n fi_218_44 rfl <| K_gf fi_218_45 kd_153 mk_153_27 <| K_ixor fi_218_48 <| R_ireti fi_218_49 rfl
theorem b218_50 {d L : Nat} {σ : St} {Q : Option AV → AW → Prop} {x1 : Int} : R (d + 1) 218 50 [vR 153, vI x1] [] (WS L σ) Q = R d 221 0 [vR 153, vI x1] [] (WS L σ) (fun r w => R (d + 1) 218 55 [vR 153, vI x1] (am_push r []) w Q) := K_aload_n fi_218_50 rfl <| K_iload_n fi_218_51 rfl <| R_invV fi_218_52 (am_invV_of rfl (kd_153) (Nat.le_of_ble_eq_true rfl) (Nat.le_of_ble_eq_true rfl) rfl rfl)
theorem b218_55 {d L : Nat} {σ : St} {Q : Option AV → AW → Prop} {y0 : Int} {u0 u1 : AV} : R d 218 55 [u0, u1] [vI y0] (WS L σ) Q = Q (some (vI y0)) (WS L σ) := R_ireti fi_218_55 rfl
theorem fi_219_0 : am_find 219 0 = some (.iload_n 1, 1, 0, 0, 0) := by decide +kernel
theorem fi_219_1 : am_find 219 1 = some (.ifCond .eq 34, 3, 0, 0, 0) := by decide +kernel
theorem fi_219_4 : am_find 219 4 = some (.iload_n 1, 1, 0, 0, 0) := by decide +kernel
theorem fi_219_5 : am_find 219 5 = some (.iload_n 0, 1, 0, 0, 0) := by decide +kernel
theorem fi_219_6 : am_find 219 6 = some (.if_icmp .eq 29, 3, 0, 0, 0) := by decide +kernel
theorem fi_219_9 : am_find 219 9 = some (.iload_n 1, 1, 0, 0, 0) := by decide +kernel
theorem fi_219_10 : am_find 219 10 = some (.iconst 1, 1, 0, 1, 0) := by decide +kernel
theorem fi_219_11 : am_find 219 11 = some (.if_icmp .ne 14, 3, 0, 0, 0) := by decide +kernel
theorem fi_219_14 : am_find 219 14 = some (.iload_n 0, 1, 0, 0, 0) := by decide +kernel
theorem fi_219_15 : am_find 219 15 = some (.iconst 3, 1, 0, 3, 0) := by decide +kernel
theorem fi_219_16 : am_find 219 16 = some (.if_icmp .eq 19, 3, 0, 0, 0) := by decide +kernel
theorem fi_219_19 : am_find 219 19 = some (.iload_n 0, 1, 0, 0, 0) := by decide +kernel
theorem fi_219_20 : am_find 219 20 = some (.bipush 6, 2, 0, 6, 0) := by decide +kernel
theorem fi_219_22 : am_find 219 22 = some (.if_icmp .eq 13, 3, 0, 0, 0) := by decide +kernel
theorem fi_219_25 : am_find 219 25 = some (.iload_n 1, 1, 0, 0, 0) := by decide +kernel
theorem fi_219_26 : am_find 219 26 = some (.iconst 2, 1, 0, 2, 0) := by decide +kernel
theorem fi_219_27 : am_find 219 27 = some (.if_icmp .ne 12, 3, 0, 0, 0) := by decide +kernel
theorem fi_219_30 : am_find 219 30 = some (.iload_n 0, 1, 0, 0, 0) := by decide +kernel
theorem fi_219_31 : am_find 219 31 = some (.iconst 4, 1, 0, 4, 0) := by decide +kernel
theorem fi_219_32 : am_find 219 32 = some (.if_icmp .ne 7, 3, 0, 0, 0) := by decide +kernel
theorem fi_219_35 : am_find 219 35 = some (.iconst 1, 1, 0, 1, 0) := by decide +kernel
theorem fi_219_36 : am_find 219 36 = some (.goto 4, 3, 0, 0, 0) := by decide +kernel
theorem fi_219_39 : am_find 219 39 = some (.iconst 0, 1, 0, 0, 0) := by decide +kernel
theorem fi_219_40 : am_find 219 40 = some (.ireturn, 1, 1, 0, 0) := by decide +kernel
theorem b219_0 {d L : Nat} {σ : St} {Q : Option AV → AW → Prop} {x1 : Int} {u0 : AV} : R d 219 0 [u0, vI x1] [] (WS L σ) Q = if x1 = 0 then R d 219 35 [u0, vI x1] [] (WS L σ) Q else R d 219 4 [u0, vI x1] [] (WS L σ) Q := K_iload_n fi_219_0 rfl <| R_if_eq fi_219_1 rfl
theorem b219_4 {d L : Nat} {σ : St} {Q : Option AV → AW → Prop} {x1 x0 : Int} : R d 219 4 [vI x0, vI x1] [] (WS L σ) Q = if x1 = x0 then R d 219 35 [vI x0, vI x1] [] (WS L σ) Q else R d 219 9 [vI x0, vI x1] [] (WS L σ) Q := K_iload_n fi_219_4 rfl <| K_iload_n fi_219_5 rfl <| R_icmp_eq fi_219_6 rfl
theorem b219_9 {d L : Nat} {σ : St} {Q : Option AV → AW → Prop} {x1 : Int} {u0 : AV} : R d 219 9 [u0, vI x1] [] (WS L σ) Q = if ¬ x1 = 1 then R d 219 25 [u0, vI x1] [] (WS L σ) Q else R d 219 14 [u0, vI x1] [] (WS L σ) Q := K_iload_n fi_219_9 rfl <| K_iconst fi_219_10 <| R_icmp_ne fi_219_11 rfl
theorem b219_14 {d L : Nat} {σ : St} {Q : Option AV → AW → Prop} {x0 : Int} {u1 : AV} : R d 219 14 [vI x0, u1] [] (WS L σ) Q = if x0 = 3 then R d 219 35 [vI x0, u1] [] (WS L σ) Q else R d 219 19 [vI x0, u1] [] (WS L σ) Q := K_iload_n fi_219_14 rfl <| K_iconst fi_219_15 <| R_icmp_eq fi_219_16 rfl
theorem b219_19 {d L : Nat} {σ : St} {Q : Option AV → AW → Prop} {x0 : Int} {u1 : AV} : R d 219 19 [vI x0, u1] [] (WS L σ) Q = if x0 = 6 then R d 219 35 [vI x0, u1] [] (WS L σ) Q else R d 219 25 [vI x0, u1] [] (WS L σ) Q := K_iload_n fi_219_19 rfl <| K_bipush fi_219_20 <| R_icmp_eq fi_219_22 rfl
theorem b219_25 {d L : Nat} {σ : St} {Q : Option AV → AW → Prop} {x1 : Int} {u0 : AV} : R d 219 25 [u0, vI x1] [] (WS L σ) Q = if ¬ x1 = 2 then R d 219 39 [u0, vI x1] [] (WS L σ) Q else R d 219 30 [u0, vI x1] [] (WS L σ) Q := K_iload_n fi_219_25 rfl <| K_iconst fi_219_26 <| R_icmp_ne fi_219_27 rfl
theorem b219_30 {d L : Nat} {σ : St} {Q : Option AV → AW → Prop} {x0 : Int} {u1 : AV} : R d 219 30 [vI x0, u1] [] (WS L σ) Q = if ¬ x0 = 4 then R d 219 39 [vI x0, u1] [] (WS L σ) Q else R d 219 35 [vI x0, u1] [] (WS L σ) Q := K_iload_n fi_219_30 rfl <| K_iconst fi_219_31 <| R_icmp_ne fi_219_32 rfl
theorem b219_35 {d L : Nat} {σ : St} {Q : Option AV → AW → Prop} {u0 u1 : AV} : R d 219 35 [u0, u1] [] (WS L σ) Q = R d 219 40 [u0, u1] [vI 1] (WS L σ) Q := K_iconst fi_219_35 <| R_goto fi_219_36 rfl
theorem b219_39 {d L : Nat} {σ : St} {Q : Option AV → AW → Prop} {u0 u1 : AV} : R d 219 39 [u0, u1] [] (WS L σ) Q = R d 219 40 [u0, u1] [vI 0] (WS L σ) Q := K_iconst fi_219_39 <| rfl
theorem b219_40 {d L : Nat} {σ : St} {Q : Option AV → AW → Prop} {y0 : Int} {u0 u1 : AV} (h1 : am_rfit 1 y0 = true) : R d 219 40 [u0, u1] [vI y0] (WS L σ) Q = Q (some (vI y0)) (WS L σ) := R_ireti fi_219_40 h1
theorem fi_220_0 : am_find 220 0 = some (.aload_n 0, 1, 0, 0, 0) := by decide +kernel
theorem fi_220_1 : am_find 220 1 = some (.getfield 252, 3, 10, 25, 124) := by decide +kernel
theorem fi_220_4 : am_find 220 4 = some (.bipush 20, 2, 0, 20, 0) := by decide +kernel
theorem fi_220_6 : am_find 220 6 = some (.if_icmp .ge 13, 3, 0, 0, 0) := by decide +kernel
theorem fi_220_9 : am_find 220 9 = some (.aload_n 0, 1, 0, 0, 0) := by decide +kernel
theorem fi_220_10 : am_find 220 10 = some (.getfield 42, 3, 10, 24, 111) := by decide +kernel
theorem fi_220_13 : am_find 220 13 = some (.aload_n 0, 1, 0, 0, 0) := by decide +kernel
theorem fi_220_14 : am_find 220 14 = some (.getfield 252, 3, 10, 25, 124) := by decide +kernel
theorem fi_220_17 : am_find 220 17 = some (.iload_n 1, 1, 0, 0, 0) := by decide +kernel
theorem fi_220_18 : am_find 220 18 = some (.iastore, 1, 0, 0, 0) := by decide +kernel
theorem fi_220_19 : am_find 220 19 = some (.aload_n 0, 1, 0, 0, 0) := by decide +kernel
theorem fi_220_20 : am_find 220 20 = some (.dup, 1, 0, 0, 0) := by decide +kernel
theorem fi_220_21 : am_find 220 21 = some (.getfield 252, 3, 10, 25, 124) := by decide +kernel
theorem fi_220_24 : am_find 220 24 = some (.iconst 1, 1, 0, 1, 0) := by decide +kernel
theorem fi_220_25 : am_find 220 25 = some (.iadd, 1, 0, 0, 0) := by decide +kernel
theorem fi_220_26 : am_find 220 26 = some (.putfield 252, 3, 10, 25, 124) := by decide +kernel
theorem fi_220_29 : am_find 220 29 = some (.return_, 1, 0, 0, 0) := by decide +kernel
theorem b220_0 {d L : Nat} {σ : St} {Q : Option AV → AW → Prop} {u1 : AV} : R d 220 0 [vR 153, u1] [] (WS L σ) Q = if 20 ≤ (σ 153 25) then R d 220 19 [vR 153, u1] [] (WS L σ) Q else R d 220 9 [vR 153, u1] [] (WS L σ) Q := K_aload_n fi_220_0 rfl <| K_gf fi_220_1 kd_153 mk_153_25 <| K_bipush fi_220_4 <| R_icmp_ge fi_220_6 rfl
theorem b220_9 {d L : Nat} {σ : St} {Q : Option AV → AW → Prop} {x1 : Int} (h1 : 0 ≤ σ 153 25) (h2 : (σ 153 25) < 20) : R d 220 9 [vR 153, vI x1] [] (WS L σ) Q = R d 220 19 [vR 153, vI x1] [] (WS L (st2 σ 164 (σ 153 25) x1)) Q := K_aload_n fi_220_9 rfl <| K_gf fi_220_10 kd_153 mk_153_24 <| K_aload_n fi_220_13 rfl <| K_gf fi_220_14 kd_153 mk_153_25 <| K_iload_n fi_220_17 rfl <| K_is fi_220_18 kd_164 h1 h2 <| rfl
theorem b220_19 {d L : Nat} {σ : St} {Q : Option AV → AW → Prop} {u1 : AV} (h1 : -2147483648 ≤ (σ 153 25) + 1 ∧ (σ 153 25) + 1 ≤ 2147483647) : R d 220 19 [vR 153, u1] [] (WS L σ) Q = R d 220 29 [vR 153, u1] [] (WS L (st2 σ 153 25 ((σ 153 25) + 1))) Q := K_aload_n fi_220_19 rfl <| K_dupr fi_220_20 <| K_gf fi_220_21 kd_153 mk_153_25 <| K_iconst fi_220_24 <| K_iaddx fi_220_25 h1 <| K_pf fi_220_26 kd_153 rfl rfl rfl rfl <| rfl
theorem b220_29 {d L : Nat} {σ : St} {Q : Option AV → AW → Prop} {u0 u1 : AV} : R d 220 29 [u0, u1] [] (WS L σ) Q = Q none (WS L σ) := R_return fi_220_29
theorem fi_221_0 : am_find 221 0 = some (.aload_n 0, 1, 0, 0, 0) := by decide +kernel
theorem fi_221_1 : am_find 221 1 = some (.iconst 1, 1, 0, 1, 0) := by decide +kernel
theorem fi_221_2 : am_find 221 2 = some (.invokevirtual 255, 3, 220, 1, 220) := by decide +kernel
theorem fi_221_5 : am_find 221 5 = some (.iload_n 1, 1, 0, 0, 0) := by decide +kernel
theorem fi_221_6 : am_find 221 6 = some (.aload_n 0, 1, 0, 0, 0) := by decide +kernel
theorem fi_221_7 : am_find 221 7 = some (.getfield 258, 3, 10, 27, 126) := by decide +kernel
theorem fi_221_10 : am_find 221 10 = some (.iadd, 1, 0, 0, 0) := by decide +kernel
theorem fi_221_11 : am_find 221 11 = some (.ireturn, 1, 0, 0, 0) := by decide +kernel
theorem b221_0 {d L : Nat} {σ : St} {Q : Option AV → AW → Prop} {u1 : AV} : R (d + 1) 221 0 [vR 153, u1] [] (WS L σ) Q = R d 220 0 [vR 153, vI 1] [] (WS L σ) (fun r w => R (d + 1) 221 5 [vR 153, u1] (am_push r []) w Q) := K_aload_n fi_221_0 rfl <| K_iconst fi_221_1 <| R_invV fi_221_2 (am_invV_of rfl (kd_153) (Nat.le_of_ble_eq_true rfl) (Nat.le_of_ble_eq_true rfl) rfl rfl)
theorem b221_5 {d L : Nat} {σ : St} {Q : Option AV → AW → Prop} {x1 : Int} : R d 221 5 [vR 153, vI x1] [] (WS L σ) Q = Q (some (vI (wr (x1 + (σ 153 27))))) (WS L σ) := K_iload_n fi_221_5 rfl <| K_aload_n fi_221_6 rfl <| K_gf fi_221_7 kd_153 mk_153_27 <| K_iadd fi_221_10 <| R_ireti fi_221_11 rfl
theorem fi_222_0 : am_find 222 0 = some (.aload_n 0, 1, 0, 0, 0) := by decide +kernel
theorem fi_222_1 : am_find 222 1 = some (.getfield 261, 3, 10, 26, 125) := by decide +kernel
theorem fi_222_4 : am_find 222 4 = some (.bipush 6, 2, 0, 6, 0) := by decide +kernel
theorem fi_222_6 : am_find 222 6 = some (.if_icmp .ne 20, 3, 0, 0, 0) := by decide +kernel
theorem fi_222_9 : am_find 222 9 = some (.aload_n 0, 1, 0, 0, 0) := by decide +kernel
theorem fi_222_10 : am_find 222 10 = some (.bipush 61, 2, 0, 61, 0) := by decide +kernel
theorem fi_222_12 : am_find 222 12 = some (.invokevirtual 255, 3, 220, 1, 220) := by decide +kernel
theorem fi_222_15 : am_find 222 15 = some (.aload_n 0, 1, 0, 0, 0) := by decide +kernel
theorem fi_222_16 : am_find 222 16 = some (.iload_n 1, 1, 0, 0, 0) := by decide +kernel
theorem fi_222_17 : am_find 222 17 = some (.invokevirtual 276, 3, 223, 1, 222) := by decide +kernel
theorem fi_222_20 : am_find 222 20 = some (.aload_n 0, 1, 0, 0, 0) := by decide +kernel
theorem fi_222_21 : am_find 222 21 = some (.getfield 273, 3, 10, 28, 127) := by decide +kernel
theorem fi_222_24 : am_find 222 24 = some (.iadd, 1, 0, 0, 0) := by decide +kernel
theorem fi_222_25 : am_find 222 25 = some (.ireturn, 1, 0, 0, 0) := by decide +kernel
theorem fi_222_26 : am_find 222 26 = some (.aload_n 0, 1, 0, 0, 0) := by decide +kernel
theorem fi_222_27 : am_find 222 27 = some (.getfield 261, 3, 10, 26, 125) := by decide +kernel
theorem fi_222_30 : am_find 222 30 = some (.iconst 2, 1, 0, 2, 0) := by decide +kernel
theorem fi_222_31 : am_find 222 31 = some (.invokestatic 264, 3, 219, 2, 219) := by decide +kernel
theorem fi_222_34 : am_find 222 34 = some (.ifCond .eq 16, 3, 0, 0, 0) := by decide +kernel
theorem fi_222_37 : am_find 222 37 = some (.aload_n 0, 1, 0, 0, 0) := by decide +kernel
theorem fi_222_38 : am_find 222 38 = some (.bipush 21, 2, 0, 21, 0) := by decide +kernel
theorem fi_222_40 : am_find 222 40 = some (.invokevirtual 255, 3, 220, 1, 220) := by decide +kernel
theorem fi_222_43 : am_find 222 43 = some (.aload_n 0, 1, 0, 0, 0) := by decide +kernel
theorem fi_222_44 : am_find 222 44 = some (.iload_n 1, 1, 0, 0, 0) := by decide +kernel
theorem fi_222_45 : am_find 222 45 = some (.invokevirtual 276, 3, 223, 1, 222) := by decide +kernel
theorem fi_222_48 : am_find 222 48 = some (.ineg, 1, 0, 0, 0) := by decide +kernel
theorem fi_222_49 : am_find 222 49 = some (.ireturn, 1, 0, 0, 0) := by decide +kernel
theorem fi_222_50 : am_find 222 50 = some (.aload_n 0, 1, 0, 0, 0) := by decide +kernel
theorem fi_222_51 : am_find 222 51 = some (.iload_n 1, 1, 0, 0, 0) := by decide +kernel
theorem fi_222_52 : am_find 222 52 = some (.invokevirtual 276, 3, 223, 1, 222) := by decide +kernel
theorem fi_222_55 : am_find 222 55 = some (.ireturn, 1, 0, 0, 0) := by decide +kernel
theorem b222_0 {d L : Nat} {σ : St} {Q : Option AV → AW → Prop} {u1 : AV} : R d 222 0 [vR 153, u1] [] (WS L σ) Q = if ¬ (σ 153 26) = 6 then R d 222 26 [vR 153, u1] [] (WS L σ) Q else R d 222 9 [vR 153, u1] [] (WS L σ) Q := K_aload_n fi_222_0 rfl <| K_gf fi_222_1 kd_153 mk_153_26 <| K_bipush fi_222_4 <| R_icmp_ne fi_222_6 rfl
theorem b222_9 {d L : Nat} {σ : St} {Q : Option AV → AW → Prop} {u1 : AV} : R (d + 1) 222 9 [vR 153, u1] [] (WS L σ) Q = R d 220 0 [vR 153, vI 61] [] (WS L σ) (fun r w => R (d + 1) 222 15 [vR 153, u1] (am_push r []) w Q) := K_aload_n fi_222_9 rfl <| K_bipush fi_222_10 <| R_invV fi_222_12 (am_invV_of rfl (kd_153) (Nat.le_of_ble_eq_true rfl) (Nat.le_of_ble_eq_true rfl) rfl rfl)
theorem b222_15 {d L : Nat} {σ : St} {Q : Option AV → AW → Prop} {x1 : Int} : R (d + 1) 222 15 [vR 153, vI x1] [] (WS L σ) Q = R d 223 0 [vR 153, vI x1] [] (WS L σ) (fun r w => R (d + 1) 222 20 [vR 153, vI x1] (am_push r []) w Q) := K_aload_n fi_222_15 rfl <| K_iload_n fi_222_16 rfl <| R_invV fi_222_17 (am_invV_of rfl (kd_153) (Nat.le_of_ble_eq_true rfl) (Nat.le_of_ble_eq_true rfl) rfl rfl)
theorem b222_20 {d L : Nat} {σ : St} {Q : Option AV → AW → Prop} {y0 : Int} {u1 : AV} : R d 222 20 [vR 153, u1] [vI y0] (WS L σ) Q = Q (some (vI (wr (y0 + (σ 153 28))))) (WS L σ) := K_aload_n fi_222_20 rfl <| K_gf fi_222_21 kd_153 mk_153_28 <| K_iadd fi_222_24 <| R_ireti fi_222_25 rfl
theorem b222_26 {d L : Nat} {σ : St} {Q : Option AV → AW → Prop} {u1 : AV} : R (d + 1) 222 26 [vR 153, u1] [] (WS L σ) Q = R d 219 0 [vI (σ 153 26), vI 2] [] (WS L σ) (fun r w => R (d + 1) 222 34 [vR 153, u1] (am_push r []) w Q) := K_aload_n fi_222_26 rfl <| K_gf fi_222_27 kd_153 mk_153_26 <| K_iconst fi_222_30 <| R_invS fi_222_31 (by decide) (am_invS_of (Nat.le_of_ble_eq_true rfl) rfl (Nat.le_of_ble_eq_true rfl) (Nat.le_of_ble_eq_true rfl) rfl rfl)
theorem b222_34 {d L : Nat} {σ : St} {Q : Option AV → AW → Prop} {y0 : Int} {u0 u1 : AV} : R d 222 34 [u0, u1] [vI y0] (WS L σ) Q = if y0 = 0 then R d 222 50 [u0, u1] [] (WS L σ) Q else R d 222 37 [u0, u1] [] (WS L σ) Q := R_if_eq fi_222_34 rfl
theorem b222_37 {d L : Nat} {σ : St} {Q : Option AV → AW → Prop} {u1 : AV} : R (d + 1) 222 37 [vR 153, u1] [] (WS L σ) Q = R d 220 0 [vR 153, vI 21] [] (WS L σ) (fun r w => R (d + 1) 222 43 [vR 153, u1] (am_push r []) w Q) := K_aload_n fi_222_37 rfl <| K_bipush fi_222_38 <| R_invV fi_222_40 (am_invV_of rfl (kd_153) (Nat.le_of_ble_eq_true rfl) (Nat.le_of_ble_eq_true rfl) rfl rfl)
theorem b222_43 {d L : Nat} {σ : St} {Q : Option AV → AW → Prop} {x1 : Int} : R (d + 1) 222 43 [vR 153, vI x1] [] (WS L σ) Q = R d 223 0 [vR 153, vI x1] [] (WS L σ) (fun r w => R (d + 1) 222 48 [vR 153, vI x1] (am_push r []) w Q) := K_aload_n fi_222_43 rfl <| K_iload_n fi_222_44 rfl <| R_invV fi_222_45 (am_invV_of rfl (kd_153) (Nat.le_of_ble_eq_true rfl) (Nat.le_of_ble_eq_true rfl) rfl rfl)
theorem b222_48 {d L : Nat} {σ : St} {Q : Option AV → AW → Prop} {y0 : Int} {u0 u1 : AV} : R d 222 48 [u0, u1] [vI y0] (WS L σ) Q = Q (some (vI (wr (-y0)))) (WS L σ) := K_ineg fi_222_48 <| R_ireti fi_222_49 rfl
theorem b222_50 {d L : Nat} {σ : St} {Q : Option AV → AW → Prop} {x1 : Int} : R (d + 1) 222 50 [vR 153, vI x1] [] (WS L σ) Q = R d 223 0 [vR 153, vI x1] [] (WS L σ) (fun r w => R (d + 1) 222 55 [vR 153, vI x1] (am_push r []) w Q) := K_aload_n fi_222_50 rfl <| K_iload_n fi_222_51 rfl <| R_invV fi_222_52 (am_invV_of rfl (kd_153) (Nat.le_of_ble_eq_true rfl) (Nat.le_of_ble_eq_true rfl) rfl rfl)
theorem b222_55 {d L : Nat} {σ : St} {Q : Option AV → AW → Prop} {y0 : Int} {u0 u1 : AV} : R d 222 55 [u0, u1] [vI y0] (WS L σ) Q = Q (some (vI y0)) (WS L σ) := R_ireti fi_222_55 rfl
theorem fi_223_0 : am_find 223 0 = some (.aload_n 0, 1, 0, 0, 0) := by decide +kernel
theorem fi_223_1 : am_find 223 1 = some (.iconst 2, 1, 0, 2, 0) := by decide +kernel
theorem fi_223_2 : am_find 223 2 = some (.invokevirtual 255, 3, 220, 1, 220) := by decide +kernel
theorem fi_223_5 : am_find 223 5 = some (.aload_n 0, 1, 0, 0, 0) := by decide +kernel
theorem fi_223_6 : am_find 223 6 = some (.iload_n 1, 1, 0, 0, 0) := by decide +kernel
theorem fi_223_7 : am_find 223 7 = some (.invokevirtual 270, 3, 218, 1, 216) := by decide +kernel
theorem fi_223_10 : am_find 223 10 = some (.aload_n 0, 1, 0, 0, 0) := by decide +kernel
theorem fi_223_11 : am_find 223 11 = some (.getfield 273, 3, 10, 28, 127) := by decide +kernel
theorem fi_223_14 : am_find 223 14 = some (.isub, 1, 0, 0, 0) := by decide +kernel
theorem fi_223_15 : am_find 223 15 = some (.ireturn, 1, 0, 0, 0) := by decide +kernel
theorem b223_0 {d L : Nat} {σ : St} {Q : Option AV → AW → Prop} {u1 : AV} : R (d + 1) 223 0 [vR 153, u1] [] (WS L σ) Q = R d 220 0 [vR 153, vI 2] [] (WS L σ) (fun r w => R (d + 1) 223 5 [vR 153, u1] (am_push r []) w Q) := K_aload_n fi_223_0 rfl <| K_iconst fi_223_1 <| R_invV fi_223_2 (am_invV_of rfl (kd_153) (Nat.le_of_ble_eq_true rfl) (Nat.le_of_ble_eq_true rfl) rfl rfl)
theorem b223_5 {d L : Nat} {σ : St} {Q : Option AV → AW → Prop} {x1 : Int} : R (d + 1) 223 5 [vR 153, vI x1] [] (WS L σ) Q = R d 218 0 [vR 153, vI x1] [] (WS L σ) (fun r w => R (d + 1) 223 10 [vR 153, vI x1] (am_push r []) w Q) := K_aload_n fi_223_5 rfl <| K_iload_n fi_223_6 rfl <| R_invV fi_223_7 (am_invV_of rfl (kd_153) (Nat.le_of_ble_eq_true rfl) (Nat.le_of_ble_eq_true rfl) rfl rfl)
theorem b223_10 {d L : Nat} {σ : St} {Q : Option AV → AW → Prop} {y0 : Int} {u1 : AV} : R d 223 10 [vR 153, u1] [vI y0] (WS L σ) Q = Q (some (vI (wr (y0 - (σ 153 28))))) (WS L σ) := K_aload_n fi_223_10 rfl <| K_gf fi_223_11 kd_153 mk_153_28 <| K_isub fi_223_14 <| R_ireti fi_223_15 rfl
theorem fi_224_0 : am_find 224 0 = some (.aload_n 0, 1, 0, 0, 0) := by decide +kernel
theorem fi_224_1 : am_find 224 1 = some (.getfield 261, 3, 10, 26, 125) := by decide +kernel
theorem fi_224_4 : am_find 224 4 = some (.iconst 5, 1, 0, 5, 0) := by decide +kernel
theorem fi_224_5 : am_find 224 5 = some (.if_icmp .ne 18, 3, 0, 0, 0) := by decide +kernel
theorem fi_224_8 : am_find 224 8 = some (.aload_n 0, 1, 0, 0, 0) := by decide +kernel
theorem fi_224_9 : am_find 224 9 = some (.bipush 31, 2, 0, 31, 0) := by decide +kernel
theorem fi_224_11 : am_find 224 11 = some (.invokevirtual 255, 3, 220, 1, 220) := by decide +kernel
theorem fi_224_14 : am_find 224 14 = some (.aload_n 0, 1, 0, 0, 0) := by decide +kernel
theorem fi_224_15 : am_find 224 15 = some (.iload_n 1, 1, 0, 0, 0) := by decide +kernel
theorem fi_224_16 : am_find 224 16 = some (.invokevirtual 282, 3, 225, 1, 223) := by decide +kernel
theorem fi_224_19 : am_find 224 19 = some (.bipush 7, 2, 0, 7, 0) := by decide +kernel
theorem fi_224_21 : am_find 224 21 = some (.ixor, 1, 0, 0, 0) := by decide +kernel
theorem fi_224_22 : am_find 224 22 = some (.ireturn, 1, 0, 0, 0) := by decide +kernel
theorem fi_224_23 : am_find 224 23 = some (.aload_n 0, 1, 0, 0, 0) := by decide +kernel
theorem fi_224_24 : am_find 224 24 = some (.getfield 261, 3, 10, 26, 125) := by decide +kernel
theorem fi_224_27 : am_find 224 27 = some (.iconst 3, 1, 0, 3, 0) := by decide +kernel
theorem fi_224_28 : am_find 224 28 = some (.if_icmp .ne 25, 3, 0, 0, 0) := by decide +kernel
theorem fi_224_31 : am_find 224 31 = some (.aload_n 0, 1, 0, 0, 0) := by decide +kernel
theorem fi_224_32 : am_find 224 32 = some (.bipush 41, 2, 0, 41, 0) := by decide +kernel
theorem fi_224_34 : am_find 224 34 = some (.invokevirtual 255, 3, 220, 1, 220) := by decide +kernel
theorem fi_224_37 : am_find 224 37 = some (.aload_n 0, 1, 0, 0, 0) := by decide +kernel
theorem fi_224_38 : am_find 224 38 = some (.iload_n 1, 1, 0, 0, 0) := by decide +kernel
theorem fi_224_39 : am_find 224 39 = some (.iconst 1, 1, 0, 1, 0) := by decide +kernel
theorem fi_224_40 : am_find 224 40 = some (.isub, 1, 0, 0, 0) := by decide +kernel
theorem fi_224_41 : am_find 224 41 = some (.invokevirtual 282, 3, 225, 1, 223) := by decide +kernel
theorem fi_224_44 : am_find 224 44 = some (.istore_n 2, 1, 0, 0, 0) := by decide +kernel
theorem fi_224_45 : am_find 224 45 = some (.iload_n 2, 1, 0, 0, 0) := by decide +kernel
theorem fi_224_46 : am_find 224 46 = some (.aload_n 0, 1, 0, 0, 0) := by decide +kernel
theorem fi_224_47 : am_find 224 47 = some (.iconst 2, 1, 0, 2, 0) := by decide +kernel
theorem fi_224_48 : am_find 224 48 = some (.invokevirtual 270, 3, 218, 1, 216) := by decide +kernel
theorem fi_224_51 : am_find 224 51 = some (.iadd, 1, 0, 0, 0) := by decide +kernel
theorem fi_224_52 : am_find 224 52 = some (.ireturn, 1, 0, 0, 0) := by decide +kernel
theorem fi_224_53 : am_find 224 53 = some (.aload_n 0, 1, 0, 0, 0) := by decide +kernel
theorem fi_224_54 : am_find 224 54 = some (.iload_n 1, 1, 0, 0, 0) := by decide +kernel
theorem fi_224_55 : am_find 224 55 = some (.invokevirtual 282, 3, 225, 1, 223) := by decide +kernel
theorem fi_224_58 : am_find 224 58 = some (.ireturn, 1, 0, 0, 0) := by decide +kernel
theorem b224_0 {d L : Nat} {σ : St} {Q : Option AV → AW → Prop} {u1 u2 : AV} : R d 224 0 [vR 153, u1, u2] [] (WS L σ) Q = if ¬ (σ 153 26) = 5 then R d 224 23 [vR 153, u1, u2] [] (WS L σ) Q else R d 224 8 [vR 153, u1, u2] [] (WS L σ) Q := K_aload_n fi_224_0 rfl <| K_gf fi_224_1 kd_153 mk_153_26 <| K_iconst fi_224_4 <| R_icmp_ne fi_224_5 rfl
theorem b224_8 {d L : Nat} {σ : St} {Q : Option AV → AW → Prop} {u1 u2 : AV} : R (d + 1) 224 8 [vR 153, u1, u2] [] (WS L σ) Q = R d 220 0 [vR 153, vI 31] [] (WS L σ) (fun r w => R (d + 1) 224 14 [vR 153, u1, u2] (am_push r []) w Q) := K_aload_n fi_224_8 rfl <| K_bipush fi_224_9 <| R_invV fi_224_11 (am_invV_of rfl (kd_153) (Nat.le_of_ble_eq_true rfl) (Nat.le_of_ble_eq_true rfl) rfl rfl)
theorem b224_14 {d L : Nat} {σ : St} {Q : Option AV → AW → Prop} {x1 : Int} {u2 : AV} : R (d + 1) 224 14 [vR 153, vI x1, u2] [] (WS L σ) Q = R d 225 0 [vR 153, vI x1] [] (WS L σ) (fun r w => R (d + 1) 224 19 [vR 153, vI x1, u2] (am_push r []) w Q) := K_aload_n fi_224_14 rfl <| K_iload_n fi_224_15 rfl <| R_invV fi_224_16 (am_invV_of rfl (kd_153) (Nat.le_of_ble_eq_true rfl) (Nat.le_of_ble_eq_true rfl) rfl rfl)
theorem b224_19 {d L : Nat} {σ : St} {Q : Option AV → AW → Prop} {y0 : Int} {u0 u1 u2 : AV} : R d 224 19 [u0, u1, u2] [vI y0] (WS L σ) Q = Q (some (vI (i_xor y0 7))) (WS L σ) := K_bipush fi_224_19 <| K_ixor fi_224_21 <| R_ireti fi_224_22 rfl
theorem b224_23 {d L : Nat} {σ : St} {Q : Option AV → AW → Prop} {u1 u2 : AV} : R d 224 23 [vR 153, u1, u2] [] (WS L σ) Q = if ¬ (σ 153 26) = 3 then R d 224 53 [vR 153, u1, u2] [] (WS L σ) Q else R d 224 31 [vR 153, u1, u2] [] (WS L σ) Q := K_aload_n fi_224_23 rfl <| K_gf fi_224_24 kd_153 mk_153_26 <| K_iconst fi_224_27 <| R_icmp_ne fi_224_28 rfl
theorem b224_31 {d L : Nat} {σ : St} {Q : Option AV → AW → Prop} {u1 u2 : AV} : R (d + 1) 224 31 [vR 153, u1, u2] [] (WS L σ) Q = R d 220 0 [vR 153, vI 41] [] (WS L σ) (fun r w => R (d + 1) 224 37 [vR 153, u1, u2] (am_push r []) w Q) := K_aload_n fi_224_31 rfl <| K_bipush fi_224_32 <| R_invV fi_224_34 (am_invV_of rfl (kd_153) (Nat.le_of_ble_eq_true rfl) (Nat.le_of_ble_eq_true rfl) rfl rfl)
theorem b224_37 {d L : Nat} {σ : St} {Q : Option AV → AW → Prop} {x1 : Int} {u2 : AV} : R (d + 1) 224 37 [vR 153, vI x1, u2] [] (WS L σ) Q = R d 225 0 [vR 153, vI (wr (x1 - 1))] [] (WS L σ) (fun r w => R (d + 1) 224 44 [vR 153, vI x1, u2] (am_push r []) w Q) := K_aload_n fi_224_37 rfl <| K_iload_n fi_224_38 rfl <| K_iconst fi_224_39 <| K_isub fi_224_40 <| R_invV fi_224_41 (am_invV_of rfl (kd_153) (Nat.le_of_ble_eq_true rfl) (Nat.le_of_ble_eq_true rfl) rfl rfl)
theorem b224_44 {d L : Nat} {σ : St} {Q : Option AV → AW → Prop} {y0 x1 : Int} {u2 : AV} : R (d + 1) 224 44 [vR 153, vI x1, u2] [vI y0] (WS L σ) Q = R d 218 0 [vR 153, vI 2] [] (WS L σ) (fun r w => R (d + 1) 224 51 [vR 153, vI x1, vI y0] (am_push r [vI y0]) w Q) := K_istore_n fi_224_44 (Nat.le_of_ble_eq_true rfl) rfl rfl <| K_iload_n fi_224_45 rfl <| K_aload_n fi_224_46 rfl <| K_iconst fi_224_47 <| R_invV fi_224_48 (am_invV_of rfl (kd_153) (Nat.le_of_ble_eq_true rfl) (Nat.le_of_ble_eq_true rfl) rfl rfl)
theorem b224_51 {d L : Nat} {σ : St} {Q : Option AV → AW → Prop} {y0 y1 : Int} {u0 u1 u2 : AV} : R d 224 51 [u0, u1, u2] [vI y0, vI y1] (WS L σ) Q = Q (some (vI (wr (y1 + y0)))) (WS L σ) := K_iadd fi_224_51 <| R_ireti fi_224_52 rfl
theorem b224_53 {d L : Nat} {σ : St} {Q : Option AV → AW → Prop} {x1 : Int} {u2 : AV} : R (d + 1) 224 53 [vR 153, vI x1, u2] [] (WS L σ) Q = R d 225 0 [vR 153, vI x1] [] (WS L σ) (fun r w => R (d + 1) 224 58 [vR 153, vI x1, u2] (am_push r []) w Q) := K_aload_n fi_224_53 rfl <| K_iload_n fi_224_54 rfl <| R_invV fi_224_55 (am_invV_of rfl (kd_153) (Nat.le_of_ble_eq_true rfl) (Nat.le_of_ble_eq_true rfl) rfl rfl)
theorem b224_58 {d L : Nat} {σ : St} {Q : Option AV → AW → Prop} {y0 : Int} {u0 u1 u2 : AV} : R d 224 58 [u0, u1, u2] [vI y0] (WS L σ) Q = Q (some (vI y0)) (WS L σ) := R_ireti fi_224_58 rfl
theorem fi_225_0 : am_find 225 0 = some (.aload_n 0, 1, 0, 0, 0) := by decide +kernel
theorem fi_225_1 : am_find 225 1 = some (.iconst 3, 1, 0, 3, 0) := by decide +kernel
theorem fi_225_2 : am_find 225 2 = some (.invokevirtual 255, 3, 220, 1, 220) := by decide +kernel
theorem fi_225_5 : am_find 225 5 = some (.aload_n 0, 1, 0, 0, 0) := by decide +kernel
theorem fi_225_6 : am_find 225 6 = some (.iload_n 1, 1, 0, 0, 0) := by decide +kernel
theorem fi_225_7 : am_find 225 7 = some (.invokevirtual 279, 3, 222, 1, 217) := by decide +kernel
theorem fi_225_10 : am_find 225 10 = some (.iconst 2, 1, 0, 2, 0) := by decide +kernel
theorem fi_225_11 : am_find 225 11 = some (.imul, 1, 0, 0, 0) := by decide +kernel
theorem fi_225_12 : am_find 225 12 = some (.ireturn, 1, 0, 0, 0) := by decide +kernel
theorem b225_0 {d L : Nat} {σ : St} {Q : Option AV → AW → Prop} {u1 : AV} : R (d + 1) 225 0 [vR 153, u1] [] (WS L σ) Q = R d 220 0 [vR 153, vI 3] [] (WS L σ) (fun r w => R (d + 1) 225 5 [vR 153, u1] (am_push r []) w Q) := K_aload_n fi_225_0 rfl <| K_iconst fi_225_1 <| R_invV fi_225_2 (am_invV_of rfl (kd_153) (Nat.le_of_ble_eq_true rfl) (Nat.le_of_ble_eq_true rfl) rfl rfl)
theorem b225_5 {d L : Nat} {σ : St} {Q : Option AV → AW → Prop} {x1 : Int} : R (d + 1) 225 5 [vR 153, vI x1] [] (WS L σ) Q = R d 222 0 [vR 153, vI x1] [] (WS L σ) (fun r w => R (d + 1) 225 10 [vR 153, vI x1] (am_push r []) w Q) := K_aload_n fi_225_5 rfl <| K_iload_n fi_225_6 rfl <| R_invV fi_225_7 (am_invV_of rfl (kd_153) (Nat.le_of_ble_eq_true rfl) (Nat.le_of_ble_eq_true rfl) rfl rfl)
theorem b225_10 {d L : Nat} {σ : St} {Q : Option AV → AW → Prop} {y0 : Int} {u0 u1 : AV} : R d 225 10 [u0, u1] [vI y0] (WS L σ) Q = Q (some (vI (wr (y0 * 2)))) (WS L σ) := K_iconst fi_225_10 <| K_imul fi_225_11 <| R_ireti fi_225_12 rfl
theorem fi_226_0 : am_find 226 0 = some (.iload_n 1, 1, 0, 0, 0) := by decide +kernel
theorem fi_226_1 : am_find 226 1 = some (.iconst 0, 1, 0, 0, 0) := by decide +kernel
theorem fi_226_2 : am_find 226 2 = some (.aload_n 0, 1, 0, 0, 0) := by decide +kernel
theorem fi_226_3 : am_find 226 3 = some (.getfield 252, 3, 10, 25, 124) := by decide +kernel
theorem fi_226_6 : am_find 226 6 = some (.bipush 20, 2, 0, 20, 0) := by decide +kernel
theorem fi_226_8 : am_find 226 8 = some (.if_icmp .ge 10, 3, 0, 0, 0) := by decide +kernel
theorem fi_226_11 : am_find 226 11 = some (.aload_n 0, 1, 0, 0, 0) := by decide +kernel
theorem fi_226_12 : am_find 226 12 = some (.getfield 252, 3, 10, 25, 124) := by decide +kernel
theorem fi_226_15 : am_find 226 15 = some (.goto 5, 3, 0, 0, 0) := by decide +kernel
theorem fi_226_18 : am_find 226 18 = some (.bipush 20, 2, 0, 20, 0) := by decide +kernel
theorem fi_226_20 : am_find 226 20 = some (.iconst 1, 1, 0, 1, 0) := by decide +kernel
theorem fi_226_21 : am_find 226 21 = some (.isub, 1, 0, 0, 0) := by decide +kernel
theorem fi_226_22 : am_find 226 22 = some (.invokestatic 49, 3, 145, 3, 170) := by decide +kernel
theorem fi_226_25 : am_find 226 25 = some (.ifCond .eq 12, 3, 0, 0, 0) := by decide +kernel
theorem fi_226_28 : am_find 226 28 = some (.aload_n 0, 1, 0, 0, 0) := by decide +kernel
theorem fi_226_29 : am_find 226 29 = some (.getfield 42, 3, 10, 24, 111) := by decide +kernel
theorem fi_226_32 : am_find 226 32 = some (.iload_n 1, 1, 0, 0, 0) := by decide +kernel
theorem fi_226_33 : am_find 226 33 = some (.iaload, 1, 0, 0, 0) := by decide +kernel
theorem fi_226_34 : am_find 226 34 = some (.goto 4, 3, 0, 0, 0) := by decide +kernel
theorem fi_226_37 : am_find 226 37 = some (.iconst (-1), 1, 0, (-1), 0) := by decide +kernel
theorem fi_226_38 : am_find 226 38 = some (.ireturn, 1, 0, 0, 0) := by decide +kernel
theorem b226_0 {d L : Nat} {σ : St} {Q : Option AV → AW → Prop} {x1 : Int} : R d 226 0 [vR 153, vI x1] [] (WS L σ) Q = if 20 ≤ (σ 153 25) then R d 226 18 [vR 153, vI x1] [vI 0, vI x1] (WS L σ) Q else R d 226 11 [vR 153, vI x1] [vI 0, vI x1] (WS L σ) Q := K_iload_n fi_226_0 rfl <| K_iconst fi_226_1 <| K_aload_n fi_226_2 rfl <| K_gf fi_226_3 kd_153 mk_153_25 <| K_bipush fi_226_6 <| R_icmp_ge fi_226_8 rfl
theorem b226_11 {d L : Nat} {σ : St} {Q : Option AV → AW → Prop} {y0 y1 : Int} {u1 : AV} : R d 226 11 [vR 153, u1] [vI y0, vI y1] (WS L σ) Q = R d 226 20 [vR 153, u1] [vI (σ 153 25), vI y0, vI y1] (WS L σ) Q := K_aload_n fi_226_11 rfl <| K_gf fi_226_12 kd_153 mk_153_25 <| R_goto fi_226_15 rfl
theorem b226_18 {d L : Nat} {σ : St} {Q : Option AV → AW → Prop} {y0 y1 : Int} {u0 u1 : AV} : R d 226 18 [u0, u1] [vI y0, vI y1] (WS L σ) Q = R d 226 20 [u0, u1] [vI 20, vI y0, vI y1] (WS L σ) Q := K_bipush fi_226_18 <| rfl
theorem b226_20 {d L : Nat} {σ : St} {Q : Option AV → AW → Prop} {y0 y1 y2 : Int} {u0 u1 : AV} (h1 : -2147483648 ≤ y0 - 1 ∧ y0 - 1 ≤ 2147483647) : R (d + 1) 226 20 [u0, u1] [vI y0, vI y1, vI y2] (WS L σ) Q = R d 145 0 [vI y2, vI y1, vI (y0 - 1)] [] (WS L σ) (fun r w => R (d + 1) 226 25 [u0, u1] (am_push r []) w Q) := K_iconst fi_226_20 <| K_isubx fi_226_21 h1 <| R_invS fi_226_22 (by decide) (am_invS_of (Nat.le_of_ble_eq_true rfl) rfl (Nat.le_of_ble_eq_true rfl) (Nat.le_of_ble_eq_true rfl) rfl rfl)
theorem b226_25 {d L : Nat} {σ : St} {Q : Option AV → AW → Prop} {y0 : Int} {u0 u1 : AV} : R d 226 25 [u0, u1] [vI y0] (WS L σ) Q = if y0 = 0 then R d 226 37 [u0, u1] [] (WS L σ) Q else R d 226 28 [u0, u1] [] (WS L σ) Q := R_if_eq fi_226_25 rfl
theorem b226_28 {d L : Nat} {σ : St} {Q : Option AV → AW → Prop} {x1 : Int} (h1 : 0 ≤ x1) (h2 : x1 < 20) : R d 226 28 [vR 153, vI x1] [] (WS L σ) Q = R d 226 38 [vR 153, vI x1] [vI (σ 164 x1)] (WS L σ) Q := K_aload_n fi_226_28 rfl <| K_gf fi_226_29 kd_153 mk_153_24 <| K_iload_n fi_226_32 rfl <| K_ia fi_226_33 kd_164 h1 h2 <| R_goto fi_226_34 rfl
theorem b226_37 {d L : Nat} {σ : St} {Q : Option AV → AW → Prop} {u0 u1 : AV} : R d 226 37 [u0, u1] [] (WS L σ) Q = R d 226 38 [u0, u1] [vI (-1)] (WS L σ) Q := K_iconst fi_226_37 <| rfl
theorem b226_38 {d L : Nat} {σ : St} {Q : Option AV → AW → Prop} {y0 : Int} {u0 u1 : AV} : R d 226 38 [u0, u1] [vI y0] (WS L σ) Q = Q (some (vI y0)) (WS L σ) := R_ireti fi_226_38 rfl
theorem fi_227_0 : am_find 227 0 = some (.iload_n 1, 1, 0, 0, 0) := by decide +kernel
theorem fi_227_1 : am_find 227 1 = some (.invokestatic 144, 3, 167, 1, 189) := by decide +kernel
theorem fi_227_4 : am_find 227 4 = some (.ifCond .eq 13, 3, 0, 0, 0) := by decide +kernel
theorem fi_227_7 : am_find 227 7 = some (.iload_n 2, 1, 0, 0, 0) := by decide +kernel
theorem fi_227_8 : am_find 227 8 = some (.iconst 0, 1, 0, 0, 0) := by decide +kernel
theorem fi_227_9 : am_find 227 9 = some (.bipush 6, 2, 0, 6, 0) := by decide +kernel
theorem fi_227_11 : am_find 227 11 = some (.invokestatic 49, 3, 145, 3, 170) := by decide +kernel
theorem fi_227_14 : am_find 227 14 = some (.ifCond .ne 5, 3, 0, 0, 0) := by decide +kernel
theorem fi_227_17 : am_find 227 17 = some (.iconst (-1), 1, 0, (-1), 0) := by decide +kernel
theorem fi_227_18 : am_find 227 18 = some (.ireturn, 1, 0, 0, 0) := by decide +kernel
theorem fi_227_19 : am_find 227 19 = some (.aload_n 0, 1, 0, 0, 0) := by decide +kernel
theorem fi_227_20 : am_find 227 20 = some (.getfield 7, 3, 10, 1, 101) := by decide +kernel
theorem fi_227_23 : am_find 227 23 = some (.sipush 157, 3, 0, 157, 0) := by decide +kernel
theorem fi_227_26 : am_find 227 26 = some (.iload_n 1, 1, 0, 0, 0) := by decide +kernel
theorem fi_227_27 : am_find 227 27 = some (.iadd, 1, 0, 0, 0) := by decide +kernel
theorem fi_227_28 : am_find 227 28 = some (.iaload, 1, 0, 0, 0) := by decide +kernel
theorem fi_227_29 : am_find 227 29 = some (.iload_n 2, 1, 0, 0, 0) := by decide +kernel
theorem fi_227_30 : am_find 227 30 = some (.invokestatic 264, 3, 219, 2, 219) := by decide +kernel
theorem fi_227_33 : am_find 227 33 = some (.ifCond .eq 16, 3, 0, 0, 0) := by decide +kernel
theorem fi_227_36 : am_find 227 36 = some (.aload_n 0, 1, 0, 0, 0) := by decide +kernel
theorem fi_227_37 : am_find 227 37 = some (.getfield 7, 3, 10, 1, 101) := by decide +kernel
theorem fi_227_40 : am_find 227 40 = some (.sipush 157, 3, 0, 157, 0) := by decide +kernel
theorem fi_227_43 : am_find 227 43 = some (.iload_n 1, 1, 0, 0, 0) := by decide +kernel
theorem fi_227_44 : am_find 227 44 = some (.iadd, 1, 0, 0, 0) := by decide +kernel
theorem fi_227_45 : am_find 227 45 = some (.iaload, 1, 0, 0, 0) := by decide +kernel
theorem fi_227_46 : am_find 227 46 = some (.goto 5, 3, 0, 0, 0) := by decide +kernel
theorem fi_227_49 : am_find 227 49 = some (.bipush (-6), 2, 0, (-6), 0) := by decide +kernel
theorem fi_227_51 : am_find 227 51 = some (.ireturn, 1, 0, 0, 0) := by decide +kernel
theorem b227_0 {d L : Nat} {σ : St} {Q : Option AV → AW → Prop} {x1 : Int} {u0 u2 : AV} : R (d + 1) 227 0 [u0, vI x1, u2] [] (WS L σ) Q = R d 167 0 [vI x1] [] (WS L σ) (fun r w => R (d + 1) 227 4 [u0, vI x1, u2] (am_push r []) w Q) := K_iload_n fi_227_0 rfl <| R_invS fi_227_1 (by decide) (am_invS_of (Nat.le_of_ble_eq_true rfl) rfl (Nat.le_of_ble_eq_true rfl) (Nat.le_of_ble_eq_true rfl) rfl rfl)
theorem b227_4 {d L : Nat} {σ : St} {Q : Option AV → AW → Prop} {y0 : Int} {u0 u1 u2 : AV} : R d 227 4 [u0, u1, u2] [vI y0] (WS L σ) Q = if y0 = 0 then R d 227 17 [u0, u1, u2] [] (WS L σ) Q else R d 227 7 [u0, u1, u2] [] (WS L σ) Q := R_if_eq fi_227_4 rfl
theorem b227_7 {d L : Nat} {σ : St} {Q : Option AV → AW → Prop} {x2 : Int} {u0 u1 : AV} : R (d + 1) 227 7 [u0, u1, vI x2] [] (WS L σ) Q = R d 145 0 [vI x2, vI 0, vI 6] [] (WS L σ) (fun r w => R (d + 1) 227 14 [u0, u1, vI x2] (am_push r []) w Q) := K_iload_n fi_227_7 rfl <| K_iconst fi_227_8 <| K_bipush fi_227_9 <| R_invS fi_227_11 (by decide) (am_invS_of (Nat.le_of_ble_eq_true rfl) rfl (Nat.le_of_ble_eq_true rfl) (Nat.le_of_ble_eq_true rfl) rfl rfl)
theorem b227_14 {d L : Nat} {σ : St} {Q : Option AV → AW → Prop} {y0 : Int} {u0 u1 u2 : AV} : R d 227 14 [u0, u1, u2] [vI y0] (WS L σ) Q = if ¬ y0 = 0 then R d 227 19 [u0, u1, u2] [] (WS L σ) Q else R d 227 17 [u0, u1, u2] [] (WS L σ) Q := R_if_ne fi_227_14 rfl
theorem b227_17 {d L : Nat} {σ : St} {Q : Option AV → AW → Prop} {u0 u1 u2 : AV} : R d 227 17 [u0, u1, u2] [] (WS L σ) Q = Q (some (vI (-1))) (WS L σ) := K_iconst fi_227_17 <| R_ireti fi_227_18 rfl
theorem b227_19 {d L : Nat} {σ : St} {Q : Option AV → AW → Prop} {x1 x2 : Int} (h1 : -2147483648 ≤ 157 + x1 ∧ 157 + x1 ≤ 2147483647) (h2 : 0 ≤ 157 + x1) (h3 : (157 + x1) < 1580) : R (d + 1) 227 19 [vR 153, vI x1, vI x2] [] (WS L σ) Q = R d 219 0 [vI (σ 154 (157 + x1)), vI x2] [] (WS L σ) (fun r w => R (d + 1) 227 33 [vR 153, vI x1, vI x2] (am_push r []) w Q) := K_aload_n fi_227_19 rfl <| K_gf fi_227_20 kd_153 mk_153_1 <| K_sipush fi_227_23 <| K_iload_n fi_227_26 rfl <| K_iaddx fi_227_27 h1 <| K_ia fi_227_28 kd_154 h2 h3 <| K_iload_n fi_227_29 rfl <| R_invS fi_227_30 (by decide) (am_invS_of (Nat.le_of_ble_eq_true rfl) rfl (Nat.le_of_ble_eq_true rfl) (Nat.le_of_ble_eq_true rfl) rfl rfl)
theorem b227_33 {d L : Nat} {σ : St} {Q : Option AV → AW → Prop} {y0 : Int} {u0 u1 u2 : AV} : R d 227 33 [u0, u1, u2] [vI y0] (WS L σ) Q = if y0 = 0 then R d 227 49 [u0, u1, u2] [] (WS L σ) Q else R d 227 36 [u0, u1, u2] [] (WS L σ) Q := R_if_eq fi_227_33 rfl
theorem b227_36 {d L : Nat} {σ : St} {Q : Option AV → AW → Prop} {x1 : Int} {u2 : AV} (h1 : -2147483648 ≤ 157 + x1 ∧ 157 + x1 ≤ 2147483647) (h2 : 0 ≤ 157 + x1) (h3 : (157 + x1) < 1580) : R d 227 36 [vR 153, vI x1, u2] [] (WS L σ) Q = R d 227 51 [vR 153, vI x1, u2] [vI (σ 154 (157 + x1))] (WS L σ) Q := K_aload_n fi_227_36 rfl <| K_gf fi_227_37 kd_153 mk_153_1 <| K_sipush fi_227_40 <| K_iload_n fi_227_43 rfl <| K_iaddx fi_227_44 h1 <| K_ia fi_227_45 kd_154 h2 h3 <| R_goto fi_227_46 rfl
theorem b227_49 {d L : Nat} {σ : St} {Q : Option AV → AW → Prop} {u0 u1 u2 : AV} : R d 227 49 [u0, u1, u2] [] (WS L σ) Q = R d 227 51 [u0, u1, u2] [vI (-6)] (WS L σ) Q := K_bipush fi_227_49 <| rfl
theorem b227_51 {d L : Nat} {σ : St} {Q : Option AV → AW → Prop} {y0 : Int} {u0 u1 u2 : AV} : R d 227 51 [u0, u1, u2] [vI y0] (WS L σ) Q = Q (some (vI y0)) (WS L σ) := R_ireti fi_227_51 rfl
theorem fi_228_0 : am_find 228 0 = some (.iconst 0, 1, 0, 0, 0) := by decide +kernel
theorem fi_228_1 : am_find 228 1 = some (.istore_n 1, 1, 0, 0, 0) := by decide +kernel
theorem fi_228_2 : am_find 228 2 = some (.iload_n 1, 1, 0, 0, 0) := by decide +kernel
theorem fi_228_3 : am_find 228 3 = some (.sipush 1580, 3, 0, 1580, 0) := by decide +kernel
theorem fi_228_6 : am_find 228 6 = some (.if_icmp .ge 21, 3, 0, 0, 0) := by decide +kernel
theorem fi_228_9 : am_find 228 9 = some (.aload_n 0, 1, 0, 0, 0) := by decide +kernel
theorem fi_228_10 : am_find 228 10 = some (.getfield 13, 3, 10, 2, 102) := by decide +kernel
theorem fi_228_13 : am_find 228 13 = some (.iload_n 1, 1, 0, 0, 0) := by decide +kernel
theorem fi_228_14 : am_find 228 14 = some (.aload_n 0, 1, 0, 0, 0) := by decide +kernel
theorem fi_228_15 : am_find 228 15 = some (.getfield 7, 3, 10, 1, 101) := by decide +kernel
theorem fi_228_18 : am_find 228 18 = some (.iload_n 1, 1, 0, 0, 0) := by decide +kernel
theorem fi_228_19 : am_find 228 19 = some (.iaload, 1, 0, 0, 0) := by decide +kernel
theorem fi_228_20 : am_find 228 20 = some (.iastore, 1, 0, 0, 0) := by decide +kernel
theorem fi_228_21 : am_find 228 21 = some (.iinc 1 1, 3, 0, 0, 0) := by decide +kernel
theorem fi_228_24 : am_find 228 24 = some (.goto (-22), 3, 0, 0, 0) := by decide +kernel
theorem fi_228_27 : am_find 228 27 = some (.aload_n 0, 1, 0, 0, 0) := by decide +kernel
theorem fi_228_28 : am_find 228 28 = some (.iconst 1, 1, 0, 1, 0) := by decide +kernel
theorem fi_228_29 : am_find 228 29 = some (.putfield 288, 3, 10, 3, 128) := by decide +kernel
theorem fi_228_32 : am_find 228 32 = some (.aload_n 0, 1, 0, 0, 0) := by decide +kernel
theorem fi_228_33 : am_find 228 33 = some (.getfield 7, 3, 10, 1, 101) := by decide +kernel
theorem fi_228_36 : am_find 228 36 = some (.iconst 0, 1, 0, 0, 0) := by decide +kernel
theorem fi_228_37 : am_find 228 37 = some (.iaload, 1, 0, 0, 0) := by decide +kernel
theorem fi_228_38 : am_find 228 38 = some (.ireturn, 1, 0, 0, 0) := by decide +kernel
theorem b228_0 {d L : Nat} {σ : St} {Q : Option AV → AW → Prop} {u0 u1 : AV} : R d 228 0 [u0, u1] [] (WS L σ) Q = R d 228 2 [u0, vI 0] [] (WS L σ) Q := K_iconst fi_228_0 <| K_istore_n fi_228_1 (Nat.le_of_ble_eq_true rfl) rfl rfl <| rfl
theorem b228_2 {d L : Nat} {σ : St} {Q : Option AV → AW → Prop} {x1 : Int} {u0 : AV} : R d 228 2 [u0, vI x1] [] (WS L σ) Q = if 1580 ≤ x1 then R d 228 27 [u0, vI x1] [] (WS L σ) Q else R d 228 9 [u0, vI x1] [] (WS L σ) Q := K_iload_n fi_228_2 rfl <| K_sipush fi_228_3 <| R_icmp_ge fi_228_6 rfl
theorem b228_9 {d L : Nat} {σ : St} {Q : Option AV → AW → Prop} {x1 : Int} (h1 : 0 ≤ x1) (h2 : x1 < 1580) : R d 228 9 [vR 153, vI x1] [] (WS L σ) Q = R d 228 21 [vR 153, vI x1] [] (WS L (st2 σ 155 x1 (σ 154 x1))) Q := K_aload_n fi_228_9 rfl <| K_gf fi_228_10 kd_153 mk_153_2 <| K_iload_n fi_228_13 rfl <| K_aload_n fi_228_14 rfl <| K_gf fi_228_15 kd_153 mk_153_1 <| K_iload_n fi_228_18 rfl <| K_ia fi_228_19 kd_154 h1 h2 <| K_is fi_228_20 kd_155 h1 h2 <| rfl
theorem b228_21 {d L : Nat} {σ : St} {Q : Option AV → AW → Prop} {x1 : Int} {u0 : AV} (h1 : -2147483648 ≤ x1 + 1 ∧ x1 + 1 ≤ 2147483647) : R d 228 21 [u0, vI x1] [] (WS L σ) Q = R d 228 2 [u0, vI (x1 + 1)] [] (WS L σ) Q := K_iincx fi_228_21 rfl (Nat.le_of_ble_eq_true rfl) rfl h1 rfl <| R_goto fi_228_24 rfl
theorem b228_27 {d L : Nat} {σ : St} {Q : Option AV → AW → Prop} {u1 : AV} : R d 228 27 [vR 153, u1] [] (WS L σ) Q = R d 228 32 [vR 153, u1] [] (WS L (st2 σ 153 3 1)) Q := K_aload_n fi_228_27 rfl <| K_iconst fi_228_28 <| K_pfz fi_228_29 kd_153 rfl rfl rfl rfl rfl <| rfl
theorem b228_32 {d L : Nat} {σ : St} {Q : Option AV → AW → Prop} {u1 : AV} : R d 228 32 [vR 153, u1] [] (WS L σ) Q = Q (some (vI (σ 154 0))) (WS L σ) := K_aload_n fi_228_32 rfl <| K_gf fi_228_33 kd_153 mk_153_1 <| K_iconst fi_228_36 <| K_ia fi_228_37 kd_154 (by decide) (show (0 : Int) < 1580 by decide) <| R_ireti fi_228_38 rfl
theorem fi_229_0 : am_find 229 0 = some (.aload_n 0, 1, 0, 0, 0) := by decide +kernel
theorem fi_229_1 : am_find 229 1 = some (.getfield 288, 3, 10, 3, 128) := by decide +kernel
theorem fi_229_4 : am_find 229 4 = some (.ifCond .ne 6, 3, 0, 0, 0) := by decide +kernel
theorem fi_229_7 : am_find 229 7 = some (.bipush (-3), 2, 0, (-3), 0) := by decide +kernel
theorem fi_229_9 : am_find 229 9 = some (.ireturn, 1, 0, 0, 0) := by decide +kernel
theorem fi_229_10 : am_find 229 10 = some (.iconst 0, 1, 0, 0, 0) := by decide +kernel
theorem fi_229_11 : am_find 229 11 = some (.istore_n 1, 1, 0, 0, 0) := by decide +kernel
theorem fi_229_12 : am_find 229 12 = some (.iload_n 1, 1, 0, 0, 0) := by decide +kernel
theorem fi_229_13 : am_find 229 13 = some (.sipush 1580, 3, 0, 1580, 0) := by decide +kernel
theorem fi_229_16 : am_find 229 16 = some (.if_icmp .ge 21, 3, 0, 0, 0) := by decide +kernel
theorem fi_229_19 : am_find 229 19 = some (.aload_n 0, 1, 0, 0, 0) := by decide +kernel
theorem fi_229_20 : am_find 229 20 = some (.getfield 7, 3, 10, 1, 101) := by decide +kernel
theorem fi_229_23 : am_find 229 23 = some (.iload_n 1, 1, 0, 0, 0) := by decide +kernel
theorem fi_229_24 : am_find 229 24 = some (.aload_n 0, 1, 0, 0, 0) := by decide +kernel
theorem fi_229_25 : am_find 229 25 = some (.getfield 13, 3, 10, 2, 102) := by decide +kernel
theorem fi_229_28 : am_find 229 28 = some (.iload_n 1, 1, 0, 0, 0) := by decide +kernel
theorem fi_229_29 : am_find 229 29 = some (.iaload, 1, 0, 0, 0) := by decide +kernel
theorem fi_229_30 : am_find 229 30 = some (.iastore, 1, 0, 0, 0) := by decide +kernel
theorem fi_229_31 : am_find 229 31 = some (.iinc 1 1, 3, 0, 0, 0) := by decide +kernel
theorem fi_229_34 : am_find 229 34 = some (.goto (-22), 3, 0, 0, 0) := by decide +kernel
theorem fi_229_37 : am_find 229 37 = some (.aload_n 0, 1, 0, 0, 0) := by decide +kernel
theorem fi_229_38 : am_find 229 38 = some (.getfield 7, 3, 10, 1, 101) := by decide +kernel
theorem fi_229_41 : am_find 229 41 = some (.iconst 0, 1, 0, 0, 0) := by decide +kernel
theorem fi_229_42 : am_find 229 42 = some (.iaload, 1, 0, 0, 0) := by decide +kernel
theorem fi_229_43 : am_find 229 43 = some (.ireturn, 1, 0, 0, 0) := by decide +kernel
theorem b229_0 {d L : Nat} {σ : St} {Q : Option AV → AW → Prop} {u1 : AV} : R d 229 0 [vR 153, u1] [] (WS L σ) Q = if ¬ (σ 153 3) = 0 then R d 229 10 [vR 153, u1] [] (WS L σ) Q else R d 229 7 [vR 153, u1] [] (WS L σ) Q := K_aload_n fi_229_0 rfl <| K_gf fi_229_1 kd_153 mk_153_3 <| R_if_ne fi_229_4 rfl
theorem b229_7 {d L : Nat} {σ : St} {Q : Option AV → AW → Prop} {u0 u1 : AV} : R d 229 7 [u0, u1] [] (WS L σ) Q = Q (some (vI (-3))) (WS L σ) := K_bipush fi_229_7 <| R_ireti fi_229_9 rfl
theorem b229_10 {d L : Nat} {σ : St} {Q : Option AV → AW → Prop} {u0 u1 : AV} : R d 229 10 [u0, u1] [] (WS L σ) Q = R d 229 12 [u0, vI 0] [] (WS L σ) Q := K_iconst fi_229_10 <| K_istore_n fi_229_11 (Nat.le_of_ble_eq_true rfl) rfl rfl <| rfl
theorem b229_12 {d L : Nat} {σ : St} {Q : Option AV → AW → Prop} {x1 : Int} {u0 : AV} : R d 229 12 [u0, vI x1] [] (WS L σ) Q = if 1580 ≤ x1 then R d 229 37 [u0, vI x1] [] (WS L σ) Q else R d 229 19 [u0, vI x1] [] (WS L σ) Q := K_iload_n fi_229_12 rfl <| K_sipush fi_229_13 <| R_icmp_ge fi_229_16 rfl
theorem b229_19 {d L : Nat} {σ : St} {Q : Option AV → AW → Prop} {x1 : Int} (h1 : 0 ≤ x1) (h2 : x1 < 1580) : R d 229 19 [vR 153, vI x1] [] (WS L σ) Q = R d 229 31 [vR 153, vI x1] [] (WS L (st2 σ 154 x1 (σ 155 x1))) Q := K_aload_n fi_229_19 rfl <| K_gf fi_229_20 kd_153 mk_153_1 <| K_iload_n fi_229_23 rfl <| K_aload_n fi_229_24 rfl <| K_gf fi_229_25 kd_153 mk_153_2 <| K_iload_n fi_229_28 rfl <| K_ia fi_229_29 kd_155 h1 h2 <| K_is fi_229_30 kd_154 h1 h2 <| rfl
theorem b229_31 {d L : Nat} {σ : St} {Q : Option AV → AW → Prop} {x1 : Int} {u0 : AV} (h1 : -2147483648 ≤ x1 + 1 ∧ x1 + 1 ≤ 2147483647) : R d 229 31 [u0, vI x1] [] (WS L σ) Q = R d 229 12 [u0, vI (x1 + 1)] [] (WS L σ) Q := K_iincx fi_229_31 rfl (Nat.le_of_ble_eq_true rfl) rfl h1 rfl <| R_goto fi_229_34 rfl
theorem b229_37 {d L : Nat} {σ : St} {Q : Option AV → AW → Prop} {u1 : AV} : R d 229 37 [vR 153, u1] [] (WS L σ) Q = Q (some (vI (σ 154 0))) (WS L σ) := K_aload_n fi_229_37 rfl <| K_gf fi_229_38 kd_153 mk_153_1 <| K_iconst fi_229_41 <| K_ia fi_229_42 kd_154 (by decide) (show (0 : Int) < 1580 by decide) <| R_ireti fi_229_43 rfl
theorem fi_230_0 : am_find 230 0 = some (.iload_n 1, 1, 0, 0, 0) := by decide +kernel
theorem fi_230_1 : am_find 230 1 = some (.tableswitch 92 0 6 #[43, 50, 57, 64, 71, 79, 87], 43, 0, 0, 0) := by decide +kernel
theorem fi_230_44 : am_find 230 44 = some (.aload_n 0, 1, 0, 0, 0) := by decide +kernel
theorem fi_230_45 : am_find 230 45 = some (.getfield 7, 3, 10, 1, 101) := by decide +kernel
theorem fi_230_48 : am_find 230 48 = some (.iconst 0, 1, 0, 0, 0) := by decide +kernel
theorem fi_230_49 : am_find 230 49 = some (.iaload, 1, 0, 0, 0) := by decide +kernel
theorem fi_230_50 : am_find 230 50 = some (.ireturn, 1, 0, 0, 0) := by decide +kernel
theorem fi_230_51 : am_find 230 51 = some (.aload_n 0, 1, 0, 0, 0) := by decide +kernel
theorem fi_230_52 : am_find 230 52 = some (.getfield 7, 3, 10, 1, 101) := by decide +kernel
theorem fi_230_55 : am_find 230 55 = some (.iconst 1, 1, 0, 1, 0) := by decide +kernel
theorem fi_230_56 : am_find 230 56 = some (.iaload, 1, 0, 0, 0) := by decide +kernel
theorem fi_230_57 : am_find 230 57 = some (.ireturn, 1, 0, 0, 0) := by decide +kernel
theorem fi_230_58 : am_find 230 58 = some (.aload_n 0, 1, 0, 0, 0) := by decide +kernel
theorem fi_230_59 : am_find 230 59 = some (.getfield 7, 3, 10, 1, 101) := by decide +kernel
theorem fi_230_62 : am_find 230 62 = some (.iconst 2, 1, 0, 2, 0) := by decide +kernel
theorem fi_230_63 : am_find 230 63 = some (.iaload, 1, 0, 0, 0) := by decide +kernel
theorem fi_230_64 : am_find 230 64 = some (.ireturn, 1, 0, 0, 0) := by decide +kernel
theorem fi_230_65 : am_find 230 65 = some (.aload_n 0, 1, 0, 0, 0) := by decide +kernel
theorem fi_230_66 : am_find 230 66 = some (.getfield 7, 3, 10, 1, 101) := by decide +kernel
theorem fi_230_69 : am_find 230 69 = some (.iconst 3, 1, 0, 3, 0) := by decide +kernel
theorem fi_230_70 : am_find 230 70 = some (.iaload, 1, 0, 0, 0) := by decide +kernel
theorem fi_230_71 : am_find 230 71 = some (.ireturn, 1, 0, 0, 0) := by decide +kernel
theorem fi_230_72 : am_find 230 72 = some (.aload_n 0, 1, 0, 0, 0) := by decide +kernel
theorem fi_230_73 : am_find 230 73 = some (.invokevirtual 210, 3, 197, 0, 204) := by decide +kernel
theorem fi_230_76 : am_find 230 76 = some (.invokestatic 217, 3, 200, 1, 207) := by decide +kernel
theorem fi_230_79 : am_find 230 79 = some (.ireturn, 1, 0, 0, 0) := by decide +kernel
theorem fi_230_80 : am_find 230 80 = some (.aload_n 0, 1, 0, 0, 0) := by decide +kernel
theorem fi_230_81 : am_find 230 81 = some (.getfield 7, 3, 10, 1, 101) := by decide +kernel
theorem fi_230_84 : am_find 230 84 = some (.bipush 7, 2, 0, 7, 0) := by decide +kernel
theorem fi_230_86 : am_find 230 86 = some (.iaload, 1, 0, 0, 0) := by decide +kernel
theorem fi_230_87 : am_find 230 87 = some (.ireturn, 1, 0, 0, 0) := by decide +kernel
theorem fi_230_88 : am_find 230 88 = some (.aload_n 0, 1, 0, 0, 0) := by decide +kernel
theorem fi_230_89 : am_find 230 89 = some (.getfield 252, 3, 10, 25, 124) := by decide +kernel
theorem fi_230_92 : am_find 230 92 = some (.ireturn, 1, 0, 0, 0) := by decide +kernel
theorem fi_230_93 : am_find 230 93 = some (.iconst (-1), 1, 0, (-1), 0) := by decide +kernel
theorem fi_230_94 : am_find 230 94 = some (.ireturn, 1, 0, 0, 0) := by decide +kernel
theorem sw230_0 {d L : Nat} {σ : St} {Q : Option AV → AW → Prop} {x : Int} {ls st : List AV} : R d 230 1 ls (vI x :: st) (WS L σ) Q = if x = 0 then R d 230 44 ls st (WS L σ) Q else if x = 1 then R d 230 51 ls st (WS L σ) Q else if x = 2 then R d 230 58 ls st (WS L σ) Q else if x = 3 then R d 230 65 ls st (WS L σ) Q else if x = 4 then R d 230 72 ls st (WS L σ) Q else if x = 5 then R d 230 80 ls st (WS L σ) Q else if x = 6 then R d 230 88 ls st (WS L σ) Q else R d 230 93 ls st (WS L σ) Q := by
  by_cases h0 : x = 0
  · subst h0; exact (R_tsw (t := 44) fi_230_1 rfl).trans (by simp)
  by_cases h1 : x = 1
  · subst h1; exact (R_tsw (t := 51) fi_230_1 rfl).trans (by simp)
  by_cases h2 : x = 2
  · subst h2; exact (R_tsw (t := 58) fi_230_1 rfl).trans (by simp)
  by_cases h3 : x = 3
  · subst h3; exact (R_tsw (t := 65) fi_230_1 rfl).trans (by simp)
  by_cases h4 : x = 4
  · subst h4; exact (R_tsw (t := 72) fi_230_1 rfl).trans (by simp)
  by_cases h5 : x = 5
  · subst h5; exact (R_tsw (t := 80) fi_230_1 rfl).trans (by simp)
  by_cases h6 : x = 6
  · subst h6; exact (R_tsw (t := 88) fi_230_1 rfl).trans (by simp)
  rw [R_tsw (t := 93) fi_230_1 (by show (if x < 0 ∨ 6 < x then _ else _) = _; rw [if_pos (by omega)]; rfl)]
  rw [if_neg h0, if_neg h1, if_neg h2, if_neg h3, if_neg h4, if_neg h5, if_neg h6]
theorem b230_0 {d L : Nat} {σ : St} {Q : Option AV → AW → Prop} {x1 : Int} {u0 : AV} : R d 230 0 [u0, vI x1] [] (WS L σ) Q = if x1 = 0 then R d 230 44 [u0, vI x1] [] (WS L σ) Q else if x1 = 1 then R d 230 51 [u0, vI x1] [] (WS L σ) Q else if x1 = 2 then R d 230 58 [u0, vI x1] [] (WS L σ) Q else if x1 = 3 then R d 230 65 [u0, vI x1] [] (WS L σ) Q else if x1 = 4 then R d 230 72 [u0, vI x1] [] (WS L σ) Q else if x1 = 5 then R d 230 80 [u0, vI x1] [] (WS L σ) Q else if x1 = 6 then R d 230 88 [u0, vI x1] [] (WS L σ) Q else R d 230 93 [u0, vI x1] [] (WS L σ) Q := K_iload_n fi_230_0 rfl <| sw230_0
theorem b230_44 {d L : Nat} {σ : St} {Q : Option AV → AW → Prop} {u1 : AV} : R d 230 44 [vR 153, u1] [] (WS L σ) Q = Q (some (vI (σ 154 0))) (WS L σ) := K_aload_n fi_230_44 rfl <| K_gf fi_230_45 kd_153 mk_153_1 <| K_iconst fi_230_48 <| K_ia fi_230_49 kd_154 (by decide) (show (0 : Int) < 1580 by decide) <| R_ireti fi_230_50 rfl
theorem b230_51 {d L : Nat} {σ : St} {Q : Option AV → AW → Prop} {u1 : AV} : R d 230 51 [vR 153, u1] [] (WS L σ) Q = Q (some (vI (σ 154 1))) (WS L σ) := K_aload_n fi_230_51 rfl <| K_gf fi_230_52 kd_153 mk_153_1 <| K_iconst fi_230_55 <| K_ia fi_230_56 kd_154 (by decide) (show (1 : Int) < 1580 by decide) <| R_ireti fi_230_57 rfl
theorem b230_58 {d L : Nat} {σ : St} {Q : Option AV → AW → Prop} {u1 : AV} : R d 230 58 [vR 153, u1] [] (WS L σ) Q = Q (some (vI (σ 154 2))) (WS L σ) := K_aload_n fi_230_58 rfl <| K_gf fi_230_59 kd_153 mk_153_1 <| K_iconst fi_230_62 <| K_ia fi_230_63 kd_154 (by decide) (show (2 : Int) < 1580 by decide) <| R_ireti fi_230_64 rfl
theorem b230_65 {d L : Nat} {σ : St} {Q : Option AV → AW → Prop} {u1 : AV} : R d 230 65 [vR 153, u1] [] (WS L σ) Q = Q (some (vI (σ 154 3))) (WS L σ) := K_aload_n fi_230_65 rfl <| K_gf fi_230_66 kd_153 mk_153_1 <| K_iconst fi_230_69 <| K_ia fi_230_70 kd_154 (by decide) (show (3 : Int) < 1580 by decide) <| R_ireti fi_230_71 rfl
theorem b230_72 {d L : Nat} {σ : St} {Q : Option AV → AW → Prop} {u1 : AV} : R (d + 1) 230 72 [vR 153, u1] [] (WS L σ) Q = R d 197 0 [vR 153, vX 9, vX 9] [] (WS L σ) (fun r w => R (d + 1) 230 76 [vR 153, u1] (am_push r []) w Q) := K_aload_n fi_230_72 rfl <| R_invV fi_230_73 (am_invV_of rfl (kd_153) (Nat.le_of_ble_eq_true rfl) (Nat.le_of_ble_eq_true rfl) rfl rfl)
theorem b230_76 {d L : Nat} {σ : St} {Q : Option AV → AW → Prop} {y0 : Int} {u0 u1 : AV} : R (d + 1) 230 76 [u0, u1] [vI y0] (WS L σ) Q = R d 200 0 [vI y0, vX 9, vX 9] [] (WS L σ) (fun r w => R (d + 1) 230 79 [u0, u1] (am_push r []) w Q) := R_invS fi_230_76 (by decide) (am_invS_of (Nat.le_of_ble_eq_true rfl) rfl (Nat.le_of_ble_eq_true rfl) (Nat.le_of_ble_eq_true rfl) rfl rfl)
theorem b230_79 {d L : Nat} {σ : St} {Q : Option AV → AW → Prop} {y0 : Int} {u0 u1 : AV} : R d 230 79 [u0, u1] [vI y0] (WS L σ) Q = Q (some (vI y0)) (WS L σ) := R_ireti fi_230_79 rfl
theorem b230_80 {d L : Nat} {σ : St} {Q : Option AV → AW → Prop} {u1 : AV} : R d 230 80 [vR 153, u1] [] (WS L σ) Q = Q (some (vI (σ 154 7))) (WS L σ) := K_aload_n fi_230_80 rfl <| K_gf fi_230_81 kd_153 mk_153_1 <| K_bipush fi_230_84 <| K_ia fi_230_86 kd_154 (by decide) (show (7 : Int) < 1580 by decide) <| R_ireti fi_230_87 rfl
theorem b230_88 {d L : Nat} {σ : St} {Q : Option AV → AW → Prop} {u1 : AV} : R d 230 88 [vR 153, u1] [] (WS L σ) Q = Q (some (vI (σ 153 25))) (WS L σ) := K_aload_n fi_230_88 rfl <| K_gf fi_230_89 kd_153 mk_153_25 <| R_ireti fi_230_92 rfl
theorem b230_93 {d L : Nat} {σ : St} {Q : Option AV → AW → Prop} {u0 u1 : AV} : R d 230 93 [u0, u1] [] (WS L σ) Q = Q (some (vI (-1))) (WS L σ) := K_iconst fi_230_93 <| R_ireti fi_230_94 rfl
theorem fi_231_0 : am_find 231 0 = some (.aload_n 0, 1, 0, 0, 0) := by decide +kernel
theorem fi_231_1 : am_find 231 1 = some (.getfield 69, 3, 8, 0, 43) := by decide +kernel
theorem fi_231_4 : am_find 231 4 = some (.aload_n 0, 1, 0, 0, 0) := by decide +kernel
theorem fi_231_5 : am_find 231 5 = some (.invokevirtual 119, 3, 77, 0, 224) := by decide +kernel
theorem fi_231_8 : am_find 231 8 = some (.invokestatic 122, 3, 42, 1, 225) := by decide +kernel
theorem fi_231_11 : am_find 231 11 = some (.isub, 1, 0, 0, 0) := by decide +kernel
theorem fi_231_12 : am_find 231 12 = some (.ireturn, 1, 0, 0, 0) := by decide +kernel
theorem b231_0 {d L : Nat} {σ : St} {Q : Option AV → AW → Prop} : R (d + 1) 231 0 [vR 20] [] (WS L σ) Q = R d 77 0 [vR 20] [] (WS L σ) (fun r w => R (d + 1) 231 8 [vR 20] (am_push r [vI (σ 20 0)]) w Q) := K_aload_n fi_231_0 rfl <| K_gf fi_231_1 kd_20 mk_20_0 <| K_aload_n fi_231_4 rfl <| R_invV fi_231_5 (am_invV_of rfl (kd_20) (Nat.le_of_ble_eq_true rfl) (Nat.le_of_ble_eq_true rfl) rfl rfl)
theorem b231_8 {d L : Nat} {σ : St} {Q : Option AV → AW → Prop} {y0 y1 : Int} {u0 : AV} : R (d + 1) 231 8 [u0] [vI y0, vI y1] (WS L σ) Q = R d 42 0 [vI y0] [] (WS L σ) (fun r w => R (d + 1) 231 11 [u0] (am_push r [vI y1]) w Q) := R_invS fi_231_8 (by decide) (am_invS_of (Nat.le_of_ble_eq_true rfl) rfl (Nat.le_of_ble_eq_true rfl) (Nat.le_of_ble_eq_true rfl) rfl rfl)
theorem b231_11 {d L : Nat} {σ : St} {Q : Option AV → AW → Prop} {y0 y1 : Int} {u0 : AV} (h1 : -2147483648 ≤ y1 - y0 ∧ y1 - y0 ≤ 2147483647) : R d 231 11 [u0] [vI y0, vI y1] (WS L σ) Q = Q (some (vI (y1 - y0))) (WS L σ) := K_isubx fi_231_11 h1 <| R_ireti fi_231_12 rfl
