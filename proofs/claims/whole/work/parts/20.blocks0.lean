/-! block lemmas (printed by wip/whole/gen_blocks.py): methods 12 to 59 -/
theorem fi_12_0 : am_find 12 0 = some (.iload_n 1, 1, 0, 0, 0) := by decide +kernel
theorem fi_12_1 : am_find 12 1 = some (.iconst 4, 1, 0, 4, 0) := by decide +kernel
theorem fi_12_2 : am_find 12 2 = some (.invokestatic 72, 3, 13, 2, 14) := by decide +kernel
theorem fi_12_5 : am_find 12 5 = some (.ifCond .eq 13, 3, 0, 0, 0) := by decide +kernel
theorem fi_12_8 : am_find 12 8 = some (.iload_n 3, 1, 0, 0, 0) := by decide +kernel
theorem fi_12_9 : am_find 12 9 = some (.iconst 1, 1, 0, 1, 0) := by decide +kernel
theorem fi_12_10 : am_find 12 10 = some (.iadd, 1, 0, 0, 0) := by decide +kernel
theorem fi_12_11 : am_find 12 11 = some (.iconst 4, 1, 0, 4, 0) := by decide +kernel
theorem fi_12_12 : am_find 12 12 = some (.invokestatic 72, 3, 13, 2, 14) := by decide +kernel
theorem fi_12_15 : am_find 12 15 = some (.ifCond .ne 5, 3, 0, 0, 0) := by decide +kernel
theorem fi_12_18 : am_find 12 18 = some (.iconst (-1), 1, 0, (-1), 0) := by decide +kernel
theorem fi_12_19 : am_find 12 19 = some (.ireturn, 1, 0, 0, 0) := by decide +kernel
theorem fi_12_20 : am_find 12 20 = some (.iload_n 2, 1, 0, 0, 0) := by decide +kernel
theorem fi_12_21 : am_find 12 21 = some (.bipush 21, 2, 0, 21, 0) := by decide +kernel
theorem fi_12_23 : am_find 12 23 = some (.invokestatic 72, 3, 13, 2, 14) := by decide +kernel
theorem fi_12_26 : am_find 12 26 = some (.ifCond .ne 6, 3, 0, 0, 0) := by decide +kernel
theorem fi_12_29 : am_find 12 29 = some (.bipush (-2), 2, 0, (-2), 0) := by decide +kernel
theorem fi_12_31 : am_find 12 31 = some (.ireturn, 1, 0, 0, 0) := by decide +kernel
theorem fi_12_32 : am_find 12 32 = some (.aload_n 0, 1, 0, 0, 0) := by decide +kernel
theorem fi_12_33 : am_find 12 33 = some (.getfield 10, 3, 9, 0, 0) := by decide +kernel
theorem fi_12_36 : am_find 12 36 = some (.getfield 76, 3, 8, 0, 42) := by decide +kernel
theorem fi_12_39 : am_find 12 39 = some (.bipush 8, 2, 0, 8, 0) := by decide +kernel
theorem fi_12_41 : am_find 12 41 = some (.if_icmp .lt 6, 3, 0, 0, 0) := by decide +kernel
theorem fi_12_44 : am_find 12 44 = some (.bipush (-4), 2, 0, (-4), 0) := by decide +kernel
theorem fi_12_46 : am_find 12 46 = some (.ireturn, 1, 0, 0, 0) := by decide +kernel
theorem fi_12_47 : am_find 12 47 = some (.aload_n 0, 1, 0, 0, 0) := by decide +kernel
theorem fi_12_48 : am_find 12 48 = some (.getfield 10, 3, 9, 0, 0) := by decide +kernel
theorem fi_12_51 : am_find 12 51 = some (.iload_n 1, 1, 0, 0, 0) := by decide +kernel
theorem fi_12_52 : am_find 12 52 = some (.iload_n 2, 1, 0, 0, 0) := by decide +kernel
theorem fi_12_53 : am_find 12 53 = some (.iload_n 3, 1, 0, 0, 0) := by decide +kernel
theorem fi_12_54 : am_find 12 54 = some (.invokevirtual 80, 3, 14, 3, 15) := by decide +kernel
theorem fi_12_57 : am_find 12 57 = some (.istore 4, 2, 0, 0, 0) := by decide +kernel
theorem fi_12_59 : am_find 12 59 = some (.iconst 0, 1, 0, 0, 0) := by decide +kernel
theorem fi_12_60 : am_find 12 60 = some (.istore 5, 2, 0, 0, 0) := by decide +kernel
theorem fi_12_62 : am_find 12 62 = some (.iload 5, 2, 0, 0, 0) := by decide +kernel
theorem fi_12_64 : am_find 12 64 = some (.iconst 3, 1, 0, 3, 0) := by decide +kernel
theorem fi_12_65 : am_find 12 65 = some (.if_icmp .ge 15, 3, 0, 0, 0) := by decide +kernel
theorem fi_12_68 : am_find 12 68 = some (.aload_n 0, 1, 0, 0, 0) := by decide +kernel
theorem fi_12_69 : am_find 12 69 = some (.iload 5, 2, 0, 0, 0) := by decide +kernel
theorem fi_12_71 : am_find 12 71 = some (.invokevirtual 84, 3, 15, 1, 16) := by decide +kernel
theorem fi_12_74 : am_find 12 74 = some (.iinc 5 1, 3, 0, 0, 0) := by decide +kernel
theorem fi_12_77 : am_find 12 77 = some (.goto (-15), 3, 0, 0, 0) := by decide +kernel
theorem fi_12_80 : am_find 12 80 = some (.iload 4, 2, 0, 0, 0) := by decide +kernel
theorem fi_12_82 : am_find 12 82 = some (.ireturn, 1, 0, 0, 0) := by decide +kernel
theorem b12_0 {d L : Nat} {σ : St} {Q : Option AV → AW → Prop} {x1 : Int} {u0 u2 u3 u4 u5 : AV} : R (d + 1) 12 0 [u0, vI x1, u2, u3, u4, u5] [] (WS L σ) Q = R d 13 0 [vI x1, vI 4] [] (WS L σ) (fun r w => R (d + 1) 12 5 [u0, vI x1, u2, u3, u4, u5] (am_push r []) w Q) := K_iload_n fi_12_0 rfl <| K_iconst fi_12_1 <| R_invS fi_12_2 (by decide) (am_invS_of (Nat.le_of_ble_eq_true rfl) rfl (Nat.le_of_ble_eq_true rfl) (Nat.le_of_ble_eq_true rfl) rfl rfl)
theorem b12_5 {d L : Nat} {σ : St} {Q : Option AV → AW → Prop} {y0 : Int} {u0 u1 u2 u3 u4 u5 : AV} : R d 12 5 [u0, u1, u2, u3, u4, u5] [vI y0] (WS L σ) Q = if y0 = 0 then R d 12 18 [u0, u1, u2, u3, u4, u5] [] (WS L σ) Q else R d 12 8 [u0, u1, u2, u3, u4, u5] [] (WS L σ) Q := R_if_eq fi_12_5 rfl
theorem b12_8 {d L : Nat} {σ : St} {Q : Option AV → AW → Prop} {x3 : Int} {u0 u1 u2 u4 u5 : AV} (h1 : -2147483648 ≤ x3 + 1 ∧ x3 + 1 ≤ 2147483647) : R (d + 1) 12 8 [u0, u1, u2, vI x3, u4, u5] [] (WS L σ) Q = R d 13 0 [vI (x3 + 1), vI 4] [] (WS L σ) (fun r w => R (d + 1) 12 15 [u0, u1, u2, vI x3, u4, u5] (am_push r []) w Q) := K_iload_n fi_12_8 rfl <| K_iconst fi_12_9 <| K_iaddx fi_12_10 h1 <| K_iconst fi_12_11 <| R_invS fi_12_12 (by decide) (am_invS_of (Nat.le_of_ble_eq_true rfl) rfl (Nat.le_of_ble_eq_true rfl) (Nat.le_of_ble_eq_true rfl) rfl rfl)
theorem b12_15 {d L : Nat} {σ : St} {Q : Option AV → AW → Prop} {y0 : Int} {u0 u1 u2 u3 u4 u5 : AV} : R d 12 15 [u0, u1, u2, u3, u4, u5] [vI y0] (WS L σ) Q = if ¬ y0 = 0 then R d 12 20 [u0, u1, u2, u3, u4, u5] [] (WS L σ) Q else R d 12 18 [u0, u1, u2, u3, u4, u5] [] (WS L σ) Q := R_if_ne fi_12_15 rfl
theorem b12_18 {d L : Nat} {σ : St} {Q : Option AV → AW → Prop} {u0 u1 u2 u3 u4 u5 : AV} : R d 12 18 [u0, u1, u2, u3, u4, u5] [] (WS L σ) Q = Q (some (vI (-1))) (WS L σ) := K_iconst fi_12_18 <| R_ireti fi_12_19 rfl
theorem b12_20 {d L : Nat} {σ : St} {Q : Option AV → AW → Prop} {x2 : Int} {u0 u1 u3 u4 u5 : AV} : R (d + 1) 12 20 [u0, u1, vI x2, u3, u4, u5] [] (WS L σ) Q = R d 13 0 [vI x2, vI 21] [] (WS L σ) (fun r w => R (d + 1) 12 26 [u0, u1, vI x2, u3, u4, u5] (am_push r []) w Q) := K_iload_n fi_12_20 rfl <| K_bipush fi_12_21 <| R_invS fi_12_23 (by decide) (am_invS_of (Nat.le_of_ble_eq_true rfl) rfl (Nat.le_of_ble_eq_true rfl) (Nat.le_of_ble_eq_true rfl) rfl rfl)
theorem b12_26 {d L : Nat} {σ : St} {Q : Option AV → AW → Prop} {y0 : Int} {u0 u1 u2 u3 u4 u5 : AV} : R d 12 26 [u0, u1, u2, u3, u4, u5] [vI y0] (WS L σ) Q = if ¬ y0 = 0 then R d 12 32 [u0, u1, u2, u3, u4, u5] [] (WS L σ) Q else R d 12 29 [u0, u1, u2, u3, u4, u5] [] (WS L σ) Q := R_if_ne fi_12_26 rfl
theorem b12_29 {d L : Nat} {σ : St} {Q : Option AV → AW → Prop} {u0 u1 u2 u3 u4 u5 : AV} : R d 12 29 [u0, u1, u2, u3, u4, u5] [] (WS L σ) Q = Q (some (vI (-2))) (WS L σ) := K_bipush fi_12_29 <| R_ireti fi_12_31 rfl
theorem b12_32 {d L : Nat} {σ : St} {Q : Option AV → AW → Prop} {u1 u2 u3 u4 u5 : AV} : R d 12 32 [vR 19, u1, u2, u3, u4, u5] [] (WS L σ) Q = if (σ 20 0) < 8 then R d 12 47 [vR 19, u1, u2, u3, u4, u5] [] (WS L σ) Q else R d 12 44 [vR 19, u1, u2, u3, u4, u5] [] (WS L σ) Q := K_aload_n fi_12_32 rfl <| K_gf fi_12_33 kd_19 mk_19_0 <| K_gf fi_12_36 kd_20 mk_20_0 <| K_bipush fi_12_39 <| R_icmp_lt fi_12_41 rfl
theorem b12_44 {d L : Nat} {σ : St} {Q : Option AV → AW → Prop} {u0 u1 u2 u3 u4 u5 : AV} : R d 12 44 [u0, u1, u2, u3, u4, u5] [] (WS L σ) Q = Q (some (vI (-4))) (WS L σ) := K_bipush fi_12_44 <| R_ireti fi_12_46 rfl
theorem b12_47 {d L : Nat} {σ : St} {Q : Option AV → AW → Prop} {x1 x2 x3 : Int} {u4 u5 : AV} : R (d + 1) 12 47 [vR 19, vI x1, vI x2, vI x3, u4, u5] [] (WS L σ) Q = R d 14 0 [vR 20, vI x1, vI x2, vI x3, vX 9, vX 9] [] (WS L σ) (fun r w => R (d + 1) 12 57 [vR 19, vI x1, vI x2, vI x3, u4, u5] (am_push r []) w Q) := K_aload_n fi_12_47 rfl <| K_gf fi_12_48 kd_19 mk_19_0 <| K_iload_n fi_12_51 rfl <| K_iload_n fi_12_52 rfl <| K_iload_n fi_12_53 rfl <| R_invV fi_12_54 (am_invV_of rfl (kd_20) (Nat.le_of_ble_eq_true rfl) (Nat.le_of_ble_eq_true rfl) rfl rfl)
theorem b12_57 {d L : Nat} {σ : St} {Q : Option AV → AW → Prop} {y0 : Int} {u0 u1 u2 u3 u4 u5 : AV} : R d 12 57 [u0, u1, u2, u3, u4, u5] [vI y0] (WS L σ) Q = R d 12 62 [u0, u1, u2, u3, vI y0, vI 0] [] (WS L σ) Q := K_istore fi_12_57 (Nat.le_of_ble_eq_true rfl) rfl rfl <| K_iconst fi_12_59 <| K_istore fi_12_60 (Nat.le_of_ble_eq_true rfl) rfl rfl <| rfl
theorem b12_62 {d L : Nat} {σ : St} {Q : Option AV → AW → Prop} {x5 : Int} {u0 u1 u2 u3 u4 : AV} : R d 12 62 [u0, u1, u2, u3, u4, vI x5] [] (WS L σ) Q = if 3 ≤ x5 then R d 12 80 [u0, u1, u2, u3, u4, vI x5] [] (WS L σ) Q else R d 12 68 [u0, u1, u2, u3, u4, vI x5] [] (WS L σ) Q := K_iload fi_12_62 rfl <| K_iconst fi_12_64 <| R_icmp_ge fi_12_65 rfl
theorem b12_68 {d L : Nat} {σ : St} {Q : Option AV → AW → Prop} {x5 : Int} {u1 u2 u3 u4 : AV} : R (d + 1) 12 68 [vR 19, u1, u2, u3, u4, vI x5] [] (WS L σ) Q = R d 15 0 [vR 19, vI x5, vX 9, vX 9] [] (WS L σ) (fun r w => R (d + 1) 12 74 [vR 19, u1, u2, u3, u4, vI x5] (am_push r []) w Q) := K_aload_n fi_12_68 rfl <| K_iload fi_12_69 rfl <| R_invV fi_12_71 (am_invV_of rfl (kd_19) (Nat.le_of_ble_eq_true rfl) (Nat.le_of_ble_eq_true rfl) rfl rfl)
theorem b12_74 {d L : Nat} {σ : St} {Q : Option AV → AW → Prop} {x5 : Int} {u0 u1 u2 u3 u4 : AV} (h1 : -2147483648 ≤ x5 + 1 ∧ x5 + 1 ≤ 2147483647) : R d 12 74 [u0, u1, u2, u3, u4, vI x5] [] (WS L σ) Q = R d 12 62 [u0, u1, u2, u3, u4, vI (x5 + 1)] [] (WS L σ) Q := K_iincx fi_12_74 rfl (Nat.le_of_ble_eq_true rfl) rfl h1 rfl <| R_goto fi_12_77 rfl
theorem b12_80 {d L : Nat} {σ : St} {Q : Option AV → AW → Prop} {x4 : Int} {u0 u1 u2 u3 u5 : AV} : R d 12 80 [u0, u1, u2, u3, vI x4, u5] [] (WS L σ) Q = Q (some (vI x4)) (WS L σ) := K_iload fi_12_80 rfl <| R_ireti fi_12_82 rfl
theorem fi_13_0 : am_find 13 0 = some (.iload_n 0, 1, 0, 0, 0) := by decide +kernel
theorem fi_13_1 : am_find 13 1 = some (.ifCond .lt 12, 3, 0, 0, 0) := by decide +kernel
theorem fi_13_4 : am_find 13 4 = some (.iload_n 0, 1, 0, 0, 0) := by decide +kernel
theorem fi_13_5 : am_find 13 5 = some (.iload_n 1, 1, 0, 0, 0) := by decide +kernel
theorem fi_13_6 : am_find 13 6 = some (.if_icmp .ge 7, 3, 0, 0, 0) := by decide +kernel
theorem fi_13_9 : am_find 13 9 = some (.iconst 1, 1, 0, 1, 0) := by decide +kernel
theorem fi_13_10 : am_find 13 10 = some (.goto 4, 3, 0, 0, 0) := by decide +kernel
theorem fi_13_13 : am_find 13 13 = some (.iconst 0, 1, 0, 0, 0) := by decide +kernel
theorem fi_13_14 : am_find 13 14 = some (.ireturn, 1, 1, 0, 0) := by decide +kernel
theorem b13_0 {d L : Nat} {σ : St} {Q : Option AV → AW → Prop} {x0 : Int} {u1 : AV} : R d 13 0 [vI x0, u1] [] (WS L σ) Q = if x0 < 0 then R d 13 13 [vI x0, u1] [] (WS L σ) Q else R d 13 4 [vI x0, u1] [] (WS L σ) Q := K_iload_n fi_13_0 rfl <| R_if_lt fi_13_1 rfl
theorem b13_4 {d L : Nat} {σ : St} {Q : Option AV → AW → Prop} {x0 x1 : Int} : R d 13 4 [vI x0, vI x1] [] (WS L σ) Q = if x1 ≤ x0 then R d 13 13 [vI x0, vI x1] [] (WS L σ) Q else R d 13 9 [vI x0, vI x1] [] (WS L σ) Q := K_iload_n fi_13_4 rfl <| K_iload_n fi_13_5 rfl <| R_icmp_ge fi_13_6 rfl
theorem b13_9 {d L : Nat} {σ : St} {Q : Option AV → AW → Prop} {u0 u1 : AV} : R d 13 9 [u0, u1] [] (WS L σ) Q = R d 13 14 [u0, u1] [vI 1] (WS L σ) Q := K_iconst fi_13_9 <| R_goto fi_13_10 rfl
theorem b13_13 {d L : Nat} {σ : St} {Q : Option AV → AW → Prop} {u0 u1 : AV} : R d 13 13 [u0, u1] [] (WS L σ) Q = R d 13 14 [u0, u1] [vI 0] (WS L σ) Q := K_iconst fi_13_13 <| rfl
theorem b13_14 {d L : Nat} {σ : St} {Q : Option AV → AW → Prop} {y0 : Int} {u0 u1 : AV} (h1 : am_rfit 1 y0 = true) : R d 13 14 [u0, u1] [vI y0] (WS L σ) Q = Q (some (vI y0)) (WS L σ) := R_ireti fi_13_14 h1
theorem fi_14_0 : am_find 14 0 = some (.aload_n 0, 1, 0, 0, 0) := by decide +kernel
theorem fi_14_1 : am_find 14 1 = some (.getfield 69, 3, 8, 0, 43) := by decide +kernel
theorem fi_14_4 : am_find 14 4 = some (.istore 4, 2, 0, 0, 0) := by decide +kernel
theorem fi_14_6 : am_find 14 6 = some (.iload 4, 2, 0, 0, 0) := by decide +kernel
theorem fi_14_8 : am_find 14 8 = some (.iconst 4, 1, 0, 4, 0) := by decide +kernel
theorem fi_14_9 : am_find 14 9 = some (.imul, 1, 0, 0, 0) := by decide +kernel
theorem fi_14_10 : am_find 14 10 = some (.istore 5, 2, 0, 0, 0) := by decide +kernel
theorem fi_14_12 : am_find 14 12 = some (.iload 4, 2, 0, 0, 0) := by decide +kernel
theorem fi_14_14 : am_find 14 14 = some (.ifCond .lt 75, 3, 0, 0, 0) := by decide +kernel
theorem fi_14_17 : am_find 14 17 = some (.iload 5, 2, 0, 0, 0) := by decide +kernel
theorem fi_14_19 : am_find 14 19 = some (.iconst 3, 1, 0, 3, 0) := by decide +kernel
theorem fi_14_20 : am_find 14 20 = some (.iadd, 1, 0, 0, 0) := by decide +kernel
theorem fi_14_21 : am_find 14 21 = some (.aload_n 0, 1, 0, 0, 0) := by decide +kernel
theorem fi_14_22 : am_find 14 22 = some (.getfield 33, 3, 8, 9, 14) := by decide +kernel
theorem fi_14_25 : am_find 14 25 = some (.arraylength, 1, 0, 0, 0) := by decide +kernel
theorem fi_14_26 : am_find 14 26 = some (.if_icmp .ge 63, 3, 0, 0, 0) := by decide +kernel
theorem fi_14_29 : am_find 14 29 = some (.aload_n 0, 1, 0, 0, 0) := by decide +kernel
theorem fi_14_30 : am_find 14 30 = some (.getfield 33, 3, 8, 9, 14) := by decide +kernel
theorem fi_14_33 : am_find 14 33 = some (.iload 5, 2, 0, 0, 0) := by decide +kernel
theorem fi_14_35 : am_find 14 35 = some (.iconst 0, 1, 0, 0, 0) := by decide +kernel
theorem fi_14_36 : am_find 14 36 = some (.iadd, 1, 0, 0, 0) := by decide +kernel
theorem fi_14_37 : am_find 14 37 = some (.iload_n 1, 1, 0, 0, 0) := by decide +kernel
theorem fi_14_38 : am_find 14 38 = some (.iastore, 1, 0, 0, 0) := by decide +kernel
theorem fi_14_39 : am_find 14 39 = some (.aload_n 0, 1, 0, 0, 0) := by decide +kernel
theorem fi_14_40 : am_find 14 40 = some (.getfield 33, 3, 8, 9, 14) := by decide +kernel
theorem fi_14_43 : am_find 14 43 = some (.iload 5, 2, 0, 0, 0) := by decide +kernel
theorem fi_14_45 : am_find 14 45 = some (.iconst 1, 1, 0, 1, 0) := by decide +kernel
theorem fi_14_46 : am_find 14 46 = some (.iadd, 1, 0, 0, 0) := by decide +kernel
theorem fi_14_47 : am_find 14 47 = some (.iload_n 2, 1, 0, 0, 0) := by decide +kernel
theorem fi_14_48 : am_find 14 48 = some (.iastore, 1, 0, 0, 0) := by decide +kernel
theorem fi_14_49 : am_find 14 49 = some (.aload_n 0, 1, 0, 0, 0) := by decide +kernel
theorem fi_14_50 : am_find 14 50 = some (.getfield 33, 3, 8, 9, 14) := by decide +kernel
theorem fi_14_53 : am_find 14 53 = some (.iload 5, 2, 0, 0, 0) := by decide +kernel
theorem fi_14_55 : am_find 14 55 = some (.iconst 2, 1, 0, 2, 0) := by decide +kernel
theorem fi_14_56 : am_find 14 56 = some (.iadd, 1, 0, 0, 0) := by decide +kernel
theorem fi_14_57 : am_find 14 57 = some (.iload_n 3, 1, 0, 0, 0) := by decide +kernel
theorem fi_14_58 : am_find 14 58 = some (.ifCond .ge 8, 3, 0, 0, 0) := by decide +kernel
theorem fi_14_61 : am_find 14 61 = some (.bipush 9, 2, 0, 9, 0) := by decide +kernel
theorem fi_14_63 : am_find 14 63 = some (.goto 4, 3, 0, 0, 0) := by decide +kernel
theorem fi_14_66 : am_find 14 66 = some (.iload_n 3, 1, 0, 0, 0) := by decide +kernel
theorem fi_14_67 : am_find 14 67 = some (.iastore, 1, 0, 0, 0) := by decide +kernel
theorem fi_14_68 : am_find 14 68 = some (.aload_n 0, 1, 0, 0, 0) := by decide +kernel
theorem fi_14_69 : am_find 14 69 = some (.getfield 33, 3, 8, 9, 14) := by decide +kernel
theorem fi_14_72 : am_find 14 72 = some (.iload 5, 2, 0, 0, 0) := by decide +kernel
theorem fi_14_74 : am_find 14 74 = some (.iconst 3, 1, 0, 3, 0) := by decide +kernel
theorem fi_14_75 : am_find 14 75 = some (.iadd, 1, 0, 0, 0) := by decide +kernel
theorem fi_14_76 : am_find 14 76 = some (.iload 4, 2, 0, 0, 0) := by decide +kernel
theorem fi_14_78 : am_find 14 78 = some (.iastore, 1, 0, 0, 0) := by decide +kernel
theorem fi_14_79 : am_find 14 79 = some (.aload_n 0, 1, 0, 0, 0) := by decide +kernel
theorem fi_14_80 : am_find 14 80 = some (.dup, 1, 0, 0, 0) := by decide +kernel
theorem fi_14_81 : am_find 14 81 = some (.getfield 69, 3, 8, 0, 43) := by decide +kernel
theorem fi_14_84 : am_find 14 84 = some (.iconst 1, 1, 0, 1, 0) := by decide +kernel
theorem fi_14_85 : am_find 14 85 = some (.iadd, 1, 0, 0, 0) := by decide +kernel
theorem fi_14_86 : am_find 14 86 = some (.putfield 69, 3, 8, 0, 43) := by decide +kernel
theorem fi_14_89 : am_find 14 89 = some (.iload 4, 2, 0, 0, 0) := by decide +kernel
theorem fi_14_91 : am_find 14 91 = some (.ireturn, 1, 0, 0, 0) := by decide +kernel
theorem b14_0 {d L : Nat} {σ : St} {Q : Option AV → AW → Prop} {u1 u2 u3 u4 u5 : AV} (h1 : -2147483648 ≤ (σ 20 0) * 4 ∧ (σ 20 0) * 4 ≤ 2147483647) : R d 14 0 [vR 20, u1, u2, u3, u4, u5] [] (WS L σ) Q = if (σ 20 0) < 0 then R d 14 89 [vR 20, u1, u2, u3, vI (σ 20 0), vI ((σ 20 0) * 4)] [] (WS L σ) Q else R d 14 17 [vR 20, u1, u2, u3, vI (σ 20 0), vI ((σ 20 0) * 4)] [] (WS L σ) Q := K_aload_n fi_14_0 rfl <| K_gf fi_14_1 kd_20 mk_20_0 <| K_istore fi_14_4 (Nat.le_of_ble_eq_true rfl) rfl rfl <| K_iload fi_14_6 rfl <| K_iconst fi_14_8 <| K_imulx fi_14_9 h1 <| K_istore fi_14_10 (Nat.le_of_ble_eq_true rfl) rfl rfl <| K_iload fi_14_12 rfl <| R_if_lt fi_14_14 rfl
theorem b14_17 {d L : Nat} {σ : St} {Q : Option AV → AW → Prop} {x5 : Int} {u1 u2 u3 u4 : AV} (h1 : -2147483648 ≤ x5 + 3 ∧ x5 + 3 ≤ 2147483647) : R d 14 17 [vR 20, u1, u2, u3, u4, vI x5] [] (WS L σ) Q = if 32 ≤ (x5 + 3) then R d 14 89 [vR 20, u1, u2, u3, u4, vI x5] [] (WS L σ) Q else R d 14 29 [vR 20, u1, u2, u3, u4, vI x5] [] (WS L σ) Q := K_iload fi_14_17 rfl <| K_iconst fi_14_19 <| K_iaddx fi_14_20 h1 <| K_aload_n fi_14_21 rfl <| K_gf fi_14_22 kd_20 mk_20_9 <| K_alenx fi_14_25 (Or.inl kd_27) rfl <| R_icmp_ge fi_14_26 rfl
theorem b14_29 {d L : Nat} {σ : St} {Q : Option AV → AW → Prop} {x5 x1 : Int} {u2 u3 u4 : AV} (h1 : -2147483648 ≤ x5 + 0 ∧ x5 + 0 ≤ 2147483647) (h2 : 0 ≤ x5 + 0) (h3 : (x5 + 0) < 32) : R d 14 29 [vR 20, vI x1, u2, u3, u4, vI x5] [] (WS L σ) Q = R d 14 39 [vR 20, vI x1, u2, u3, u4, vI x5] [] (WS L (st2 σ 27 (x5 + 0) x1)) Q := K_aload_n fi_14_29 rfl <| K_gf fi_14_30 kd_20 mk_20_9 <| K_iload fi_14_33 rfl <| K_iconst fi_14_35 <| K_iaddx fi_14_36 h1 <| K_iload_n fi_14_37 rfl <| K_is fi_14_38 kd_27 h2 h3 <| rfl
theorem b14_39 {d L : Nat} {σ : St} {Q : Option AV → AW → Prop} {x5 x2 : Int} {u1 u3 u4 : AV} (h1 : -2147483648 ≤ x5 + 1 ∧ x5 + 1 ≤ 2147483647) (h2 : 0 ≤ x5 + 1) (h3 : (x5 + 1) < 32) : R d 14 39 [vR 20, u1, vI x2, u3, u4, vI x5] [] (WS L σ) Q = R d 14 49 [vR 20, u1, vI x2, u3, u4, vI x5] [] (WS L (st2 σ 27 (x5 + 1) x2)) Q := K_aload_n fi_14_39 rfl <| K_gf fi_14_40 kd_20 mk_20_9 <| K_iload fi_14_43 rfl <| K_iconst fi_14_45 <| K_iaddx fi_14_46 h1 <| K_iload_n fi_14_47 rfl <| K_is fi_14_48 kd_27 h2 h3 <| rfl
theorem b14_49 {d L : Nat} {σ : St} {Q : Option AV → AW → Prop} {x5 x3 : Int} {u1 u2 u4 : AV} (h1 : -2147483648 ≤ x5 + 2 ∧ x5 + 2 ≤ 2147483647) : R d 14 49 [vR 20, u1, u2, vI x3, u4, vI x5] [] (WS L σ) Q = if 0 ≤ x3 then R d 14 66 [vR 20, u1, u2, vI x3, u4, vI x5] [vI (x5 + 2), vR 27] (WS L σ) Q else R d 14 61 [vR 20, u1, u2, vI x3, u4, vI x5] [vI (x5 + 2), vR 27] (WS L σ) Q := K_aload_n fi_14_49 rfl <| K_gf fi_14_50 kd_20 mk_20_9 <| K_iload fi_14_53 rfl <| K_iconst fi_14_55 <| K_iaddx fi_14_56 h1 <| K_iload_n fi_14_57 rfl <| R_if_ge fi_14_58 rfl
theorem b14_61 {d L : Nat} {σ : St} {Q : Option AV → AW → Prop} {y0 : Int} {u0 u1 u2 u3 u4 u5 : AV} : R d 14 61 [u0, u1, u2, u3, u4, u5] [vI y0, vR 27] (WS L σ) Q = R d 14 67 [u0, u1, u2, u3, u4, u5] [vI 9, vI y0, vR 27] (WS L σ) Q := K_bipush fi_14_61 <| R_goto fi_14_63 rfl
theorem b14_66 {d L : Nat} {σ : St} {Q : Option AV → AW → Prop} {y0 x3 : Int} {u0 u1 u2 u4 u5 : AV} : R d 14 66 [u0, u1, u2, vI x3, u4, u5] [vI y0, vR 27] (WS L σ) Q = R d 14 67 [u0, u1, u2, vI x3, u4, u5] [vI x3, vI y0, vR 27] (WS L σ) Q := K_iload_n fi_14_66 rfl <| rfl
theorem b14_67 {d L : Nat} {σ : St} {Q : Option AV → AW → Prop} {y0 y1 : Int} {u0 u1 u2 u3 u4 u5 : AV} (h1 : 0 ≤ y1) (h2 : y1 < 32) : R d 14 67 [u0, u1, u2, u3, u4, u5] [vI y0, vI y1, vR 27] (WS L σ) Q = R d 14 68 [u0, u1, u2, u3, u4, u5] [] (WS L (st2 σ 27 y1 y0)) Q := K_is fi_14_67 kd_27 h1 h2 <| rfl
theorem b14_68 {d L : Nat} {σ : St} {Q : Option AV → AW → Prop} {x5 x4 : Int} {u1 u2 u3 : AV} (h1 : -2147483648 ≤ x5 + 3 ∧ x5 + 3 ≤ 2147483647) (h2 : 0 ≤ x5 + 3) (h3 : (x5 + 3) < 32) : R d 14 68 [vR 20, u1, u2, u3, vI x4, vI x5] [] (WS L σ) Q = R d 14 79 [vR 20, u1, u2, u3, vI x4, vI x5] [] (WS L (st2 σ 27 (x5 + 3) x4)) Q := K_aload_n fi_14_68 rfl <| K_gf fi_14_69 kd_20 mk_20_9 <| K_iload fi_14_72 rfl <| K_iconst fi_14_74 <| K_iaddx fi_14_75 h1 <| K_iload fi_14_76 rfl <| K_is fi_14_78 kd_27 h2 h3 <| rfl
theorem b14_79 {d L : Nat} {σ : St} {Q : Option AV → AW → Prop} {u1 u2 u3 u4 u5 : AV} (h1 : -2147483648 ≤ (σ 20 0) + 1 ∧ (σ 20 0) + 1 ≤ 2147483647) : R d 14 79 [vR 20, u1, u2, u3, u4, u5] [] (WS L σ) Q = R d 14 89 [vR 20, u1, u2, u3, u4, u5] [] (WS L (st2 σ 20 0 ((σ 20 0) + 1))) Q := K_aload_n fi_14_79 rfl <| K_dupr fi_14_80 <| K_gf fi_14_81 kd_20 mk_20_0 <| K_iconst fi_14_84 <| K_iaddx fi_14_85 h1 <| K_pf fi_14_86 kd_20 rfl rfl rfl rfl <| rfl
theorem b14_89 {d L : Nat} {σ : St} {Q : Option AV → AW → Prop} {x4 : Int} {u0 u1 u2 u3 u5 : AV} : R d 14 89 [u0, u1, u2, u3, vI x4, u5] [] (WS L σ) Q = Q (some (vI x4)) (WS L σ) := K_iload fi_14_89 rfl <| R_ireti fi_14_91 rfl
theorem fi_15_0 : am_find 15 0 = some (.aload_n 0, 1, 0, 0, 0) := by decide +kernel
theorem fi_15_1 : am_find 15 1 = some (.getfield 24, 3, 9, 2, 2) := by decide +kernel
theorem fi_15_4 : am_find 15 4 = some (.aload_n 0, 1, 0, 0, 0) := by decide +kernel
theorem fi_15_5 : am_find 15 5 = some (.getfield 10, 3, 9, 0, 0) := by decide +kernel
theorem fi_15_8 : am_find 15 8 = some (.iload_n 1, 1, 0, 0, 0) := by decide +kernel
theorem fi_15_9 : am_find 15 9 = some (.invokevirtual 304, 3, 16, 1, 17) := by decide +kernel
theorem fi_15_12 : am_find 15 12 = some (.invokevirtual 114, 3, 18, 1, 18) := by decide +kernel
theorem fi_15_15 : am_find 15 15 = some (.pop, 1, 0, 0, 0) := by decide +kernel
theorem fi_15_16 : am_find 15 16 = some (.aload_n 0, 1, 0, 0, 0) := by decide +kernel
theorem fi_15_17 : am_find 15 17 = some (.getfield 10, 3, 9, 0, 0) := by decide +kernel
theorem fi_15_20 : am_find 15 20 = some (.invokevirtual 131, 3, 34, 0, 19) := by decide +kernel
theorem fi_15_23 : am_find 15 23 = some (.istore_n 2, 1, 0, 0, 0) := by decide +kernel
theorem fi_15_24 : am_find 15 24 = some (.iconst 0, 1, 0, 0, 0) := by decide +kernel
theorem fi_15_25 : am_find 15 25 = some (.istore_n 3, 1, 0, 0, 0) := by decide +kernel
theorem fi_15_26 : am_find 15 26 = some (.iload_n 3, 1, 0, 0, 0) := by decide +kernel
theorem fi_15_27 : am_find 15 27 = some (.sipush 256, 3, 0, 256, 0) := by decide +kernel
theorem fi_15_30 : am_find 15 30 = some (.if_icmp .ge 40, 3, 0, 0, 0) := by decide +kernel
theorem fi_15_33 : am_find 15 33 = some (.iload_n 3, 1, 0, 0, 0) := by decide +kernel
theorem fi_15_34 : am_find 15 34 = some (.iload_n 2, 1, 0, 0, 0) := by decide +kernel
theorem fi_15_35 : am_find 15 35 = some (.if_icmp .gt 35, 3, 0, 0, 0) := by decide +kernel
theorem fi_15_38 : am_find 15 38 = some (.aload_n 0, 1, 0, 0, 0) := by decide +kernel
theorem fi_15_39 : am_find 15 39 = some (.getfield 10, 3, 9, 0, 0) := by decide +kernel
theorem fi_15_42 : am_find 15 42 = some (.iload_n 1, 1, 0, 0, 0) := by decide +kernel
theorem fi_15_43 : am_find 15 43 = some (.iload_n 3, 1, 0, 0, 0) := by decide +kernel
theorem fi_15_44 : am_find 15 44 = some (.aload_n 0, 1, 0, 0, 0) := by decide +kernel
theorem fi_15_45 : am_find 15 45 = some (.getfield 10, 3, 9, 0, 0) := by decide +kernel
theorem fi_15_48 : am_find 15 48 = some (.iload_n 3, 1, 0, 0, 0) := by decide +kernel
theorem fi_15_49 : am_find 15 49 = some (.invokevirtual 307, 3, 40, 1, 20) := by decide +kernel
theorem fi_15_52 : am_find 15 52 = some (.aload_n 0, 1, 0, 0, 0) := by decide +kernel
theorem fi_15_53 : am_find 15 53 = some (.getfield 24, 3, 9, 2, 2) := by decide +kernel
theorem fi_15_56 : am_find 15 56 = some (.iload_n 3, 1, 0, 0, 0) := by decide +kernel
theorem fi_15_57 : am_find 15 57 = some (.invokevirtual 310, 3, 41, 1, 21) := by decide +kernel
theorem fi_15_60 : am_find 15 60 = some (.iadd, 1, 0, 0, 0) := by decide +kernel
theorem fi_15_61 : am_find 15 61 = some (.invokevirtual 313, 3, 43, 3, 22) := by decide +kernel
theorem fi_15_64 : am_find 15 64 = some (.iinc 3 1, 3, 0, 0, 0) := by decide +kernel
theorem fi_15_67 : am_find 15 67 = some (.goto (-41), 3, 0, 0, 0) := by decide +kernel
theorem fi_15_70 : am_find 15 70 = some (.aload_n 0, 1, 0, 0, 0) := by decide +kernel
theorem fi_15_71 : am_find 15 71 = some (.getfield 10, 3, 9, 0, 0) := by decide +kernel
theorem fi_15_74 : am_find 15 74 = some (.dup, 1, 0, 0, 0) := by decide +kernel
theorem fi_15_75 : am_find 15 75 = some (.getfield 317, 3, 8, 5, 44) := by decide +kernel
theorem fi_15_78 : am_find 15 78 = some (.iconst 1, 1, 0, 1, 0) := by decide +kernel
theorem fi_15_79 : am_find 15 79 = some (.iadd, 1, 0, 0, 0) := by decide +kernel
theorem fi_15_80 : am_find 15 80 = some (.putfield 317, 3, 8, 5, 44) := by decide +kernel
theorem fi_15_83 : am_find 15 83 = some (.return_, 1, 0, 0, 0) := by decide +kernel
theorem b15_0 {d L : Nat} {σ : St} {Q : Option AV → AW → Prop} {x1 : Int} {u2 u3 : AV} : R (d + 1) 15 0 [vR 19, vI x1, u2, u3] [] (WS L σ) Q = R d 16 0 [vR 20, vI x1, vX 9] [] (WS L σ) (fun r w => R (d + 1) 15 12 [vR 19, vI x1, u2, u3] (am_push r [vR 134]) w Q) := K_aload_n fi_15_0 rfl <| K_gf fi_15_1 kd_19 mk_19_2 <| K_aload_n fi_15_4 rfl <| K_gf fi_15_5 kd_19 mk_19_0 <| K_iload_n fi_15_8 rfl <| R_invV fi_15_9 (am_invV_of rfl (kd_20) (Nat.le_of_ble_eq_true rfl) (Nat.le_of_ble_eq_true rfl) rfl rfl)
theorem b15_12 {d L : Nat} {σ : St} {Q : Option AV → AW → Prop} {q0 : Nat} {u0 u1 u2 u3 : AV} : R (d + 1) 15 12 [u0, u1, u2, u3] [vR q0, vR 134] (WS L σ) Q = R d 18 0 [vR 134, vR q0, vX 9] [] (WS L σ) (fun r w => R (d + 1) 15 15 [u0, u1, u2, u3] (am_push r []) w Q) := R_invV fi_15_12 (am_invV_of rfl (kd_134) (Nat.le_of_ble_eq_true rfl) (Nat.le_of_ble_eq_true rfl) rfl rfl)
theorem b15_12n {d L : Nat} {σ : St} {Q : Option AV → AW → Prop} {u0 u1 u2 u3 : AV} : R (d + 1) 15 12 [u0, u1, u2, u3] [vX 0, vR 134] (WS L σ) Q = R d 18 0 [vR 134, vX 0, vX 9] [] (WS L σ) (fun r w => R (d + 1) 15 15 [u0, u1, u2, u3] (am_push r []) w Q) := R_invV fi_15_12 (am_invV_of rfl (kd_134) (Nat.le_of_ble_eq_true rfl) (Nat.le_of_ble_eq_true rfl) rfl rfl)
theorem b15_15 {d L : Nat} {σ : St} {Q : Option AV → AW → Prop} {y0 : Int} {u1 u2 u3 : AV} : R (d + 1) 15 15 [vR 19, u1, u2, u3] [vI y0] (WS L σ) Q = R d 34 0 [vR 20] [] (WS L σ) (fun r w => R (d + 1) 15 23 [vR 19, u1, u2, u3] (am_push r []) w Q) := K_popi fi_15_15 <| K_aload_n fi_15_16 rfl <| K_gf fi_15_17 kd_19 mk_19_0 <| R_invV fi_15_20 (am_invV_of rfl (kd_20) (Nat.le_of_ble_eq_true rfl) (Nat.le_of_ble_eq_true rfl) rfl rfl)
theorem b15_23 {d L : Nat} {σ : St} {Q : Option AV → AW → Prop} {y0 x1 : Int} {u0 u2 u3 : AV} : R d 15 23 [u0, vI x1, u2, u3] [vI y0] (WS L σ) Q = R d 15 26 [u0, vI x1, vI y0, vI 0] [] (WS L σ) Q := K_istore_n fi_15_23 (Nat.le_of_ble_eq_true rfl) rfl rfl <| K_iconst fi_15_24 <| K_istore_n fi_15_25 (Nat.le_of_ble_eq_true rfl) rfl rfl <| rfl
theorem b15_26 {d L : Nat} {σ : St} {Q : Option AV → AW → Prop} {x3 : Int} {u0 u1 u2 : AV} : R d 15 26 [u0, u1, u2, vI x3] [] (WS L σ) Q = if 256 ≤ x3 then R d 15 70 [u0, u1, u2, vI x3] [] (WS L σ) Q else R d 15 33 [u0, u1, u2, vI x3] [] (WS L σ) Q := K_iload_n fi_15_26 rfl <| K_sipush fi_15_27 <| R_icmp_ge fi_15_30 rfl
theorem b15_33 {d L : Nat} {σ : St} {Q : Option AV → AW → Prop} {x3 x2 : Int} {u0 u1 : AV} : R d 15 33 [u0, u1, vI x2, vI x3] [] (WS L σ) Q = if x2 < x3 then R d 15 70 [u0, u1, vI x2, vI x3] [] (WS L σ) Q else R d 15 38 [u0, u1, vI x2, vI x3] [] (WS L σ) Q := K_iload_n fi_15_33 rfl <| K_iload_n fi_15_34 rfl <| R_icmp_gt fi_15_35 rfl
theorem b15_38 {d L : Nat} {σ : St} {Q : Option AV → AW → Prop} {x1 x3 : Int} {u2 : AV} : R (d + 1) 15 38 [vR 19, vI x1, u2, vI x3] [] (WS L σ) Q = R d 40 0 [vR 20, vI x3, vX 9, vX 9] [] (WS L σ) (fun r w => R (d + 1) 15 52 [vR 19, vI x1, u2, vI x3] (am_push r [vI x3, vI x1, vR 20]) w Q) := K_aload_n fi_15_38 rfl <| K_gf fi_15_39 kd_19 mk_19_0 <| K_iload_n fi_15_42 rfl <| K_iload_n fi_15_43 rfl <| K_aload_n fi_15_44 rfl <| K_gf fi_15_45 kd_19 mk_19_0 <| K_iload_n fi_15_48 rfl <| R_invV fi_15_49 (am_invV_of rfl (kd_20) (Nat.le_of_ble_eq_true rfl) (Nat.le_of_ble_eq_true rfl) rfl rfl)
theorem b15_52 {d L : Nat} {σ : St} {Q : Option AV → AW → Prop} {y0 y1 y2 x3 : Int} {u1 u2 : AV} : R (d + 1) 15 52 [vR 19, u1, u2, vI x3] [vI y0, vI y1, vI y2, vR 20] (WS L σ) Q = R d 41 0 [vR 134, vI x3, vX 9, vX 9, vX 9] [] (WS L σ) (fun r w => R (d + 1) 15 60 [vR 19, u1, u2, vI x3] (am_push r [vI y0, vI y1, vI y2, vR 20]) w Q) := K_aload_n fi_15_52 rfl <| K_gf fi_15_53 kd_19 mk_19_2 <| K_iload_n fi_15_56 rfl <| R_invV fi_15_57 (am_invV_of rfl (kd_134) (Nat.le_of_ble_eq_true rfl) (Nat.le_of_ble_eq_true rfl) rfl rfl)
theorem b15_60 {d L : Nat} {σ : St} {Q : Option AV → AW → Prop} {y0 y1 y2 y3 : Int} {u0 u1 u2 u3 : AV} (h1 : -2147483648 ≤ y1 + y0 ∧ y1 + y0 ≤ 2147483647) : R (d + 1) 15 60 [u0, u1, u2, u3] [vI y0, vI y1, vI y2, vI y3, vR 20] (WS L σ) Q = R d 43 0 [vR 20, vI y3, vI y2, vI (y1 + y0), vX 9] [] (WS L σ) (fun r w => R (d + 1) 15 64 [u0, u1, u2, u3] (am_push r []) w Q) := K_iaddx fi_15_60 h1 <| R_invV fi_15_61 (am_invV_of rfl (kd_20) (Nat.le_of_ble_eq_true rfl) (Nat.le_of_ble_eq_true rfl) rfl rfl)
theorem b15_64 {d L : Nat} {σ : St} {Q : Option AV → AW → Prop} {x3 : Int} {u0 u1 u2 : AV} (h1 : -2147483648 ≤ x3 + 1 ∧ x3 + 1 ≤ 2147483647) : R d 15 64 [u0, u1, u2, vI x3] [] (WS L σ) Q = R d 15 26 [u0, u1, u2, vI (x3 + 1)] [] (WS L σ) Q := K_iincx fi_15_64 rfl (Nat.le_of_ble_eq_true rfl) rfl h1 rfl <| R_goto fi_15_67 rfl
theorem b15_70 {d L : Nat} {σ : St} {Q : Option AV → AW → Prop} {u1 u2 u3 : AV} (h1 : -2147483648 ≤ (σ 20 5) + 1 ∧ (σ 20 5) + 1 ≤ 2147483647) : R d 15 70 [vR 19, u1, u2, u3] [] (WS L σ) Q = R d 15 83 [vR 19, u1, u2, u3] [] (WS L (st2 σ 20 5 ((σ 20 5) + 1))) Q := K_aload_n fi_15_70 rfl <| K_gf fi_15_71 kd_19 mk_19_0 <| K_dupr fi_15_74 <| K_gf fi_15_75 kd_20 mk_20_5 <| K_iconst fi_15_78 <| K_iaddx fi_15_79 h1 <| K_pf fi_15_80 kd_20 rfl rfl rfl rfl <| rfl
theorem b15_83 {d L : Nat} {σ : St} {Q : Option AV → AW → Prop} {u0 u1 u2 u3 : AV} : R d 15 83 [u0, u1, u2, u3] [] (WS L σ) Q = Q none (WS L σ) := R_return fi_15_83
theorem fi_16_0 : am_find 16 0 = some (.aload_n 0, 1, 0, 0, 0) := by decide +kernel
theorem fi_16_1 : am_find 16 1 = some (.iload_n 1, 1, 0, 0, 0) := by decide +kernel
theorem fi_16_2 : am_find 16 2 = some (.invokevirtual 105, 3, 17, 1, 23) := by decide +kernel
theorem fi_16_5 : am_find 16 5 = some (.istore_n 2, 1, 0, 0, 0) := by decide +kernel
theorem fi_16_6 : am_find 16 6 = some (.iload_n 2, 1, 0, 0, 0) := by decide +kernel
theorem fi_16_7 : am_find 16 7 = some (.aload_n 0, 1, 0, 0, 0) := by decide +kernel
theorem fi_16_8 : am_find 16 8 = some (.getfield 53, 3, 8, 14, 19) := by decide +kernel
theorem fi_16_11 : am_find 16 11 = some (.arraylength, 1, 0, 0, 0) := by decide +kernel
theorem fi_16_12 : am_find 16 12 = some (.invokestatic 101, 3, 13, 2, 24) := by decide +kernel
theorem fi_16_15 : am_find 16 15 = some (.ifCond .eq 12, 3, 0, 0, 0) := by decide +kernel
theorem fi_16_18 : am_find 16 18 = some (.aload_n 0, 1, 0, 0, 0) := by decide +kernel
theorem fi_16_19 : am_find 16 19 = some (.getfield 53, 3, 8, 14, 19) := by decide +kernel
theorem fi_16_22 : am_find 16 22 = some (.iload_n 2, 1, 0, 0, 0) := by decide +kernel
theorem fi_16_23 : am_find 16 23 = some (.aaload, 1, 0, 0, 0) := by decide +kernel
theorem fi_16_24 : am_find 16 24 = some (.goto 4, 3, 0, 0, 0) := by decide +kernel
theorem fi_16_27 : am_find 16 27 = some (.aconst_null, 1, 0, 0, 0) := by decide +kernel
theorem fi_16_28 : am_find 16 28 = some (.areturn, 1, 0, 0, 0) := by decide +kernel
theorem b16_0 {d L : Nat} {σ : St} {Q : Option AV → AW → Prop} {x1 : Int} {u2 : AV} : R (d + 1) 16 0 [vR 20, vI x1, u2] [] (WS L σ) Q = R d 17 0 [vR 20, vI x1] [] (WS L σ) (fun r w => R (d + 1) 16 5 [vR 20, vI x1, u2] (am_push r []) w Q) := K_aload_n fi_16_0 rfl <| K_iload_n fi_16_1 rfl <| R_invV fi_16_2 (am_invV_of rfl (kd_20) (Nat.le_of_ble_eq_true rfl) (Nat.le_of_ble_eq_true rfl) rfl rfl)
theorem b16_5 {d L : Nat} {σ : St} {Q : Option AV → AW → Prop} {y0 x1 : Int} {u2 : AV} : R (d + 1) 16 5 [vR 20, vI x1, u2] [vI y0] (WS L σ) Q = R d 13 0 [vI y0, vI 6] [] (WS L σ) (fun r w => R (d + 1) 16 15 [vR 20, vI x1, vI y0] (am_push r []) w Q) := K_istore_n fi_16_5 (Nat.le_of_ble_eq_true rfl) rfl rfl <| K_iload_n fi_16_6 rfl <| K_aload_n fi_16_7 rfl <| K_gf fi_16_8 kd_20 mk_20_14 <| K_alenx fi_16_11 (Or.inr (Or.inr (Or.inl kd_32))) rfl <| R_invS fi_16_12 (by decide) (am_invS_of (Nat.le_of_ble_eq_true rfl) rfl (Nat.le_of_ble_eq_true rfl) (Nat.le_of_ble_eq_true rfl) rfl rfl)
theorem b16_15 {d L : Nat} {σ : St} {Q : Option AV → AW → Prop} {y0 : Int} {u0 u1 u2 : AV} : R d 16 15 [u0, u1, u2] [vI y0] (WS L σ) Q = if y0 = 0 then R d 16 27 [u0, u1, u2] [] (WS L σ) Q else R d 16 18 [u0, u1, u2] [] (WS L σ) Q := R_if_eq fi_16_15 rfl
theorem b16_18 {d L : Nat} {σ : St} {Q : Option AV → AW → Prop} {x2 : Int} {u1 : AV} (h1 : 0 ≤ x2) (h2 : x2 < 6) : R d 16 18 [vR 20, u1, vI x2] [] (WS L σ) Q = R d 16 28 [vR 20, u1, vI x2] [vR (33 + 2 * x2.toNat)] (WS L σ) Q := K_aload_n fi_16_18 rfl <| K_gf fi_16_19 kd_20 mk_20_14 <| K_iload_n fi_16_22 rfl <| K_aa fi_16_23 kd_32 h1 h2 (aa_32 h1 h2) <| R_goto fi_16_24 rfl
theorem b16_27 {d L : Nat} {σ : St} {Q : Option AV → AW → Prop} {u0 u1 u2 : AV} : R d 16 27 [u0, u1, u2] [] (WS L σ) Q = R d 16 28 [u0, u1, u2] [vX 0] (WS L σ) Q := K_aconst fi_16_27 <| rfl
theorem b16_28 {d L : Nat} {σ : St} {Q : Option AV → AW → Prop} {q0 : Nat} {u0 u1 u2 : AV} : R d 16 28 [u0, u1, u2] [vR q0] (WS L σ) Q = Q (some (vR q0)) (WS L σ) := R_aret fi_16_28
theorem b16_28n {d L : Nat} {σ : St} {Q : Option AV → AW → Prop} {u0 u1 u2 : AV} : R d 16 28 [u0, u1, u2] [vX 0] (WS L σ) Q = Q (some (vX 0)) (WS L σ) := R_aretN fi_16_28
theorem fi_17_0 : am_find 17 0 = some (.iload_n 1, 1, 0, 0, 0) := by decide +kernel
theorem fi_17_1 : am_find 17 1 = some (.aload_n 0, 1, 0, 0, 0) := by decide +kernel
theorem fi_17_2 : am_find 17 2 = some (.getfield 37, 3, 8, 10, 15) := by decide +kernel
theorem fi_17_5 : am_find 17 5 = some (.arraylength, 1, 0, 0, 0) := by decide +kernel
theorem fi_17_6 : am_find 17 6 = some (.invokestatic 101, 3, 13, 2, 24) := by decide +kernel
theorem fi_17_9 : am_find 17 9 = some (.ifCond .eq 12, 3, 0, 0, 0) := by decide +kernel
theorem fi_17_12 : am_find 17 12 = some (.aload_n 0, 1, 0, 0, 0) := by decide +kernel
theorem fi_17_13 : am_find 17 13 = some (.getfield 37, 3, 8, 10, 15) := by decide +kernel
theorem fi_17_16 : am_find 17 16 = some (.iload_n 1, 1, 0, 0, 0) := by decide +kernel
theorem fi_17_17 : am_find 17 17 = some (.iaload, 1, 0, 0, 0) := by decide +kernel
theorem fi_17_18 : am_find 17 18 = some (.goto 4, 3, 0, 0, 0) := by decide +kernel
theorem fi_17_21 : am_find 17 21 = some (.iconst (-1), 1, 0, (-1), 0) := by decide +kernel
theorem fi_17_22 : am_find 17 22 = some (.ireturn, 1, 0, 0, 0) := by decide +kernel
theorem b17_0 {d L : Nat} {σ : St} {Q : Option AV → AW → Prop} {x1 : Int} : R (d + 1) 17 0 [vR 20, vI x1] [] (WS L σ) Q = R d 13 0 [vI x1, vI 3] [] (WS L σ) (fun r w => R (d + 1) 17 9 [vR 20, vI x1] (am_push r []) w Q) := K_iload_n fi_17_0 rfl <| K_aload_n fi_17_1 rfl <| K_gf fi_17_2 kd_20 mk_20_10 <| K_alenx fi_17_5 (Or.inl kd_28) rfl <| R_invS fi_17_6 (by decide) (am_invS_of (Nat.le_of_ble_eq_true rfl) rfl (Nat.le_of_ble_eq_true rfl) (Nat.le_of_ble_eq_true rfl) rfl rfl)
theorem b17_9 {d L : Nat} {σ : St} {Q : Option AV → AW → Prop} {y0 : Int} {u0 u1 : AV} : R d 17 9 [u0, u1] [vI y0] (WS L σ) Q = if y0 = 0 then R d 17 21 [u0, u1] [] (WS L σ) Q else R d 17 12 [u0, u1] [] (WS L σ) Q := R_if_eq fi_17_9 rfl
theorem b17_12 {d L : Nat} {σ : St} {Q : Option AV → AW → Prop} {x1 : Int} (h1 : 0 ≤ x1) (h2 : x1 < 3) : R d 17 12 [vR 20, vI x1] [] (WS L σ) Q = R d 17 22 [vR 20, vI x1] [vI (σ 28 x1)] (WS L σ) Q := K_aload_n fi_17_12 rfl <| K_gf fi_17_13 kd_20 mk_20_10 <| K_iload_n fi_17_16 rfl <| K_ia fi_17_17 kd_28 h1 h2 <| R_goto fi_17_18 rfl
theorem b17_21 {d L : Nat} {σ : St} {Q : Option AV → AW → Prop} {u0 u1 : AV} : R d 17 21 [u0, u1] [] (WS L σ) Q = R d 17 22 [u0, u1] [vI (-1)] (WS L σ) Q := K_iconst fi_17_21 <| rfl
theorem b17_22 {d L : Nat} {σ : St} {Q : Option AV → AW → Prop} {y0 : Int} {u0 u1 : AV} : R d 17 22 [u0, u1] [vI y0] (WS L σ) Q = Q (some (vI y0)) (WS L σ) := R_ireti fi_17_22 rfl
theorem fi_18_0 : am_find 18 0 = some (.aload_n 0, 1, 0, 0, 0) := by decide +kernel
theorem fi_18_1 : am_find 18 1 = some (.iconst 0, 1, 0, 0, 0) := by decide +kernel
theorem fi_18_2 : am_find 18 2 = some (.putfield 28, 3, 4, 4, 45) := by decide +kernel
theorem fi_18_5 : am_find 18 5 = some (.aload_n 0, 1, 0, 0, 0) := by decide +kernel
theorem fi_18_6 : am_find 18 6 = some (.iconst (-1), 1, 0, (-1), 0) := by decide +kernel
theorem fi_18_7 : am_find 18 7 = some (.putfield 32, 3, 4, 9, 46) := by decide +kernel
theorem fi_18_10 : am_find 18 10 = some (.aload_n 1, 1, 0, 0, 0) := by decide +kernel
theorem fi_18_11 : am_find 18 11 = some (.ifnonnull 8, 3, 0, 0, 0) := by decide +kernel
theorem fi_18_14 : am_find 18 14 = some (.aload_n 0, 1, 0, 0, 0) := by decide +kernel
theorem fi_18_15 : am_find 18 15 = some (.getfield 32, 3, 4, 9, 46) := by decide +kernel
theorem fi_18_18 : am_find 18 18 = some (.ireturn, 1, 0, 0, 0) := by decide +kernel
theorem fi_18_19 : am_find 18 19 = some (.aload_n 0, 1, 0, 0, 0) := by decide +kernel
theorem fi_18_20 : am_find 18 20 = some (.aload_n 1, 1, 0, 0, 0) := by decide +kernel
theorem fi_18_21 : am_find 18 21 = some (.getfield 35, 3, 5, 0, 47) := by decide +kernel
theorem fi_18_24 : am_find 18 24 = some (.putfield 21, 3, 4, 5, 26) := by decide +kernel
theorem fi_18_27 : am_find 18 27 = some (.aload_n 0, 1, 0, 0, 0) := by decide +kernel
theorem fi_18_28 : am_find 18 28 = some (.aload_n 1, 1, 0, 0, 0) := by decide +kernel
theorem fi_18_29 : am_find 18 29 = some (.getfield 40, 3, 5, 1, 48) := by decide +kernel
theorem fi_18_32 : am_find 18 32 = some (.putfield 43, 3, 4, 6, 49) := by decide +kernel
theorem fi_18_35 : am_find 18 35 = some (.aload_n 0, 1, 0, 0, 0) := by decide +kernel
theorem fi_18_36 : am_find 18 36 = some (.iconst (-1), 1, 0, (-1), 0) := by decide +kernel
theorem fi_18_37 : am_find 18 37 = some (.putfield 44, 3, 4, 7, 50) := by decide +kernel
theorem fi_18_40 : am_find 18 40 = some (.aload_n 0, 1, 0, 0, 0) := by decide +kernel
theorem fi_18_41 : am_find 18 41 = some (.invokevirtual 47, 3, 19, 0, 25) := by decide +kernel
theorem fi_18_44 : am_find 18 44 = some (.aload_n 0, 1, 0, 0, 0) := by decide +kernel
theorem fi_18_45 : am_find 18 45 = some (.invokevirtual 50, 3, 20, 0, 26) := by decide +kernel
theorem fi_18_48 : am_find 18 48 = some (.iconst 1, 1, 0, 1, 0) := by decide +kernel
theorem fi_18_49 : am_find 18 49 = some (.istore_n 2, 1, 0, 0, 0) := by decide +kernel
theorem fi_18_50 : am_find 18 50 = some (.iload_n 2, 1, 0, 0, 0) := by decide +kernel
theorem fi_18_51 : am_find 18 51 = some (.bipush 10, 2, 0, 10, 0) := by decide +kernel
theorem fi_18_53 : am_find 18 53 = some (.if_icmp .ge 26, 3, 0, 0, 0) := by decide +kernel
theorem fi_18_56 : am_find 18 56 = some (.aload_n 0, 1, 0, 0, 0) := by decide +kernel
theorem fi_18_57 : am_find 18 57 = some (.getfield 53, 3, 4, 8, 51) := by decide +kernel
theorem fi_18_60 : am_find 18 60 = some (.bipush 59, 2, 0, 59, 0) := by decide +kernel
theorem fi_18_62 : am_find 18 62 = some (.if_icmp .ne 17, 3, 0, 0, 0) := by decide +kernel
theorem fi_18_65 : am_find 18 65 = some (.aload_n 0, 1, 0, 0, 0) := by decide +kernel
theorem fi_18_66 : am_find 18 66 = some (.invokevirtual 47, 3, 19, 0, 25) := by decide +kernel
theorem fi_18_69 : am_find 18 69 = some (.aload_n 0, 1, 0, 0, 0) := by decide +kernel
theorem fi_18_70 : am_find 18 70 = some (.invokevirtual 50, 3, 20, 0, 26) := by decide +kernel
theorem fi_18_73 : am_find 18 73 = some (.iinc 2 1, 3, 0, 0, 0) := by decide +kernel
theorem fi_18_76 : am_find 18 76 = some (.goto (-26), 3, 0, 0, 0) := by decide +kernel
theorem fi_18_79 : am_find 18 79 = some (.aload_n 0, 1, 0, 0, 0) := by decide +kernel
theorem fi_18_80 : am_find 18 80 = some (.getfield 44, 3, 4, 7, 50) := by decide +kernel
theorem fi_18_83 : am_find 18 83 = some (.aload_n 0, 1, 0, 0, 0) := by decide +kernel
theorem fi_18_84 : am_find 18 84 = some (.getfield 43, 3, 4, 6, 49) := by decide +kernel
theorem fi_18_87 : am_find 18 87 = some (.if_icmp .ge 7, 3, 0, 0, 0) := by decide +kernel
theorem fi_18_90 : am_find 18 90 = some (.aload_n 0, 1, 0, 0, 0) := by decide +kernel
theorem fi_18_91 : am_find 18 91 = some (.invokevirtual 56, 3, 21, 0, 27) := by decide +kernel
theorem fi_18_94 : am_find 18 94 = some (.aload_n 0, 1, 0, 0, 0) := by decide +kernel
theorem fi_18_95 : am_find 18 95 = some (.getfield 32, 3, 4, 9, 46) := by decide +kernel
theorem fi_18_98 : am_find 18 98 = some (.ireturn, 1, 0, 0, 0) := by decide +kernel
theorem b18_0n {d L : Nat} {σ : St} {Q : Option AV → AW → Prop} {u1 u2 : AV} : R d 18 0 [vR 134, u1, u2] [] (WS L σ) Q = R d 18 5 [vR 134, u1, u2] [] (WS L (st2 σ 134 4 0)) Q := K_aload_n fi_18_0 rfl <| K_iconst fi_18_1 <| K_pf fi_18_2 kd_134 rfl rfl rfl rfl <| rfl
theorem b18_5n {d L : Nat} {σ : St} {Q : Option AV → AW → Prop} {u1 u2 : AV} : R d 18 5 [vR 134, u1, u2] [] (WS L σ) Q = R d 18 10 [vR 134, u1, u2] [] (WS L (st2 σ 134 9 (-1))) Q := K_aload_n fi_18_5 rfl <| K_iconst fi_18_6 <| K_pf fi_18_7 kd_134 rfl rfl rfl rfl <| rfl
theorem b18_10n {d L : Nat} {σ : St} {Q : Option AV → AW → Prop} {u0 u2 : AV} : R d 18 10 [u0, vX 0, u2] [] (WS L σ) Q = R d 18 14 [u0, vX 0, u2] [] (WS L σ) Q := K_aload_nN fi_18_10 rfl <| R_ifnonnullN fi_18_11
theorem b18_14n {d L : Nat} {σ : St} {Q : Option AV → AW → Prop} {u1 u2 : AV} : R d 18 14 [vR 134, u1, u2] [] (WS L σ) Q = Q (some (vI (σ 134 9))) (WS L σ) := K_aload_n fi_18_14 rfl <| K_gf fi_18_15 kd_134 mk_134_9 <| R_ireti fi_18_18 rfl
theorem b18_0 {d L : Nat} {σ : St} {Q : Option AV → AW → Prop} {u1 u2 : AV} : R d 18 0 [vR 134, u1, u2] [] (WS L σ) Q = R d 18 5 [vR 134, u1, u2] [] (WS L (st2 σ 134 4 0)) Q := K_aload_n fi_18_0 rfl <| K_iconst fi_18_1 <| K_pf fi_18_2 kd_134 rfl rfl rfl rfl <| rfl
theorem b18_5 {d L : Nat} {σ : St} {Q : Option AV → AW → Prop} {u1 u2 : AV} : R d 18 5 [vR 134, u1, u2] [] (WS L σ) Q = R d 18 10 [vR 134, u1, u2] [] (WS L (st2 σ 134 9 (-1))) Q := K_aload_n fi_18_5 rfl <| K_iconst fi_18_6 <| K_pf fi_18_7 kd_134 rfl rfl rfl rfl <| rfl
theorem b18_10 {d L : Nat} {σ : St} {Q : Option AV → AW → Prop} {r1 : Nat} {u0 u2 : AV} : R d 18 10 [u0, vR r1, u2] [] (WS L σ) Q = R d 18 19 [u0, vR r1, u2] [] (WS L σ) Q := K_aload_n fi_18_10 rfl <| R_ifnonnull fi_18_11 rfl
theorem b18_19 {d L : Nat} {σ : St} {Q : Option AV → AW → Prop} {r1 : Nat} {u2 : AV} (h1 : KD r1 = 5) : R d 18 19 [vR 134, vR r1, u2] [] (WS L σ) Q = R d 18 27 [vR 134, vR r1, u2] [] (WS L (st2 σ 134 5 ((r1 + 1 : Nat) : Int))) Q := K_aload_n fi_18_19 rfl <| K_aload_n fi_18_20 rfl <| K_gf fi_18_21 h1 (row_it h1) <| K_pfr fi_18_24 kd_134 rfl rfl rfl rfl <| rfl
theorem b18_27 {d L : Nat} {σ : St} {Q : Option AV → AW → Prop} {r1 : Nat} {u2 : AV} (h1 : KD r1 = 5) : R d 18 27 [vR 134, vR r1, u2] [] (WS L σ) Q = R d 18 35 [vR 134, vR r1, u2] [] (WS L (st2 σ 134 6 (σ r1 1))) Q := K_aload_n fi_18_27 rfl <| K_aload_n fi_18_28 rfl <| K_gf fi_18_29 h1 (row_sz h1) <| K_pf fi_18_32 kd_134 rfl rfl rfl rfl <| rfl
theorem b18_35 {d L : Nat} {σ : St} {Q : Option AV → AW → Prop} {u1 u2 : AV} : R d 18 35 [vR 134, u1, u2] [] (WS L σ) Q = R d 18 40 [vR 134, u1, u2] [] (WS L (st2 σ 134 7 (-1))) Q := K_aload_n fi_18_35 rfl <| K_iconst fi_18_36 <| K_pf fi_18_37 kd_134 rfl rfl rfl rfl <| rfl
theorem b18_40 {d L : Nat} {σ : St} {Q : Option AV → AW → Prop} {u1 u2 : AV} : R (d + 1) 18 40 [vR 134, u1, u2] [] (WS L σ) Q = R d 19 0 [vR 134] [] (WS L σ) (fun r w => R (d + 1) 18 44 [vR 134, u1, u2] (am_push r []) w Q) := K_aload_n fi_18_40 rfl <| R_invV fi_18_41 (am_invV_of rfl (kd_134) (Nat.le_of_ble_eq_true rfl) (Nat.le_of_ble_eq_true rfl) rfl rfl)
theorem b18_44 {d L : Nat} {σ : St} {Q : Option AV → AW → Prop} {u1 u2 : AV} : R (d + 1) 18 44 [vR 134, u1, u2] [] (WS L σ) Q = R d 20 0 [vR 134, vX 9, vX 9, vX 9, vX 9] [] (WS L σ) (fun r w => R (d + 1) 18 48 [vR 134, u1, u2] (am_push r []) w Q) := K_aload_n fi_18_44 rfl <| R_invV fi_18_45 (am_invV_of rfl (kd_134) (Nat.le_of_ble_eq_true rfl) (Nat.le_of_ble_eq_true rfl) rfl rfl)
theorem b18_48 {d L : Nat} {σ : St} {Q : Option AV → AW → Prop} {r1 : Nat} {u0 u2 : AV} : R d 18 48 [u0, vR r1, u2] [] (WS L σ) Q = R d 18 50 [u0, vR r1, vI 1] [] (WS L σ) Q := K_iconst fi_18_48 <| K_istore_n fi_18_49 (Nat.le_of_ble_eq_true rfl) rfl rfl <| rfl
theorem b18_50 {d L : Nat} {σ : St} {Q : Option AV → AW → Prop} {x2 : Int} {u0 u1 : AV} : R d 18 50 [u0, u1, vI x2] [] (WS L σ) Q = if 10 ≤ x2 then R d 18 79 [u0, u1, vI x2] [] (WS L σ) Q else R d 18 56 [u0, u1, vI x2] [] (WS L σ) Q := K_iload_n fi_18_50 rfl <| K_bipush fi_18_51 <| R_icmp_ge fi_18_53 rfl
theorem b18_56 {d L : Nat} {σ : St} {Q : Option AV → AW → Prop} {u1 u2 : AV} : R d 18 56 [vR 134, u1, u2] [] (WS L σ) Q = if ¬ (σ 134 8) = 59 then R d 18 79 [vR 134, u1, u2] [] (WS L σ) Q else R d 18 65 [vR 134, u1, u2] [] (WS L σ) Q := K_aload_n fi_18_56 rfl <| K_gf fi_18_57 kd_134 mk_134_8 <| K_bipush fi_18_60 <| R_icmp_ne fi_18_62 rfl
theorem b18_65 {d L : Nat} {σ : St} {Q : Option AV → AW → Prop} {u1 u2 : AV} : R (d + 1) 18 65 [vR 134, u1, u2] [] (WS L σ) Q = R d 19 0 [vR 134] [] (WS L σ) (fun r w => R (d + 1) 18 69 [vR 134, u1, u2] (am_push r []) w Q) := K_aload_n fi_18_65 rfl <| R_invV fi_18_66 (am_invV_of rfl (kd_134) (Nat.le_of_ble_eq_true rfl) (Nat.le_of_ble_eq_true rfl) rfl rfl)
theorem b18_69 {d L : Nat} {σ : St} {Q : Option AV → AW → Prop} {u1 u2 : AV} : R (d + 1) 18 69 [vR 134, u1, u2] [] (WS L σ) Q = R d 20 0 [vR 134, vX 9, vX 9, vX 9, vX 9] [] (WS L σ) (fun r w => R (d + 1) 18 73 [vR 134, u1, u2] (am_push r []) w Q) := K_aload_n fi_18_69 rfl <| R_invV fi_18_70 (am_invV_of rfl (kd_134) (Nat.le_of_ble_eq_true rfl) (Nat.le_of_ble_eq_true rfl) rfl rfl)
theorem b18_73 {d L : Nat} {σ : St} {Q : Option AV → AW → Prop} {x2 : Int} {r1 : Nat} {u0 : AV} (h1 : -2147483648 ≤ x2 + 1 ∧ x2 + 1 ≤ 2147483647) : R d 18 73 [u0, vR r1, vI x2] [] (WS L σ) Q = R d 18 50 [u0, vR r1, vI (x2 + 1)] [] (WS L σ) Q := K_iincx fi_18_73 rfl (Nat.le_of_ble_eq_true rfl) rfl h1 rfl <| R_goto fi_18_76 rfl
theorem b18_79 {d L : Nat} {σ : St} {Q : Option AV → AW → Prop} {u1 u2 : AV} : R d 18 79 [vR 134, u1, u2] [] (WS L σ) Q = if (σ 134 6) ≤ (σ 134 7) then R d 18 94 [vR 134, u1, u2] [] (WS L σ) Q else R d 18 90 [vR 134, u1, u2] [] (WS L σ) Q := K_aload_n fi_18_79 rfl <| K_gf fi_18_80 kd_134 mk_134_7 <| K_aload_n fi_18_83 rfl <| K_gf fi_18_84 kd_134 mk_134_6 <| R_icmp_ge fi_18_87 rfl
theorem b18_90 {d L : Nat} {σ : St} {Q : Option AV → AW → Prop} {u1 u2 : AV} : R (d + 1) 18 90 [vR 134, u1, u2] [] (WS L σ) Q = R d 21 0 [vR 134] [] (WS L σ) (fun r w => R (d + 1) 18 94 [vR 134, u1, u2] (am_push r []) w Q) := K_aload_n fi_18_90 rfl <| R_invV fi_18_91 (am_invV_of rfl (kd_134) (Nat.le_of_ble_eq_true rfl) (Nat.le_of_ble_eq_true rfl) rfl rfl)
theorem b18_94 {d L : Nat} {σ : St} {Q : Option AV → AW → Prop} {u1 u2 : AV} : R d 18 94 [vR 134, u1, u2] [] (WS L σ) Q = Q (some (vI (σ 134 9))) (WS L σ) := K_aload_n fi_18_94 rfl <| K_gf fi_18_95 kd_134 mk_134_9 <| R_ireti fi_18_98 rfl
theorem fi_19_0 : am_find 19 0 = some (.aload_n 0, 1, 0, 0, 0) := by decide +kernel
theorem fi_19_1 : am_find 19 1 = some (.dup, 1, 0, 0, 0) := by decide +kernel
theorem fi_19_2 : am_find 19 2 = some (.getfield 44, 3, 4, 7, 50) := by decide +kernel
theorem fi_19_5 : am_find 19 5 = some (.iconst 1, 1, 0, 1, 0) := by decide +kernel
theorem fi_19_6 : am_find 19 6 = some (.iadd, 1, 0, 0, 0) := by decide +kernel
theorem fi_19_7 : am_find 19 7 = some (.putfield 44, 3, 4, 7, 50) := by decide +kernel
theorem fi_19_10 : am_find 19 10 = some (.aload_n 0, 1, 0, 0, 0) := by decide +kernel
theorem fi_19_11 : am_find 19 11 = some (.aload_n 0, 1, 0, 0, 0) := by decide +kernel
theorem fi_19_12 : am_find 19 12 = some (.getfield 44, 3, 4, 7, 50) := by decide +kernel
theorem fi_19_15 : am_find 19 15 = some (.ifCond .lt 38, 3, 0, 0, 0) := by decide +kernel
theorem fi_19_18 : am_find 19 18 = some (.aload_n 0, 1, 0, 0, 0) := by decide +kernel
theorem fi_19_19 : am_find 19 19 = some (.getfield 44, 3, 4, 7, 50) := by decide +kernel
theorem fi_19_22 : am_find 19 22 = some (.aload_n 0, 1, 0, 0, 0) := by decide +kernel
theorem fi_19_23 : am_find 19 23 = some (.getfield 43, 3, 4, 6, 49) := by decide +kernel
theorem fi_19_26 : am_find 19 26 = some (.if_icmp .ge 27, 3, 0, 0, 0) := by decide +kernel
theorem fi_19_29 : am_find 19 29 = some (.aload_n 0, 1, 0, 0, 0) := by decide +kernel
theorem fi_19_30 : am_find 19 30 = some (.getfield 44, 3, 4, 7, 50) := by decide +kernel
theorem fi_19_33 : am_find 19 33 = some (.aload_n 0, 1, 0, 0, 0) := by decide +kernel
theorem fi_19_34 : am_find 19 34 = some (.getfield 21, 3, 4, 5, 26) := by decide +kernel
theorem fi_19_37 : am_find 19 37 = some (.arraylength, 1, 0, 0, 0) := by decide +kernel
theorem fi_19_38 : am_find 19 38 = some (.if_icmp .ge 15, 3, 0, 0, 0) := by decide +kernel
theorem fi_19_41 : am_find 19 41 = some (.aload_n 0, 1, 0, 0, 0) := by decide +kernel
theorem fi_19_42 : am_find 19 42 = some (.getfield 21, 3, 4, 5, 26) := by decide +kernel
theorem fi_19_45 : am_find 19 45 = some (.aload_n 0, 1, 0, 0, 0) := by decide +kernel
theorem fi_19_46 : am_find 19 46 = some (.getfield 44, 3, 4, 7, 50) := by decide +kernel
theorem fi_19_49 : am_find 19 49 = some (.iaload, 1, 0, 0, 0) := by decide +kernel
theorem fi_19_50 : am_find 19 50 = some (.goto 4, 3, 0, 0, 0) := by decide +kernel
theorem fi_19_53 : am_find 19 53 = some (.iconst (-1), 1, 0, (-1), 0) := by decide +kernel
theorem fi_19_54 : am_find 19 54 = some (.putfield 53, 3, 4, 8, 51) := by decide +kernel
theorem fi_19_57 : am_find 19 57 = some (.return_, 1, 0, 0, 0) := by decide +kernel
theorem b19_0 {d L : Nat} {σ : St} {Q : Option AV → AW → Prop} (h1 : -2147483648 ≤ (σ 134 7) + 1 ∧ (σ 134 7) + 1 ≤ 2147483647) : R d 19 0 [vR 134] [] (WS L σ) Q = R d 19 10 [vR 134] [] (WS L (st2 σ 134 7 ((σ 134 7) + 1))) Q := K_aload_n fi_19_0 rfl <| K_dupr fi_19_1 <| K_gf fi_19_2 kd_134 mk_134_7 <| K_iconst fi_19_5 <| K_iaddx fi_19_6 h1 <| K_pf fi_19_7 kd_134 rfl rfl rfl rfl <| rfl
theorem b19_10 {d L : Nat} {σ : St} {Q : Option AV → AW → Prop} : R d 19 10 [vR 134] [] (WS L σ) Q = if (σ 134 7) < 0 then R d 19 53 [vR 134] [vR 134] (WS L σ) Q else R d 19 18 [vR 134] [vR 134] (WS L σ) Q := K_aload_n fi_19_10 rfl <| K_aload_n fi_19_11 rfl <| K_gf fi_19_12 kd_134 mk_134_7 <| R_if_lt fi_19_15 rfl
theorem b19_18 {d L : Nat} {σ : St} {Q : Option AV → AW → Prop} : R d 19 18 [vR 134] [vR 134] (WS L σ) Q = if (σ 134 6) ≤ (σ 134 7) then R d 19 53 [vR 134] [vR 134] (WS L σ) Q else R d 19 29 [vR 134] [vR 134] (WS L σ) Q := K_aload_n fi_19_18 rfl <| K_gf fi_19_19 kd_134 mk_134_7 <| K_aload_n fi_19_22 rfl <| K_gf fi_19_23 kd_134 mk_134_6 <| R_icmp_ge fi_19_26 rfl
theorem b19_29 {d L : Nat} {σ : St} {Q : Option AV → AW → Prop} (h1 : KD ((σ 134 5).toNat) = 100) : R d 19 29 [vR 134] [vR 134] (WS L σ) Q = if (LN L ((σ 134 5).toNat) : Int) ≤ (σ 134 7) then R d 19 53 [vR 134] [vR 134] (WS L σ) Q else R d 19 41 [vR 134] [vR 134] (WS L σ) Q := K_aload_n fi_19_29 rfl <| K_gf fi_19_30 kd_134 mk_134_7 <| K_aload_n fi_19_33 rfl <| K_gf fi_19_34 kd_134 mk_134_5 <| K_alen fi_19_37 (Or.inl h1) <| R_icmp_ge fi_19_38 rfl
theorem b19_41 {d L : Nat} {σ : St} {Q : Option AV → AW → Prop} (h1 : KD ((σ 134 5).toNat) = 100) (h2 : 0 ≤ σ 134 7) (h3 : (σ 134 7) < (LN L ((σ 134 5).toNat) : Int)) : R d 19 41 [vR 134] [vR 134] (WS L σ) Q = R d 19 54 [vR 134] [vI (σ ((σ 134 5).toNat) (σ 134 7)), vR 134] (WS L σ) Q := K_aload_n fi_19_41 rfl <| K_gf fi_19_42 kd_134 mk_134_5 <| K_aload_n fi_19_45 rfl <| K_gf fi_19_46 kd_134 mk_134_7 <| K_ia fi_19_49 h1 h2 h3 <| R_goto fi_19_50 rfl
theorem b19_53 {d L : Nat} {σ : St} {Q : Option AV → AW → Prop} {u0 : AV} : R d 19 53 [u0] [vR 134] (WS L σ) Q = R d 19 54 [u0] [vI (-1), vR 134] (WS L σ) Q := K_iconst fi_19_53 <| rfl
theorem b19_54 {d L : Nat} {σ : St} {Q : Option AV → AW → Prop} {y0 : Int} {u0 : AV} : R d 19 54 [u0] [vI y0, vR 134] (WS L σ) Q = R d 19 57 [u0] [] (WS L (st2 σ 134 8 y0)) Q := K_pf fi_19_54 kd_134 rfl rfl rfl rfl <| rfl
theorem b19_57 {d L : Nat} {σ : St} {Q : Option AV → AW → Prop} {u0 : AV} : R d 19 57 [u0] [] (WS L σ) Q = Q none (WS L σ) := R_return fi_19_57
theorem fi_20_0 : am_find 20 0 = some (.aload_n 0, 1, 0, 0, 0) := by decide +kernel
theorem fi_20_1 : am_find 20 1 = some (.getfield 53, 3, 4, 8, 51) := by decide +kernel
theorem fi_20_4 : am_find 20 4 = some (.istore_n 1, 1, 0, 0, 0) := by decide +kernel
theorem fi_20_5 : am_find 20 5 = some (.iload_n 1, 1, 0, 0, 0) := by decide +kernel
theorem fi_20_6 : am_find 20 6 = some (.bipush 109, 2, 0, 109, 0) := by decide +kernel
theorem fi_20_8 : am_find 20 8 = some (.if_icmp .ne 8, 3, 0, 0, 0) := by decide +kernel
theorem fi_20_11 : am_find 20 11 = some (.ldc 65, 2, 1, 3, 449) := by decide +kernel
theorem fi_20_13 : am_find 20 13 = some (.goto 16, 3, 0, 0, 0) := by decide +kernel
theorem fi_20_16 : am_find 20 16 = some (.iload_n 1, 1, 0, 0, 0) := by decide +kernel
theorem fi_20_17 : am_find 20 17 = some (.bipush 98, 2, 0, 98, 0) := by decide +kernel
theorem fi_20_19 : am_find 20 19 = some (.if_icmp .ne 8, 3, 0, 0, 0) := by decide +kernel
theorem fi_20_22 : am_find 20 22 = some (.ldc 67, 2, 1, 4, 450) := by decide +kernel
theorem fi_20_24 : am_find 20 24 = some (.goto 5, 3, 0, 0, 0) := by decide +kernel
theorem fi_20_27 : am_find 20 27 = some (.ldc 69, 2, 1, 5, 451) := by decide +kernel
theorem fi_20_29 : am_find 20 29 = some (.astore_n 2, 1, 0, 0, 0) := by decide +kernel
theorem fi_20_30 : am_find 20 30 = some (.iload_n 1, 1, 0, 0, 0) := by decide +kernel
theorem fi_20_31 : am_find 20 31 = some (.bipush 109, 2, 0, 109, 0) := by decide +kernel
theorem fi_20_33 : am_find 20 33 = some (.if_icmp .eq 20, 3, 0, 0, 0) := by decide +kernel
theorem fi_20_36 : am_find 20 36 = some (.iload_n 1, 1, 0, 0, 0) := by decide +kernel
theorem fi_20_37 : am_find 20 37 = some (.bipush 98, 2, 0, 98, 0) := by decide +kernel
theorem fi_20_39 : am_find 20 39 = some (.if_icmp .eq 14, 3, 0, 0, 0) := by decide +kernel
theorem fi_20_42 : am_find 20 42 = some (.iload_n 1, 1, 0, 0, 0) := by decide +kernel
theorem fi_20_43 : am_find 20 43 = some (.bipush 108, 2, 0, 108, 0) := by decide +kernel
theorem fi_20_45 : am_find 20 45 = some (.if_icmp .eq 8, 3, 0, 0, 0) := by decide +kernel
theorem fi_20_48 : am_find 20 48 = some (.aload_n 0, 1, 0, 0, 0) := by decide +kernel
theorem fi_20_49 : am_find 20 49 = some (.invokevirtual 56, 3, 21, 0, 27) := by decide +kernel
theorem fi_20_52 : am_find 20 52 = some (.return_, 1, 0, 0, 0) := by decide +kernel
theorem fi_20_53 : am_find 20 53 = some (.aload_n 0, 1, 0, 0, 0) := by decide +kernel
theorem fi_20_54 : am_find 20 54 = some (.invokevirtual 47, 3, 19, 0, 25) := by decide +kernel
theorem fi_20_57 : am_find 20 57 = some (.iconst 0, 1, 0, 0, 0) := by decide +kernel
theorem fi_20_58 : am_find 20 58 = some (.istore_n 3, 1, 0, 0, 0) := by decide +kernel
theorem fi_20_59 : am_find 20 59 = some (.iload_n 3, 1, 0, 0, 0) := by decide +kernel
theorem fi_20_60 : am_find 20 60 = some (.aload_n 2, 1, 0, 0, 0) := by decide +kernel
theorem fi_20_61 : am_find 20 61 = some (.invokevirtual 71, 3, 22, 0, 28) := by decide +kernel
theorem fi_20_64 : am_find 20 64 = some (.if_icmp .ge 18, 3, 0, 0, 0) := by decide +kernel
theorem fi_20_67 : am_find 20 67 = some (.aload_n 0, 1, 0, 0, 0) := by decide +kernel
theorem fi_20_68 : am_find 20 68 = some (.aload_n 2, 1, 0, 0, 0) := by decide +kernel
theorem fi_20_69 : am_find 20 69 = some (.iload_n 3, 1, 0, 0, 0) := by decide +kernel
theorem fi_20_70 : am_find 20 70 = some (.invokevirtual 77, 3, 24, 1, 29) := by decide +kernel
theorem fi_20_73 : am_find 20 73 = some (.invokevirtual 81, 3, 29, 1, 30) := by decide +kernel
theorem fi_20_76 : am_find 20 76 = some (.iinc 3 1, 3, 0, 0, 0) := by decide +kernel
theorem fi_20_79 : am_find 20 79 = some (.goto (-20), 3, 0, 0, 0) := by decide +kernel
theorem fi_20_82 : am_find 20 82 = some (.aload_n 0, 1, 0, 0, 0) := by decide +kernel
theorem fi_20_83 : am_find 20 83 = some (.invokevirtual 85, 3, 30, 0, 31) := by decide +kernel
theorem fi_20_86 : am_find 20 86 = some (.istore_n 3, 1, 0, 0, 0) := by decide +kernel
theorem fi_20_87 : am_find 20 87 = some (.aload_n 0, 1, 0, 0, 0) := by decide +kernel
theorem fi_20_88 : am_find 20 88 = some (.bipush 32, 2, 0, 32, 0) := by decide +kernel
theorem fi_20_90 : am_find 20 90 = some (.invokevirtual 81, 3, 29, 1, 30) := by decide +kernel
theorem fi_20_93 : am_find 20 93 = some (.iload_n 1, 1, 0, 0, 0) := by decide +kernel
theorem fi_20_94 : am_find 20 94 = some (.bipush 109, 2, 0, 109, 0) := by decide +kernel
theorem fi_20_96 : am_find 20 96 = some (.if_icmp .ne 11, 3, 0, 0, 0) := by decide +kernel
theorem fi_20_99 : am_find 20 99 = some (.aload_n 0, 1, 0, 0, 0) := by decide +kernel
theorem fi_20_100 : am_find 20 100 = some (.iconst 0, 1, 0, 0, 0) := by decide +kernel
theorem fi_20_101 : am_find 20 101 = some (.invokevirtual 88, 3, 31, 1, 32) := by decide +kernel
theorem fi_20_104 : am_find 20 104 = some (.goto 20, 3, 0, 0, 0) := by decide +kernel
theorem fi_20_107 : am_find 20 107 = some (.iload_n 1, 1, 0, 0, 0) := by decide +kernel
theorem fi_20_108 : am_find 20 108 = some (.bipush 98, 2, 0, 98, 0) := by decide +kernel
theorem fi_20_110 : am_find 20 110 = some (.if_icmp .ne 10, 3, 0, 0, 0) := by decide +kernel
theorem fi_20_113 : am_find 20 113 = some (.aload_n 0, 1, 0, 0, 0) := by decide +kernel
theorem fi_20_114 : am_find 20 114 = some (.invokevirtual 91, 3, 37, 0, 33) := by decide +kernel
theorem fi_20_117 : am_find 20 117 = some (.goto 7, 3, 0, 0, 0) := by decide +kernel
theorem fi_20_120 : am_find 20 120 = some (.aload_n 0, 1, 0, 0, 0) := by decide +kernel
theorem fi_20_121 : am_find 20 121 = some (.invokevirtual 94, 3, 39, 0, 34) := by decide +kernel
theorem fi_20_124 : am_find 20 124 = some (.istore 4, 2, 0, 0, 0) := by decide +kernel
theorem fi_20_126 : am_find 20 126 = some (.aload_n 0, 1, 0, 0, 0) := by decide +kernel
theorem fi_20_127 : am_find 20 127 = some (.getfield 32, 3, 4, 9, 46) := by decide +kernel
theorem fi_20_130 : am_find 20 130 = some (.ifCond .ge 56, 3, 0, 0, 0) := by decide +kernel
theorem fi_20_133 : am_find 20 133 = some (.aload_n 0, 1, 0, 0, 0) := by decide +kernel
theorem fi_20_134 : am_find 20 134 = some (.getfield 28, 3, 4, 4, 45) := by decide +kernel
theorem fi_20_137 : am_find 20 137 = some (.bipush 10, 2, 0, 10, 0) := by decide +kernel
theorem fi_20_139 : am_find 20 139 = some (.invokestatic 97, 3, 13, 2, 35) := by decide +kernel
theorem fi_20_142 : am_find 20 142 = some (.ifCond .eq 44, 3, 0, 0, 0) := by decide +kernel
theorem fi_20_145 : am_find 20 145 = some (.aload_n 0, 1, 0, 0, 0) := by decide +kernel
theorem fi_20_146 : am_find 20 146 = some (.getfield 11, 3, 4, 1, 23) := by decide +kernel
theorem fi_20_149 : am_find 20 149 = some (.aload_n 0, 1, 0, 0, 0) := by decide +kernel
theorem fi_20_150 : am_find 20 150 = some (.getfield 28, 3, 4, 4, 45) := by decide +kernel
theorem fi_20_153 : am_find 20 153 = some (.iload_n 1, 1, 0, 0, 0) := by decide +kernel
theorem fi_20_154 : am_find 20 154 = some (.iastore, 1, 0, 0, 0) := by decide +kernel
theorem fi_20_155 : am_find 20 155 = some (.aload_n 0, 1, 0, 0, 0) := by decide +kernel
theorem fi_20_156 : am_find 20 156 = some (.getfield 15, 3, 4, 2, 24) := by decide +kernel
theorem fi_20_159 : am_find 20 159 = some (.aload_n 0, 1, 0, 0, 0) := by decide +kernel
theorem fi_20_160 : am_find 20 160 = some (.getfield 28, 3, 4, 4, 45) := by decide +kernel
theorem fi_20_163 : am_find 20 163 = some (.iload_n 3, 1, 0, 0, 0) := by decide +kernel
theorem fi_20_164 : am_find 20 164 = some (.iastore, 1, 0, 0, 0) := by decide +kernel
theorem fi_20_165 : am_find 20 165 = some (.aload_n 0, 1, 0, 0, 0) := by decide +kernel
theorem fi_20_166 : am_find 20 166 = some (.getfield 18, 3, 4, 3, 25) := by decide +kernel
theorem fi_20_169 : am_find 20 169 = some (.aload_n 0, 1, 0, 0, 0) := by decide +kernel
theorem fi_20_170 : am_find 20 170 = some (.getfield 28, 3, 4, 4, 45) := by decide +kernel
theorem fi_20_173 : am_find 20 173 = some (.iload 4, 2, 0, 0, 0) := by decide +kernel
theorem fi_20_175 : am_find 20 175 = some (.iastore, 1, 0, 0, 0) := by decide +kernel
theorem fi_20_176 : am_find 20 176 = some (.aload_n 0, 1, 0, 0, 0) := by decide +kernel
theorem fi_20_177 : am_find 20 177 = some (.dup, 1, 0, 0, 0) := by decide +kernel
theorem fi_20_178 : am_find 20 178 = some (.getfield 28, 3, 4, 4, 45) := by decide +kernel
theorem fi_20_181 : am_find 20 181 = some (.iconst 1, 1, 0, 1, 0) := by decide +kernel
theorem fi_20_182 : am_find 20 182 = some (.iadd, 1, 0, 0, 0) := by decide +kernel
theorem fi_20_183 : am_find 20 183 = some (.putfield 28, 3, 4, 4, 45) := by decide +kernel
theorem fi_20_186 : am_find 20 186 = some (.return_, 1, 0, 0, 0) := by decide +kernel
theorem b20_0 {d L : Nat} {σ : St} {Q : Option AV → AW → Prop} {u1 u2 u3 u4 : AV} : R d 20 0 [vR 134, u1, u2, u3, u4] [] (WS L σ) Q = if ¬ (σ 134 8) = 109 then R d 20 16 [vR 134, vI (σ 134 8), u2, u3, u4] [] (WS L σ) Q else R d 20 11 [vR 134, vI (σ 134 8), u2, u3, u4] [] (WS L σ) Q := K_aload_n fi_20_0 rfl <| K_gf fi_20_1 kd_134 mk_134_8 <| K_istore_n fi_20_4 (Nat.le_of_ble_eq_true rfl) rfl rfl <| K_iload_n fi_20_5 rfl <| K_bipush fi_20_6 <| R_icmp_ne fi_20_8 rfl
theorem b20_11 {d L : Nat} {σ : St} {Q : Option AV → AW → Prop} {u0 u1 u2 u3 u4 : AV} : R d 20 11 [u0, u1, u2, u3, u4] [] (WS L σ) Q = R d 20 29 [u0, u1, u2, u3, u4] [vR 3] (WS L σ) Q := K_ldcs fi_20_11 <| R_goto fi_20_13 rfl
theorem b20_16 {d L : Nat} {σ : St} {Q : Option AV → AW → Prop} {x1 : Int} {u0 u2 u3 u4 : AV} : R d 20 16 [u0, vI x1, u2, u3, u4] [] (WS L σ) Q = if ¬ x1 = 98 then R d 20 27 [u0, vI x1, u2, u3, u4] [] (WS L σ) Q else R d 20 22 [u0, vI x1, u2, u3, u4] [] (WS L σ) Q := K_iload_n fi_20_16 rfl <| K_bipush fi_20_17 <| R_icmp_ne fi_20_19 rfl
theorem b20_22 {d L : Nat} {σ : St} {Q : Option AV → AW → Prop} {u0 u1 u2 u3 u4 : AV} : R d 20 22 [u0, u1, u2, u3, u4] [] (WS L σ) Q = R d 20 29 [u0, u1, u2, u3, u4] [vR 4] (WS L σ) Q := K_ldcs fi_20_22 <| R_goto fi_20_24 rfl
theorem b20_27 {d L : Nat} {σ : St} {Q : Option AV → AW → Prop} {u0 u1 u2 u3 u4 : AV} : R d 20 27 [u0, u1, u2, u3, u4] [] (WS L σ) Q = R d 20 29 [u0, u1, u2, u3, u4] [vR 5] (WS L σ) Q := K_ldcs fi_20_27 <| rfl
theorem b20_29 {d L : Nat} {σ : St} {Q : Option AV → AW → Prop} {x1 : Int} {q0 : Nat} {u0 u2 u3 u4 : AV} : R d 20 29 [u0, vI x1, u2, u3, u4] [vR q0] (WS L σ) Q = if x1 = 109 then R d 20 53 [u0, vI x1, vR q0, u3, u4] [] (WS L σ) Q else R d 20 36 [u0, vI x1, vR q0, u3, u4] [] (WS L σ) Q := K_astore_n fi_20_29 (Nat.le_of_ble_eq_true rfl) rfl rfl <| K_iload_n fi_20_30 rfl <| K_bipush fi_20_31 <| R_icmp_eq fi_20_33 rfl
theorem b20_36 {d L : Nat} {σ : St} {Q : Option AV → AW → Prop} {x1 : Int} {u0 u2 u3 u4 : AV} : R d 20 36 [u0, vI x1, u2, u3, u4] [] (WS L σ) Q = if x1 = 98 then R d 20 53 [u0, vI x1, u2, u3, u4] [] (WS L σ) Q else R d 20 42 [u0, vI x1, u2, u3, u4] [] (WS L σ) Q := K_iload_n fi_20_36 rfl <| K_bipush fi_20_37 <| R_icmp_eq fi_20_39 rfl
theorem b20_42 {d L : Nat} {σ : St} {Q : Option AV → AW → Prop} {x1 : Int} {u0 u2 u3 u4 : AV} : R d 20 42 [u0, vI x1, u2, u3, u4] [] (WS L σ) Q = if x1 = 108 then R d 20 53 [u0, vI x1, u2, u3, u4] [] (WS L σ) Q else R d 20 48 [u0, vI x1, u2, u3, u4] [] (WS L σ) Q := K_iload_n fi_20_42 rfl <| K_bipush fi_20_43 <| R_icmp_eq fi_20_45 rfl
theorem b20_48 {d L : Nat} {σ : St} {Q : Option AV → AW → Prop} {u1 u2 u3 u4 : AV} : R (d + 1) 20 48 [vR 134, u1, u2, u3, u4] [] (WS L σ) Q = R d 21 0 [vR 134] [] (WS L σ) (fun r w => R (d + 1) 20 52 [vR 134, u1, u2, u3, u4] (am_push r []) w Q) := K_aload_n fi_20_48 rfl <| R_invV fi_20_49 (am_invV_of rfl (kd_134) (Nat.le_of_ble_eq_true rfl) (Nat.le_of_ble_eq_true rfl) rfl rfl)
theorem b20_52 {d L : Nat} {σ : St} {Q : Option AV → AW → Prop} {u0 u1 u2 u3 u4 : AV} : R d 20 52 [u0, u1, u2, u3, u4] [] (WS L σ) Q = Q none (WS L σ) := R_return fi_20_52
theorem b20_53 {d L : Nat} {σ : St} {Q : Option AV → AW → Prop} {u1 u2 u3 u4 : AV} : R (d + 1) 20 53 [vR 134, u1, u2, u3, u4] [] (WS L σ) Q = R d 19 0 [vR 134] [] (WS L σ) (fun r w => R (d + 1) 20 57 [vR 134, u1, u2, u3, u4] (am_push r []) w Q) := K_aload_n fi_20_53 rfl <| R_invV fi_20_54 (am_invV_of rfl (kd_134) (Nat.le_of_ble_eq_true rfl) (Nat.le_of_ble_eq_true rfl) rfl rfl)
theorem b20_57 {d L : Nat} {σ : St} {Q : Option AV → AW → Prop} {u0 u1 u2 u3 u4 : AV} : R d 20 57 [u0, u1, u2, u3, u4] [] (WS L σ) Q = R d 20 59 [u0, u1, u2, vI 0, u4] [] (WS L σ) Q := K_iconst fi_20_57 <| K_istore_n fi_20_58 (Nat.le_of_ble_eq_true rfl) rfl rfl <| rfl
theorem b20_59 {d L : Nat} {σ : St} {Q : Option AV → AW → Prop} {x3 : Int} {r2 : Nat} {u0 u1 u4 : AV} (h1 : KD r2 = 120) : R (d + 1) 20 59 [u0, u1, vR r2, vI x3, u4] [] (WS L σ) Q = R d 22 0 [vR r2] [] (WS L σ) (fun r w => R (d + 1) 20 64 [u0, u1, vR r2, vI x3, u4] (am_push r [vI x3]) w Q) := K_iload_n fi_20_59 rfl <| K_aload_n fi_20_60 rfl <| R_invV fi_20_61 (am_invV_of rfl (h1) (Nat.le_of_ble_eq_true rfl) (Nat.le_of_ble_eq_true rfl) rfl rfl)
theorem b20_64 {d L : Nat} {σ : St} {Q : Option AV → AW → Prop} {y0 y1 : Int} {u0 u1 u2 u3 u4 : AV} : R d 20 64 [u0, u1, u2, u3, u4] [vI y0, vI y1] (WS L σ) Q = if y0 ≤ y1 then R d 20 82 [u0, u1, u2, u3, u4] [] (WS L σ) Q else R d 20 67 [u0, u1, u2, u3, u4] [] (WS L σ) Q := R_icmp_ge fi_20_64 rfl
theorem b20_67 {d L : Nat} {σ : St} {Q : Option AV → AW → Prop} {x3 : Int} {r2 : Nat} {u1 u4 : AV} (h1 : KD r2 = 120) : R (d + 1) 20 67 [vR 134, u1, vR r2, vI x3, u4] [] (WS L σ) Q = R d 24 0 [vR r2, vI x3] [] (WS L σ) (fun r w => R (d + 1) 20 73 [vR 134, u1, vR r2, vI x3, u4] (am_push r [vR 134]) w Q) := K_aload_n fi_20_67 rfl <| K_aload_n fi_20_68 rfl <| K_iload_n fi_20_69 rfl <| R_invV fi_20_70 (am_invV_of rfl (h1) (Nat.le_of_ble_eq_true rfl) (Nat.le_of_ble_eq_true rfl) rfl rfl)
theorem b20_73 {d L : Nat} {σ : St} {Q : Option AV → AW → Prop} {y0 : Int} {u0 u1 u2 u3 u4 : AV} : R (d + 1) 20 73 [u0, u1, u2, u3, u4] [vI y0, vR 134] (WS L σ) Q = R d 29 0 [vR 134, vI y0] [] (WS L σ) (fun r w => R (d + 1) 20 76 [u0, u1, u2, u3, u4] (am_push r []) w Q) := R_invV fi_20_73 (am_invV_of rfl (kd_134) (Nat.le_of_ble_eq_true rfl) (Nat.le_of_ble_eq_true rfl) rfl rfl)
theorem b20_76 {d L : Nat} {σ : St} {Q : Option AV → AW → Prop} {x3 : Int} {u0 u1 u2 u4 : AV} (h1 : -2147483648 ≤ x3 + 1 ∧ x3 + 1 ≤ 2147483647) : R d 20 76 [u0, u1, u2, vI x3, u4] [] (WS L σ) Q = R d 20 59 [u0, u1, u2, vI (x3 + 1), u4] [] (WS L σ) Q := K_iincx fi_20_76 rfl (Nat.le_of_ble_eq_true rfl) rfl h1 rfl <| R_goto fi_20_79 rfl
theorem b20_82 {d L : Nat} {σ : St} {Q : Option AV → AW → Prop} {u1 u2 u3 u4 : AV} : R (d + 1) 20 82 [vR 134, u1, u2, u3, u4] [] (WS L σ) Q = R d 30 0 [vR 134, vX 9, vX 9] [] (WS L σ) (fun r w => R (d + 1) 20 86 [vR 134, u1, u2, u3, u4] (am_push r []) w Q) := K_aload_n fi_20_82 rfl <| R_invV fi_20_83 (am_invV_of rfl (kd_134) (Nat.le_of_ble_eq_true rfl) (Nat.le_of_ble_eq_true rfl) rfl rfl)
theorem b20_86 {d L : Nat} {σ : St} {Q : Option AV → AW → Prop} {y0 : Int} {u1 u2 u3 u4 : AV} : R (d + 1) 20 86 [vR 134, u1, u2, u3, u4] [vI y0] (WS L σ) Q = R d 29 0 [vR 134, vI 32] [] (WS L σ) (fun r w => R (d + 1) 20 93 [vR 134, u1, u2, vI y0, u4] (am_push r []) w Q) := K_istore_n fi_20_86 (Nat.le_of_ble_eq_true rfl) rfl rfl <| K_aload_n fi_20_87 rfl <| K_bipush fi_20_88 <| R_invV fi_20_90 (am_invV_of rfl (kd_134) (Nat.le_of_ble_eq_true rfl) (Nat.le_of_ble_eq_true rfl) rfl rfl)
theorem b20_93 {d L : Nat} {σ : St} {Q : Option AV → AW → Prop} {x1 : Int} {u0 u2 u3 u4 : AV} : R d 20 93 [u0, vI x1, u2, u3, u4] [] (WS L σ) Q = if ¬ x1 = 109 then R d 20 107 [u0, vI x1, u2, u3, u4] [] (WS L σ) Q else R d 20 99 [u0, vI x1, u2, u3, u4] [] (WS L σ) Q := K_iload_n fi_20_93 rfl <| K_bipush fi_20_94 <| R_icmp_ne fi_20_96 rfl
theorem b20_99 {d L : Nat} {σ : St} {Q : Option AV → AW → Prop} {u1 u2 u3 u4 : AV} : R (d + 1) 20 99 [vR 134, u1, u2, u3, u4] [] (WS L σ) Q = R d 31 0 [vR 134, vI 0, vX 9, vX 9, vX 9, vX 9, vX 9] [] (WS L σ) (fun r w => R (d + 1) 20 104 [vR 134, u1, u2, u3, u4] (am_push r []) w Q) := K_aload_n fi_20_99 rfl <| K_iconst fi_20_100 <| R_invV fi_20_101 (am_invV_of rfl (kd_134) (Nat.le_of_ble_eq_true rfl) (Nat.le_of_ble_eq_true rfl) rfl rfl)
theorem b20_104 {d L : Nat} {σ : St} {Q : Option AV → AW → Prop} {y0 : Int} {u0 u1 u2 u3 u4 : AV} : R d 20 104 [u0, u1, u2, u3, u4] [vI y0] (WS L σ) Q = R d 20 124 [u0, u1, u2, u3, u4] [vI y0] (WS L σ) Q := R_goto fi_20_104 rfl
theorem b20_107 {d L : Nat} {σ : St} {Q : Option AV → AW → Prop} {x1 : Int} {u0 u2 u3 u4 : AV} : R d 20 107 [u0, vI x1, u2, u3, u4] [] (WS L σ) Q = if ¬ x1 = 98 then R d 20 120 [u0, vI x1, u2, u3, u4] [] (WS L σ) Q else R d 20 113 [u0, vI x1, u2, u3, u4] [] (WS L σ) Q := K_iload_n fi_20_107 rfl <| K_bipush fi_20_108 <| R_icmp_ne fi_20_110 rfl
theorem b20_113 {d L : Nat} {σ : St} {Q : Option AV → AW → Prop} {u1 u2 u3 u4 : AV} : R (d + 1) 20 113 [vR 134, u1, u2, u3, u4] [] (WS L σ) Q = R d 37 0 [vR 134, vX 9] [] (WS L σ) (fun r w => R (d + 1) 20 117 [vR 134, u1, u2, u3, u4] (am_push r []) w Q) := K_aload_n fi_20_113 rfl <| R_invV fi_20_114 (am_invV_of rfl (kd_134) (Nat.le_of_ble_eq_true rfl) (Nat.le_of_ble_eq_true rfl) rfl rfl)
theorem b20_117 {d L : Nat} {σ : St} {Q : Option AV → AW → Prop} {y0 : Int} {u0 u1 u2 u3 u4 : AV} : R d 20 117 [u0, u1, u2, u3, u4] [vI y0] (WS L σ) Q = R d 20 124 [u0, u1, u2, u3, u4] [vI y0] (WS L σ) Q := R_goto fi_20_117 rfl
theorem b20_120 {d L : Nat} {σ : St} {Q : Option AV → AW → Prop} {u1 u2 u3 u4 : AV} : R (d + 1) 20 120 [vR 134, u1, u2, u3, u4] [] (WS L σ) Q = R d 39 0 [vR 134] [] (WS L σ) (fun r w => R (d + 1) 20 124 [vR 134, u1, u2, u3, u4] (am_push r []) w Q) := K_aload_n fi_20_120 rfl <| R_invV fi_20_121 (am_invV_of rfl (kd_134) (Nat.le_of_ble_eq_true rfl) (Nat.le_of_ble_eq_true rfl) rfl rfl)
theorem b20_124 {d L : Nat} {σ : St} {Q : Option AV → AW → Prop} {y0 : Int} {u1 u2 u3 u4 : AV} : R d 20 124 [vR 134, u1, u2, u3, u4] [vI y0] (WS L σ) Q = if 0 ≤ (σ 134 9) then R d 20 186 [vR 134, u1, u2, u3, vI y0] [] (WS L σ) Q else R d 20 133 [vR 134, u1, u2, u3, vI y0] [] (WS L σ) Q := K_istore fi_20_124 (Nat.le_of_ble_eq_true rfl) rfl rfl <| K_aload_n fi_20_126 rfl <| K_gf fi_20_127 kd_134 mk_134_9 <| R_if_ge fi_20_130 rfl
theorem b20_133 {d L : Nat} {σ : St} {Q : Option AV → AW → Prop} {u1 u2 u3 u4 : AV} : R (d + 1) 20 133 [vR 134, u1, u2, u3, u4] [] (WS L σ) Q = R d 13 0 [vI (σ 134 4), vI 10] [] (WS L σ) (fun r w => R (d + 1) 20 142 [vR 134, u1, u2, u3, u4] (am_push r []) w Q) := K_aload_n fi_20_133 rfl <| K_gf fi_20_134 kd_134 mk_134_4 <| K_bipush fi_20_137 <| R_invS fi_20_139 (by decide) (am_invS_of (Nat.le_of_ble_eq_true rfl) rfl (Nat.le_of_ble_eq_true rfl) (Nat.le_of_ble_eq_true rfl) rfl rfl)
theorem b20_142 {d L : Nat} {σ : St} {Q : Option AV → AW → Prop} {y0 : Int} {u0 u1 u2 u3 u4 : AV} : R d 20 142 [u0, u1, u2, u3, u4] [vI y0] (WS L σ) Q = if y0 = 0 then R d 20 186 [u0, u1, u2, u3, u4] [] (WS L σ) Q else R d 20 145 [u0, u1, u2, u3, u4] [] (WS L σ) Q := R_if_eq fi_20_142 rfl
theorem b20_145 {d L : Nat} {σ : St} {Q : Option AV → AW → Prop} {x1 : Int} {u2 u3 u4 : AV} (h1 : 0 ≤ σ 134 4) (h2 : (σ 134 4) < 10) : R d 20 145 [vR 134, vI x1, u2, u3, u4] [] (WS L σ) Q = R d 20 155 [vR 134, vI x1, u2, u3, u4] [] (WS L (st2 σ 135 (σ 134 4) x1)) Q := K_aload_n fi_20_145 rfl <| K_gf fi_20_146 kd_134 mk_134_1 <| K_aload_n fi_20_149 rfl <| K_gf fi_20_150 kd_134 mk_134_4 <| K_iload_n fi_20_153 rfl <| K_is fi_20_154 kd_135 h1 h2 <| rfl
theorem b20_155 {d L : Nat} {σ : St} {Q : Option AV → AW → Prop} {x3 : Int} {u1 u2 u4 : AV} (h1 : 0 ≤ σ 134 4) (h2 : (σ 134 4) < 10) : R d 20 155 [vR 134, u1, u2, vI x3, u4] [] (WS L σ) Q = R d 20 165 [vR 134, u1, u2, vI x3, u4] [] (WS L (st2 σ 136 (σ 134 4) x3)) Q := K_aload_n fi_20_155 rfl <| K_gf fi_20_156 kd_134 mk_134_2 <| K_aload_n fi_20_159 rfl <| K_gf fi_20_160 kd_134 mk_134_4 <| K_iload_n fi_20_163 rfl <| K_is fi_20_164 kd_136 h1 h2 <| rfl
theorem b20_165 {d L : Nat} {σ : St} {Q : Option AV → AW → Prop} {x4 : Int} {u1 u2 u3 : AV} (h1 : 0 ≤ σ 134 4) (h2 : (σ 134 4) < 10) : R d 20 165 [vR 134, u1, u2, u3, vI x4] [] (WS L σ) Q = R d 20 176 [vR 134, u1, u2, u3, vI x4] [] (WS L (st2 σ 137 (σ 134 4) x4)) Q := K_aload_n fi_20_165 rfl <| K_gf fi_20_166 kd_134 mk_134_3 <| K_aload_n fi_20_169 rfl <| K_gf fi_20_170 kd_134 mk_134_4 <| K_iload fi_20_173 rfl <| K_is fi_20_175 kd_137 h1 h2 <| rfl
theorem b20_176 {d L : Nat} {σ : St} {Q : Option AV → AW → Prop} {u1 u2 u3 u4 : AV} (h1 : -2147483648 ≤ (σ 134 4) + 1 ∧ (σ 134 4) + 1 ≤ 2147483647) : R d 20 176 [vR 134, u1, u2, u3, u4] [] (WS L σ) Q = R d 20 186 [vR 134, u1, u2, u3, u4] [] (WS L (st2 σ 134 4 ((σ 134 4) + 1))) Q := K_aload_n fi_20_176 rfl <| K_dupr fi_20_177 <| K_gf fi_20_178 kd_134 mk_134_4 <| K_iconst fi_20_181 <| K_iaddx fi_20_182 h1 <| K_pf fi_20_183 kd_134 rfl rfl rfl rfl <| rfl
theorem b20_186 {d L : Nat} {σ : St} {Q : Option AV → AW → Prop} {u0 u1 u2 u3 u4 : AV} : R d 20 186 [u0, u1, u2, u3, u4] [] (WS L σ) Q = Q none (WS L σ) := R_return fi_20_186
theorem fi_21_0 : am_find 21 0 = some (.aload_n 0, 1, 0, 0, 0) := by decide +kernel
theorem fi_21_1 : am_find 21 1 = some (.getfield 32, 3, 4, 9, 46) := by decide +kernel
theorem fi_21_4 : am_find 21 4 = some (.ifCond .ge 11, 3, 0, 0, 0) := by decide +kernel
theorem fi_21_7 : am_find 21 7 = some (.aload_n 0, 1, 0, 0, 0) := by decide +kernel
theorem fi_21_8 : am_find 21 8 = some (.aload_n 0, 1, 0, 0, 0) := by decide +kernel
theorem fi_21_9 : am_find 21 9 = some (.getfield 44, 3, 4, 7, 50) := by decide +kernel
theorem fi_21_12 : am_find 21 12 = some (.putfield 32, 3, 4, 9, 46) := by decide +kernel
theorem fi_21_15 : am_find 21 15 = some (.aload_n 0, 1, 0, 0, 0) := by decide +kernel
theorem fi_21_16 : am_find 21 16 = some (.iconst (-1), 1, 0, (-1), 0) := by decide +kernel
theorem fi_21_17 : am_find 21 17 = some (.putfield 53, 3, 4, 8, 51) := by decide +kernel
theorem fi_21_20 : am_find 21 20 = some (.return_, 1, 0, 0, 0) := by decide +kernel
theorem b21_0 {d L : Nat} {σ : St} {Q : Option AV → AW → Prop} : R d 21 0 [vR 134] [] (WS L σ) Q = if 0 ≤ (σ 134 9) then R d 21 15 [vR 134] [] (WS L σ) Q else R d 21 7 [vR 134] [] (WS L σ) Q := K_aload_n fi_21_0 rfl <| K_gf fi_21_1 kd_134 mk_134_9 <| R_if_ge fi_21_4 rfl
theorem b21_7 {d L : Nat} {σ : St} {Q : Option AV → AW → Prop} : R d 21 7 [vR 134] [] (WS L σ) Q = R d 21 15 [vR 134] [] (WS L (st2 σ 134 9 (σ 134 7))) Q := K_aload_n fi_21_7 rfl <| K_aload_n fi_21_8 rfl <| K_gf fi_21_9 kd_134 mk_134_7 <| K_pf fi_21_12 kd_134 rfl rfl rfl rfl <| rfl
theorem b21_15 {d L : Nat} {σ : St} {Q : Option AV → AW → Prop} : R d 21 15 [vR 134] [] (WS L σ) Q = R d 21 20 [vR 134] [] (WS L (st2 σ 134 8 (-1))) Q := K_aload_n fi_21_15 rfl <| K_iconst fi_21_16 <| K_pf fi_21_17 kd_134 rfl rfl rfl rfl <| rfl
theorem b21_20 {d L : Nat} {σ : St} {Q : Option AV → AW → Prop} {u0 : AV} : R d 21 20 [u0] [] (WS L σ) Q = Q none (WS L σ) := R_return fi_21_20
theorem fi_22_0 : am_find 22 0 = some (.aload_n 0, 1, 0, 0, 0) := by decide +kernel
theorem fi_22_1 : am_find 22 1 = some (.getfield 9, 3, 120, 0, 1485) := by decide +kernel
theorem fi_22_4 : am_find 22 4 = some (.arraylength, 1, 0, 0, 0) := by decide +kernel
theorem fi_22_5 : am_find 22 5 = some (.aload_n 0, 1, 0, 0, 0) := by decide +kernel
theorem fi_22_6 : am_find 22 6 = some (.invokevirtual 335, 3, 23, 0, 36) := by decide +kernel
theorem fi_22_9 : am_find 22 9 = some (.ishr, 1, 0, 0, 0) := by decide +kernel
theorem fi_22_10 : am_find 22 10 = some (.ireturn, 1, 0, 0, 0) := by decide +kernel
theorem b22_0s0 {d L : Nat} {σ : St} {Q : Option AV → AW → Prop} : R (d + 1) 22 0 [vR 3] [] (WS L σ) Q = R d 23 0 [vR 3] [] (WS L σ) (fun r w => R (d + 1) 22 9 [vR 3] (am_push r [vI 4]) w Q) := K_aload_n fi_22_0 rfl <| K_gf fi_22_1 kd_3 mk_3_0 <| K_alenx fi_22_4 (Or.inr (Or.inr (Or.inr (Or.inr kd_11)))) rfl <| K_aload_n fi_22_5 rfl <| R_invV fi_22_6 (am_invV_of rfl (kd_3) (Nat.le_of_ble_eq_true rfl) (Nat.le_of_ble_eq_true rfl) rfl rfl)
theorem b22_9s0 {d L : Nat} {σ : St} {Q : Option AV → AW → Prop} {y0 y1 : Int} {u0 : AV} : R d 22 9 [u0] [vI y0, vI y1] (WS L σ) Q = Q (some (vI (i_shr y1 y0))) (WS L σ) := K_ishr fi_22_9 <| R_ireti fi_22_10 rfl
theorem b22_0s1 {d L : Nat} {σ : St} {Q : Option AV → AW → Prop} : R (d + 1) 22 0 [vR 4] [] (WS L σ) Q = R d 23 0 [vR 4] [] (WS L σ) (fun r w => R (d + 1) 22 9 [vR 4] (am_push r [vI 4]) w Q) := K_aload_n fi_22_0 rfl <| K_gf fi_22_1 kd_4 mk_4_0 <| K_alenx fi_22_4 (Or.inr (Or.inr (Or.inr (Or.inr kd_12)))) rfl <| K_aload_n fi_22_5 rfl <| R_invV fi_22_6 (am_invV_of rfl (kd_4) (Nat.le_of_ble_eq_true rfl) (Nat.le_of_ble_eq_true rfl) rfl rfl)
theorem b22_9s1 {d L : Nat} {σ : St} {Q : Option AV → AW → Prop} {y0 y1 : Int} {u0 : AV} : R d 22 9 [u0] [vI y0, vI y1] (WS L σ) Q = Q (some (vI (i_shr y1 y0))) (WS L σ) := K_ishr fi_22_9 <| R_ireti fi_22_10 rfl
theorem b22_0s2 {d L : Nat} {σ : St} {Q : Option AV → AW → Prop} : R (d + 1) 22 0 [vR 5] [] (WS L σ) Q = R d 23 0 [vR 5] [] (WS L σ) (fun r w => R (d + 1) 22 9 [vR 5] (am_push r [vI 4]) w Q) := K_aload_n fi_22_0 rfl <| K_gf fi_22_1 kd_5 mk_5_0 <| K_alenx fi_22_4 (Or.inr (Or.inr (Or.inr (Or.inr kd_13)))) rfl <| K_aload_n fi_22_5 rfl <| R_invV fi_22_6 (am_invV_of rfl (kd_5) (Nat.le_of_ble_eq_true rfl) (Nat.le_of_ble_eq_true rfl) rfl rfl)
theorem b22_9s2 {d L : Nat} {σ : St} {Q : Option AV → AW → Prop} {y0 y1 : Int} {u0 : AV} : R d 22 9 [u0] [vI y0, vI y1] (WS L σ) Q = Q (some (vI (i_shr y1 y0))) (WS L σ) := K_ishr fi_22_9 <| R_ireti fi_22_10 rfl
theorem b22_0s3 {d L : Nat} {σ : St} {Q : Option AV → AW → Prop} : R (d + 1) 22 0 [vR 6] [] (WS L σ) Q = R d 23 0 [vR 6] [] (WS L σ) (fun r w => R (d + 1) 22 9 [vR 6] (am_push r [vI 5]) w Q) := K_aload_n fi_22_0 rfl <| K_gf fi_22_1 kd_6 mk_6_0 <| K_alenx fi_22_4 (Or.inr (Or.inr (Or.inr (Or.inr kd_14)))) rfl <| K_aload_n fi_22_5 rfl <| R_invV fi_22_6 (am_invV_of rfl (kd_6) (Nat.le_of_ble_eq_true rfl) (Nat.le_of_ble_eq_true rfl) rfl rfl)
theorem b22_9s3 {d L : Nat} {σ : St} {Q : Option AV → AW → Prop} {y0 y1 : Int} {u0 : AV} : R d 22 9 [u0] [vI y0, vI y1] (WS L σ) Q = Q (some (vI (i_shr y1 y0))) (WS L σ) := K_ishr fi_22_9 <| R_ireti fi_22_10 rfl
theorem b22_0s4 {d L : Nat} {σ : St} {Q : Option AV → AW → Prop} : R (d + 1) 22 0 [vR 7] [] (WS L σ) Q = R d 23 0 [vR 7] [] (WS L σ) (fun r w => R (d + 1) 22 9 [vR 7] (am_push r [vI 4]) w Q) := K_aload_n fi_22_0 rfl <| K_gf fi_22_1 kd_7 mk_7_0 <| K_alenx fi_22_4 (Or.inr (Or.inr (Or.inr (Or.inr kd_15)))) rfl <| K_aload_n fi_22_5 rfl <| R_invV fi_22_6 (am_invV_of rfl (kd_7) (Nat.le_of_ble_eq_true rfl) (Nat.le_of_ble_eq_true rfl) rfl rfl)
theorem b22_9s4 {d L : Nat} {σ : St} {Q : Option AV → AW → Prop} {y0 y1 : Int} {u0 : AV} : R d 22 9 [u0] [vI y0, vI y1] (WS L σ) Q = Q (some (vI (i_shr y1 y0))) (WS L σ) := K_ishr fi_22_9 <| R_ireti fi_22_10 rfl
theorem b22_0s5 {d L : Nat} {σ : St} {Q : Option AV → AW → Prop} : R (d + 1) 22 0 [vR 8] [] (WS L σ) Q = R d 23 0 [vR 8] [] (WS L σ) (fun r w => R (d + 1) 22 9 [vR 8] (am_push r [vI 3]) w Q) := K_aload_n fi_22_0 rfl <| K_gf fi_22_1 kd_8 mk_8_0 <| K_alenx fi_22_4 (Or.inr (Or.inr (Or.inr (Or.inr kd_16)))) rfl <| K_aload_n fi_22_5 rfl <| R_invV fi_22_6 (am_invV_of rfl (kd_8) (Nat.le_of_ble_eq_true rfl) (Nat.le_of_ble_eq_true rfl) rfl rfl)
theorem b22_9s5 {d L : Nat} {σ : St} {Q : Option AV → AW → Prop} {y0 y1 : Int} {u0 : AV} : R d 22 9 [u0] [vI y0, vI y1] (WS L σ) Q = Q (some (vI (i_shr y1 y0))) (WS L σ) := K_ishr fi_22_9 <| R_ireti fi_22_10 rfl
theorem b22_0s6 {d L : Nat} {σ : St} {Q : Option AV → AW → Prop} : R (d + 1) 22 0 [vR 9] [] (WS L σ) Q = R d 23 0 [vR 9] [] (WS L σ) (fun r w => R (d + 1) 22 9 [vR 9] (am_push r [vI 5]) w Q) := K_aload_n fi_22_0 rfl <| K_gf fi_22_1 kd_9 mk_9_0 <| K_alenx fi_22_4 (Or.inr (Or.inr (Or.inr (Or.inr kd_17)))) rfl <| K_aload_n fi_22_5 rfl <| R_invV fi_22_6 (am_invV_of rfl (kd_9) (Nat.le_of_ble_eq_true rfl) (Nat.le_of_ble_eq_true rfl) rfl rfl)
theorem b22_9s6 {d L : Nat} {σ : St} {Q : Option AV → AW → Prop} {y0 y1 : Int} {u0 : AV} : R d 22 9 [u0] [vI y0, vI y1] (WS L σ) Q = Q (some (vI (i_shr y1 y0))) (WS L σ) := K_ishr fi_22_9 <| R_ireti fi_22_10 rfl
theorem b22_0s7 {d L : Nat} {σ : St} {Q : Option AV → AW → Prop} : R (d + 1) 22 0 [vR 10] [] (WS L σ) Q = R d 23 0 [vR 10] [] (WS L σ) (fun r w => R (d + 1) 22 9 [vR 10] (am_push r [vI 5]) w Q) := K_aload_n fi_22_0 rfl <| K_gf fi_22_1 kd_10 mk_10_0 <| K_alenx fi_22_4 (Or.inr (Or.inr (Or.inr (Or.inr kd_18)))) rfl <| K_aload_n fi_22_5 rfl <| R_invV fi_22_6 (am_invV_of rfl (kd_10) (Nat.le_of_ble_eq_true rfl) (Nat.le_of_ble_eq_true rfl) rfl rfl)
theorem b22_9s7 {d L : Nat} {σ : St} {Q : Option AV → AW → Prop} {y0 y1 : Int} {u0 : AV} : R d 22 9 [u0] [vI y0, vI y1] (WS L σ) Q = Q (some (vI (i_shr y1 y0))) (WS L σ) := K_ishr fi_22_9 <| R_ireti fi_22_10 rfl
theorem fi_23_0 : am_find 23 0 = some (.getstatic 38, 3, 0, 0, 464) := by decide +kernel
theorem fi_23_3 : am_find 23 3 = some (.ifCond .eq 10, 3, 0, 0, 0) := by decide +kernel
theorem fi_23_6 : am_find 23 6 = some (.aload_n 0, 1, 0, 0, 0) := by decide +kernel
theorem fi_23_7 : am_find 23 7 = some (.getfield 15, 3, 120, 1, 1486) := by decide +kernel
theorem fi_23_10 : am_find 23 10 = some (.goto 4, 3, 0, 0, 0) := by decide +kernel
theorem fi_23_13 : am_find 23 13 = some (.iconst 1, 1, 0, 1, 0) := by decide +kernel
theorem fi_23_14 : am_find 23 14 = some (.ireturn, 1, 2, 0, 0) := by decide +kernel
theorem b23_0s0 {d L : Nat} {σ : St} {Q : Option AV → AW → Prop} {u0 : AV} : R d 23 0 [u0] [] (WS L σ) Q = if 1 = 0 then R d 23 13 [u0] [] (WS L σ) Q else R d 23 6 [u0] [] (WS L σ) Q := K_getstatic fi_23_0 <| R_if_eq fi_23_3 rfl
theorem b23_6s0 {d L : Nat} {σ : St} {Q : Option AV → AW → Prop} : R d 23 6 [vR 3] [] (WS L σ) Q = R d 23 14 [vR 3] [vI 0] (WS L σ) Q := K_aload_n fi_23_6 rfl <| K_gf fi_23_7 kd_3 mk_3_1 <| R_goto fi_23_10 rfl
theorem b23_13s0 {d L : Nat} {σ : St} {Q : Option AV → AW → Prop} {u0 : AV} : R d 23 13 [u0] [] (WS L σ) Q = R d 23 14 [u0] [vI 1] (WS L σ) Q := K_iconst fi_23_13 <| rfl
theorem b23_14s0 {d L : Nat} {σ : St} {Q : Option AV → AW → Prop} {y0 : Int} {u0 : AV} (h1 : am_rfit 2 y0 = true) : R d 23 14 [u0] [vI y0] (WS L σ) Q = Q (some (vI y0)) (WS L σ) := R_ireti fi_23_14 h1
theorem b23_0s1 {d L : Nat} {σ : St} {Q : Option AV → AW → Prop} {u0 : AV} : R d 23 0 [u0] [] (WS L σ) Q = if 1 = 0 then R d 23 13 [u0] [] (WS L σ) Q else R d 23 6 [u0] [] (WS L σ) Q := K_getstatic fi_23_0 <| R_if_eq fi_23_3 rfl
theorem b23_6s1 {d L : Nat} {σ : St} {Q : Option AV → AW → Prop} : R d 23 6 [vR 4] [] (WS L σ) Q = R d 23 14 [vR 4] [vI 0] (WS L σ) Q := K_aload_n fi_23_6 rfl <| K_gf fi_23_7 kd_4 mk_4_1 <| R_goto fi_23_10 rfl
theorem b23_13s1 {d L : Nat} {σ : St} {Q : Option AV → AW → Prop} {u0 : AV} : R d 23 13 [u0] [] (WS L σ) Q = R d 23 14 [u0] [vI 1] (WS L σ) Q := K_iconst fi_23_13 <| rfl
theorem b23_14s1 {d L : Nat} {σ : St} {Q : Option AV → AW → Prop} {y0 : Int} {u0 : AV} (h1 : am_rfit 2 y0 = true) : R d 23 14 [u0] [vI y0] (WS L σ) Q = Q (some (vI y0)) (WS L σ) := R_ireti fi_23_14 h1
theorem b23_0s2 {d L : Nat} {σ : St} {Q : Option AV → AW → Prop} {u0 : AV} : R d 23 0 [u0] [] (WS L σ) Q = if 1 = 0 then R d 23 13 [u0] [] (WS L σ) Q else R d 23 6 [u0] [] (WS L σ) Q := K_getstatic fi_23_0 <| R_if_eq fi_23_3 rfl
theorem b23_6s2 {d L : Nat} {σ : St} {Q : Option AV → AW → Prop} : R d 23 6 [vR 5] [] (WS L σ) Q = R d 23 14 [vR 5] [vI 0] (WS L σ) Q := K_aload_n fi_23_6 rfl <| K_gf fi_23_7 kd_5 mk_5_1 <| R_goto fi_23_10 rfl
theorem b23_13s2 {d L : Nat} {σ : St} {Q : Option AV → AW → Prop} {u0 : AV} : R d 23 13 [u0] [] (WS L σ) Q = R d 23 14 [u0] [vI 1] (WS L σ) Q := K_iconst fi_23_13 <| rfl
theorem b23_14s2 {d L : Nat} {σ : St} {Q : Option AV → AW → Prop} {y0 : Int} {u0 : AV} (h1 : am_rfit 2 y0 = true) : R d 23 14 [u0] [vI y0] (WS L σ) Q = Q (some (vI y0)) (WS L σ) := R_ireti fi_23_14 h1
theorem b23_0s3 {d L : Nat} {σ : St} {Q : Option AV → AW → Prop} {u0 : AV} : R d 23 0 [u0] [] (WS L σ) Q = if 1 = 0 then R d 23 13 [u0] [] (WS L σ) Q else R d 23 6 [u0] [] (WS L σ) Q := K_getstatic fi_23_0 <| R_if_eq fi_23_3 rfl
theorem b23_6s3 {d L : Nat} {σ : St} {Q : Option AV → AW → Prop} : R d 23 6 [vR 6] [] (WS L σ) Q = R d 23 14 [vR 6] [vI 0] (WS L σ) Q := K_aload_n fi_23_6 rfl <| K_gf fi_23_7 kd_6 mk_6_1 <| R_goto fi_23_10 rfl
theorem b23_13s3 {d L : Nat} {σ : St} {Q : Option AV → AW → Prop} {u0 : AV} : R d 23 13 [u0] [] (WS L σ) Q = R d 23 14 [u0] [vI 1] (WS L σ) Q := K_iconst fi_23_13 <| rfl
theorem b23_14s3 {d L : Nat} {σ : St} {Q : Option AV → AW → Prop} {y0 : Int} {u0 : AV} (h1 : am_rfit 2 y0 = true) : R d 23 14 [u0] [vI y0] (WS L σ) Q = Q (some (vI y0)) (WS L σ) := R_ireti fi_23_14 h1
theorem b23_0s4 {d L : Nat} {σ : St} {Q : Option AV → AW → Prop} {u0 : AV} : R d 23 0 [u0] [] (WS L σ) Q = if 1 = 0 then R d 23 13 [u0] [] (WS L σ) Q else R d 23 6 [u0] [] (WS L σ) Q := K_getstatic fi_23_0 <| R_if_eq fi_23_3 rfl
theorem b23_6s4 {d L : Nat} {σ : St} {Q : Option AV → AW → Prop} : R d 23 6 [vR 7] [] (WS L σ) Q = R d 23 14 [vR 7] [vI 0] (WS L σ) Q := K_aload_n fi_23_6 rfl <| K_gf fi_23_7 kd_7 mk_7_1 <| R_goto fi_23_10 rfl
theorem b23_13s4 {d L : Nat} {σ : St} {Q : Option AV → AW → Prop} {u0 : AV} : R d 23 13 [u0] [] (WS L σ) Q = R d 23 14 [u0] [vI 1] (WS L σ) Q := K_iconst fi_23_13 <| rfl
theorem b23_14s4 {d L : Nat} {σ : St} {Q : Option AV → AW → Prop} {y0 : Int} {u0 : AV} (h1 : am_rfit 2 y0 = true) : R d 23 14 [u0] [vI y0] (WS L σ) Q = Q (some (vI y0)) (WS L σ) := R_ireti fi_23_14 h1
theorem b23_0s5 {d L : Nat} {σ : St} {Q : Option AV → AW → Prop} {u0 : AV} : R d 23 0 [u0] [] (WS L σ) Q = if 1 = 0 then R d 23 13 [u0] [] (WS L σ) Q else R d 23 6 [u0] [] (WS L σ) Q := K_getstatic fi_23_0 <| R_if_eq fi_23_3 rfl
theorem b23_6s5 {d L : Nat} {σ : St} {Q : Option AV → AW → Prop} : R d 23 6 [vR 8] [] (WS L σ) Q = R d 23 14 [vR 8] [vI 0] (WS L σ) Q := K_aload_n fi_23_6 rfl <| K_gf fi_23_7 kd_8 mk_8_1 <| R_goto fi_23_10 rfl
theorem b23_13s5 {d L : Nat} {σ : St} {Q : Option AV → AW → Prop} {u0 : AV} : R d 23 13 [u0] [] (WS L σ) Q = R d 23 14 [u0] [vI 1] (WS L σ) Q := K_iconst fi_23_13 <| rfl
theorem b23_14s5 {d L : Nat} {σ : St} {Q : Option AV → AW → Prop} {y0 : Int} {u0 : AV} (h1 : am_rfit 2 y0 = true) : R d 23 14 [u0] [vI y0] (WS L σ) Q = Q (some (vI y0)) (WS L σ) := R_ireti fi_23_14 h1
theorem b23_0s6 {d L : Nat} {σ : St} {Q : Option AV → AW → Prop} {u0 : AV} : R d 23 0 [u0] [] (WS L σ) Q = if 1 = 0 then R d 23 13 [u0] [] (WS L σ) Q else R d 23 6 [u0] [] (WS L σ) Q := K_getstatic fi_23_0 <| R_if_eq fi_23_3 rfl
theorem b23_6s6 {d L : Nat} {σ : St} {Q : Option AV → AW → Prop} : R d 23 6 [vR 9] [] (WS L σ) Q = R d 23 14 [vR 9] [vI 0] (WS L σ) Q := K_aload_n fi_23_6 rfl <| K_gf fi_23_7 kd_9 mk_9_1 <| R_goto fi_23_10 rfl
theorem b23_13s6 {d L : Nat} {σ : St} {Q : Option AV → AW → Prop} {u0 : AV} : R d 23 13 [u0] [] (WS L σ) Q = R d 23 14 [u0] [vI 1] (WS L σ) Q := K_iconst fi_23_13 <| rfl
theorem b23_14s6 {d L : Nat} {σ : St} {Q : Option AV → AW → Prop} {y0 : Int} {u0 : AV} (h1 : am_rfit 2 y0 = true) : R d 23 14 [u0] [vI y0] (WS L σ) Q = Q (some (vI y0)) (WS L σ) := R_ireti fi_23_14 h1
theorem b23_0s7 {d L : Nat} {σ : St} {Q : Option AV → AW → Prop} {u0 : AV} : R d 23 0 [u0] [] (WS L σ) Q = if 1 = 0 then R d 23 13 [u0] [] (WS L σ) Q else R d 23 6 [u0] [] (WS L σ) Q := K_getstatic fi_23_0 <| R_if_eq fi_23_3 rfl
theorem b23_6s7 {d L : Nat} {σ : St} {Q : Option AV → AW → Prop} : R d 23 6 [vR 10] [] (WS L σ) Q = R d 23 14 [vR 10] [vI 0] (WS L σ) Q := K_aload_n fi_23_6 rfl <| K_gf fi_23_7 kd_10 mk_10_1 <| R_goto fi_23_10 rfl
theorem b23_13s7 {d L : Nat} {σ : St} {Q : Option AV → AW → Prop} {u0 : AV} : R d 23 13 [u0] [] (WS L σ) Q = R d 23 14 [u0] [vI 1] (WS L σ) Q := K_iconst fi_23_13 <| rfl
theorem b23_14s7 {d L : Nat} {σ : St} {Q : Option AV → AW → Prop} {y0 : Int} {u0 : AV} (h1 : am_rfit 2 y0 = true) : R d 23 14 [u0] [vI y0] (WS L σ) Q = Q (some (vI y0)) (WS L σ) := R_ireti fi_23_14 h1
theorem fi_24_0 : am_find 24 0 = some (.aload_n 0, 1, 0, 0, 0) := by decide +kernel
theorem fi_24_1 : am_find 24 1 = some (.invokevirtual 492, 3, 25, 0, 37) := by decide +kernel
theorem fi_24_4 : am_find 24 4 = some (.ifCond .eq 12, 3, 0, 0, 0) := by decide +kernel
theorem fi_24_7 : am_find 24 7 = some (.aload_n 0, 1, 0, 0, 0) := by decide +kernel
theorem fi_24_8 : am_find 24 8 = some (.getfield 9, 3, 120, 0, 1485) := by decide +kernel
theorem fi_24_11 : am_find 24 11 = some (.iload_n 1, 1, 0, 0, 0) := by decide +kernel
theorem fi_24_12 : am_find 24 12 = some (.invokestatic 495, 3, 26, 2, 38) := by decide +kernel
theorem fi_24_15 : am_find 24 15 = some (.ireturn, 1, 3, 0, 0) := by decide +kernel
theorem fi_24_16 : am_find 24 16 = some (.aload_n 0, 1, 0, 0, 0) := by decide +kernel
theorem fi_24_17 : am_find 24 17 = some (.getfield 9, 3, 120, 0, 1485) := by decide +kernel
theorem fi_24_20 : am_find 24 20 = some (.iload_n 1, 1, 0, 0, 0) := by decide +kernel
theorem fi_24_24 : am_find 24 24 = some (.ireturn, 1, 3, 0, 0) := by decide +kernel
theorem b24_0s0 {d L : Nat} {σ : St} {Q : Option AV → AW → Prop} {u1 : AV} : R (d + 1) 24 0 [vR 3, u1] [] (WS L σ) Q = R d 25 0 [vR 3] [] (WS L σ) (fun r w => R (d + 1) 24 4 [vR 3, u1] (am_push r []) w Q) := K_aload_n fi_24_0 rfl <| R_invV fi_24_1 (am_invV_of rfl (kd_3) (Nat.le_of_ble_eq_true rfl) (Nat.le_of_ble_eq_true rfl) rfl rfl)
theorem b24_4s0 {d L : Nat} {σ : St} {Q : Option AV → AW → Prop} {y0 : Int} {u0 u1 : AV} : R d 24 4 [u0, u1] [vI y0] (WS L σ) Q = if y0 = 0 then R d 24 16 [u0, u1] [] (WS L σ) Q else R d 24 7 [u0, u1] [] (WS L σ) Q := R_if_eq fi_24_4 rfl
theorem b24_7s0 {d L : Nat} {σ : St} {Q : Option AV → AW → Prop} {x1 : Int} : R (d + 1) 24 7 [vR 3, vI x1] [] (WS L σ) Q = R d 26 0 [vR 11, vI x1] [] (WS L σ) (fun r w => R (d + 1) 24 15 [vR 3, vI x1] (am_push r []) w Q) := K_aload_n fi_24_7 rfl <| K_gf fi_24_8 kd_3 mk_3_0 <| K_iload_n fi_24_11 rfl <| R_invS fi_24_12 (by decide) (am_invS_of (Nat.le_of_ble_eq_true rfl) rfl (Nat.le_of_ble_eq_true rfl) (Nat.le_of_ble_eq_true rfl) rfl rfl)
theorem b24_15s0 {d L : Nat} {σ : St} {Q : Option AV → AW → Prop} {y0 : Int} {u0 u1 : AV} (h1 : am_rfit 3 y0 = true) : R d 24 15 [u0, u1] [vI y0] (WS L σ) Q = Q (some (vI y0)) (WS L σ) := R_ireti fi_24_15 h1
theorem b24_0s1 {d L : Nat} {σ : St} {Q : Option AV → AW → Prop} {u1 : AV} : R (d + 1) 24 0 [vR 4, u1] [] (WS L σ) Q = R d 25 0 [vR 4] [] (WS L σ) (fun r w => R (d + 1) 24 4 [vR 4, u1] (am_push r []) w Q) := K_aload_n fi_24_0 rfl <| R_invV fi_24_1 (am_invV_of rfl (kd_4) (Nat.le_of_ble_eq_true rfl) (Nat.le_of_ble_eq_true rfl) rfl rfl)
theorem b24_4s1 {d L : Nat} {σ : St} {Q : Option AV → AW → Prop} {y0 : Int} {u0 u1 : AV} : R d 24 4 [u0, u1] [vI y0] (WS L σ) Q = if y0 = 0 then R d 24 16 [u0, u1] [] (WS L σ) Q else R d 24 7 [u0, u1] [] (WS L σ) Q := R_if_eq fi_24_4 rfl
theorem b24_7s1 {d L : Nat} {σ : St} {Q : Option AV → AW → Prop} {x1 : Int} : R (d + 1) 24 7 [vR 4, vI x1] [] (WS L σ) Q = R d 26 0 [vR 12, vI x1] [] (WS L σ) (fun r w => R (d + 1) 24 15 [vR 4, vI x1] (am_push r []) w Q) := K_aload_n fi_24_7 rfl <| K_gf fi_24_8 kd_4 mk_4_0 <| K_iload_n fi_24_11 rfl <| R_invS fi_24_12 (by decide) (am_invS_of (Nat.le_of_ble_eq_true rfl) rfl (Nat.le_of_ble_eq_true rfl) (Nat.le_of_ble_eq_true rfl) rfl rfl)
theorem b24_15s1 {d L : Nat} {σ : St} {Q : Option AV → AW → Prop} {y0 : Int} {u0 u1 : AV} (h1 : am_rfit 3 y0 = true) : R d 24 15 [u0, u1] [vI y0] (WS L σ) Q = Q (some (vI y0)) (WS L σ) := R_ireti fi_24_15 h1
theorem b24_0s2 {d L : Nat} {σ : St} {Q : Option AV → AW → Prop} {u1 : AV} : R (d + 1) 24 0 [vR 5, u1] [] (WS L σ) Q = R d 25 0 [vR 5] [] (WS L σ) (fun r w => R (d + 1) 24 4 [vR 5, u1] (am_push r []) w Q) := K_aload_n fi_24_0 rfl <| R_invV fi_24_1 (am_invV_of rfl (kd_5) (Nat.le_of_ble_eq_true rfl) (Nat.le_of_ble_eq_true rfl) rfl rfl)
theorem b24_4s2 {d L : Nat} {σ : St} {Q : Option AV → AW → Prop} {y0 : Int} {u0 u1 : AV} : R d 24 4 [u0, u1] [vI y0] (WS L σ) Q = if y0 = 0 then R d 24 16 [u0, u1] [] (WS L σ) Q else R d 24 7 [u0, u1] [] (WS L σ) Q := R_if_eq fi_24_4 rfl
theorem b24_7s2 {d L : Nat} {σ : St} {Q : Option AV → AW → Prop} {x1 : Int} : R (d + 1) 24 7 [vR 5, vI x1] [] (WS L σ) Q = R d 26 0 [vR 13, vI x1] [] (WS L σ) (fun r w => R (d + 1) 24 15 [vR 5, vI x1] (am_push r []) w Q) := K_aload_n fi_24_7 rfl <| K_gf fi_24_8 kd_5 mk_5_0 <| K_iload_n fi_24_11 rfl <| R_invS fi_24_12 (by decide) (am_invS_of (Nat.le_of_ble_eq_true rfl) rfl (Nat.le_of_ble_eq_true rfl) (Nat.le_of_ble_eq_true rfl) rfl rfl)
theorem b24_15s2 {d L : Nat} {σ : St} {Q : Option AV → AW → Prop} {y0 : Int} {u0 u1 : AV} (h1 : am_rfit 3 y0 = true) : R d 24 15 [u0, u1] [vI y0] (WS L σ) Q = Q (some (vI y0)) (WS L σ) := R_ireti fi_24_15 h1
theorem b24_0s3 {d L : Nat} {σ : St} {Q : Option AV → AW → Prop} {u1 : AV} : R (d + 1) 24 0 [vR 6, u1] [] (WS L σ) Q = R d 25 0 [vR 6] [] (WS L σ) (fun r w => R (d + 1) 24 4 [vR 6, u1] (am_push r []) w Q) := K_aload_n fi_24_0 rfl <| R_invV fi_24_1 (am_invV_of rfl (kd_6) (Nat.le_of_ble_eq_true rfl) (Nat.le_of_ble_eq_true rfl) rfl rfl)
theorem b24_4s3 {d L : Nat} {σ : St} {Q : Option AV → AW → Prop} {y0 : Int} {u0 u1 : AV} : R d 24 4 [u0, u1] [vI y0] (WS L σ) Q = if y0 = 0 then R d 24 16 [u0, u1] [] (WS L σ) Q else R d 24 7 [u0, u1] [] (WS L σ) Q := R_if_eq fi_24_4 rfl
theorem b24_7s3 {d L : Nat} {σ : St} {Q : Option AV → AW → Prop} {x1 : Int} : R (d + 1) 24 7 [vR 6, vI x1] [] (WS L σ) Q = R d 26 0 [vR 14, vI x1] [] (WS L σ) (fun r w => R (d + 1) 24 15 [vR 6, vI x1] (am_push r []) w Q) := K_aload_n fi_24_7 rfl <| K_gf fi_24_8 kd_6 mk_6_0 <| K_iload_n fi_24_11 rfl <| R_invS fi_24_12 (by decide) (am_invS_of (Nat.le_of_ble_eq_true rfl) rfl (Nat.le_of_ble_eq_true rfl) (Nat.le_of_ble_eq_true rfl) rfl rfl)
theorem b24_15s3 {d L : Nat} {σ : St} {Q : Option AV → AW → Prop} {y0 : Int} {u0 u1 : AV} (h1 : am_rfit 3 y0 = true) : R d 24 15 [u0, u1] [vI y0] (WS L σ) Q = Q (some (vI y0)) (WS L σ) := R_ireti fi_24_15 h1
theorem b24_0s4 {d L : Nat} {σ : St} {Q : Option AV → AW → Prop} {u1 : AV} : R (d + 1) 24 0 [vR 7, u1] [] (WS L σ) Q = R d 25 0 [vR 7] [] (WS L σ) (fun r w => R (d + 1) 24 4 [vR 7, u1] (am_push r []) w Q) := K_aload_n fi_24_0 rfl <| R_invV fi_24_1 (am_invV_of rfl (kd_7) (Nat.le_of_ble_eq_true rfl) (Nat.le_of_ble_eq_true rfl) rfl rfl)
theorem b24_4s4 {d L : Nat} {σ : St} {Q : Option AV → AW → Prop} {y0 : Int} {u0 u1 : AV} : R d 24 4 [u0, u1] [vI y0] (WS L σ) Q = if y0 = 0 then R d 24 16 [u0, u1] [] (WS L σ) Q else R d 24 7 [u0, u1] [] (WS L σ) Q := R_if_eq fi_24_4 rfl
theorem b24_7s4 {d L : Nat} {σ : St} {Q : Option AV → AW → Prop} {x1 : Int} : R (d + 1) 24 7 [vR 7, vI x1] [] (WS L σ) Q = R d 26 0 [vR 15, vI x1] [] (WS L σ) (fun r w => R (d + 1) 24 15 [vR 7, vI x1] (am_push r []) w Q) := K_aload_n fi_24_7 rfl <| K_gf fi_24_8 kd_7 mk_7_0 <| K_iload_n fi_24_11 rfl <| R_invS fi_24_12 (by decide) (am_invS_of (Nat.le_of_ble_eq_true rfl) rfl (Nat.le_of_ble_eq_true rfl) (Nat.le_of_ble_eq_true rfl) rfl rfl)
theorem b24_15s4 {d L : Nat} {σ : St} {Q : Option AV → AW → Prop} {y0 : Int} {u0 u1 : AV} (h1 : am_rfit 3 y0 = true) : R d 24 15 [u0, u1] [vI y0] (WS L σ) Q = Q (some (vI y0)) (WS L σ) := R_ireti fi_24_15 h1
theorem b24_0s5 {d L : Nat} {σ : St} {Q : Option AV → AW → Prop} {u1 : AV} : R (d + 1) 24 0 [vR 8, u1] [] (WS L σ) Q = R d 25 0 [vR 8] [] (WS L σ) (fun r w => R (d + 1) 24 4 [vR 8, u1] (am_push r []) w Q) := K_aload_n fi_24_0 rfl <| R_invV fi_24_1 (am_invV_of rfl (kd_8) (Nat.le_of_ble_eq_true rfl) (Nat.le_of_ble_eq_true rfl) rfl rfl)
theorem b24_4s5 {d L : Nat} {σ : St} {Q : Option AV → AW → Prop} {y0 : Int} {u0 u1 : AV} : R d 24 4 [u0, u1] [vI y0] (WS L σ) Q = if y0 = 0 then R d 24 16 [u0, u1] [] (WS L σ) Q else R d 24 7 [u0, u1] [] (WS L σ) Q := R_if_eq fi_24_4 rfl
theorem b24_7s5 {d L : Nat} {σ : St} {Q : Option AV → AW → Prop} {x1 : Int} : R (d + 1) 24 7 [vR 8, vI x1] [] (WS L σ) Q = R d 26 0 [vR 16, vI x1] [] (WS L σ) (fun r w => R (d + 1) 24 15 [vR 8, vI x1] (am_push r []) w Q) := K_aload_n fi_24_7 rfl <| K_gf fi_24_8 kd_8 mk_8_0 <| K_iload_n fi_24_11 rfl <| R_invS fi_24_12 (by decide) (am_invS_of (Nat.le_of_ble_eq_true rfl) rfl (Nat.le_of_ble_eq_true rfl) (Nat.le_of_ble_eq_true rfl) rfl rfl)
theorem b24_15s5 {d L : Nat} {σ : St} {Q : Option AV → AW → Prop} {y0 : Int} {u0 u1 : AV} (h1 : am_rfit 3 y0 = true) : R d 24 15 [u0, u1] [vI y0] (WS L σ) Q = Q (some (vI y0)) (WS L σ) := R_ireti fi_24_15 h1
theorem b24_0s6 {d L : Nat} {σ : St} {Q : Option AV → AW → Prop} {u1 : AV} : R (d + 1) 24 0 [vR 9, u1] [] (WS L σ) Q = R d 25 0 [vR 9] [] (WS L σ) (fun r w => R (d + 1) 24 4 [vR 9, u1] (am_push r []) w Q) := K_aload_n fi_24_0 rfl <| R_invV fi_24_1 (am_invV_of rfl (kd_9) (Nat.le_of_ble_eq_true rfl) (Nat.le_of_ble_eq_true rfl) rfl rfl)
theorem b24_4s6 {d L : Nat} {σ : St} {Q : Option AV → AW → Prop} {y0 : Int} {u0 u1 : AV} : R d 24 4 [u0, u1] [vI y0] (WS L σ) Q = if y0 = 0 then R d 24 16 [u0, u1] [] (WS L σ) Q else R d 24 7 [u0, u1] [] (WS L σ) Q := R_if_eq fi_24_4 rfl
theorem b24_7s6 {d L : Nat} {σ : St} {Q : Option AV → AW → Prop} {x1 : Int} : R (d + 1) 24 7 [vR 9, vI x1] [] (WS L σ) Q = R d 26 0 [vR 17, vI x1] [] (WS L σ) (fun r w => R (d + 1) 24 15 [vR 9, vI x1] (am_push r []) w Q) := K_aload_n fi_24_7 rfl <| K_gf fi_24_8 kd_9 mk_9_0 <| K_iload_n fi_24_11 rfl <| R_invS fi_24_12 (by decide) (am_invS_of (Nat.le_of_ble_eq_true rfl) rfl (Nat.le_of_ble_eq_true rfl) (Nat.le_of_ble_eq_true rfl) rfl rfl)
theorem b24_15s6 {d L : Nat} {σ : St} {Q : Option AV → AW → Prop} {y0 : Int} {u0 u1 : AV} (h1 : am_rfit 3 y0 = true) : R d 24 15 [u0, u1] [vI y0] (WS L σ) Q = Q (some (vI y0)) (WS L σ) := R_ireti fi_24_15 h1
theorem b24_0s7 {d L : Nat} {σ : St} {Q : Option AV → AW → Prop} {u1 : AV} : R (d + 1) 24 0 [vR 10, u1] [] (WS L σ) Q = R d 25 0 [vR 10] [] (WS L σ) (fun r w => R (d + 1) 24 4 [vR 10, u1] (am_push r []) w Q) := K_aload_n fi_24_0 rfl <| R_invV fi_24_1 (am_invV_of rfl (kd_10) (Nat.le_of_ble_eq_true rfl) (Nat.le_of_ble_eq_true rfl) rfl rfl)
theorem b24_4s7 {d L : Nat} {σ : St} {Q : Option AV → AW → Prop} {y0 : Int} {u0 u1 : AV} : R d 24 4 [u0, u1] [vI y0] (WS L σ) Q = if y0 = 0 then R d 24 16 [u0, u1] [] (WS L σ) Q else R d 24 7 [u0, u1] [] (WS L σ) Q := R_if_eq fi_24_4 rfl
theorem b24_7s7 {d L : Nat} {σ : St} {Q : Option AV → AW → Prop} {x1 : Int} : R (d + 1) 24 7 [vR 10, vI x1] [] (WS L σ) Q = R d 26 0 [vR 18, vI x1] [] (WS L σ) (fun r w => R (d + 1) 24 15 [vR 10, vI x1] (am_push r []) w Q) := K_aload_n fi_24_7 rfl <| K_gf fi_24_8 kd_10 mk_10_0 <| K_iload_n fi_24_11 rfl <| R_invS fi_24_12 (by decide) (am_invS_of (Nat.le_of_ble_eq_true rfl) rfl (Nat.le_of_ble_eq_true rfl) (Nat.le_of_ble_eq_true rfl) rfl rfl)
theorem b24_15s7 {d L : Nat} {σ : St} {Q : Option AV → AW → Prop} {y0 : Int} {u0 u1 : AV} (h1 : am_rfit 3 y0 = true) : R d 24 15 [u0, u1] [vI y0] (WS L σ) Q = Q (some (vI y0)) (WS L σ) := R_ireti fi_24_15 h1
theorem fi_25_0 : am_find 25 0 = some (.getstatic 38, 3, 0, 0, 464) := by decide +kernel
theorem fi_25_3 : am_find 25 3 = some (.ifCond .eq 14, 3, 0, 0, 0) := by decide +kernel
theorem fi_25_6 : am_find 25 6 = some (.aload_n 0, 1, 0, 0, 0) := by decide +kernel
theorem fi_25_7 : am_find 25 7 = some (.getfield 15, 3, 120, 1, 1486) := by decide +kernel
theorem fi_25_10 : am_find 25 10 = some (.ifCond .ne 7, 3, 0, 0, 0) := by decide +kernel
theorem fi_25_13 : am_find 25 13 = some (.iconst 1, 1, 0, 1, 0) := by decide +kernel
theorem fi_25_14 : am_find 25 14 = some (.goto 4, 3, 0, 0, 0) := by decide +kernel
theorem fi_25_17 : am_find 25 17 = some (.iconst 0, 1, 0, 0, 0) := by decide +kernel
theorem fi_25_18 : am_find 25 18 = some (.ireturn, 1, 1, 0, 0) := by decide +kernel
theorem b25_0s0 {d L : Nat} {σ : St} {Q : Option AV → AW → Prop} {u0 : AV} : R d 25 0 [u0] [] (WS L σ) Q = if 1 = 0 then R d 25 17 [u0] [] (WS L σ) Q else R d 25 6 [u0] [] (WS L σ) Q := K_getstatic fi_25_0 <| R_if_eq fi_25_3 rfl
theorem b25_6s0 {d L : Nat} {σ : St} {Q : Option AV → AW → Prop} : R d 25 6 [vR 3] [] (WS L σ) Q = if ¬ 0 = 0 then R d 25 17 [vR 3] [] (WS L σ) Q else R d 25 13 [vR 3] [] (WS L σ) Q := K_aload_n fi_25_6 rfl <| K_gf fi_25_7 kd_3 mk_3_1 <| R_if_ne fi_25_10 rfl
theorem b25_13s0 {d L : Nat} {σ : St} {Q : Option AV → AW → Prop} {u0 : AV} : R d 25 13 [u0] [] (WS L σ) Q = R d 25 18 [u0] [vI 1] (WS L σ) Q := K_iconst fi_25_13 <| R_goto fi_25_14 rfl
theorem b25_17s0 {d L : Nat} {σ : St} {Q : Option AV → AW → Prop} {u0 : AV} : R d 25 17 [u0] [] (WS L σ) Q = R d 25 18 [u0] [vI 0] (WS L σ) Q := K_iconst fi_25_17 <| rfl
theorem b25_18s0 {d L : Nat} {σ : St} {Q : Option AV → AW → Prop} {y0 : Int} {u0 : AV} (h1 : am_rfit 1 y0 = true) : R d 25 18 [u0] [vI y0] (WS L σ) Q = Q (some (vI y0)) (WS L σ) := R_ireti fi_25_18 h1
theorem b25_0s1 {d L : Nat} {σ : St} {Q : Option AV → AW → Prop} {u0 : AV} : R d 25 0 [u0] [] (WS L σ) Q = if 1 = 0 then R d 25 17 [u0] [] (WS L σ) Q else R d 25 6 [u0] [] (WS L σ) Q := K_getstatic fi_25_0 <| R_if_eq fi_25_3 rfl
theorem b25_6s1 {d L : Nat} {σ : St} {Q : Option AV → AW → Prop} : R d 25 6 [vR 4] [] (WS L σ) Q = if ¬ 0 = 0 then R d 25 17 [vR 4] [] (WS L σ) Q else R d 25 13 [vR 4] [] (WS L σ) Q := K_aload_n fi_25_6 rfl <| K_gf fi_25_7 kd_4 mk_4_1 <| R_if_ne fi_25_10 rfl
theorem b25_13s1 {d L : Nat} {σ : St} {Q : Option AV → AW → Prop} {u0 : AV} : R d 25 13 [u0] [] (WS L σ) Q = R d 25 18 [u0] [vI 1] (WS L σ) Q := K_iconst fi_25_13 <| R_goto fi_25_14 rfl
theorem b25_17s1 {d L : Nat} {σ : St} {Q : Option AV → AW → Prop} {u0 : AV} : R d 25 17 [u0] [] (WS L σ) Q = R d 25 18 [u0] [vI 0] (WS L σ) Q := K_iconst fi_25_17 <| rfl
theorem b25_18s1 {d L : Nat} {σ : St} {Q : Option AV → AW → Prop} {y0 : Int} {u0 : AV} (h1 : am_rfit 1 y0 = true) : R d 25 18 [u0] [vI y0] (WS L σ) Q = Q (some (vI y0)) (WS L σ) := R_ireti fi_25_18 h1
theorem b25_0s2 {d L : Nat} {σ : St} {Q : Option AV → AW → Prop} {u0 : AV} : R d 25 0 [u0] [] (WS L σ) Q = if 1 = 0 then R d 25 17 [u0] [] (WS L σ) Q else R d 25 6 [u0] [] (WS L σ) Q := K_getstatic fi_25_0 <| R_if_eq fi_25_3 rfl
theorem b25_6s2 {d L : Nat} {σ : St} {Q : Option AV → AW → Prop} : R d 25 6 [vR 5] [] (WS L σ) Q = if ¬ 0 = 0 then R d 25 17 [vR 5] [] (WS L σ) Q else R d 25 13 [vR 5] [] (WS L σ) Q := K_aload_n fi_25_6 rfl <| K_gf fi_25_7 kd_5 mk_5_1 <| R_if_ne fi_25_10 rfl
theorem b25_13s2 {d L : Nat} {σ : St} {Q : Option AV → AW → Prop} {u0 : AV} : R d 25 13 [u0] [] (WS L σ) Q = R d 25 18 [u0] [vI 1] (WS L σ) Q := K_iconst fi_25_13 <| R_goto fi_25_14 rfl
theorem b25_17s2 {d L : Nat} {σ : St} {Q : Option AV → AW → Prop} {u0 : AV} : R d 25 17 [u0] [] (WS L σ) Q = R d 25 18 [u0] [vI 0] (WS L σ) Q := K_iconst fi_25_17 <| rfl
theorem b25_18s2 {d L : Nat} {σ : St} {Q : Option AV → AW → Prop} {y0 : Int} {u0 : AV} (h1 : am_rfit 1 y0 = true) : R d 25 18 [u0] [vI y0] (WS L σ) Q = Q (some (vI y0)) (WS L σ) := R_ireti fi_25_18 h1
theorem b25_0s3 {d L : Nat} {σ : St} {Q : Option AV → AW → Prop} {u0 : AV} : R d 25 0 [u0] [] (WS L σ) Q = if 1 = 0 then R d 25 17 [u0] [] (WS L σ) Q else R d 25 6 [u0] [] (WS L σ) Q := K_getstatic fi_25_0 <| R_if_eq fi_25_3 rfl
theorem b25_6s3 {d L : Nat} {σ : St} {Q : Option AV → AW → Prop} : R d 25 6 [vR 6] [] (WS L σ) Q = if ¬ 0 = 0 then R d 25 17 [vR 6] [] (WS L σ) Q else R d 25 13 [vR 6] [] (WS L σ) Q := K_aload_n fi_25_6 rfl <| K_gf fi_25_7 kd_6 mk_6_1 <| R_if_ne fi_25_10 rfl
theorem b25_13s3 {d L : Nat} {σ : St} {Q : Option AV → AW → Prop} {u0 : AV} : R d 25 13 [u0] [] (WS L σ) Q = R d 25 18 [u0] [vI 1] (WS L σ) Q := K_iconst fi_25_13 <| R_goto fi_25_14 rfl
theorem b25_17s3 {d L : Nat} {σ : St} {Q : Option AV → AW → Prop} {u0 : AV} : R d 25 17 [u0] [] (WS L σ) Q = R d 25 18 [u0] [vI 0] (WS L σ) Q := K_iconst fi_25_17 <| rfl
theorem b25_18s3 {d L : Nat} {σ : St} {Q : Option AV → AW → Prop} {y0 : Int} {u0 : AV} (h1 : am_rfit 1 y0 = true) : R d 25 18 [u0] [vI y0] (WS L σ) Q = Q (some (vI y0)) (WS L σ) := R_ireti fi_25_18 h1
theorem b25_0s4 {d L : Nat} {σ : St} {Q : Option AV → AW → Prop} {u0 : AV} : R d 25 0 [u0] [] (WS L σ) Q = if 1 = 0 then R d 25 17 [u0] [] (WS L σ) Q else R d 25 6 [u0] [] (WS L σ) Q := K_getstatic fi_25_0 <| R_if_eq fi_25_3 rfl
theorem b25_6s4 {d L : Nat} {σ : St} {Q : Option AV → AW → Prop} : R d 25 6 [vR 7] [] (WS L σ) Q = if ¬ 0 = 0 then R d 25 17 [vR 7] [] (WS L σ) Q else R d 25 13 [vR 7] [] (WS L σ) Q := K_aload_n fi_25_6 rfl <| K_gf fi_25_7 kd_7 mk_7_1 <| R_if_ne fi_25_10 rfl
theorem b25_13s4 {d L : Nat} {σ : St} {Q : Option AV → AW → Prop} {u0 : AV} : R d 25 13 [u0] [] (WS L σ) Q = R d 25 18 [u0] [vI 1] (WS L σ) Q := K_iconst fi_25_13 <| R_goto fi_25_14 rfl
theorem b25_17s4 {d L : Nat} {σ : St} {Q : Option AV → AW → Prop} {u0 : AV} : R d 25 17 [u0] [] (WS L σ) Q = R d 25 18 [u0] [vI 0] (WS L σ) Q := K_iconst fi_25_17 <| rfl
theorem b25_18s4 {d L : Nat} {σ : St} {Q : Option AV → AW → Prop} {y0 : Int} {u0 : AV} (h1 : am_rfit 1 y0 = true) : R d 25 18 [u0] [vI y0] (WS L σ) Q = Q (some (vI y0)) (WS L σ) := R_ireti fi_25_18 h1
theorem b25_0s5 {d L : Nat} {σ : St} {Q : Option AV → AW → Prop} {u0 : AV} : R d 25 0 [u0] [] (WS L σ) Q = if 1 = 0 then R d 25 17 [u0] [] (WS L σ) Q else R d 25 6 [u0] [] (WS L σ) Q := K_getstatic fi_25_0 <| R_if_eq fi_25_3 rfl
theorem b25_6s5 {d L : Nat} {σ : St} {Q : Option AV → AW → Prop} : R d 25 6 [vR 8] [] (WS L σ) Q = if ¬ 0 = 0 then R d 25 17 [vR 8] [] (WS L σ) Q else R d 25 13 [vR 8] [] (WS L σ) Q := K_aload_n fi_25_6 rfl <| K_gf fi_25_7 kd_8 mk_8_1 <| R_if_ne fi_25_10 rfl
theorem b25_13s5 {d L : Nat} {σ : St} {Q : Option AV → AW → Prop} {u0 : AV} : R d 25 13 [u0] [] (WS L σ) Q = R d 25 18 [u0] [vI 1] (WS L σ) Q := K_iconst fi_25_13 <| R_goto fi_25_14 rfl
theorem b25_17s5 {d L : Nat} {σ : St} {Q : Option AV → AW → Prop} {u0 : AV} : R d 25 17 [u0] [] (WS L σ) Q = R d 25 18 [u0] [vI 0] (WS L σ) Q := K_iconst fi_25_17 <| rfl
theorem b25_18s5 {d L : Nat} {σ : St} {Q : Option AV → AW → Prop} {y0 : Int} {u0 : AV} (h1 : am_rfit 1 y0 = true) : R d 25 18 [u0] [vI y0] (WS L σ) Q = Q (some (vI y0)) (WS L σ) := R_ireti fi_25_18 h1
theorem b25_0s6 {d L : Nat} {σ : St} {Q : Option AV → AW → Prop} {u0 : AV} : R d 25 0 [u0] [] (WS L σ) Q = if 1 = 0 then R d 25 17 [u0] [] (WS L σ) Q else R d 25 6 [u0] [] (WS L σ) Q := K_getstatic fi_25_0 <| R_if_eq fi_25_3 rfl
theorem b25_6s6 {d L : Nat} {σ : St} {Q : Option AV → AW → Prop} : R d 25 6 [vR 9] [] (WS L σ) Q = if ¬ 0 = 0 then R d 25 17 [vR 9] [] (WS L σ) Q else R d 25 13 [vR 9] [] (WS L σ) Q := K_aload_n fi_25_6 rfl <| K_gf fi_25_7 kd_9 mk_9_1 <| R_if_ne fi_25_10 rfl
theorem b25_13s6 {d L : Nat} {σ : St} {Q : Option AV → AW → Prop} {u0 : AV} : R d 25 13 [u0] [] (WS L σ) Q = R d 25 18 [u0] [vI 1] (WS L σ) Q := K_iconst fi_25_13 <| R_goto fi_25_14 rfl
theorem b25_17s6 {d L : Nat} {σ : St} {Q : Option AV → AW → Prop} {u0 : AV} : R d 25 17 [u0] [] (WS L σ) Q = R d 25 18 [u0] [vI 0] (WS L σ) Q := K_iconst fi_25_17 <| rfl
theorem b25_18s6 {d L : Nat} {σ : St} {Q : Option AV → AW → Prop} {y0 : Int} {u0 : AV} (h1 : am_rfit 1 y0 = true) : R d 25 18 [u0] [vI y0] (WS L σ) Q = Q (some (vI y0)) (WS L σ) := R_ireti fi_25_18 h1
theorem b25_0s7 {d L : Nat} {σ : St} {Q : Option AV → AW → Prop} {u0 : AV} : R d 25 0 [u0] [] (WS L σ) Q = if 1 = 0 then R d 25 17 [u0] [] (WS L σ) Q else R d 25 6 [u0] [] (WS L σ) Q := K_getstatic fi_25_0 <| R_if_eq fi_25_3 rfl
theorem b25_6s7 {d L : Nat} {σ : St} {Q : Option AV → AW → Prop} : R d 25 6 [vR 10] [] (WS L σ) Q = if ¬ 0 = 0 then R d 25 17 [vR 10] [] (WS L σ) Q else R d 25 13 [vR 10] [] (WS L σ) Q := K_aload_n fi_25_6 rfl <| K_gf fi_25_7 kd_10 mk_10_1 <| R_if_ne fi_25_10 rfl
theorem b25_13s7 {d L : Nat} {σ : St} {Q : Option AV → AW → Prop} {u0 : AV} : R d 25 13 [u0] [] (WS L σ) Q = R d 25 18 [u0] [vI 1] (WS L σ) Q := K_iconst fi_25_13 <| R_goto fi_25_14 rfl
theorem b25_17s7 {d L : Nat} {σ : St} {Q : Option AV → AW → Prop} {u0 : AV} : R d 25 17 [u0] [] (WS L σ) Q = R d 25 18 [u0] [vI 0] (WS L σ) Q := K_iconst fi_25_17 <| rfl
theorem b25_18s7 {d L : Nat} {σ : St} {Q : Option AV → AW → Prop} {y0 : Int} {u0 : AV} (h1 : am_rfit 1 y0 = true) : R d 25 18 [u0] [vI y0] (WS L σ) Q = Q (some (vI y0)) (WS L σ) := R_ireti fi_25_18 h1
theorem fi_26_0 : am_find 26 0 = some (.iload_n 1, 1, 0, 0, 0) := by decide +kernel
theorem fi_26_1 : am_find 26 1 = some (.aload_n 0, 1, 0, 0, 0) := by decide +kernel
theorem fi_26_2 : am_find 26 2 = some (.arraylength, 1, 0, 0, 0) := by decide +kernel
theorem fi_26_3 : am_find 26 3 = some (.invokestatic 9, 3, 27, 2, 39) := by decide +kernel
theorem fi_26_6 : am_find 26 6 = some (.aload_n 0, 1, 0, 0, 0) := by decide +kernel
theorem fi_26_7 : am_find 26 7 = some (.iload_n 1, 1, 0, 0, 0) := by decide +kernel
theorem fi_26_8 : am_find 26 8 = some (.baload, 1, 0, 0, 0) := by decide +kernel
theorem fi_26_9 : am_find 26 9 = some (.sipush 255, 3, 0, 255, 0) := by decide +kernel
theorem fi_26_12 : am_find 26 12 = some (.iand, 1, 0, 0, 0) := by decide +kernel
theorem fi_26_13 : am_find 26 13 = some (.i2c, 1, 0, 0, 0) := by decide +kernel
theorem fi_26_14 : am_find 26 14 = some (.ireturn, 1, 3, 0, 0) := by decide +kernel
theorem b26_0s0 {d L : Nat} {σ : St} {Q : Option AV → AW → Prop} {x1 : Int} : R (d + 1) 26 0 [vR 11, vI x1] [] (WS L σ) Q = R d 27 0 [vI x1, vI 4] [] (WS L σ) (fun r w => R (d + 1) 26 6 [vR 11, vI x1] (am_push r []) w Q) := K_iload_n fi_26_0 rfl <| K_aload_n fi_26_1 rfl <| K_alenx fi_26_2 (Or.inr (Or.inr (Or.inr (Or.inr kd_11)))) rfl <| R_invS fi_26_3 (by decide) (am_invS_of (Nat.le_of_ble_eq_true rfl) rfl (Nat.le_of_ble_eq_true rfl) (Nat.le_of_ble_eq_true rfl) rfl rfl)
theorem b26_6s0 {d L : Nat} {σ : St} {Q : Option AV → AW → Prop} {x1 : Int} (h1 : 0 ≤ x1) (h2 : x1 < 4) (h3 : am_rfit 3 (i_ch (i_and ((am_sbytes 11).getD x1.toNat 0) 255)) = true) : R d 26 6 [vR 11, vI x1] [] (WS L σ) Q = Q (some (vI (i_ch (i_and ((am_sbytes 11).getD x1.toNat 0) 255)))) (WS L σ) := K_aload_n fi_26_6 rfl <| K_iload_n fi_26_7 rfl <| K_bac fi_26_8 kd_11 rfl h1 h2 <| K_sipush fi_26_9 <| K_iand fi_26_12 <| K_i2c fi_26_13 <| R_ireti fi_26_14 h3
theorem b26_0s1 {d L : Nat} {σ : St} {Q : Option AV → AW → Prop} {x1 : Int} : R (d + 1) 26 0 [vR 12, vI x1] [] (WS L σ) Q = R d 27 0 [vI x1, vI 4] [] (WS L σ) (fun r w => R (d + 1) 26 6 [vR 12, vI x1] (am_push r []) w Q) := K_iload_n fi_26_0 rfl <| K_aload_n fi_26_1 rfl <| K_alenx fi_26_2 (Or.inr (Or.inr (Or.inr (Or.inr kd_12)))) rfl <| R_invS fi_26_3 (by decide) (am_invS_of (Nat.le_of_ble_eq_true rfl) rfl (Nat.le_of_ble_eq_true rfl) (Nat.le_of_ble_eq_true rfl) rfl rfl)
theorem b26_6s1 {d L : Nat} {σ : St} {Q : Option AV → AW → Prop} {x1 : Int} (h1 : 0 ≤ x1) (h2 : x1 < 4) (h3 : am_rfit 3 (i_ch (i_and ((am_sbytes 12).getD x1.toNat 0) 255)) = true) : R d 26 6 [vR 12, vI x1] [] (WS L σ) Q = Q (some (vI (i_ch (i_and ((am_sbytes 12).getD x1.toNat 0) 255)))) (WS L σ) := K_aload_n fi_26_6 rfl <| K_iload_n fi_26_7 rfl <| K_bac fi_26_8 kd_12 rfl h1 h2 <| K_sipush fi_26_9 <| K_iand fi_26_12 <| K_i2c fi_26_13 <| R_ireti fi_26_14 h3
theorem b26_0s2 {d L : Nat} {σ : St} {Q : Option AV → AW → Prop} {x1 : Int} : R (d + 1) 26 0 [vR 13, vI x1] [] (WS L σ) Q = R d 27 0 [vI x1, vI 4] [] (WS L σ) (fun r w => R (d + 1) 26 6 [vR 13, vI x1] (am_push r []) w Q) := K_iload_n fi_26_0 rfl <| K_aload_n fi_26_1 rfl <| K_alenx fi_26_2 (Or.inr (Or.inr (Or.inr (Or.inr kd_13)))) rfl <| R_invS fi_26_3 (by decide) (am_invS_of (Nat.le_of_ble_eq_true rfl) rfl (Nat.le_of_ble_eq_true rfl) (Nat.le_of_ble_eq_true rfl) rfl rfl)
theorem b26_6s2 {d L : Nat} {σ : St} {Q : Option AV → AW → Prop} {x1 : Int} (h1 : 0 ≤ x1) (h2 : x1 < 4) (h3 : am_rfit 3 (i_ch (i_and ((am_sbytes 13).getD x1.toNat 0) 255)) = true) : R d 26 6 [vR 13, vI x1] [] (WS L σ) Q = Q (some (vI (i_ch (i_and ((am_sbytes 13).getD x1.toNat 0) 255)))) (WS L σ) := K_aload_n fi_26_6 rfl <| K_iload_n fi_26_7 rfl <| K_bac fi_26_8 kd_13 rfl h1 h2 <| K_sipush fi_26_9 <| K_iand fi_26_12 <| K_i2c fi_26_13 <| R_ireti fi_26_14 h3
theorem b26_0s3 {d L : Nat} {σ : St} {Q : Option AV → AW → Prop} {x1 : Int} : R (d + 1) 26 0 [vR 14, vI x1] [] (WS L σ) Q = R d 27 0 [vI x1, vI 5] [] (WS L σ) (fun r w => R (d + 1) 26 6 [vR 14, vI x1] (am_push r []) w Q) := K_iload_n fi_26_0 rfl <| K_aload_n fi_26_1 rfl <| K_alenx fi_26_2 (Or.inr (Or.inr (Or.inr (Or.inr kd_14)))) rfl <| R_invS fi_26_3 (by decide) (am_invS_of (Nat.le_of_ble_eq_true rfl) rfl (Nat.le_of_ble_eq_true rfl) (Nat.le_of_ble_eq_true rfl) rfl rfl)
theorem b26_6s3 {d L : Nat} {σ : St} {Q : Option AV → AW → Prop} {x1 : Int} (h1 : 0 ≤ x1) (h2 : x1 < 5) (h3 : am_rfit 3 (i_ch (i_and ((am_sbytes 14).getD x1.toNat 0) 255)) = true) : R d 26 6 [vR 14, vI x1] [] (WS L σ) Q = Q (some (vI (i_ch (i_and ((am_sbytes 14).getD x1.toNat 0) 255)))) (WS L σ) := K_aload_n fi_26_6 rfl <| K_iload_n fi_26_7 rfl <| K_bac fi_26_8 kd_14 rfl h1 h2 <| K_sipush fi_26_9 <| K_iand fi_26_12 <| K_i2c fi_26_13 <| R_ireti fi_26_14 h3
theorem b26_0s4 {d L : Nat} {σ : St} {Q : Option AV → AW → Prop} {x1 : Int} : R (d + 1) 26 0 [vR 15, vI x1] [] (WS L σ) Q = R d 27 0 [vI x1, vI 4] [] (WS L σ) (fun r w => R (d + 1) 26 6 [vR 15, vI x1] (am_push r []) w Q) := K_iload_n fi_26_0 rfl <| K_aload_n fi_26_1 rfl <| K_alenx fi_26_2 (Or.inr (Or.inr (Or.inr (Or.inr kd_15)))) rfl <| R_invS fi_26_3 (by decide) (am_invS_of (Nat.le_of_ble_eq_true rfl) rfl (Nat.le_of_ble_eq_true rfl) (Nat.le_of_ble_eq_true rfl) rfl rfl)
theorem b26_6s4 {d L : Nat} {σ : St} {Q : Option AV → AW → Prop} {x1 : Int} (h1 : 0 ≤ x1) (h2 : x1 < 4) (h3 : am_rfit 3 (i_ch (i_and ((am_sbytes 15).getD x1.toNat 0) 255)) = true) : R d 26 6 [vR 15, vI x1] [] (WS L σ) Q = Q (some (vI (i_ch (i_and ((am_sbytes 15).getD x1.toNat 0) 255)))) (WS L σ) := K_aload_n fi_26_6 rfl <| K_iload_n fi_26_7 rfl <| K_bac fi_26_8 kd_15 rfl h1 h2 <| K_sipush fi_26_9 <| K_iand fi_26_12 <| K_i2c fi_26_13 <| R_ireti fi_26_14 h3
theorem b26_0s5 {d L : Nat} {σ : St} {Q : Option AV → AW → Prop} {x1 : Int} : R (d + 1) 26 0 [vR 16, vI x1] [] (WS L σ) Q = R d 27 0 [vI x1, vI 3] [] (WS L σ) (fun r w => R (d + 1) 26 6 [vR 16, vI x1] (am_push r []) w Q) := K_iload_n fi_26_0 rfl <| K_aload_n fi_26_1 rfl <| K_alenx fi_26_2 (Or.inr (Or.inr (Or.inr (Or.inr kd_16)))) rfl <| R_invS fi_26_3 (by decide) (am_invS_of (Nat.le_of_ble_eq_true rfl) rfl (Nat.le_of_ble_eq_true rfl) (Nat.le_of_ble_eq_true rfl) rfl rfl)
theorem b26_6s5 {d L : Nat} {σ : St} {Q : Option AV → AW → Prop} {x1 : Int} (h1 : 0 ≤ x1) (h2 : x1 < 3) (h3 : am_rfit 3 (i_ch (i_and ((am_sbytes 16).getD x1.toNat 0) 255)) = true) : R d 26 6 [vR 16, vI x1] [] (WS L σ) Q = Q (some (vI (i_ch (i_and ((am_sbytes 16).getD x1.toNat 0) 255)))) (WS L σ) := K_aload_n fi_26_6 rfl <| K_iload_n fi_26_7 rfl <| K_bac fi_26_8 kd_16 rfl h1 h2 <| K_sipush fi_26_9 <| K_iand fi_26_12 <| K_i2c fi_26_13 <| R_ireti fi_26_14 h3
theorem b26_0s6 {d L : Nat} {σ : St} {Q : Option AV → AW → Prop} {x1 : Int} : R (d + 1) 26 0 [vR 17, vI x1] [] (WS L σ) Q = R d 27 0 [vI x1, vI 5] [] (WS L σ) (fun r w => R (d + 1) 26 6 [vR 17, vI x1] (am_push r []) w Q) := K_iload_n fi_26_0 rfl <| K_aload_n fi_26_1 rfl <| K_alenx fi_26_2 (Or.inr (Or.inr (Or.inr (Or.inr kd_17)))) rfl <| R_invS fi_26_3 (by decide) (am_invS_of (Nat.le_of_ble_eq_true rfl) rfl (Nat.le_of_ble_eq_true rfl) (Nat.le_of_ble_eq_true rfl) rfl rfl)
theorem b26_6s6 {d L : Nat} {σ : St} {Q : Option AV → AW → Prop} {x1 : Int} (h1 : 0 ≤ x1) (h2 : x1 < 5) (h3 : am_rfit 3 (i_ch (i_and ((am_sbytes 17).getD x1.toNat 0) 255)) = true) : R d 26 6 [vR 17, vI x1] [] (WS L σ) Q = Q (some (vI (i_ch (i_and ((am_sbytes 17).getD x1.toNat 0) 255)))) (WS L σ) := K_aload_n fi_26_6 rfl <| K_iload_n fi_26_7 rfl <| K_bac fi_26_8 kd_17 rfl h1 h2 <| K_sipush fi_26_9 <| K_iand fi_26_12 <| K_i2c fi_26_13 <| R_ireti fi_26_14 h3
theorem b26_0s7 {d L : Nat} {σ : St} {Q : Option AV → AW → Prop} {x1 : Int} : R (d + 1) 26 0 [vR 18, vI x1] [] (WS L σ) Q = R d 27 0 [vI x1, vI 5] [] (WS L σ) (fun r w => R (d + 1) 26 6 [vR 18, vI x1] (am_push r []) w Q) := K_iload_n fi_26_0 rfl <| K_aload_n fi_26_1 rfl <| K_alenx fi_26_2 (Or.inr (Or.inr (Or.inr (Or.inr kd_18)))) rfl <| R_invS fi_26_3 (by decide) (am_invS_of (Nat.le_of_ble_eq_true rfl) rfl (Nat.le_of_ble_eq_true rfl) (Nat.le_of_ble_eq_true rfl) rfl rfl)
theorem b26_6s7 {d L : Nat} {σ : St} {Q : Option AV → AW → Prop} {x1 : Int} (h1 : 0 ≤ x1) (h2 : x1 < 5) (h3 : am_rfit 3 (i_ch (i_and ((am_sbytes 18).getD x1.toNat 0) 255)) = true) : R d 26 6 [vR 18, vI x1] [] (WS L σ) Q = Q (some (vI (i_ch (i_and ((am_sbytes 18).getD x1.toNat 0) 255)))) (WS L σ) := K_aload_n fi_26_6 rfl <| K_iload_n fi_26_7 rfl <| K_bac fi_26_8 kd_18 rfl h1 h2 <| K_sipush fi_26_9 <| K_iand fi_26_12 <| K_i2c fi_26_13 <| R_ireti fi_26_14 h3
theorem fi_27_0 : am_find 27 0 = some (.iload_n 0, 1, 0, 0, 0) := by decide +kernel
theorem fi_27_1 : am_find 27 1 = some (.iload_n 1, 1, 0, 0, 0) := by decide +kernel
theorem fi_27_2 : am_find 27 2 = some (.getstatic 1053, 3, 3, 0, 480) := by decide +kernel
theorem fi_27_5 : am_find 27 5 = some (.invokestatic 1059, 3, 28, 3, 40) := by decide +kernel
theorem fi_27_8 : am_find 27 8 = some (.pop, 1, 0, 0, 0) := by decide +kernel
theorem fi_27_9 : am_find 27 9 = some (.return_, 1, 0, 0, 0) := by decide +kernel
theorem b27_0 {d L : Nat} {σ : St} {Q : Option AV → AW → Prop} {x0 x1 : Int} : R (d + 1) 27 0 [vI x0, vI x1] [] (WS L σ) Q = R d 28 0 [vI x0, vI x1, vX 1] [] (WS L σ) (fun r w => R (d + 1) 27 8 [vI x0, vI x1] (am_push r []) w Q) := K_iload_n fi_27_0 rfl <| K_iload_n fi_27_1 rfl <| K_getstatic fi_27_2 <| R_invS fi_27_5 (by decide) (am_invS_of (Nat.le_of_ble_eq_true rfl) rfl (Nat.le_of_ble_eq_true rfl) (Nat.le_of_ble_eq_true rfl) rfl rfl)
theorem b27_8 {d L : Nat} {σ : St} {Q : Option AV → AW → Prop} {y0 : Int} {u0 u1 : AV} : R d 27 8 [u0, u1] [vI y0] (WS L σ) Q = Q none (WS L σ) := K_popi fi_27_8 <| R_return fi_27_9
theorem fi_28_0 : am_find 28 0 = some (.iload_n 0, 1, 0, 0, 0) := by decide +kernel
theorem fi_28_1 : am_find 28 1 = some (.ifCond .lt 8, 3, 0, 0, 0) := by decide +kernel
theorem fi_28_4 : am_find 28 4 = some (.iload_n 0, 1, 0, 0, 0) := by decide +kernel
theorem fi_28_5 : am_find 28 5 = some (.iload_n 1, 1, 0, 0, 0) := by decide +kernel
theorem fi_28_6 : am_find 28 6 = some (.if_icmp .lt 10, 3, 0, 0, 0) := by decide +kernel
theorem fi_28_9 : am_find 28 9 = some (.aload_n 2, 1, 0, 0, 0) := by decide +kernel
theorem fi_28_10 : am_find 28 10 = some (.iload_n 0, 1, 0, 0, 0) := by decide +kernel
theorem fi_28_11 : am_find 28 11 = some (.iload_n 1, 1, 0, 0, 0) := by decide +kernel
theorem fi_28_16 : am_find 28 16 = some (.iload_n 0, 1, 0, 0, 0) := by decide +kernel
theorem fi_28_17 : am_find 28 17 = some (.ireturn, 1, 0, 0, 0) := by decide +kernel
theorem b28_0 {d L : Nat} {σ : St} {Q : Option AV → AW → Prop} {x0 : Int} {u1 u2 : AV} : R d 28 0 [vI x0, u1, u2] [] (WS L σ) Q = if x0 < 0 then R d 28 9 [vI x0, u1, u2] [] (WS L σ) Q else R d 28 4 [vI x0, u1, u2] [] (WS L σ) Q := K_iload_n fi_28_0 rfl <| R_if_lt fi_28_1 rfl
theorem b28_4 {d L : Nat} {σ : St} {Q : Option AV → AW → Prop} {x0 x1 : Int} {u2 : AV} : R d 28 4 [vI x0, vI x1, u2] [] (WS L σ) Q = if x0 < x1 then R d 28 16 [vI x0, vI x1, u2] [] (WS L σ) Q else R d 28 9 [vI x0, vI x1, u2] [] (WS L σ) Q := K_iload_n fi_28_4 rfl <| K_iload_n fi_28_5 rfl <| R_icmp_lt fi_28_6 rfl
theorem b28_16 {d L : Nat} {σ : St} {Q : Option AV → AW → Prop} {x0 : Int} {u1 u2 : AV} : R d 28 16 [vI x0, u1, u2] [] (WS L σ) Q = Q (some (vI x0)) (WS L σ) := K_iload_n fi_28_16 rfl <| R_ireti fi_28_17 rfl
theorem fi_29_0 : am_find 29 0 = some (.aload_n 0, 1, 0, 0, 0) := by decide +kernel
theorem fi_29_1 : am_find 29 1 = some (.getfield 53, 3, 4, 8, 51) := by decide +kernel
theorem fi_29_4 : am_find 29 4 = some (.iload_n 1, 1, 0, 0, 0) := by decide +kernel
theorem fi_29_5 : am_find 29 5 = some (.if_icmp .ne 10, 3, 0, 0, 0) := by decide +kernel
theorem fi_29_8 : am_find 29 8 = some (.aload_n 0, 1, 0, 0, 0) := by decide +kernel
theorem fi_29_9 : am_find 29 9 = some (.invokevirtual 47, 3, 19, 0, 25) := by decide +kernel
theorem fi_29_12 : am_find 29 12 = some (.goto 7, 3, 0, 0, 0) := by decide +kernel
theorem fi_29_15 : am_find 29 15 = some (.aload_n 0, 1, 0, 0, 0) := by decide +kernel
theorem fi_29_16 : am_find 29 16 = some (.invokevirtual 56, 3, 21, 0, 27) := by decide +kernel
theorem fi_29_19 : am_find 29 19 = some (.return_, 1, 0, 0, 0) := by decide +kernel
theorem b29_0 {d L : Nat} {σ : St} {Q : Option AV → AW → Prop} {x1 : Int} : R d 29 0 [vR 134, vI x1] [] (WS L σ) Q = if ¬ (σ 134 8) = x1 then R d 29 15 [vR 134, vI x1] [] (WS L σ) Q else R d 29 8 [vR 134, vI x1] [] (WS L σ) Q := K_aload_n fi_29_0 rfl <| K_gf fi_29_1 kd_134 mk_134_8 <| K_iload_n fi_29_4 rfl <| R_icmp_ne fi_29_5 rfl
theorem b29_8 {d L : Nat} {σ : St} {Q : Option AV → AW → Prop} {u1 : AV} : R (d + 1) 29 8 [vR 134, u1] [] (WS L σ) Q = R d 19 0 [vR 134] [] (WS L σ) (fun r w => R (d + 1) 29 12 [vR 134, u1] (am_push r []) w Q) := K_aload_n fi_29_8 rfl <| R_invV fi_29_9 (am_invV_of rfl (kd_134) (Nat.le_of_ble_eq_true rfl) (Nat.le_of_ble_eq_true rfl) rfl rfl)
theorem b29_12 {d L : Nat} {σ : St} {Q : Option AV → AW → Prop} {u0 u1 : AV} : R d 29 12 [u0, u1] [] (WS L σ) Q = R d 29 19 [u0, u1] [] (WS L σ) Q := R_goto fi_29_12 rfl
theorem b29_15 {d L : Nat} {σ : St} {Q : Option AV → AW → Prop} {u1 : AV} : R (d + 1) 29 15 [vR 134, u1] [] (WS L σ) Q = R d 21 0 [vR 134] [] (WS L σ) (fun r w => R (d + 1) 29 19 [vR 134, u1] (am_push r []) w Q) := K_aload_n fi_29_15 rfl <| R_invV fi_29_16 (am_invV_of rfl (kd_134) (Nat.le_of_ble_eq_true rfl) (Nat.le_of_ble_eq_true rfl) rfl rfl)
theorem b29_19 {d L : Nat} {σ : St} {Q : Option AV → AW → Prop} {u0 u1 : AV} : R d 29 19 [u0, u1] [] (WS L σ) Q = Q none (WS L σ) := R_return fi_29_19
theorem fi_30_0 : am_find 30 0 = some (.iconst (-1), 1, 0, (-1), 0) := by decide +kernel
theorem fi_30_1 : am_find 30 1 = some (.istore_n 1, 1, 0, 0, 0) := by decide +kernel
theorem fi_30_2 : am_find 30 2 = some (.iconst 0, 1, 0, 0, 0) := by decide +kernel
theorem fi_30_3 : am_find 30 3 = some (.istore_n 2, 1, 0, 0, 0) := by decide +kernel
theorem fi_30_4 : am_find 30 4 = some (.iload_n 2, 1, 0, 0, 0) := by decide +kernel
theorem fi_30_5 : am_find 30 5 = some (.iconst 2, 1, 0, 2, 0) := by decide +kernel
theorem fi_30_6 : am_find 30 6 = some (.if_icmp .ge 52, 3, 0, 0, 0) := by decide +kernel
theorem fi_30_9 : am_find 30 9 = some (.iload_n 1, 1, 0, 0, 0) := by decide +kernel
theorem fi_30_10 : am_find 30 10 = some (.ifCond .eq 48, 3, 0, 0, 0) := by decide +kernel
theorem fi_30_13 : am_find 30 13 = some (.aload_n 0, 1, 0, 0, 0) := by decide +kernel
theorem fi_30_14 : am_find 30 14 = some (.getfield 53, 3, 4, 8, 51) := by decide +kernel
theorem fi_30_17 : am_find 30 17 = some (.bipush 48, 2, 0, 48, 0) := by decide +kernel
theorem fi_30_19 : am_find 30 19 = some (.if_icmp .lt 39, 3, 0, 0, 0) := by decide +kernel
theorem fi_30_22 : am_find 30 22 = some (.aload_n 0, 1, 0, 0, 0) := by decide +kernel
theorem fi_30_23 : am_find 30 23 = some (.getfield 53, 3, 4, 8, 51) := by decide +kernel
theorem fi_30_26 : am_find 30 26 = some (.bipush 57, 2, 0, 57, 0) := by decide +kernel
theorem fi_30_28 : am_find 30 28 = some (.if_icmp .gt 30, 3, 0, 0, 0) := by decide +kernel
theorem fi_30_31 : am_find 30 31 = some (.iload_n 1, 1, 0, 0, 0) := by decide +kernel
theorem fi_30_32 : am_find 30 32 = some (.iconst 0, 1, 0, 0, 0) := by decide +kernel
theorem fi_30_33 : am_find 30 33 = some (.invokestatic 110, 3, 9990, 0, 512) := by decide +kernel
theorem fi_30_36 : am_find 30 36 = some (.bipush 10, 2, 0, 10, 0) := by decide +kernel
theorem fi_30_38 : am_find 30 38 = some (.imul, 1, 0, 0, 0) := by decide +kernel
theorem fi_30_39 : am_find 30 39 = some (.aload_n 0, 1, 0, 0, 0) := by decide +kernel
theorem fi_30_40 : am_find 30 40 = some (.getfield 53, 3, 4, 8, 51) := by decide +kernel
theorem fi_30_43 : am_find 30 43 = some (.iadd, 1, 0, 0, 0) := by decide +kernel
theorem fi_30_44 : am_find 30 44 = some (.bipush 48, 2, 0, 48, 0) := by decide +kernel
theorem fi_30_46 : am_find 30 46 = some (.isub, 1, 0, 0, 0) := by decide +kernel
theorem fi_30_47 : am_find 30 47 = some (.istore_n 1, 1, 0, 0, 0) := by decide +kernel
theorem fi_30_48 : am_find 30 48 = some (.aload_n 0, 1, 0, 0, 0) := by decide +kernel
theorem fi_30_49 : am_find 30 49 = some (.invokevirtual 47, 3, 19, 0, 25) := by decide +kernel
theorem fi_30_52 : am_find 30 52 = some (.iinc 2 1, 3, 0, 0, 0) := by decide +kernel
theorem fi_30_55 : am_find 30 55 = some (.goto (-51), 3, 0, 0, 0) := by decide +kernel
theorem fi_30_58 : am_find 30 58 = some (.iload_n 1, 1, 0, 0, 0) := by decide +kernel
theorem fi_30_59 : am_find 30 59 = some (.ifCond .ge 7, 3, 0, 0, 0) := by decide +kernel
theorem fi_30_62 : am_find 30 62 = some (.aload_n 0, 1, 0, 0, 0) := by decide +kernel
theorem fi_30_63 : am_find 30 63 = some (.invokevirtual 56, 3, 21, 0, 27) := by decide +kernel
theorem fi_30_66 : am_find 30 66 = some (.iload_n 1, 1, 0, 0, 0) := by decide +kernel
theorem fi_30_67 : am_find 30 67 = some (.ireturn, 1, 0, 0, 0) := by decide +kernel
theorem b30_0 {d L : Nat} {σ : St} {Q : Option AV → AW → Prop} {u0 u1 u2 : AV} : R d 30 0 [u0, u1, u2] [] (WS L σ) Q = R d 30 4 [u0, vI (-1), vI 0] [] (WS L σ) Q := K_iconst fi_30_0 <| K_istore_n fi_30_1 (Nat.le_of_ble_eq_true rfl) rfl rfl <| K_iconst fi_30_2 <| K_istore_n fi_30_3 (Nat.le_of_ble_eq_true rfl) rfl rfl <| rfl
theorem b30_4 {d L : Nat} {σ : St} {Q : Option AV → AW → Prop} {x2 : Int} {u0 u1 : AV} : R d 30 4 [u0, u1, vI x2] [] (WS L σ) Q = if 2 ≤ x2 then R d 30 58 [u0, u1, vI x2] [] (WS L σ) Q else R d 30 9 [u0, u1, vI x2] [] (WS L σ) Q := K_iload_n fi_30_4 rfl <| K_iconst fi_30_5 <| R_icmp_ge fi_30_6 rfl
theorem b30_9 {d L : Nat} {σ : St} {Q : Option AV → AW → Prop} {x1 : Int} {u0 u2 : AV} : R d 30 9 [u0, vI x1, u2] [] (WS L σ) Q = if x1 = 0 then R d 30 58 [u0, vI x1, u2] [] (WS L σ) Q else R d 30 13 [u0, vI x1, u2] [] (WS L σ) Q := K_iload_n fi_30_9 rfl <| R_if_eq fi_30_10 rfl
theorem b30_13 {d L : Nat} {σ : St} {Q : Option AV → AW → Prop} {u1 u2 : AV} : R d 30 13 [vR 134, u1, u2] [] (WS L σ) Q = if (σ 134 8) < 48 then R d 30 58 [vR 134, u1, u2] [] (WS L σ) Q else R d 30 22 [vR 134, u1, u2] [] (WS L σ) Q := K_aload_n fi_30_13 rfl <| K_gf fi_30_14 kd_134 mk_134_8 <| K_bipush fi_30_17 <| R_icmp_lt fi_30_19 rfl
theorem b30_22 {d L : Nat} {σ : St} {Q : Option AV → AW → Prop} {u1 u2 : AV} : R d 30 22 [vR 134, u1, u2] [] (WS L σ) Q = if 57 < (σ 134 8) then R d 30 58 [vR 134, u1, u2] [] (WS L σ) Q else R d 30 31 [vR 134, u1, u2] [] (WS L σ) Q := K_aload_n fi_30_22 rfl <| K_gf fi_30_23 kd_134 mk_134_8 <| K_bipush fi_30_26 <| R_icmp_gt fi_30_28 rfl
theorem b30_31 {d L : Nat} {σ : St} {Q : Option AV → AW → Prop} {x1 : Int} {u2 : AV} (h1 : -2147483648 ≤ (i_max x1 0) * 10 ∧ (i_max x1 0) * 10 ≤ 2147483647) (h2 : -2147483648 ≤ ((i_max x1 0) * 10) + (σ 134 8) ∧ ((i_max x1 0) * 10) + (σ 134 8) ≤ 2147483647) (h3 : -2147483648 ≤ (((i_max x1 0) * 10) + (σ 134 8)) - 48 ∧ (((i_max x1 0) * 10) + (σ 134 8)) - 48 ≤ 2147483647) : R (d + 1) 30 31 [vR 134, vI x1, u2] [] (WS L σ) Q = R d 19 0 [vR 134] [] (WS L σ) (fun r w => R (d + 1) 30 52 [vR 134, vI ((((i_max x1 0) * 10) + (σ 134 8)) - 48), u2] (am_push r []) w Q) := K_iload_n fi_30_31 rfl <| K_iconst fi_30_32 <| K_max fi_30_33 (Nat.le_of_ble_eq_true rfl) <| K_bipush fi_30_36 <| K_imulx fi_30_38 h1 <| K_aload_n fi_30_39 rfl <| K_gf fi_30_40 kd_134 mk_134_8 <| K_iaddx fi_30_43 h2 <| K_bipush fi_30_44 <| K_isubx fi_30_46 h3 <| K_istore_n fi_30_47 (Nat.le_of_ble_eq_true rfl) rfl rfl <| K_aload_n fi_30_48 rfl <| R_invV fi_30_49 (am_invV_of rfl (kd_134) (Nat.le_of_ble_eq_true rfl) (Nat.le_of_ble_eq_true rfl) rfl rfl)
theorem b30_52 {d L : Nat} {σ : St} {Q : Option AV → AW → Prop} {x2 x1 : Int} {u0 : AV} (h1 : -2147483648 ≤ x2 + 1 ∧ x2 + 1 ≤ 2147483647) : R d 30 52 [u0, vI x1, vI x2] [] (WS L σ) Q = R d 30 4 [u0, vI x1, vI (x2 + 1)] [] (WS L σ) Q := K_iincx fi_30_52 rfl (Nat.le_of_ble_eq_true rfl) rfl h1 rfl <| R_goto fi_30_55 rfl
theorem b30_58 {d L : Nat} {σ : St} {Q : Option AV → AW → Prop} {x1 : Int} {u0 u2 : AV} : R d 30 58 [u0, vI x1, u2] [] (WS L σ) Q = if 0 ≤ x1 then R d 30 66 [u0, vI x1, u2] [] (WS L σ) Q else R d 30 62 [u0, vI x1, u2] [] (WS L σ) Q := K_iload_n fi_30_58 rfl <| R_if_ge fi_30_59 rfl
theorem b30_62 {d L : Nat} {σ : St} {Q : Option AV → AW → Prop} {u1 u2 : AV} : R (d + 1) 30 62 [vR 134, u1, u2] [] (WS L σ) Q = R d 21 0 [vR 134] [] (WS L σ) (fun r w => R (d + 1) 30 66 [vR 134, u1, u2] (am_push r []) w Q) := K_aload_n fi_30_62 rfl <| R_invV fi_30_63 (am_invV_of rfl (kd_134) (Nat.le_of_ble_eq_true rfl) (Nat.le_of_ble_eq_true rfl) rfl rfl)
theorem b30_66 {d L : Nat} {σ : St} {Q : Option AV → AW → Prop} {x1 : Int} {u0 u2 : AV} : R d 30 66 [u0, vI x1, u2] [] (WS L σ) Q = Q (some (vI x1)) (WS L σ) := K_iload_n fi_30_66 rfl <| R_ireti fi_30_67 rfl
theorem fi_31_0 : am_find 31 0 = some (.iconst 0, 1, 0, 0, 0) := by decide +kernel
theorem fi_31_1 : am_find 31 1 = some (.istore_n 2, 1, 0, 0, 0) := by decide +kernel
theorem fi_31_2 : am_find 31 2 = some (.aload_n 0, 1, 0, 0, 0) := by decide +kernel
theorem fi_31_3 : am_find 31 3 = some (.iload_n 1, 1, 0, 0, 0) := by decide +kernel
theorem fi_31_4 : am_find 31 4 = some (.invokevirtual 116, 3, 32, 1, 41) := by decide +kernel
theorem fi_31_7 : am_find 31 7 = some (.istore_n 3, 1, 0, 0, 0) := by decide +kernel
theorem fi_31_8 : am_find 31 8 = some (.iconst 0, 1, 0, 0, 0) := by decide +kernel
theorem fi_31_9 : am_find 31 9 = some (.istore 4, 2, 0, 0, 0) := by decide +kernel
theorem fi_31_11 : am_find 31 11 = some (.iload 4, 2, 0, 0, 0) := by decide +kernel
theorem fi_31_13 : am_find 31 13 = some (.bipush 120, 2, 0, 120, 0) := by decide +kernel
theorem fi_31_15 : am_find 31 15 = some (.if_icmp .ge 82, 3, 0, 0, 0) := by decide +kernel
theorem fi_31_18 : am_find 31 18 = some (.aload_n 0, 1, 0, 0, 0) := by decide +kernel
theorem fi_31_19 : am_find 31 19 = some (.getfield 53, 3, 4, 8, 51) := by decide +kernel
theorem fi_31_22 : am_find 31 22 = some (.bipush 124, 2, 0, 124, 0) := by decide +kernel
theorem fi_31_24 : am_find 31 24 = some (.if_icmp .eq 12, 3, 0, 0, 0) := by decide +kernel
theorem fi_31_27 : am_find 31 27 = some (.aload_n 0, 1, 0, 0, 0) := by decide +kernel
theorem fi_31_28 : am_find 31 28 = some (.getfield 53, 3, 4, 8, 51) := by decide +kernel
theorem fi_31_31 : am_find 31 31 = some (.bipush 38, 2, 0, 38, 0) := by decide +kernel
theorem fi_31_33 : am_find 31 33 = some (.if_icmp .ne 64, 3, 0, 0, 0) := by decide +kernel
theorem fi_31_36 : am_find 31 36 = some (.aload_n 0, 1, 0, 0, 0) := by decide +kernel
theorem fi_31_37 : am_find 31 37 = some (.getfield 53, 3, 4, 8, 51) := by decide +kernel
theorem fi_31_40 : am_find 31 40 = some (.bipush 124, 2, 0, 124, 0) := by decide +kernel
theorem fi_31_42 : am_find 31 42 = some (.if_icmp .ne 7, 3, 0, 0, 0) := by decide +kernel
theorem fi_31_45 : am_find 31 45 = some (.iconst 1, 1, 0, 1, 0) := by decide +kernel
theorem fi_31_46 : am_find 31 46 = some (.goto 4, 3, 0, 0, 0) := by decide +kernel
theorem fi_31_49 : am_find 31 49 = some (.iconst 0, 1, 0, 0, 0) := by decide +kernel
theorem fi_31_50 : am_find 31 50 = some (.istore 5, 2, 0, 0, 0) := by decide +kernel
theorem fi_31_52 : am_find 31 52 = some (.aload_n 0, 1, 0, 0, 0) := by decide +kernel
theorem fi_31_53 : am_find 31 53 = some (.invokevirtual 47, 3, 19, 0, 25) := by decide +kernel
theorem fi_31_56 : am_find 31 56 = some (.aload_n 0, 1, 0, 0, 0) := by decide +kernel
theorem fi_31_57 : am_find 31 57 = some (.iload_n 1, 1, 0, 0, 0) := by decide +kernel
theorem fi_31_58 : am_find 31 58 = some (.invokevirtual 116, 3, 32, 1, 41) := by decide +kernel
theorem fi_31_61 : am_find 31 61 = some (.istore 6, 2, 0, 0, 0) := by decide +kernel
theorem fi_31_63 : am_find 31 63 = some (.iload_n 2, 1, 0, 0, 0) := by decide +kernel
theorem fi_31_64 : am_find 31 64 = some (.iload 5, 2, 0, 0, 0) := by decide +kernel
theorem fi_31_66 : am_find 31 66 = some (.ifCond .eq 7, 3, 0, 0, 0) := by decide +kernel
theorem fi_31_69 : am_find 31 69 = some (.iload_n 3, 1, 0, 0, 0) := by decide +kernel
theorem fi_31_70 : am_find 31 70 = some (.goto 4, 3, 0, 0, 0) := by decide +kernel
theorem fi_31_73 : am_find 31 73 = some (.iconst 0, 1, 0, 0, 0) := by decide +kernel
theorem fi_31_74 : am_find 31 74 = some (.ior, 1, 0, 0, 0) := by decide +kernel
theorem fi_31_75 : am_find 31 75 = some (.istore_n 2, 1, 0, 0, 0) := by decide +kernel
theorem fi_31_76 : am_find 31 76 = some (.iload 5, 2, 0, 0, 0) := by decide +kernel
theorem fi_31_78 : am_find 31 78 = some (.ifCond .eq 8, 3, 0, 0, 0) := by decide +kernel
theorem fi_31_81 : am_find 31 81 = some (.iload 6, 2, 0, 0, 0) := by decide +kernel
theorem fi_31_83 : am_find 31 83 = some (.goto 7, 3, 0, 0, 0) := by decide +kernel
theorem fi_31_86 : am_find 31 86 = some (.iload_n 3, 1, 0, 0, 0) := by decide +kernel
theorem fi_31_87 : am_find 31 87 = some (.iload 6, 2, 0, 0, 0) := by decide +kernel
theorem fi_31_89 : am_find 31 89 = some (.iand, 1, 0, 0, 0) := by decide +kernel
theorem fi_31_90 : am_find 31 90 = some (.istore_n 3, 1, 0, 0, 0) := by decide +kernel
theorem fi_31_91 : am_find 31 91 = some (.iinc 4 1, 3, 0, 0, 0) := by decide +kernel
theorem fi_31_94 : am_find 31 94 = some (.goto (-83), 3, 0, 0, 0) := by decide +kernel
theorem fi_31_97 : am_find 31 97 = some (.iload_n 2, 1, 0, 0, 0) := by decide +kernel
theorem fi_31_98 : am_find 31 98 = some (.iload_n 3, 1, 0, 0, 0) := by decide +kernel
theorem fi_31_99 : am_find 31 99 = some (.ior, 1, 0, 0, 0) := by decide +kernel
theorem fi_31_100 : am_find 31 100 = some (.ireturn, 1, 0, 0, 0) := by decide +kernel
theorem b31_0 {d L : Nat} {σ : St} {Q : Option AV → AW → Prop} {x1 : Int} {u2 u3 u4 u5 u6 : AV} : R (d + 1) 31 0 [vR 134, vI x1, u2, u3, u4, u5, u6] [] (WS L σ) Q = R d 32 0 [vR 134, vI x1, vX 9, vX 9] [] (WS L σ) (fun r w => R (d + 1) 31 7 [vR 134, vI x1, vI 0, u3, u4, u5, u6] (am_push r []) w Q) := K_iconst fi_31_0 <| K_istore_n fi_31_1 (Nat.le_of_ble_eq_true rfl) rfl rfl <| K_aload_n fi_31_2 rfl <| K_iload_n fi_31_3 rfl <| R_invV fi_31_4 (am_invV_of rfl (kd_134) (Nat.le_of_ble_eq_true rfl) (Nat.le_of_ble_eq_true rfl) rfl rfl)
theorem b31_7 {d L : Nat} {σ : St} {Q : Option AV → AW → Prop} {y0 : Int} {u0 u1 u2 u3 u4 u5 u6 : AV} : R d 31 7 [u0, u1, u2, u3, u4, u5, u6] [vI y0] (WS L σ) Q = R d 31 11 [u0, u1, u2, vI y0, vI 0, u5, u6] [] (WS L σ) Q := K_istore_n fi_31_7 (Nat.le_of_ble_eq_true rfl) rfl rfl <| K_iconst fi_31_8 <| K_istore fi_31_9 (Nat.le_of_ble_eq_true rfl) rfl rfl <| rfl
theorem b31_11 {d L : Nat} {σ : St} {Q : Option AV → AW → Prop} {x4 : Int} {u0 u1 u2 u3 u5 u6 : AV} : R d 31 11 [u0, u1, u2, u3, vI x4, u5, u6] [] (WS L σ) Q = if 120 ≤ x4 then R d 31 97 [u0, u1, u2, u3, vI x4, u5, u6] [] (WS L σ) Q else R d 31 18 [u0, u1, u2, u3, vI x4, u5, u6] [] (WS L σ) Q := K_iload fi_31_11 rfl <| K_bipush fi_31_13 <| R_icmp_ge fi_31_15 rfl
theorem b31_18 {d L : Nat} {σ : St} {Q : Option AV → AW → Prop} {u1 u2 u3 u4 u5 u6 : AV} : R d 31 18 [vR 134, u1, u2, u3, u4, u5, u6] [] (WS L σ) Q = if (σ 134 8) = 124 then R d 31 36 [vR 134, u1, u2, u3, u4, u5, u6] [] (WS L σ) Q else R d 31 27 [vR 134, u1, u2, u3, u4, u5, u6] [] (WS L σ) Q := K_aload_n fi_31_18 rfl <| K_gf fi_31_19 kd_134 mk_134_8 <| K_bipush fi_31_22 <| R_icmp_eq fi_31_24 rfl
theorem b31_27 {d L : Nat} {σ : St} {Q : Option AV → AW → Prop} {u1 u2 u3 u4 u5 u6 : AV} : R d 31 27 [vR 134, u1, u2, u3, u4, u5, u6] [] (WS L σ) Q = if ¬ (σ 134 8) = 38 then R d 31 97 [vR 134, u1, u2, u3, u4, u5, u6] [] (WS L σ) Q else R d 31 36 [vR 134, u1, u2, u3, u4, u5, u6] [] (WS L σ) Q := K_aload_n fi_31_27 rfl <| K_gf fi_31_28 kd_134 mk_134_8 <| K_bipush fi_31_31 <| R_icmp_ne fi_31_33 rfl
theorem b31_36 {d L : Nat} {σ : St} {Q : Option AV → AW → Prop} {u1 u2 u3 u4 u5 u6 : AV} : R d 31 36 [vR 134, u1, u2, u3, u4, u5, u6] [] (WS L σ) Q = if ¬ (σ 134 8) = 124 then R d 31 49 [vR 134, u1, u2, u3, u4, u5, u6] [] (WS L σ) Q else R d 31 45 [vR 134, u1, u2, u3, u4, u5, u6] [] (WS L σ) Q := K_aload_n fi_31_36 rfl <| K_gf fi_31_37 kd_134 mk_134_8 <| K_bipush fi_31_40 <| R_icmp_ne fi_31_42 rfl
theorem b31_45 {d L : Nat} {σ : St} {Q : Option AV → AW → Prop} {u0 u1 u2 u3 u4 u5 u6 : AV} : R d 31 45 [u0, u1, u2, u3, u4, u5, u6] [] (WS L σ) Q = R d 31 50 [u0, u1, u2, u3, u4, u5, u6] [vI 1] (WS L σ) Q := K_iconst fi_31_45 <| R_goto fi_31_46 rfl
theorem b31_49 {d L : Nat} {σ : St} {Q : Option AV → AW → Prop} {u0 u1 u2 u3 u4 u5 u6 : AV} : R d 31 49 [u0, u1, u2, u3, u4, u5, u6] [] (WS L σ) Q = R d 31 50 [u0, u1, u2, u3, u4, u5, u6] [vI 0] (WS L σ) Q := K_iconst fi_31_49 <| rfl
theorem b31_50 {d L : Nat} {σ : St} {Q : Option AV → AW → Prop} {y0 : Int} {u1 u2 u3 u4 u5 u6 : AV} : R (d + 1) 31 50 [vR 134, u1, u2, u3, u4, u5, u6] [vI y0] (WS L σ) Q = R d 19 0 [vR 134] [] (WS L σ) (fun r w => R (d + 1) 31 56 [vR 134, u1, u2, u3, u4, vI y0, u6] (am_push r []) w Q) := K_istore fi_31_50 (Nat.le_of_ble_eq_true rfl) rfl rfl <| K_aload_n fi_31_52 rfl <| R_invV fi_31_53 (am_invV_of rfl (kd_134) (Nat.le_of_ble_eq_true rfl) (Nat.le_of_ble_eq_true rfl) rfl rfl)
theorem b31_56 {d L : Nat} {σ : St} {Q : Option AV → AW → Prop} {x1 : Int} {u2 u3 u4 u5 u6 : AV} : R (d + 1) 31 56 [vR 134, vI x1, u2, u3, u4, u5, u6] [] (WS L σ) Q = R d 32 0 [vR 134, vI x1, vX 9, vX 9] [] (WS L σ) (fun r w => R (d + 1) 31 61 [vR 134, vI x1, u2, u3, u4, u5, u6] (am_push r []) w Q) := K_aload_n fi_31_56 rfl <| K_iload_n fi_31_57 rfl <| R_invV fi_31_58 (am_invV_of rfl (kd_134) (Nat.le_of_ble_eq_true rfl) (Nat.le_of_ble_eq_true rfl) rfl rfl)
theorem b31_61 {d L : Nat} {σ : St} {Q : Option AV → AW → Prop} {y0 x2 x5 : Int} {u0 u1 u3 u4 u6 : AV} : R d 31 61 [u0, u1, vI x2, u3, u4, vI x5, u6] [vI y0] (WS L σ) Q = if x5 = 0 then R d 31 73 [u0, u1, vI x2, u3, u4, vI x5, vI y0] [vI x2] (WS L σ) Q else R d 31 69 [u0, u1, vI x2, u3, u4, vI x5, vI y0] [vI x2] (WS L σ) Q := K_istore fi_31_61 (Nat.le_of_ble_eq_true rfl) rfl rfl <| K_iload_n fi_31_63 rfl <| K_iload fi_31_64 rfl <| R_if_eq fi_31_66 rfl
theorem b31_69 {d L : Nat} {σ : St} {Q : Option AV → AW → Prop} {y0 x3 : Int} {u0 u1 u2 u4 u5 u6 : AV} : R d 31 69 [u0, u1, u2, vI x3, u4, u5, u6] [vI y0] (WS L σ) Q = R d 31 74 [u0, u1, u2, vI x3, u4, u5, u6] [vI x3, vI y0] (WS L σ) Q := K_iload_n fi_31_69 rfl <| R_goto fi_31_70 rfl
theorem b31_73 {d L : Nat} {σ : St} {Q : Option AV → AW → Prop} {y0 : Int} {u0 u1 u2 u3 u4 u5 u6 : AV} : R d 31 73 [u0, u1, u2, u3, u4, u5, u6] [vI y0] (WS L σ) Q = R d 31 74 [u0, u1, u2, u3, u4, u5, u6] [vI 0, vI y0] (WS L σ) Q := K_iconst fi_31_73 <| rfl
theorem b31_74 {d L : Nat} {σ : St} {Q : Option AV → AW → Prop} {y0 y1 x1 x5 : Int} {u0 u2 u3 u4 u6 : AV} : R d 31 74 [u0, vI x1, u2, u3, u4, vI x5, u6] [vI y0, vI y1] (WS L σ) Q = if x5 = 0 then R d 31 86 [u0, vI x1, vI (i_or y1 y0), u3, u4, vI x5, u6] [] (WS L σ) Q else R d 31 81 [u0, vI x1, vI (i_or y1 y0), u3, u4, vI x5, u6] [] (WS L σ) Q := K_ior fi_31_74 <| K_istore_n fi_31_75 (Nat.le_of_ble_eq_true rfl) rfl rfl <| K_iload fi_31_76 rfl <| R_if_eq fi_31_78 rfl
theorem b31_81 {d L : Nat} {σ : St} {Q : Option AV → AW → Prop} {x6 : Int} {u0 u1 u2 u3 u4 u5 : AV} : R d 31 81 [u0, u1, u2, u3, u4, u5, vI x6] [] (WS L σ) Q = R d 31 90 [u0, u1, u2, u3, u4, u5, vI x6] [vI x6] (WS L σ) Q := K_iload fi_31_81 rfl <| R_goto fi_31_83 rfl
theorem b31_86 {d L : Nat} {σ : St} {Q : Option AV → AW → Prop} {x3 x6 : Int} {u0 u1 u2 u4 u5 : AV} : R d 31 86 [u0, u1, u2, vI x3, u4, u5, vI x6] [] (WS L σ) Q = R d 31 90 [u0, u1, u2, vI x3, u4, u5, vI x6] [vI (i_and x3 x6)] (WS L σ) Q := K_iload_n fi_31_86 rfl <| K_iload fi_31_87 rfl <| K_iand fi_31_89 <| rfl
theorem b31_90 {d L : Nat} {σ : St} {Q : Option AV → AW → Prop} {y0 x4 : Int} {u0 u1 u2 u3 u5 u6 : AV} (h1 : -2147483648 ≤ x4 + 1 ∧ x4 + 1 ≤ 2147483647) : R d 31 90 [u0, u1, u2, u3, vI x4, u5, u6] [vI y0] (WS L σ) Q = R d 31 11 [u0, u1, u2, vI y0, vI (x4 + 1), u5, u6] [] (WS L σ) Q := K_istore_n fi_31_90 (Nat.le_of_ble_eq_true rfl) rfl rfl <| K_iincx fi_31_91 rfl (Nat.le_of_ble_eq_true rfl) rfl h1 rfl <| R_goto fi_31_94 rfl
theorem b31_97 {d L : Nat} {σ : St} {Q : Option AV → AW → Prop} {x2 x3 : Int} {u0 u1 u4 u5 u6 : AV} : R d 31 97 [u0, u1, vI x2, vI x3, u4, u5, u6] [] (WS L σ) Q = Q (some (vI (i_or x2 x3))) (WS L σ) := K_iload_n fi_31_97 rfl <| K_iload_n fi_31_98 rfl <| K_ior fi_31_99 <| R_ireti fi_31_100 rfl
theorem fi_32_0 : am_find 32 0 = some (.aload_n 0, 1, 0, 0, 0) := by decide +kernel
theorem fi_32_1 : am_find 32 1 = some (.getfield 53, 3, 4, 8, 51) := by decide +kernel
theorem fi_32_4 : am_find 32 4 = some (.bipush 33, 2, 0, 33, 0) := by decide +kernel
theorem fi_32_6 : am_find 32 6 = some (.if_icmp .eq 12, 3, 0, 0, 0) := by decide +kernel
theorem fi_32_9 : am_find 32 9 = some (.aload_n 0, 1, 0, 0, 0) := by decide +kernel
theorem fi_32_10 : am_find 32 10 = some (.getfield 53, 3, 4, 8, 51) := by decide +kernel
theorem fi_32_13 : am_find 32 13 = some (.bipush 40, 2, 0, 40, 0) := by decide +kernel
theorem fi_32_15 : am_find 32 15 = some (.if_icmp .ne 9, 3, 0, 0, 0) := by decide +kernel
theorem fi_32_18 : am_find 32 18 = some (.aload_n 0, 1, 0, 0, 0) := by decide +kernel
theorem fi_32_19 : am_find 32 19 = some (.iload_n 1, 1, 0, 0, 0) := by decide +kernel
theorem fi_32_20 : am_find 32 20 = some (.invokevirtual 119, 3, 33, 1, 42) := by decide +kernel
theorem fi_32_23 : am_find 32 23 = some (.ireturn, 1, 0, 0, 0) := by decide +kernel
theorem fi_32_24 : am_find 32 24 = some (.aload_n 0, 1, 0, 0, 0) := by decide +kernel
theorem fi_32_25 : am_find 32 25 = some (.getfield 53, 3, 4, 8, 51) := by decide +kernel
theorem fi_32_28 : am_find 32 28 = some (.bipush 112, 2, 0, 112, 0) := by decide +kernel
theorem fi_32_30 : am_find 32 30 = some (.if_icmp .ne 7, 3, 0, 0, 0) := by decide +kernel
theorem fi_32_33 : am_find 32 33 = some (.iconst 0, 1, 0, 0, 0) := by decide +kernel
theorem fi_32_34 : am_find 32 34 = some (.goto 30, 3, 0, 0, 0) := by decide +kernel
theorem fi_32_37 : am_find 32 37 = some (.aload_n 0, 1, 0, 0, 0) := by decide +kernel
theorem fi_32_38 : am_find 32 38 = some (.getfield 53, 3, 4, 8, 51) := by decide +kernel
theorem fi_32_41 : am_find 32 41 = some (.bipush 115, 2, 0, 115, 0) := by decide +kernel
theorem fi_32_43 : am_find 32 43 = some (.if_icmp .ne 7, 3, 0, 0, 0) := by decide +kernel
theorem fi_32_46 : am_find 32 46 = some (.iconst 1, 1, 0, 1, 0) := by decide +kernel
theorem fi_32_47 : am_find 32 47 = some (.goto 17, 3, 0, 0, 0) := by decide +kernel
theorem fi_32_50 : am_find 32 50 = some (.aload_n 0, 1, 0, 0, 0) := by decide +kernel
theorem fi_32_51 : am_find 32 51 = some (.getfield 53, 3, 4, 8, 51) := by decide +kernel
theorem fi_32_54 : am_find 32 54 = some (.bipush 102, 2, 0, 102, 0) := by decide +kernel
theorem fi_32_56 : am_find 32 56 = some (.if_icmp .ne 7, 3, 0, 0, 0) := by decide +kernel
theorem fi_32_59 : am_find 32 59 = some (.iconst 2, 1, 0, 2, 0) := by decide +kernel
theorem fi_32_60 : am_find 32 60 = some (.goto 4, 3, 0, 0, 0) := by decide +kernel
theorem fi_32_63 : am_find 32 63 = some (.iconst 3, 1, 0, 3, 0) := by decide +kernel
theorem fi_32_64 : am_find 32 64 = some (.istore_n 2, 1, 0, 0, 0) := by decide +kernel
theorem fi_32_65 : am_find 32 65 = some (.iload_n 2, 1, 0, 0, 0) := by decide +kernel
theorem fi_32_66 : am_find 32 66 = some (.iconst 3, 1, 0, 3, 0) := by decide +kernel
theorem fi_32_67 : am_find 32 67 = some (.if_icmp .ne 18, 3, 0, 0, 0) := by decide +kernel
theorem fi_32_70 : am_find 32 70 = some (.aload_n 0, 1, 0, 0, 0) := by decide +kernel
theorem fi_32_71 : am_find 32 71 = some (.getfield 53, 3, 4, 8, 51) := by decide +kernel
theorem fi_32_74 : am_find 32 74 = some (.bipush 110, 2, 0, 110, 0) := by decide +kernel
theorem fi_32_76 : am_find 32 76 = some (.if_icmp .eq 9, 3, 0, 0, 0) := by decide +kernel
theorem fi_32_79 : am_find 32 79 = some (.aload_n 0, 1, 0, 0, 0) := by decide +kernel
theorem fi_32_80 : am_find 32 80 = some (.invokevirtual 56, 3, 21, 0, 27) := by decide +kernel
theorem fi_32_83 : am_find 32 83 = some (.iconst 0, 1, 0, 0, 0) := by decide +kernel
theorem fi_32_84 : am_find 32 84 = some (.ireturn, 1, 0, 0, 0) := by decide +kernel
theorem fi_32_85 : am_find 32 85 = some (.aload_n 0, 1, 0, 0, 0) := by decide +kernel
theorem fi_32_86 : am_find 32 86 = some (.invokevirtual 47, 3, 19, 0, 25) := by decide +kernel
theorem fi_32_89 : am_find 32 89 = some (.aload_n 0, 1, 0, 0, 0) := by decide +kernel
theorem fi_32_90 : am_find 32 90 = some (.getfield 53, 3, 4, 8, 51) := by decide +kernel
theorem fi_32_93 : am_find 32 93 = some (.bipush 61, 2, 0, 61, 0) := by decide +kernel
theorem fi_32_95 : am_find 32 95 = some (.isub, 1, 0, 0, 0) := by decide +kernel
theorem fi_32_96 : am_find 32 96 = some (.istore_n 3, 1, 0, 0, 0) := by decide +kernel
theorem fi_32_97 : am_find 32 97 = some (.iload_n 3, 1, 0, 0, 0) := by decide +kernel
theorem fi_32_98 : am_find 32 98 = some (.iconst (-1), 1, 0, (-1), 0) := by decide +kernel
theorem fi_32_99 : am_find 32 99 = some (.if_icmp .lt 8, 3, 0, 0, 0) := by decide +kernel
theorem fi_32_102 : am_find 32 102 = some (.iload_n 3, 1, 0, 0, 0) := by decide +kernel
theorem fi_32_103 : am_find 32 103 = some (.iconst 1, 1, 0, 1, 0) := by decide +kernel
theorem fi_32_104 : am_find 32 104 = some (.if_icmp .le 9, 3, 0, 0, 0) := by decide +kernel
theorem fi_32_107 : am_find 32 107 = some (.aload_n 0, 1, 0, 0, 0) := by decide +kernel
theorem fi_32_108 : am_find 32 108 = some (.invokevirtual 56, 3, 21, 0, 27) := by decide +kernel
theorem fi_32_111 : am_find 32 111 = some (.iconst 0, 1, 0, 0, 0) := by decide +kernel
theorem fi_32_112 : am_find 32 112 = some (.ireturn, 1, 0, 0, 0) := by decide +kernel
theorem fi_32_113 : am_find 32 113 = some (.aload_n 0, 1, 0, 0, 0) := by decide +kernel
theorem fi_32_114 : am_find 32 114 = some (.invokevirtual 47, 3, 19, 0, 25) := by decide +kernel
theorem fi_32_117 : am_find 32 117 = some (.aload_n 0, 1, 0, 0, 0) := by decide +kernel
theorem fi_32_118 : am_find 32 118 = some (.getfield 24, 3, 4, 0, 27) := by decide +kernel
theorem fi_32_121 : am_find 32 121 = some (.iload_n 2, 1, 0, 0, 0) := by decide +kernel
theorem fi_32_122 : am_find 32 122 = some (.iload_n 3, 1, 0, 0, 0) := by decide +kernel
theorem fi_32_123 : am_find 32 123 = some (.aload_n 0, 1, 0, 0, 0) := by decide +kernel
theorem fi_32_124 : am_find 32 124 = some (.invokevirtual 85, 3, 30, 0, 31) := by decide +kernel
theorem fi_32_127 : am_find 32 127 = some (.invokevirtual 104, 3, 35, 3, 43) := by decide +kernel
theorem fi_32_130 : am_find 32 130 = some (.ireturn, 1, 0, 0, 0) := by decide +kernel
theorem b32_0 {d L : Nat} {σ : St} {Q : Option AV → AW → Prop} {u1 u2 u3 : AV} : R d 32 0 [vR 134, u1, u2, u3] [] (WS L σ) Q = if (σ 134 8) = 33 then R d 32 18 [vR 134, u1, u2, u3] [] (WS L σ) Q else R d 32 9 [vR 134, u1, u2, u3] [] (WS L σ) Q := K_aload_n fi_32_0 rfl <| K_gf fi_32_1 kd_134 mk_134_8 <| K_bipush fi_32_4 <| R_icmp_eq fi_32_6 rfl
theorem b32_9 {d L : Nat} {σ : St} {Q : Option AV → AW → Prop} {u1 u2 u3 : AV} : R d 32 9 [vR 134, u1, u2, u3] [] (WS L σ) Q = if ¬ (σ 134 8) = 40 then R d 32 24 [vR 134, u1, u2, u3] [] (WS L σ) Q else R d 32 18 [vR 134, u1, u2, u3] [] (WS L σ) Q := K_aload_n fi_32_9 rfl <| K_gf fi_32_10 kd_134 mk_134_8 <| K_bipush fi_32_13 <| R_icmp_ne fi_32_15 rfl
theorem b32_18 {d L : Nat} {σ : St} {Q : Option AV → AW → Prop} {x1 : Int} {u2 u3 : AV} : R (d + 1) 32 18 [vR 134, vI x1, u2, u3] [] (WS L σ) Q = R d 33 0 [vR 134, vI x1, vX 9, vX 9] [] (WS L σ) (fun r w => R (d + 1) 32 23 [vR 134, vI x1, u2, u3] (am_push r []) w Q) := K_aload_n fi_32_18 rfl <| K_iload_n fi_32_19 rfl <| R_invV fi_32_20 (am_invV_of rfl (kd_134) (Nat.le_of_ble_eq_true rfl) (Nat.le_of_ble_eq_true rfl) rfl rfl)
theorem b32_23 {d L : Nat} {σ : St} {Q : Option AV → AW → Prop} {y0 : Int} {u0 u1 u2 u3 : AV} : R d 32 23 [u0, u1, u2, u3] [vI y0] (WS L σ) Q = Q (some (vI y0)) (WS L σ) := R_ireti fi_32_23 rfl
theorem b32_24 {d L : Nat} {σ : St} {Q : Option AV → AW → Prop} {u1 u2 u3 : AV} : R d 32 24 [vR 134, u1, u2, u3] [] (WS L σ) Q = if ¬ (σ 134 8) = 112 then R d 32 37 [vR 134, u1, u2, u3] [] (WS L σ) Q else R d 32 33 [vR 134, u1, u2, u3] [] (WS L σ) Q := K_aload_n fi_32_24 rfl <| K_gf fi_32_25 kd_134 mk_134_8 <| K_bipush fi_32_28 <| R_icmp_ne fi_32_30 rfl
theorem b32_33 {d L : Nat} {σ : St} {Q : Option AV → AW → Prop} {u0 u1 u2 u3 : AV} : R d 32 33 [u0, u1, u2, u3] [] (WS L σ) Q = R d 32 64 [u0, u1, u2, u3] [vI 0] (WS L σ) Q := K_iconst fi_32_33 <| R_goto fi_32_34 rfl
theorem b32_37 {d L : Nat} {σ : St} {Q : Option AV → AW → Prop} {u1 u2 u3 : AV} : R d 32 37 [vR 134, u1, u2, u3] [] (WS L σ) Q = if ¬ (σ 134 8) = 115 then R d 32 50 [vR 134, u1, u2, u3] [] (WS L σ) Q else R d 32 46 [vR 134, u1, u2, u3] [] (WS L σ) Q := K_aload_n fi_32_37 rfl <| K_gf fi_32_38 kd_134 mk_134_8 <| K_bipush fi_32_41 <| R_icmp_ne fi_32_43 rfl
theorem b32_46 {d L : Nat} {σ : St} {Q : Option AV → AW → Prop} {u0 u1 u2 u3 : AV} : R d 32 46 [u0, u1, u2, u3] [] (WS L σ) Q = R d 32 64 [u0, u1, u2, u3] [vI 1] (WS L σ) Q := K_iconst fi_32_46 <| R_goto fi_32_47 rfl
theorem b32_50 {d L : Nat} {σ : St} {Q : Option AV → AW → Prop} {u1 u2 u3 : AV} : R d 32 50 [vR 134, u1, u2, u3] [] (WS L σ) Q = if ¬ (σ 134 8) = 102 then R d 32 63 [vR 134, u1, u2, u3] [] (WS L σ) Q else R d 32 59 [vR 134, u1, u2, u3] [] (WS L σ) Q := K_aload_n fi_32_50 rfl <| K_gf fi_32_51 kd_134 mk_134_8 <| K_bipush fi_32_54 <| R_icmp_ne fi_32_56 rfl
theorem b32_59 {d L : Nat} {σ : St} {Q : Option AV → AW → Prop} {u0 u1 u2 u3 : AV} : R d 32 59 [u0, u1, u2, u3] [] (WS L σ) Q = R d 32 64 [u0, u1, u2, u3] [vI 2] (WS L σ) Q := K_iconst fi_32_59 <| R_goto fi_32_60 rfl
theorem b32_63 {d L : Nat} {σ : St} {Q : Option AV → AW → Prop} {u0 u1 u2 u3 : AV} : R d 32 63 [u0, u1, u2, u3] [] (WS L σ) Q = R d 32 64 [u0, u1, u2, u3] [vI 3] (WS L σ) Q := K_iconst fi_32_63 <| rfl
theorem b32_64 {d L : Nat} {σ : St} {Q : Option AV → AW → Prop} {y0 x1 : Int} {u0 u2 u3 : AV} : R d 32 64 [u0, vI x1, u2, u3] [vI y0] (WS L σ) Q = if ¬ y0 = 3 then R d 32 85 [u0, vI x1, vI y0, u3] [] (WS L σ) Q else R d 32 70 [u0, vI x1, vI y0, u3] [] (WS L σ) Q := K_istore_n fi_32_64 (Nat.le_of_ble_eq_true rfl) rfl rfl <| K_iload_n fi_32_65 rfl <| K_iconst fi_32_66 <| R_icmp_ne fi_32_67 rfl
theorem b32_70 {d L : Nat} {σ : St} {Q : Option AV → AW → Prop} {u1 u2 u3 : AV} : R d 32 70 [vR 134, u1, u2, u3] [] (WS L σ) Q = if (σ 134 8) = 110 then R d 32 85 [vR 134, u1, u2, u3] [] (WS L σ) Q else R d 32 79 [vR 134, u1, u2, u3] [] (WS L σ) Q := K_aload_n fi_32_70 rfl <| K_gf fi_32_71 kd_134 mk_134_8 <| K_bipush fi_32_74 <| R_icmp_eq fi_32_76 rfl
theorem b32_79 {d L : Nat} {σ : St} {Q : Option AV → AW → Prop} {u1 u2 u3 : AV} : R (d + 1) 32 79 [vR 134, u1, u2, u3] [] (WS L σ) Q = R d 21 0 [vR 134] [] (WS L σ) (fun r w => R (d + 1) 32 83 [vR 134, u1, u2, u3] (am_push r []) w Q) := K_aload_n fi_32_79 rfl <| R_invV fi_32_80 (am_invV_of rfl (kd_134) (Nat.le_of_ble_eq_true rfl) (Nat.le_of_ble_eq_true rfl) rfl rfl)
theorem b32_83 {d L : Nat} {σ : St} {Q : Option AV → AW → Prop} {u0 u1 u2 u3 : AV} : R d 32 83 [u0, u1, u2, u3] [] (WS L σ) Q = Q (some (vI 0)) (WS L σ) := K_iconst fi_32_83 <| R_ireti fi_32_84 rfl
theorem b32_85 {d L : Nat} {σ : St} {Q : Option AV → AW → Prop} {u1 u2 u3 : AV} : R (d + 1) 32 85 [vR 134, u1, u2, u3] [] (WS L σ) Q = R d 19 0 [vR 134] [] (WS L σ) (fun r w => R (d + 1) 32 89 [vR 134, u1, u2, u3] (am_push r []) w Q) := K_aload_n fi_32_85 rfl <| R_invV fi_32_86 (am_invV_of rfl (kd_134) (Nat.le_of_ble_eq_true rfl) (Nat.le_of_ble_eq_true rfl) rfl rfl)
theorem b32_89 {d L : Nat} {σ : St} {Q : Option AV → AW → Prop} {u1 u2 u3 : AV} (h1 : -2147483648 ≤ (σ 134 8) - 61 ∧ (σ 134 8) - 61 ≤ 2147483647) : R d 32 89 [vR 134, u1, u2, u3] [] (WS L σ) Q = if ((σ 134 8) - 61) < (-1) then R d 32 107 [vR 134, u1, u2, vI ((σ 134 8) - 61)] [] (WS L σ) Q else R d 32 102 [vR 134, u1, u2, vI ((σ 134 8) - 61)] [] (WS L σ) Q := K_aload_n fi_32_89 rfl <| K_gf fi_32_90 kd_134 mk_134_8 <| K_bipush fi_32_93 <| K_isubx fi_32_95 h1 <| K_istore_n fi_32_96 (Nat.le_of_ble_eq_true rfl) rfl rfl <| K_iload_n fi_32_97 rfl <| K_iconst fi_32_98 <| R_icmp_lt fi_32_99 rfl
theorem b32_102 {d L : Nat} {σ : St} {Q : Option AV → AW → Prop} {x3 : Int} {u0 u1 u2 : AV} : R d 32 102 [u0, u1, u2, vI x3] [] (WS L σ) Q = if x3 ≤ 1 then R d 32 113 [u0, u1, u2, vI x3] [] (WS L σ) Q else R d 32 107 [u0, u1, u2, vI x3] [] (WS L σ) Q := K_iload_n fi_32_102 rfl <| K_iconst fi_32_103 <| R_icmp_le fi_32_104 rfl
theorem b32_107 {d L : Nat} {σ : St} {Q : Option AV → AW → Prop} {u1 u2 u3 : AV} : R (d + 1) 32 107 [vR 134, u1, u2, u3] [] (WS L σ) Q = R d 21 0 [vR 134] [] (WS L σ) (fun r w => R (d + 1) 32 111 [vR 134, u1, u2, u3] (am_push r []) w Q) := K_aload_n fi_32_107 rfl <| R_invV fi_32_108 (am_invV_of rfl (kd_134) (Nat.le_of_ble_eq_true rfl) (Nat.le_of_ble_eq_true rfl) rfl rfl)
theorem b32_111 {d L : Nat} {σ : St} {Q : Option AV → AW → Prop} {u0 u1 u2 u3 : AV} : R d 32 111 [u0, u1, u2, u3] [] (WS L σ) Q = Q (some (vI 0)) (WS L σ) := K_iconst fi_32_111 <| R_ireti fi_32_112 rfl
theorem b32_113 {d L : Nat} {σ : St} {Q : Option AV → AW → Prop} {u1 u2 u3 : AV} : R (d + 1) 32 113 [vR 134, u1, u2, u3] [] (WS L σ) Q = R d 19 0 [vR 134] [] (WS L σ) (fun r w => R (d + 1) 32 117 [vR 134, u1, u2, u3] (am_push r []) w Q) := K_aload_n fi_32_113 rfl <| R_invV fi_32_114 (am_invV_of rfl (kd_134) (Nat.le_of_ble_eq_true rfl) (Nat.le_of_ble_eq_true rfl) rfl rfl)
theorem b32_117 {d L : Nat} {σ : St} {Q : Option AV → AW → Prop} {x2 x3 : Int} {u1 : AV} : R (d + 1) 32 117 [vR 134, u1, vI x2, vI x3] [] (WS L σ) Q = R d 30 0 [vR 134, vX 9, vX 9] [] (WS L σ) (fun r w => R (d + 1) 32 127 [vR 134, u1, vI x2, vI x3] (am_push r [vI x3, vI x2, vR 20]) w Q) := K_aload_n fi_32_117 rfl <| K_gf fi_32_118 kd_134 mk_134_0 <| K_iload_n fi_32_121 rfl <| K_iload_n fi_32_122 rfl <| K_aload_n fi_32_123 rfl <| R_invV fi_32_124 (am_invV_of rfl (kd_134) (Nat.le_of_ble_eq_true rfl) (Nat.le_of_ble_eq_true rfl) rfl rfl)
theorem b32_127 {d L : Nat} {σ : St} {Q : Option AV → AW → Prop} {y0 y1 y2 : Int} {u0 u1 u2 u3 : AV} : R (d + 1) 32 127 [u0, u1, u2, u3] [vI y0, vI y1, vI y2, vR 20] (WS L σ) Q = R d 35 0 [vR 20, vI y2, vI y1, vI y0, vX 9, vX 9, vX 9, vX 9] [] (WS L σ) (fun r w => R (d + 1) 32 130 [u0, u1, u2, u3] (am_push r []) w Q) := R_invV fi_32_127 (am_invV_of rfl (kd_20) (Nat.le_of_ble_eq_true rfl) (Nat.le_of_ble_eq_true rfl) rfl rfl)
theorem b32_130 {d L : Nat} {σ : St} {Q : Option AV → AW → Prop} {y0 : Int} {u0 u1 u2 u3 : AV} : R d 32 130 [u0, u1, u2, u3] [vI y0] (WS L σ) Q = Q (some (vI y0)) (WS L σ) := R_ireti fi_32_130 rfl
theorem fi_33_0 : am_find 33 0 = some (.aload_n 0, 1, 0, 0, 0) := by decide +kernel
theorem fi_33_1 : am_find 33 1 = some (.getfield 53, 3, 4, 8, 51) := by decide +kernel
theorem fi_33_4 : am_find 33 4 = some (.bipush 33, 2, 0, 33, 0) := by decide +kernel
theorem fi_33_6 : am_find 33 6 = some (.if_icmp .ne 7, 3, 0, 0, 0) := by decide +kernel
theorem fi_33_9 : am_find 33 9 = some (.iconst 1, 1, 0, 1, 0) := by decide +kernel
theorem fi_33_10 : am_find 33 10 = some (.goto 4, 3, 0, 0, 0) := by decide +kernel
theorem fi_33_13 : am_find 33 13 = some (.iconst 0, 1, 0, 0, 0) := by decide +kernel
theorem fi_33_14 : am_find 33 14 = some (.istore_n 2, 1, 0, 0, 0) := by decide +kernel
theorem fi_33_15 : am_find 33 15 = some (.iload_n 1, 1, 0, 0, 0) := by decide +kernel
theorem fi_33_16 : am_find 33 16 = some (.iconst 5, 1, 0, 5, 0) := by decide +kernel
theorem fi_33_17 : am_find 33 17 = some (.if_icmp .lt 9, 3, 0, 0, 0) := by decide +kernel
theorem fi_33_20 : am_find 33 20 = some (.aload_n 0, 1, 0, 0, 0) := by decide +kernel
theorem fi_33_21 : am_find 33 21 = some (.invokevirtual 56, 3, 21, 0, 27) := by decide +kernel
theorem fi_33_24 : am_find 33 24 = some (.iconst 0, 1, 0, 0, 0) := by decide +kernel
theorem fi_33_25 : am_find 33 25 = some (.ireturn, 1, 0, 0, 0) := by decide +kernel
theorem fi_33_26 : am_find 33 26 = some (.aload_n 0, 1, 0, 0, 0) := by decide +kernel
theorem fi_33_27 : am_find 33 27 = some (.invokevirtual 47, 3, 19, 0, 25) := by decide +kernel
theorem fi_33_30 : am_find 33 30 = some (.iload_n 2, 1, 0, 0, 0) := by decide +kernel
theorem fi_33_31 : am_find 33 31 = some (.ifCond .eq 21, 3, 0, 0, 0) := by decide +kernel
theorem fi_33_34 : am_find 33 34 = some (.aload_n 0, 1, 0, 0, 0) := by decide +kernel
theorem fi_33_35 : am_find 33 35 = some (.getfield 24, 3, 4, 0, 27) := by decide +kernel
theorem fi_33_38 : am_find 33 38 = some (.invokevirtual 122, 3, 34, 0, 44) := by decide +kernel
theorem fi_33_41 : am_find 33 41 = some (.aload_n 0, 1, 0, 0, 0) := by decide +kernel
theorem fi_33_42 : am_find 33 42 = some (.iload_n 1, 1, 0, 0, 0) := by decide +kernel
theorem fi_33_43 : am_find 33 43 = some (.iconst 1, 1, 0, 1, 0) := by decide +kernel
theorem fi_33_44 : am_find 33 44 = some (.iadd, 1, 0, 0, 0) := by decide +kernel
theorem fi_33_45 : am_find 33 45 = some (.invokevirtual 116, 3, 32, 1, 41) := by decide +kernel
theorem fi_33_48 : am_find 33 48 = some (.iconst (-1), 1, 0, (-1), 0) := by decide +kernel
theorem fi_33_49 : am_find 33 49 = some (.ixor, 1, 0, 0, 0) := by decide +kernel
theorem fi_33_50 : am_find 33 50 = some (.iand, 1, 0, 0, 0) := by decide +kernel
theorem fi_33_51 : am_find 33 51 = some (.ireturn, 1, 0, 0, 0) := by decide +kernel
theorem fi_33_52 : am_find 33 52 = some (.aload_n 0, 1, 0, 0, 0) := by decide +kernel
theorem fi_33_53 : am_find 33 53 = some (.iload_n 1, 1, 0, 0, 0) := by decide +kernel
theorem fi_33_54 : am_find 33 54 = some (.iconst 1, 1, 0, 1, 0) := by decide +kernel
theorem fi_33_55 : am_find 33 55 = some (.iadd, 1, 0, 0, 0) := by decide +kernel
theorem fi_33_56 : am_find 33 56 = some (.invokevirtual 88, 3, 31, 1, 32) := by decide +kernel
theorem fi_33_59 : am_find 33 59 = some (.istore_n 3, 1, 0, 0, 0) := by decide +kernel
theorem fi_33_60 : am_find 33 60 = some (.aload_n 0, 1, 0, 0, 0) := by decide +kernel
theorem fi_33_61 : am_find 33 61 = some (.getfield 53, 3, 4, 8, 51) := by decide +kernel
theorem fi_33_64 : am_find 33 64 = some (.bipush 41, 2, 0, 41, 0) := by decide +kernel
theorem fi_33_66 : am_find 33 66 = some (.if_icmp .ne 10, 3, 0, 0, 0) := by decide +kernel
theorem fi_33_69 : am_find 33 69 = some (.aload_n 0, 1, 0, 0, 0) := by decide +kernel
theorem fi_33_70 : am_find 33 70 = some (.invokevirtual 47, 3, 19, 0, 25) := by decide +kernel
theorem fi_33_73 : am_find 33 73 = some (.goto 7, 3, 0, 0, 0) := by decide +kernel
theorem fi_33_76 : am_find 33 76 = some (.aload_n 0, 1, 0, 0, 0) := by decide +kernel
theorem fi_33_77 : am_find 33 77 = some (.invokevirtual 56, 3, 21, 0, 27) := by decide +kernel
theorem fi_33_80 : am_find 33 80 = some (.iload_n 3, 1, 0, 0, 0) := by decide +kernel
theorem fi_33_81 : am_find 33 81 = some (.ireturn, 1, 0, 0, 0) := by decide +kernel
theorem b33_0 {d L : Nat} {σ : St} {Q : Option AV → AW → Prop} {u1 u2 u3 : AV} : R d 33 0 [vR 134, u1, u2, u3] [] (WS L σ) Q = if ¬ (σ 134 8) = 33 then R d 33 13 [vR 134, u1, u2, u3] [] (WS L σ) Q else R d 33 9 [vR 134, u1, u2, u3] [] (WS L σ) Q := K_aload_n fi_33_0 rfl <| K_gf fi_33_1 kd_134 mk_134_8 <| K_bipush fi_33_4 <| R_icmp_ne fi_33_6 rfl
theorem b33_9 {d L : Nat} {σ : St} {Q : Option AV → AW → Prop} {u0 u1 u2 u3 : AV} : R d 33 9 [u0, u1, u2, u3] [] (WS L σ) Q = R d 33 14 [u0, u1, u2, u3] [vI 1] (WS L σ) Q := K_iconst fi_33_9 <| R_goto fi_33_10 rfl
theorem b33_13 {d L : Nat} {σ : St} {Q : Option AV → AW → Prop} {u0 u1 u2 u3 : AV} : R d 33 13 [u0, u1, u2, u3] [] (WS L σ) Q = R d 33 14 [u0, u1, u2, u3] [vI 0] (WS L σ) Q := K_iconst fi_33_13 <| rfl
theorem b33_14 {d L : Nat} {σ : St} {Q : Option AV → AW → Prop} {y0 x1 : Int} {u0 u2 u3 : AV} : R d 33 14 [u0, vI x1, u2, u3] [vI y0] (WS L σ) Q = if x1 < 5 then R d 33 26 [u0, vI x1, vI y0, u3] [] (WS L σ) Q else R d 33 20 [u0, vI x1, vI y0, u3] [] (WS L σ) Q := K_istore_n fi_33_14 (Nat.le_of_ble_eq_true rfl) rfl rfl <| K_iload_n fi_33_15 rfl <| K_iconst fi_33_16 <| R_icmp_lt fi_33_17 rfl
theorem b33_20 {d L : Nat} {σ : St} {Q : Option AV → AW → Prop} {u1 u2 u3 : AV} : R (d + 1) 33 20 [vR 134, u1, u2, u3] [] (WS L σ) Q = R d 21 0 [vR 134] [] (WS L σ) (fun r w => R (d + 1) 33 24 [vR 134, u1, u2, u3] (am_push r []) w Q) := K_aload_n fi_33_20 rfl <| R_invV fi_33_21 (am_invV_of rfl (kd_134) (Nat.le_of_ble_eq_true rfl) (Nat.le_of_ble_eq_true rfl) rfl rfl)
theorem b33_24 {d L : Nat} {σ : St} {Q : Option AV → AW → Prop} {u0 u1 u2 u3 : AV} : R d 33 24 [u0, u1, u2, u3] [] (WS L σ) Q = Q (some (vI 0)) (WS L σ) := K_iconst fi_33_24 <| R_ireti fi_33_25 rfl
theorem b33_26 {d L : Nat} {σ : St} {Q : Option AV → AW → Prop} {u1 u2 u3 : AV} : R (d + 1) 33 26 [vR 134, u1, u2, u3] [] (WS L σ) Q = R d 19 0 [vR 134] [] (WS L σ) (fun r w => R (d + 1) 33 30 [vR 134, u1, u2, u3] (am_push r []) w Q) := K_aload_n fi_33_26 rfl <| R_invV fi_33_27 (am_invV_of rfl (kd_134) (Nat.le_of_ble_eq_true rfl) (Nat.le_of_ble_eq_true rfl) rfl rfl)
theorem b33_30 {d L : Nat} {σ : St} {Q : Option AV → AW → Prop} {x2 : Int} {u0 u1 u3 : AV} : R d 33 30 [u0, u1, vI x2, u3] [] (WS L σ) Q = if x2 = 0 then R d 33 52 [u0, u1, vI x2, u3] [] (WS L σ) Q else R d 33 34 [u0, u1, vI x2, u3] [] (WS L σ) Q := K_iload_n fi_33_30 rfl <| R_if_eq fi_33_31 rfl
theorem b33_34 {d L : Nat} {σ : St} {Q : Option AV → AW → Prop} {u1 u2 u3 : AV} : R (d + 1) 33 34 [vR 134, u1, u2, u3] [] (WS L σ) Q = R d 34 0 [vR 20] [] (WS L σ) (fun r w => R (d + 1) 33 41 [vR 134, u1, u2, u3] (am_push r []) w Q) := K_aload_n fi_33_34 rfl <| K_gf fi_33_35 kd_134 mk_134_0 <| R_invV fi_33_38 (am_invV_of rfl (kd_20) (Nat.le_of_ble_eq_true rfl) (Nat.le_of_ble_eq_true rfl) rfl rfl)
theorem b33_41 {d L : Nat} {σ : St} {Q : Option AV → AW → Prop} {y0 x1 : Int} {u2 u3 : AV} (h1 : -2147483648 ≤ x1 + 1 ∧ x1 + 1 ≤ 2147483647) : R (d + 1) 33 41 [vR 134, vI x1, u2, u3] [vI y0] (WS L σ) Q = R d 32 0 [vR 134, vI (x1 + 1), vX 9, vX 9] [] (WS L σ) (fun r w => R (d + 1) 33 48 [vR 134, vI x1, u2, u3] (am_push r [vI y0]) w Q) := K_aload_n fi_33_41 rfl <| K_iload_n fi_33_42 rfl <| K_iconst fi_33_43 <| K_iaddx fi_33_44 h1 <| R_invV fi_33_45 (am_invV_of rfl (kd_134) (Nat.le_of_ble_eq_true rfl) (Nat.le_of_ble_eq_true rfl) rfl rfl)
theorem b33_48 {d L : Nat} {σ : St} {Q : Option AV → AW → Prop} {y0 y1 : Int} {u0 u1 u2 u3 : AV} : R d 33 48 [u0, u1, u2, u3] [vI y0, vI y1] (WS L σ) Q = Q (some (vI (i_and y1 (i_xor y0 (-1))))) (WS L σ) := K_iconst fi_33_48 <| K_ixor fi_33_49 <| K_iand fi_33_50 <| R_ireti fi_33_51 rfl
theorem b33_52 {d L : Nat} {σ : St} {Q : Option AV → AW → Prop} {x1 : Int} {u2 u3 : AV} (h1 : -2147483648 ≤ x1 + 1 ∧ x1 + 1 ≤ 2147483647) : R (d + 1) 33 52 [vR 134, vI x1, u2, u3] [] (WS L σ) Q = R d 31 0 [vR 134, vI (x1 + 1), vX 9, vX 9, vX 9, vX 9, vX 9] [] (WS L σ) (fun r w => R (d + 1) 33 59 [vR 134, vI x1, u2, u3] (am_push r []) w Q) := K_aload_n fi_33_52 rfl <| K_iload_n fi_33_53 rfl <| K_iconst fi_33_54 <| K_iaddx fi_33_55 h1 <| R_invV fi_33_56 (am_invV_of rfl (kd_134) (Nat.le_of_ble_eq_true rfl) (Nat.le_of_ble_eq_true rfl) rfl rfl)
theorem b33_59 {d L : Nat} {σ : St} {Q : Option AV → AW → Prop} {y0 : Int} {u1 u2 u3 : AV} : R d 33 59 [vR 134, u1, u2, u3] [vI y0] (WS L σ) Q = if ¬ (σ 134 8) = 41 then R d 33 76 [vR 134, u1, u2, vI y0] [] (WS L σ) Q else R d 33 69 [vR 134, u1, u2, vI y0] [] (WS L σ) Q := K_istore_n fi_33_59 (Nat.le_of_ble_eq_true rfl) rfl rfl <| K_aload_n fi_33_60 rfl <| K_gf fi_33_61 kd_134 mk_134_8 <| K_bipush fi_33_64 <| R_icmp_ne fi_33_66 rfl
theorem b33_69 {d L : Nat} {σ : St} {Q : Option AV → AW → Prop} {u1 u2 u3 : AV} : R (d + 1) 33 69 [vR 134, u1, u2, u3] [] (WS L σ) Q = R d 19 0 [vR 134] [] (WS L σ) (fun r w => R (d + 1) 33 73 [vR 134, u1, u2, u3] (am_push r []) w Q) := K_aload_n fi_33_69 rfl <| R_invV fi_33_70 (am_invV_of rfl (kd_134) (Nat.le_of_ble_eq_true rfl) (Nat.le_of_ble_eq_true rfl) rfl rfl)
theorem b33_73 {d L : Nat} {σ : St} {Q : Option AV → AW → Prop} {u0 u1 u2 u3 : AV} : R d 33 73 [u0, u1, u2, u3] [] (WS L σ) Q = R d 33 80 [u0, u1, u2, u3] [] (WS L σ) Q := R_goto fi_33_73 rfl
theorem b33_76 {d L : Nat} {σ : St} {Q : Option AV → AW → Prop} {u1 u2 u3 : AV} : R (d + 1) 33 76 [vR 134, u1, u2, u3] [] (WS L σ) Q = R d 21 0 [vR 134] [] (WS L σ) (fun r w => R (d + 1) 33 80 [vR 134, u1, u2, u3] (am_push r []) w Q) := K_aload_n fi_33_76 rfl <| R_invV fi_33_77 (am_invV_of rfl (kd_134) (Nat.le_of_ble_eq_true rfl) (Nat.le_of_ble_eq_true rfl) rfl rfl)
theorem b33_80 {d L : Nat} {σ : St} {Q : Option AV → AW → Prop} {x3 : Int} {u0 u1 u2 : AV} : R d 33 80 [u0, u1, u2, vI x3] [] (WS L σ) Q = Q (some (vI x3)) (WS L σ) := K_iload_n fi_33_80 rfl <| R_ireti fi_33_81 rfl
theorem fi_34_0 : am_find 34 0 = some (.iconst 1, 1, 0, 1, 0) := by decide +kernel
theorem fi_34_1 : am_find 34 1 = some (.aload_n 0, 1, 0, 0, 0) := by decide +kernel
theorem fi_34_2 : am_find 34 2 = some (.getfield 69, 3, 8, 0, 43) := by decide +kernel
theorem fi_34_5 : am_find 34 5 = some (.ishl, 1, 0, 0, 0) := by decide +kernel
theorem fi_34_6 : am_find 34 6 = some (.iconst 1, 1, 0, 1, 0) := by decide +kernel
theorem fi_34_7 : am_find 34 7 = some (.isub, 1, 0, 0, 0) := by decide +kernel
theorem fi_34_8 : am_find 34 8 = some (.ireturn, 1, 0, 0, 0) := by decide +kernel
theorem b34_0 {d L : Nat} {σ : St} {Q : Option AV → AW → Prop} (h1 : -2147483648 ≤ (i_shl 1 (σ 20 0)) - 1 ∧ (i_shl 1 (σ 20 0)) - 1 ≤ 2147483647) : R d 34 0 [vR 20] [] (WS L σ) Q = Q (some (vI ((i_shl 1 (σ 20 0)) - 1))) (WS L σ) := K_iconst fi_34_0 <| K_aload_n fi_34_1 rfl <| K_gf fi_34_2 kd_20 mk_20_0 <| K_ishl fi_34_5 <| K_iconst fi_34_6 <| K_isubx fi_34_7 h1 <| R_ireti fi_34_8 rfl
theorem fi_35_0 : am_find 35 0 = some (.iconst 0, 1, 0, 0, 0) := by decide +kernel
theorem fi_35_1 : am_find 35 1 = some (.istore 4, 2, 0, 0, 0) := by decide +kernel
theorem fi_35_3 : am_find 35 3 = some (.iconst 0, 1, 0, 0, 0) := by decide +kernel
theorem fi_35_4 : am_find 35 4 = some (.istore 5, 2, 0, 0, 0) := by decide +kernel
theorem fi_35_6 : am_find 35 6 = some (.iload 5, 2, 0, 0, 0) := by decide +kernel
theorem fi_35_8 : am_find 35 8 = some (.aload_n 0, 1, 0, 0, 0) := by decide +kernel
theorem fi_35_9 : am_find 35 9 = some (.getfield 69, 3, 8, 0, 43) := by decide +kernel
theorem fi_35_12 : am_find 35 12 = some (.if_icmp .ge 60, 3, 0, 0, 0) := by decide +kernel
theorem fi_35_15 : am_find 35 15 = some (.aload_n 0, 1, 0, 0, 0) := by decide +kernel
theorem fi_35_16 : am_find 35 16 = some (.iload 5, 2, 0, 0, 0) := by decide +kernel
theorem fi_35_18 : am_find 35 18 = some (.iload_n 1, 1, 0, 0, 0) := by decide +kernel
theorem fi_35_19 : am_find 35 19 = some (.invokevirtual 93, 3, 36, 2, 45) := by decide +kernel
theorem fi_35_22 : am_find 35 22 = some (.istore 6, 2, 0, 0, 0) := by decide +kernel
theorem fi_35_24 : am_find 35 24 = some (.iload 6, 2, 0, 0, 0) := by decide +kernel
theorem fi_35_26 : am_find 35 26 = some (.iload_n 3, 1, 0, 0, 0) := by decide +kernel
theorem fi_35_27 : am_find 35 27 = some (.if_icmp .ge 7, 3, 0, 0, 0) := by decide +kernel
theorem fi_35_30 : am_find 35 30 = some (.iconst (-1), 1, 0, (-1), 0) := by decide +kernel
theorem fi_35_31 : am_find 35 31 = some (.goto 14, 3, 0, 0, 0) := by decide +kernel
theorem fi_35_34 : am_find 35 34 = some (.iload 6, 2, 0, 0, 0) := by decide +kernel
theorem fi_35_36 : am_find 35 36 = some (.iload_n 3, 1, 0, 0, 0) := by decide +kernel
theorem fi_35_37 : am_find 35 37 = some (.if_icmp .le 7, 3, 0, 0, 0) := by decide +kernel
theorem fi_35_40 : am_find 35 40 = some (.iconst 1, 1, 0, 1, 0) := by decide +kernel
theorem fi_35_41 : am_find 35 41 = some (.goto 4, 3, 0, 0, 0) := by decide +kernel
theorem fi_35_44 : am_find 35 44 = some (.iconst 0, 1, 0, 0, 0) := by decide +kernel
theorem fi_35_45 : am_find 35 45 = some (.istore 7, 2, 0, 0, 0) := by decide +kernel
theorem fi_35_47 : am_find 35 47 = some (.iload 4, 2, 0, 0, 0) := by decide +kernel
theorem fi_35_49 : am_find 35 49 = some (.iload 7, 2, 0, 0, 0) := by decide +kernel
theorem fi_35_51 : am_find 35 51 = some (.iload_n 2, 1, 0, 0, 0) := by decide +kernel
theorem fi_35_52 : am_find 35 52 = some (.if_icmp .ne 10, 3, 0, 0, 0) := by decide +kernel
theorem fi_35_55 : am_find 35 55 = some (.iconst 1, 1, 0, 1, 0) := by decide +kernel
theorem fi_35_56 : am_find 35 56 = some (.iload 5, 2, 0, 0, 0) := by decide +kernel
theorem fi_35_58 : am_find 35 58 = some (.ishl, 1, 0, 0, 0) := by decide +kernel
theorem fi_35_59 : am_find 35 59 = some (.goto 4, 3, 0, 0, 0) := by decide +kernel
theorem fi_35_62 : am_find 35 62 = some (.iconst 0, 1, 0, 0, 0) := by decide +kernel
theorem fi_35_63 : am_find 35 63 = some (.ior, 1, 0, 0, 0) := by decide +kernel
theorem fi_35_64 : am_find 35 64 = some (.istore 4, 2, 0, 0, 0) := by decide +kernel
theorem fi_35_66 : am_find 35 66 = some (.iinc 5 1, 3, 0, 0, 0) := by decide +kernel
theorem fi_35_69 : am_find 35 69 = some (.goto (-63), 3, 0, 0, 0) := by decide +kernel
theorem fi_35_72 : am_find 35 72 = some (.iload 4, 2, 0, 0, 0) := by decide +kernel
theorem fi_35_74 : am_find 35 74 = some (.ireturn, 1, 0, 0, 0) := by decide +kernel
theorem b35_0 {d L : Nat} {σ : St} {Q : Option AV → AW → Prop} {u0 u1 u2 u3 u4 u5 u6 u7 : AV} : R d 35 0 [u0, u1, u2, u3, u4, u5, u6, u7] [] (WS L σ) Q = R d 35 6 [u0, u1, u2, u3, vI 0, vI 0, u6, u7] [] (WS L σ) Q := K_iconst fi_35_0 <| K_istore fi_35_1 (Nat.le_of_ble_eq_true rfl) rfl rfl <| K_iconst fi_35_3 <| K_istore fi_35_4 (Nat.le_of_ble_eq_true rfl) rfl rfl <| rfl
theorem b35_6 {d L : Nat} {σ : St} {Q : Option AV → AW → Prop} {x5 : Int} {u1 u2 u3 u4 u6 u7 : AV} : R d 35 6 [vR 20, u1, u2, u3, u4, vI x5, u6, u7] [] (WS L σ) Q = if (σ 20 0) ≤ x5 then R d 35 72 [vR 20, u1, u2, u3, u4, vI x5, u6, u7] [] (WS L σ) Q else R d 35 15 [vR 20, u1, u2, u3, u4, vI x5, u6, u7] [] (WS L σ) Q := K_iload fi_35_6 rfl <| K_aload_n fi_35_8 rfl <| K_gf fi_35_9 kd_20 mk_20_0 <| R_icmp_ge fi_35_12 rfl
theorem b35_15 {d L : Nat} {σ : St} {Q : Option AV → AW → Prop} {x5 x1 : Int} {u2 u3 u4 u6 u7 : AV} : R (d + 1) 35 15 [vR 20, vI x1, u2, u3, u4, vI x5, u6, u7] [] (WS L σ) Q = R d 36 0 [vR 20, vI x5, vI x1, vX 9] [] (WS L σ) (fun r w => R (d + 1) 35 22 [vR 20, vI x1, u2, u3, u4, vI x5, u6, u7] (am_push r []) w Q) := K_aload_n fi_35_15 rfl <| K_iload fi_35_16 rfl <| K_iload_n fi_35_18 rfl <| R_invV fi_35_19 (am_invV_of rfl (kd_20) (Nat.le_of_ble_eq_true rfl) (Nat.le_of_ble_eq_true rfl) rfl rfl)
theorem b35_22 {d L : Nat} {σ : St} {Q : Option AV → AW → Prop} {y0 x3 : Int} {u0 u1 u2 u4 u5 u6 u7 : AV} : R d 35 22 [u0, u1, u2, vI x3, u4, u5, u6, u7] [vI y0] (WS L σ) Q = if x3 ≤ y0 then R d 35 34 [u0, u1, u2, vI x3, u4, u5, vI y0, u7] [] (WS L σ) Q else R d 35 30 [u0, u1, u2, vI x3, u4, u5, vI y0, u7] [] (WS L σ) Q := K_istore fi_35_22 (Nat.le_of_ble_eq_true rfl) rfl rfl <| K_iload fi_35_24 rfl <| K_iload_n fi_35_26 rfl <| R_icmp_ge fi_35_27 rfl
theorem b35_30 {d L : Nat} {σ : St} {Q : Option AV → AW → Prop} {u0 u1 u2 u3 u4 u5 u6 u7 : AV} : R d 35 30 [u0, u1, u2, u3, u4, u5, u6, u7] [] (WS L σ) Q = R d 35 45 [u0, u1, u2, u3, u4, u5, u6, u7] [vI (-1)] (WS L σ) Q := K_iconst fi_35_30 <| R_goto fi_35_31 rfl
theorem b35_34 {d L : Nat} {σ : St} {Q : Option AV → AW → Prop} {x6 x3 : Int} {u0 u1 u2 u4 u5 u7 : AV} : R d 35 34 [u0, u1, u2, vI x3, u4, u5, vI x6, u7] [] (WS L σ) Q = if x6 ≤ x3 then R d 35 44 [u0, u1, u2, vI x3, u4, u5, vI x6, u7] [] (WS L σ) Q else R d 35 40 [u0, u1, u2, vI x3, u4, u5, vI x6, u7] [] (WS L σ) Q := K_iload fi_35_34 rfl <| K_iload_n fi_35_36 rfl <| R_icmp_le fi_35_37 rfl
theorem b35_40 {d L : Nat} {σ : St} {Q : Option AV → AW → Prop} {u0 u1 u2 u3 u4 u5 u6 u7 : AV} : R d 35 40 [u0, u1, u2, u3, u4, u5, u6, u7] [] (WS L σ) Q = R d 35 45 [u0, u1, u2, u3, u4, u5, u6, u7] [vI 1] (WS L σ) Q := K_iconst fi_35_40 <| R_goto fi_35_41 rfl
theorem b35_44 {d L : Nat} {σ : St} {Q : Option AV → AW → Prop} {u0 u1 u2 u3 u4 u5 u6 u7 : AV} : R d 35 44 [u0, u1, u2, u3, u4, u5, u6, u7] [] (WS L σ) Q = R d 35 45 [u0, u1, u2, u3, u4, u5, u6, u7] [vI 0] (WS L σ) Q := K_iconst fi_35_44 <| rfl
theorem b35_45 {d L : Nat} {σ : St} {Q : Option AV → AW → Prop} {y0 x4 x2 : Int} {u0 u1 u3 u5 u6 u7 : AV} : R d 35 45 [u0, u1, vI x2, u3, vI x4, u5, u6, u7] [vI y0] (WS L σ) Q = if ¬ y0 = x2 then R d 35 62 [u0, u1, vI x2, u3, vI x4, u5, u6, vI y0] [vI x4] (WS L σ) Q else R d 35 55 [u0, u1, vI x2, u3, vI x4, u5, u6, vI y0] [vI x4] (WS L σ) Q := K_istore fi_35_45 (Nat.le_of_ble_eq_true rfl) rfl rfl <| K_iload fi_35_47 rfl <| K_iload fi_35_49 rfl <| K_iload_n fi_35_51 rfl <| R_icmp_ne fi_35_52 rfl
theorem b35_55 {d L : Nat} {σ : St} {Q : Option AV → AW → Prop} {y0 x5 : Int} {u0 u1 u2 u3 u4 u6 u7 : AV} : R d 35 55 [u0, u1, u2, u3, u4, vI x5, u6, u7] [vI y0] (WS L σ) Q = R d 35 63 [u0, u1, u2, u3, u4, vI x5, u6, u7] [vI (i_shl 1 x5), vI y0] (WS L σ) Q := K_iconst fi_35_55 <| K_iload fi_35_56 rfl <| K_ishl fi_35_58 <| R_goto fi_35_59 rfl
theorem b35_62 {d L : Nat} {σ : St} {Q : Option AV → AW → Prop} {y0 : Int} {u0 u1 u2 u3 u4 u5 u6 u7 : AV} : R d 35 62 [u0, u1, u2, u3, u4, u5, u6, u7] [vI y0] (WS L σ) Q = R d 35 63 [u0, u1, u2, u3, u4, u5, u6, u7] [vI 0, vI y0] (WS L σ) Q := K_iconst fi_35_62 <| rfl
theorem b35_63 {d L : Nat} {σ : St} {Q : Option AV → AW → Prop} {y0 y1 x5 : Int} {u0 u1 u2 u3 u4 u6 u7 : AV} (h1 : -2147483648 ≤ x5 + 1 ∧ x5 + 1 ≤ 2147483647) : R d 35 63 [u0, u1, u2, u3, u4, vI x5, u6, u7] [vI y0, vI y1] (WS L σ) Q = R d 35 6 [u0, u1, u2, u3, vI (i_or y1 y0), vI (x5 + 1), u6, u7] [] (WS L σ) Q := K_ior fi_35_63 <| K_istore fi_35_64 (Nat.le_of_ble_eq_true rfl) rfl rfl <| K_iincx fi_35_66 rfl (Nat.le_of_ble_eq_true rfl) rfl h1 rfl <| R_goto fi_35_69 rfl
theorem b35_72 {d L : Nat} {σ : St} {Q : Option AV → AW → Prop} {x4 : Int} {u0 u1 u2 u3 u5 u6 u7 : AV} : R d 35 72 [u0, u1, u2, u3, vI x4, u5, u6, u7] [] (WS L σ) Q = Q (some (vI x4)) (WS L σ) := K_iload fi_35_72 rfl <| R_ireti fi_35_74 rfl
theorem fi_36_0 : am_find 36 0 = some (.iload_n 1, 1, 0, 0, 0) := by decide +kernel
theorem fi_36_1 : am_find 36 1 = some (.iconst 4, 1, 0, 4, 0) := by decide +kernel
theorem fi_36_2 : am_find 36 2 = some (.imul, 1, 0, 0, 0) := by decide +kernel
theorem fi_36_3 : am_find 36 3 = some (.iload_n 2, 1, 0, 0, 0) := by decide +kernel
theorem fi_36_4 : am_find 36 4 = some (.iadd, 1, 0, 0, 0) := by decide +kernel
theorem fi_36_5 : am_find 36 5 = some (.istore_n 3, 1, 0, 0, 0) := by decide +kernel
theorem fi_36_6 : am_find 36 6 = some (.iload_n 3, 1, 0, 0, 0) := by decide +kernel
theorem fi_36_7 : am_find 36 7 = some (.ifCond .lt 21, 3, 0, 0, 0) := by decide +kernel
theorem fi_36_10 : am_find 36 10 = some (.iload_n 3, 1, 0, 0, 0) := by decide +kernel
theorem fi_36_11 : am_find 36 11 = some (.aload_n 0, 1, 0, 0, 0) := by decide +kernel
theorem fi_36_12 : am_find 36 12 = some (.getfield 33, 3, 8, 9, 14) := by decide +kernel
theorem fi_36_15 : am_find 36 15 = some (.arraylength, 1, 0, 0, 0) := by decide +kernel
theorem fi_36_16 : am_find 36 16 = some (.if_icmp .ge 12, 3, 0, 0, 0) := by decide +kernel
theorem fi_36_19 : am_find 36 19 = some (.aload_n 0, 1, 0, 0, 0) := by decide +kernel
theorem fi_36_20 : am_find 36 20 = some (.getfield 33, 3, 8, 9, 14) := by decide +kernel
theorem fi_36_23 : am_find 36 23 = some (.iload_n 3, 1, 0, 0, 0) := by decide +kernel
theorem fi_36_24 : am_find 36 24 = some (.iaload, 1, 0, 0, 0) := by decide +kernel
theorem fi_36_25 : am_find 36 25 = some (.goto 4, 3, 0, 0, 0) := by decide +kernel
theorem fi_36_28 : am_find 36 28 = some (.iconst (-1), 1, 0, (-1), 0) := by decide +kernel
theorem fi_36_29 : am_find 36 29 = some (.ireturn, 1, 0, 0, 0) := by decide +kernel
theorem b36_0 {d L : Nat} {σ : St} {Q : Option AV → AW → Prop} {x1 x2 : Int} {u0 u3 : AV} (h1 : -2147483648 ≤ x1 * 4 ∧ x1 * 4 ≤ 2147483647) (h2 : -2147483648 ≤ (x1 * 4) + x2 ∧ (x1 * 4) + x2 ≤ 2147483647) : R d 36 0 [u0, vI x1, vI x2, u3] [] (WS L σ) Q = if ((x1 * 4) + x2) < 0 then R d 36 28 [u0, vI x1, vI x2, vI ((x1 * 4) + x2)] [] (WS L σ) Q else R d 36 10 [u0, vI x1, vI x2, vI ((x1 * 4) + x2)] [] (WS L σ) Q := K_iload_n fi_36_0 rfl <| K_iconst fi_36_1 <| K_imulx fi_36_2 h1 <| K_iload_n fi_36_3 rfl <| K_iaddx fi_36_4 h2 <| K_istore_n fi_36_5 (Nat.le_of_ble_eq_true rfl) rfl rfl <| K_iload_n fi_36_6 rfl <| R_if_lt fi_36_7 rfl
theorem b36_10 {d L : Nat} {σ : St} {Q : Option AV → AW → Prop} {x3 : Int} {u1 u2 : AV} : R d 36 10 [vR 20, u1, u2, vI x3] [] (WS L σ) Q = if 32 ≤ x3 then R d 36 28 [vR 20, u1, u2, vI x3] [] (WS L σ) Q else R d 36 19 [vR 20, u1, u2, vI x3] [] (WS L σ) Q := K_iload_n fi_36_10 rfl <| K_aload_n fi_36_11 rfl <| K_gf fi_36_12 kd_20 mk_20_9 <| K_alenx fi_36_15 (Or.inl kd_27) rfl <| R_icmp_ge fi_36_16 rfl
theorem b36_19 {d L : Nat} {σ : St} {Q : Option AV → AW → Prop} {x3 : Int} {u1 u2 : AV} (h1 : 0 ≤ x3) (h2 : x3 < 32) : R d 36 19 [vR 20, u1, u2, vI x3] [] (WS L σ) Q = R d 36 29 [vR 20, u1, u2, vI x3] [vI (σ 27 x3)] (WS L σ) Q := K_aload_n fi_36_19 rfl <| K_gf fi_36_20 kd_20 mk_20_9 <| K_iload_n fi_36_23 rfl <| K_ia fi_36_24 kd_27 h1 h2 <| R_goto fi_36_25 rfl
theorem b36_28 {d L : Nat} {σ : St} {Q : Option AV → AW → Prop} {u0 u1 u2 u3 : AV} : R d 36 28 [u0, u1, u2, u3] [] (WS L σ) Q = R d 36 29 [u0, u1, u2, u3] [vI (-1)] (WS L σ) Q := K_iconst fi_36_28 <| rfl
theorem b36_29 {d L : Nat} {σ : St} {Q : Option AV → AW → Prop} {y0 : Int} {u0 u1 u2 u3 : AV} : R d 36 29 [u0, u1, u2, u3] [vI y0] (WS L σ) Q = Q (some (vI y0)) (WS L σ) := R_ireti fi_36_29 rfl
theorem fi_37_0 : am_find 37 0 = some (.aload_n 0, 1, 0, 0, 0) := by decide +kernel
theorem fi_37_1 : am_find 37 1 = some (.bipush 8, 2, 0, 8, 0) := by decide +kernel
theorem fi_37_3 : am_find 37 3 = some (.invokevirtual 101, 3, 38, 1, 46) := by decide +kernel
theorem fi_37_6 : am_find 37 6 = some (.istore_n 1, 1, 0, 0, 0) := by decide +kernel
theorem fi_37_7 : am_find 37 7 = some (.aload_n 0, 1, 0, 0, 0) := by decide +kernel
theorem fi_37_8 : am_find 37 8 = some (.bipush 32, 2, 0, 32, 0) := by decide +kernel
theorem fi_37_10 : am_find 37 10 = some (.invokevirtual 81, 3, 29, 1, 30) := by decide +kernel
theorem fi_37_13 : am_find 37 13 = some (.iconst 1, 1, 0, 1, 0) := by decide +kernel
theorem fi_37_14 : am_find 37 14 = some (.iload_n 1, 1, 0, 0, 0) := by decide +kernel
theorem fi_37_15 : am_find 37 15 = some (.ishl, 1, 0, 0, 0) := by decide +kernel
theorem fi_37_16 : am_find 37 16 = some (.iconst 1, 1, 0, 1, 0) := by decide +kernel
theorem fi_37_17 : am_find 37 17 = some (.aload_n 0, 1, 0, 0, 0) := by decide +kernel
theorem fi_37_18 : am_find 37 18 = some (.bipush 8, 2, 0, 8, 0) := by decide +kernel
theorem fi_37_20 : am_find 37 20 = some (.invokevirtual 101, 3, 38, 1, 46) := by decide +kernel
theorem fi_37_23 : am_find 37 23 = some (.ishl, 1, 0, 0, 0) := by decide +kernel
theorem fi_37_24 : am_find 37 24 = some (.ior, 1, 0, 0, 0) := by decide +kernel
theorem fi_37_25 : am_find 37 25 = some (.ireturn, 1, 0, 0, 0) := by decide +kernel
theorem b37_0 {d L : Nat} {σ : St} {Q : Option AV → AW → Prop} {u1 : AV} : R (d + 1) 37 0 [vR 134, u1] [] (WS L σ) Q = R d 38 0 [vR 134, vI 8, vX 9] [] (WS L σ) (fun r w => R (d + 1) 37 6 [vR 134, u1] (am_push r []) w Q) := K_aload_n fi_37_0 rfl <| K_bipush fi_37_1 <| R_invV fi_37_3 (am_invV_of rfl (kd_134) (Nat.le_of_ble_eq_true rfl) (Nat.le_of_ble_eq_true rfl) rfl rfl)
theorem b37_6 {d L : Nat} {σ : St} {Q : Option AV → AW → Prop} {y0 : Int} {u1 : AV} : R (d + 1) 37 6 [vR 134, u1] [vI y0] (WS L σ) Q = R d 29 0 [vR 134, vI 32] [] (WS L σ) (fun r w => R (d + 1) 37 13 [vR 134, vI y0] (am_push r []) w Q) := K_istore_n fi_37_6 (Nat.le_of_ble_eq_true rfl) rfl rfl <| K_aload_n fi_37_7 rfl <| K_bipush fi_37_8 <| R_invV fi_37_10 (am_invV_of rfl (kd_134) (Nat.le_of_ble_eq_true rfl) (Nat.le_of_ble_eq_true rfl) rfl rfl)
theorem b37_13 {d L : Nat} {σ : St} {Q : Option AV → AW → Prop} {x1 : Int} : R (d + 1) 37 13 [vR 134, vI x1] [] (WS L σ) Q = R d 38 0 [vR 134, vI 8, vX 9] [] (WS L σ) (fun r w => R (d + 1) 37 23 [vR 134, vI x1] (am_push r [vI 1, vI (i_shl 1 x1)]) w Q) := K_iconst fi_37_13 <| K_iload_n fi_37_14 rfl <| K_ishl fi_37_15 <| K_iconst fi_37_16 <| K_aload_n fi_37_17 rfl <| K_bipush fi_37_18 <| R_invV fi_37_20 (am_invV_of rfl (kd_134) (Nat.le_of_ble_eq_true rfl) (Nat.le_of_ble_eq_true rfl) rfl rfl)
theorem b37_23 {d L : Nat} {σ : St} {Q : Option AV → AW → Prop} {y0 y1 y2 : Int} {u0 u1 : AV} : R d 37 23 [u0, u1] [vI y0, vI y1, vI y2] (WS L σ) Q = Q (some (vI (i_or y2 (i_shl y1 y0)))) (WS L σ) := K_ishl fi_37_23 <| K_ior fi_37_24 <| R_ireti fi_37_25 rfl
theorem fi_38_0 : am_find 38 0 = some (.aload_n 0, 1, 0, 0, 0) := by decide +kernel
theorem fi_38_1 : am_find 38 1 = some (.getfield 53, 3, 4, 8, 51) := by decide +kernel
theorem fi_38_4 : am_find 38 4 = some (.bipush 48, 2, 0, 48, 0) := by decide +kernel
theorem fi_38_6 : am_find 38 6 = some (.isub, 1, 0, 0, 0) := by decide +kernel
theorem fi_38_7 : am_find 38 7 = some (.istore_n 2, 1, 0, 0, 0) := by decide +kernel
theorem fi_38_8 : am_find 38 8 = some (.iload_n 2, 1, 0, 0, 0) := by decide +kernel
theorem fi_38_9 : am_find 38 9 = some (.ifCond .lt 8, 3, 0, 0, 0) := by decide +kernel
theorem fi_38_12 : am_find 38 12 = some (.iload_n 2, 1, 0, 0, 0) := by decide +kernel
theorem fi_38_13 : am_find 38 13 = some (.iload_n 1, 1, 0, 0, 0) := by decide +kernel
theorem fi_38_14 : am_find 38 14 = some (.if_icmp .lt 9, 3, 0, 0, 0) := by decide +kernel
theorem fi_38_17 : am_find 38 17 = some (.aload_n 0, 1, 0, 0, 0) := by decide +kernel
theorem fi_38_18 : am_find 38 18 = some (.invokevirtual 56, 3, 21, 0, 27) := by decide +kernel
theorem fi_38_21 : am_find 38 21 = some (.iconst 0, 1, 0, 0, 0) := by decide +kernel
theorem fi_38_22 : am_find 38 22 = some (.ireturn, 1, 0, 0, 0) := by decide +kernel
theorem fi_38_23 : am_find 38 23 = some (.aload_n 0, 1, 0, 0, 0) := by decide +kernel
theorem fi_38_24 : am_find 38 24 = some (.invokevirtual 47, 3, 19, 0, 25) := by decide +kernel
theorem fi_38_27 : am_find 38 27 = some (.iload_n 2, 1, 0, 0, 0) := by decide +kernel
theorem fi_38_28 : am_find 38 28 = some (.ireturn, 1, 0, 0, 0) := by decide +kernel
theorem b38_0 {d L : Nat} {σ : St} {Q : Option AV → AW → Prop} {x1 : Int} {u2 : AV} (h1 : -2147483648 ≤ (σ 134 8) - 48 ∧ (σ 134 8) - 48 ≤ 2147483647) : R d 38 0 [vR 134, vI x1, u2] [] (WS L σ) Q = if ((σ 134 8) - 48) < 0 then R d 38 17 [vR 134, vI x1, vI ((σ 134 8) - 48)] [] (WS L σ) Q else R d 38 12 [vR 134, vI x1, vI ((σ 134 8) - 48)] [] (WS L σ) Q := K_aload_n fi_38_0 rfl <| K_gf fi_38_1 kd_134 mk_134_8 <| K_bipush fi_38_4 <| K_isubx fi_38_6 h1 <| K_istore_n fi_38_7 (Nat.le_of_ble_eq_true rfl) rfl rfl <| K_iload_n fi_38_8 rfl <| R_if_lt fi_38_9 rfl
theorem b38_12 {d L : Nat} {σ : St} {Q : Option AV → AW → Prop} {x2 x1 : Int} {u0 : AV} : R d 38 12 [u0, vI x1, vI x2] [] (WS L σ) Q = if x2 < x1 then R d 38 23 [u0, vI x1, vI x2] [] (WS L σ) Q else R d 38 17 [u0, vI x1, vI x2] [] (WS L σ) Q := K_iload_n fi_38_12 rfl <| K_iload_n fi_38_13 rfl <| R_icmp_lt fi_38_14 rfl
theorem b38_17 {d L : Nat} {σ : St} {Q : Option AV → AW → Prop} {u1 u2 : AV} : R (d + 1) 38 17 [vR 134, u1, u2] [] (WS L σ) Q = R d 21 0 [vR 134] [] (WS L σ) (fun r w => R (d + 1) 38 21 [vR 134, u1, u2] (am_push r []) w Q) := K_aload_n fi_38_17 rfl <| R_invV fi_38_18 (am_invV_of rfl (kd_134) (Nat.le_of_ble_eq_true rfl) (Nat.le_of_ble_eq_true rfl) rfl rfl)
theorem b38_21 {d L : Nat} {σ : St} {Q : Option AV → AW → Prop} {u0 u1 u2 : AV} : R d 38 21 [u0, u1, u2] [] (WS L σ) Q = Q (some (vI 0)) (WS L σ) := K_iconst fi_38_21 <| R_ireti fi_38_22 rfl
theorem b38_23 {d L : Nat} {σ : St} {Q : Option AV → AW → Prop} {u1 u2 : AV} : R (d + 1) 38 23 [vR 134, u1, u2] [] (WS L σ) Q = R d 19 0 [vR 134] [] (WS L σ) (fun r w => R (d + 1) 38 27 [vR 134, u1, u2] (am_push r []) w Q) := K_aload_n fi_38_23 rfl <| R_invV fi_38_24 (am_invV_of rfl (kd_134) (Nat.le_of_ble_eq_true rfl) (Nat.le_of_ble_eq_true rfl) rfl rfl)
theorem b38_27 {d L : Nat} {σ : St} {Q : Option AV → AW → Prop} {x2 : Int} {u0 u1 : AV} : R d 38 27 [u0, u1, vI x2] [] (WS L σ) Q = Q (some (vI x2)) (WS L σ) := K_iload_n fi_38_27 rfl <| R_ireti fi_38_28 rfl
theorem fi_39_0 : am_find 39 0 = some (.aload_n 0, 1, 0, 0, 0) := by decide +kernel
theorem fi_39_1 : am_find 39 1 = some (.getfield 24, 3, 4, 0, 27) := by decide +kernel
theorem fi_39_4 : am_find 39 4 = some (.iconst 0, 1, 0, 0, 0) := by decide +kernel
theorem fi_39_5 : am_find 39 5 = some (.iconst 0, 1, 0, 0, 0) := by decide +kernel
theorem fi_39_6 : am_find 39 6 = some (.aload_n 0, 1, 0, 0, 0) := by decide +kernel
theorem fi_39_7 : am_find 39 7 = some (.iconst 4, 1, 0, 4, 0) := by decide +kernel
theorem fi_39_8 : am_find 39 8 = some (.invokevirtual 101, 3, 38, 1, 46) := by decide +kernel
theorem fi_39_11 : am_find 39 11 = some (.invokevirtual 104, 3, 35, 3, 43) := by decide +kernel
theorem fi_39_14 : am_find 39 14 = some (.ireturn, 1, 0, 0, 0) := by decide +kernel
theorem b39_0 {d L : Nat} {σ : St} {Q : Option AV → AW → Prop} : R (d + 1) 39 0 [vR 134] [] (WS L σ) Q = R d 38 0 [vR 134, vI 4, vX 9] [] (WS L σ) (fun r w => R (d + 1) 39 11 [vR 134] (am_push r [vI 0, vI 0, vR 20]) w Q) := K_aload_n fi_39_0 rfl <| K_gf fi_39_1 kd_134 mk_134_0 <| K_iconst fi_39_4 <| K_iconst fi_39_5 <| K_aload_n fi_39_6 rfl <| K_iconst fi_39_7 <| R_invV fi_39_8 (am_invV_of rfl (kd_134) (Nat.le_of_ble_eq_true rfl) (Nat.le_of_ble_eq_true rfl) rfl rfl)
theorem b39_11 {d L : Nat} {σ : St} {Q : Option AV → AW → Prop} {y0 y1 y2 : Int} {u0 : AV} : R (d + 1) 39 11 [u0] [vI y0, vI y1, vI y2, vR 20] (WS L σ) Q = R d 35 0 [vR 20, vI y2, vI y1, vI y0, vX 9, vX 9, vX 9, vX 9] [] (WS L σ) (fun r w => R (d + 1) 39 14 [u0] (am_push r []) w Q) := R_invV fi_39_11 (am_invV_of rfl (kd_20) (Nat.le_of_ble_eq_true rfl) (Nat.le_of_ble_eq_true rfl) rfl rfl)
theorem b39_14 {d L : Nat} {σ : St} {Q : Option AV → AW → Prop} {y0 : Int} {u0 : AV} : R d 39 14 [u0] [vI y0] (WS L σ) Q = Q (some (vI y0)) (WS L σ) := R_ireti fi_39_14 rfl
theorem fi_40_0 : am_find 40 0 = some (.iconst 0, 1, 0, 0, 0) := by decide +kernel
theorem fi_40_1 : am_find 40 1 = some (.istore_n 2, 1, 0, 0, 0) := by decide +kernel
theorem fi_40_2 : am_find 40 2 = some (.iconst 0, 1, 0, 0, 0) := by decide +kernel
theorem fi_40_3 : am_find 40 3 = some (.istore_n 3, 1, 0, 0, 0) := by decide +kernel
theorem fi_40_4 : am_find 40 4 = some (.iload_n 3, 1, 0, 0, 0) := by decide +kernel
theorem fi_40_5 : am_find 40 5 = some (.aload_n 0, 1, 0, 0, 0) := by decide +kernel
theorem fi_40_6 : am_find 40 6 = some (.getfield 69, 3, 8, 0, 43) := by decide +kernel
theorem fi_40_9 : am_find 40 9 = some (.if_icmp .ge 27, 3, 0, 0, 0) := by decide +kernel
theorem fi_40_12 : am_find 40 12 = some (.iload_n 1, 1, 0, 0, 0) := by decide +kernel
theorem fi_40_13 : am_find 40 13 = some (.iload_n 3, 1, 0, 0, 0) := by decide +kernel
theorem fi_40_14 : am_find 40 14 = some (.ishr, 1, 0, 0, 0) := by decide +kernel
theorem fi_40_15 : am_find 40 15 = some (.iconst 1, 1, 0, 1, 0) := by decide +kernel
theorem fi_40_16 : am_find 40 16 = some (.iand, 1, 0, 0, 0) := by decide +kernel
theorem fi_40_17 : am_find 40 17 = some (.iconst 1, 1, 0, 1, 0) := by decide +kernel
theorem fi_40_18 : am_find 40 18 = some (.if_icmp .ne 12, 3, 0, 0, 0) := by decide +kernel
theorem fi_40_21 : am_find 40 21 = some (.iload_n 2, 1, 0, 0, 0) := by decide +kernel
theorem fi_40_22 : am_find 40 22 = some (.aload_n 0, 1, 0, 0, 0) := by decide +kernel
theorem fi_40_23 : am_find 40 23 = some (.iload_n 3, 1, 0, 0, 0) := by decide +kernel
theorem fi_40_24 : am_find 40 24 = some (.iconst 1, 1, 0, 1, 0) := by decide +kernel
theorem fi_40_25 : am_find 40 25 = some (.invokevirtual 93, 3, 36, 2, 45) := by decide +kernel
theorem fi_40_28 : am_find 40 28 = some (.iadd, 1, 0, 0, 0) := by decide +kernel
theorem fi_40_29 : am_find 40 29 = some (.istore_n 2, 1, 0, 0, 0) := by decide +kernel
theorem fi_40_30 : am_find 40 30 = some (.iinc 3 1, 3, 0, 0, 0) := by decide +kernel
theorem fi_40_33 : am_find 40 33 = some (.goto (-29), 3, 0, 0, 0) := by decide +kernel
theorem fi_40_36 : am_find 40 36 = some (.iload_n 2, 1, 0, 0, 0) := by decide +kernel
theorem fi_40_37 : am_find 40 37 = some (.ireturn, 1, 0, 0, 0) := by decide +kernel
theorem b40_0 {d L : Nat} {σ : St} {Q : Option AV → AW → Prop} {x1 : Int} {u0 u2 u3 : AV} : R d 40 0 [u0, vI x1, u2, u3] [] (WS L σ) Q = R d 40 4 [u0, vI x1, vI 0, vI 0] [] (WS L σ) Q := K_iconst fi_40_0 <| K_istore_n fi_40_1 (Nat.le_of_ble_eq_true rfl) rfl rfl <| K_iconst fi_40_2 <| K_istore_n fi_40_3 (Nat.le_of_ble_eq_true rfl) rfl rfl <| rfl
theorem b40_4 {d L : Nat} {σ : St} {Q : Option AV → AW → Prop} {x3 : Int} {u1 u2 : AV} : R d 40 4 [vR 20, u1, u2, vI x3] [] (WS L σ) Q = if (σ 20 0) ≤ x3 then R d 40 36 [vR 20, u1, u2, vI x3] [] (WS L σ) Q else R d 40 12 [vR 20, u1, u2, vI x3] [] (WS L σ) Q := K_iload_n fi_40_4 rfl <| K_aload_n fi_40_5 rfl <| K_gf fi_40_6 kd_20 mk_20_0 <| R_icmp_ge fi_40_9 rfl
theorem b40_12 {d L : Nat} {σ : St} {Q : Option AV → AW → Prop} {x1 x3 : Int} {u0 u2 : AV} : R d 40 12 [u0, vI x1, u2, vI x3] [] (WS L σ) Q = if ¬ (i_and (i_shr x1 x3) 1) = 1 then R d 40 30 [u0, vI x1, u2, vI x3] [] (WS L σ) Q else R d 40 21 [u0, vI x1, u2, vI x3] [] (WS L σ) Q := K_iload_n fi_40_12 rfl <| K_iload_n fi_40_13 rfl <| K_ishr fi_40_14 <| K_iconst fi_40_15 <| K_iand fi_40_16 <| K_iconst fi_40_17 <| R_icmp_ne fi_40_18 rfl
theorem b40_21 {d L : Nat} {σ : St} {Q : Option AV → AW → Prop} {x2 x3 : Int} {u1 : AV} : R (d + 1) 40 21 [vR 20, u1, vI x2, vI x3] [] (WS L σ) Q = R d 36 0 [vR 20, vI x3, vI 1, vX 9] [] (WS L σ) (fun r w => R (d + 1) 40 28 [vR 20, u1, vI x2, vI x3] (am_push r [vI x2]) w Q) := K_iload_n fi_40_21 rfl <| K_aload_n fi_40_22 rfl <| K_iload_n fi_40_23 rfl <| K_iconst fi_40_24 <| R_invV fi_40_25 (am_invV_of rfl (kd_20) (Nat.le_of_ble_eq_true rfl) (Nat.le_of_ble_eq_true rfl) rfl rfl)
theorem b40_28 {d L : Nat} {σ : St} {Q : Option AV → AW → Prop} {y0 y1 x1 : Int} {u0 u2 u3 : AV} (h1 : -2147483648 ≤ y1 + y0 ∧ y1 + y0 ≤ 2147483647) : R d 40 28 [u0, vI x1, u2, u3] [vI y0, vI y1] (WS L σ) Q = R d 40 30 [u0, vI x1, vI (y1 + y0), u3] [] (WS L σ) Q := K_iaddx fi_40_28 h1 <| K_istore_n fi_40_29 (Nat.le_of_ble_eq_true rfl) rfl rfl <| rfl
theorem b40_30 {d L : Nat} {σ : St} {Q : Option AV → AW → Prop} {x3 : Int} {u0 u1 u2 : AV} (h1 : -2147483648 ≤ x3 + 1 ∧ x3 + 1 ≤ 2147483647) : R d 40 30 [u0, u1, u2, vI x3] [] (WS L σ) Q = R d 40 4 [u0, u1, u2, vI (x3 + 1)] [] (WS L σ) Q := K_iincx fi_40_30 rfl (Nat.le_of_ble_eq_true rfl) rfl h1 rfl <| R_goto fi_40_33 rfl
theorem b40_36 {d L : Nat} {σ : St} {Q : Option AV → AW → Prop} {x2 : Int} {u0 u1 u3 : AV} : R d 40 36 [u0, u1, vI x2, u3] [] (WS L σ) Q = Q (some (vI x2)) (WS L σ) := K_iload_n fi_40_36 rfl <| R_ireti fi_40_37 rfl
theorem fi_41_0 : am_find 41 0 = some (.iconst 0, 1, 0, 0, 0) := by decide +kernel
theorem fi_41_1 : am_find 41 1 = some (.istore_n 2, 1, 0, 0, 0) := by decide +kernel
theorem fi_41_2 : am_find 41 2 = some (.iconst 0, 1, 0, 0, 0) := by decide +kernel
theorem fi_41_3 : am_find 41 3 = some (.istore_n 3, 1, 0, 0, 0) := by decide +kernel
theorem fi_41_4 : am_find 41 4 = some (.iload_n 3, 1, 0, 0, 0) := by decide +kernel
theorem fi_41_5 : am_find 41 5 = some (.aload_n 0, 1, 0, 0, 0) := by decide +kernel
theorem fi_41_6 : am_find 41 6 = some (.getfield 28, 3, 4, 4, 45) := by decide +kernel
theorem fi_41_9 : am_find 41 9 = some (.if_icmp .ge 110, 3, 0, 0, 0) := by decide +kernel
theorem fi_41_12 : am_find 41 12 = some (.iload_n 3, 1, 0, 0, 0) := by decide +kernel
theorem fi_41_13 : am_find 41 13 = some (.bipush 10, 2, 0, 10, 0) := by decide +kernel
theorem fi_41_15 : am_find 41 15 = some (.if_icmp .ge 104, 3, 0, 0, 0) := by decide +kernel
theorem fi_41_18 : am_find 41 18 = some (.iload_n 1, 1, 0, 0, 0) := by decide +kernel
theorem fi_41_19 : am_find 41 19 = some (.aload_n 0, 1, 0, 0, 0) := by decide +kernel
theorem fi_41_20 : am_find 41 20 = some (.getfield 18, 3, 4, 3, 25) := by decide +kernel
theorem fi_41_23 : am_find 41 23 = some (.iload_n 3, 1, 0, 0, 0) := by decide +kernel
theorem fi_41_24 : am_find 41 24 = some (.iaload, 1, 0, 0, 0) := by decide +kernel
theorem fi_41_25 : am_find 41 25 = some (.iand, 1, 0, 0, 0) := by decide +kernel
theorem fi_41_26 : am_find 41 26 = some (.istore 4, 2, 0, 0, 0) := by decide +kernel
theorem fi_41_28 : am_find 41 28 = some (.aload_n 0, 1, 0, 0, 0) := by decide +kernel
theorem fi_41_29 : am_find 41 29 = some (.getfield 11, 3, 4, 1, 23) := by decide +kernel
theorem fi_41_32 : am_find 41 32 = some (.iload_n 3, 1, 0, 0, 0) := by decide +kernel
theorem fi_41_33 : am_find 41 33 = some (.iaload, 1, 0, 0, 0) := by decide +kernel
theorem fi_41_34 : am_find 41 34 = some (.bipush 109, 2, 0, 109, 0) := by decide +kernel
theorem fi_41_36 : am_find 41 36 = some (.if_icmp .ne 21, 3, 0, 0, 0) := by decide +kernel
theorem fi_41_39 : am_find 41 39 = some (.iload_n 2, 1, 0, 0, 0) := by decide +kernel
theorem fi_41_40 : am_find 41 40 = some (.aload_n 0, 1, 0, 0, 0) := by decide +kernel
theorem fi_41_41 : am_find 41 41 = some (.getfield 15, 3, 4, 2, 24) := by decide +kernel
theorem fi_41_44 : am_find 41 44 = some (.iload_n 3, 1, 0, 0, 0) := by decide +kernel
theorem fi_41_45 : am_find 41 45 = some (.iaload, 1, 0, 0, 0) := by decide +kernel
theorem fi_41_46 : am_find 41 46 = some (.iload 4, 2, 0, 0, 0) := by decide +kernel
theorem fi_41_48 : am_find 41 48 = some (.invokestatic 59, 3, 42, 1, 47) := by decide +kernel
theorem fi_41_51 : am_find 41 51 = some (.imul, 1, 0, 0, 0) := by decide +kernel
theorem fi_41_52 : am_find 41 52 = some (.iadd, 1, 0, 0, 0) := by decide +kernel
theorem fi_41_53 : am_find 41 53 = some (.istore_n 2, 1, 0, 0, 0) := by decide +kernel
theorem fi_41_54 : am_find 41 54 = some (.goto 59, 3, 0, 0, 0) := by decide +kernel
theorem fi_41_57 : am_find 41 57 = some (.aload_n 0, 1, 0, 0, 0) := by decide +kernel
theorem fi_41_58 : am_find 41 58 = some (.getfield 11, 3, 4, 1, 23) := by decide +kernel
theorem fi_41_61 : am_find 41 61 = some (.iload_n 3, 1, 0, 0, 0) := by decide +kernel
theorem fi_41_62 : am_find 41 62 = some (.iaload, 1, 0, 0, 0) := by decide +kernel
theorem fi_41_63 : am_find 41 63 = some (.bipush 98, 2, 0, 98, 0) := by decide +kernel
theorem fi_41_65 : am_find 41 65 = some (.if_icmp .ne 30, 3, 0, 0, 0) := by decide +kernel
theorem fi_41_68 : am_find 41 68 = some (.iload_n 2, 1, 0, 0, 0) := by decide +kernel
theorem fi_41_69 : am_find 41 69 = some (.iload 4, 2, 0, 0, 0) := by decide +kernel
theorem fi_41_71 : am_find 41 71 = some (.aload_n 0, 1, 0, 0, 0) := by decide +kernel
theorem fi_41_72 : am_find 41 72 = some (.getfield 18, 3, 4, 3, 25) := by decide +kernel
theorem fi_41_75 : am_find 41 75 = some (.iload_n 3, 1, 0, 0, 0) := by decide +kernel
theorem fi_41_76 : am_find 41 76 = some (.iaload, 1, 0, 0, 0) := by decide +kernel
theorem fi_41_77 : am_find 41 77 = some (.if_icmp .ne 12, 3, 0, 0, 0) := by decide +kernel
theorem fi_41_80 : am_find 41 80 = some (.aload_n 0, 1, 0, 0, 0) := by decide +kernel
theorem fi_41_81 : am_find 41 81 = some (.getfield 15, 3, 4, 2, 24) := by decide +kernel
theorem fi_41_84 : am_find 41 84 = some (.iload_n 3, 1, 0, 0, 0) := by decide +kernel
theorem fi_41_85 : am_find 41 85 = some (.iaload, 1, 0, 0, 0) := by decide +kernel
theorem fi_41_86 : am_find 41 86 = some (.goto 4, 3, 0, 0, 0) := by decide +kernel
theorem fi_41_89 : am_find 41 89 = some (.iconst 0, 1, 0, 0, 0) := by decide +kernel
theorem fi_41_90 : am_find 41 90 = some (.iadd, 1, 0, 0, 0) := by decide +kernel
theorem fi_41_91 : am_find 41 91 = some (.istore_n 2, 1, 0, 0, 0) := by decide +kernel
theorem fi_41_92 : am_find 41 92 = some (.goto 21, 3, 0, 0, 0) := by decide +kernel
theorem fi_41_95 : am_find 41 95 = some (.iload_n 2, 1, 0, 0, 0) := by decide +kernel
theorem fi_41_96 : am_find 41 96 = some (.iload 4, 2, 0, 0, 0) := by decide +kernel
theorem fi_41_98 : am_find 41 98 = some (.ifCond .ne 12, 3, 0, 0, 0) := by decide +kernel
theorem fi_41_101 : am_find 41 101 = some (.aload_n 0, 1, 0, 0, 0) := by decide +kernel
theorem fi_41_102 : am_find 41 102 = some (.getfield 15, 3, 4, 2, 24) := by decide +kernel
theorem fi_41_105 : am_find 41 105 = some (.iload_n 3, 1, 0, 0, 0) := by decide +kernel
theorem fi_41_106 : am_find 41 106 = some (.iaload, 1, 0, 0, 0) := by decide +kernel
theorem fi_41_107 : am_find 41 107 = some (.goto 4, 3, 0, 0, 0) := by decide +kernel
theorem fi_41_110 : am_find 41 110 = some (.iconst 0, 1, 0, 0, 0) := by decide +kernel
theorem fi_41_111 : am_find 41 111 = some (.isub, 1, 0, 0, 0) := by decide +kernel
theorem fi_41_112 : am_find 41 112 = some (.istore_n 2, 1, 0, 0, 0) := by decide +kernel
theorem fi_41_113 : am_find 41 113 = some (.iinc 3 1, 3, 0, 0, 0) := by decide +kernel
theorem fi_41_116 : am_find 41 116 = some (.goto (-112), 3, 0, 0, 0) := by decide +kernel
theorem fi_41_119 : am_find 41 119 = some (.iload_n 2, 1, 0, 0, 0) := by decide +kernel
theorem fi_41_120 : am_find 41 120 = some (.ireturn, 1, 0, 0, 0) := by decide +kernel
theorem b41_0 {d L : Nat} {σ : St} {Q : Option AV → AW → Prop} {x1 : Int} {u0 u2 u3 u4 : AV} : R d 41 0 [u0, vI x1, u2, u3, u4] [] (WS L σ) Q = R d 41 4 [u0, vI x1, vI 0, vI 0, u4] [] (WS L σ) Q := K_iconst fi_41_0 <| K_istore_n fi_41_1 (Nat.le_of_ble_eq_true rfl) rfl rfl <| K_iconst fi_41_2 <| K_istore_n fi_41_3 (Nat.le_of_ble_eq_true rfl) rfl rfl <| rfl
theorem b41_4 {d L : Nat} {σ : St} {Q : Option AV → AW → Prop} {x3 : Int} {u1 u2 u4 : AV} : R d 41 4 [vR 134, u1, u2, vI x3, u4] [] (WS L σ) Q = if (σ 134 4) ≤ x3 then R d 41 119 [vR 134, u1, u2, vI x3, u4] [] (WS L σ) Q else R d 41 12 [vR 134, u1, u2, vI x3, u4] [] (WS L σ) Q := K_iload_n fi_41_4 rfl <| K_aload_n fi_41_5 rfl <| K_gf fi_41_6 kd_134 mk_134_4 <| R_icmp_ge fi_41_9 rfl
theorem b41_12 {d L : Nat} {σ : St} {Q : Option AV → AW → Prop} {x3 : Int} {u0 u1 u2 u4 : AV} : R d 41 12 [u0, u1, u2, vI x3, u4] [] (WS L σ) Q = if 10 ≤ x3 then R d 41 119 [u0, u1, u2, vI x3, u4] [] (WS L σ) Q else R d 41 18 [u0, u1, u2, vI x3, u4] [] (WS L σ) Q := K_iload_n fi_41_12 rfl <| K_bipush fi_41_13 <| R_icmp_ge fi_41_15 rfl
theorem b41_18 {d L : Nat} {σ : St} {Q : Option AV → AW → Prop} {x1 x3 : Int} {u2 u4 : AV} (h1 : 0 ≤ x3) (h2 : x3 < 10) : R d 41 18 [vR 134, vI x1, u2, vI x3, u4] [] (WS L σ) Q = if ¬ (σ 135 x3) = 109 then R d 41 57 [vR 134, vI x1, u2, vI x3, vI (i_and x1 (σ 137 x3))] [] (WS L σ) Q else R d 41 39 [vR 134, vI x1, u2, vI x3, vI (i_and x1 (σ 137 x3))] [] (WS L σ) Q := K_iload_n fi_41_18 rfl <| K_aload_n fi_41_19 rfl <| K_gf fi_41_20 kd_134 mk_134_3 <| K_iload_n fi_41_23 rfl <| K_ia fi_41_24 kd_137 h1 h2 <| K_iand fi_41_25 <| K_istore fi_41_26 (Nat.le_of_ble_eq_true rfl) rfl rfl <| K_aload_n fi_41_28 rfl <| K_gf fi_41_29 kd_134 mk_134_1 <| K_iload_n fi_41_32 rfl <| K_ia fi_41_33 kd_135 h1 h2 <| K_bipush fi_41_34 <| R_icmp_ne fi_41_36 rfl
theorem b41_39 {d L : Nat} {σ : St} {Q : Option AV → AW → Prop} {x2 x3 x4 : Int} {u1 : AV} (h1 : 0 ≤ x3) (h2 : x3 < 10) : R (d + 1) 41 39 [vR 134, u1, vI x2, vI x3, vI x4] [] (WS L σ) Q = R d 42 0 [vI x4] [] (WS L σ) (fun r w => R (d + 1) 41 51 [vR 134, u1, vI x2, vI x3, vI x4] (am_push r [vI (σ 136 x3), vI x2]) w Q) := K_iload_n fi_41_39 rfl <| K_aload_n fi_41_40 rfl <| K_gf fi_41_41 kd_134 mk_134_2 <| K_iload_n fi_41_44 rfl <| K_ia fi_41_45 kd_136 h1 h2 <| K_iload fi_41_46 rfl <| R_invS fi_41_48 (by decide) (am_invS_of (Nat.le_of_ble_eq_true rfl) rfl (Nat.le_of_ble_eq_true rfl) (Nat.le_of_ble_eq_true rfl) rfl rfl)
theorem b41_51 {d L : Nat} {σ : St} {Q : Option AV → AW → Prop} {y0 y1 y2 x1 : Int} {u0 u2 u3 u4 : AV} (h1 : -2147483648 ≤ y1 * y0 ∧ y1 * y0 ≤ 2147483647) (h2 : -2147483648 ≤ y2 + (y1 * y0) ∧ y2 + (y1 * y0) ≤ 2147483647) : R d 41 51 [u0, vI x1, u2, u3, u4] [vI y0, vI y1, vI y2] (WS L σ) Q = R d 41 113 [u0, vI x1, vI (y2 + (y1 * y0)), u3, u4] [] (WS L σ) Q := K_imulx fi_41_51 h1 <| K_iaddx fi_41_52 h2 <| K_istore_n fi_41_53 (Nat.le_of_ble_eq_true rfl) rfl rfl <| R_goto fi_41_54 rfl
theorem b41_57 {d L : Nat} {σ : St} {Q : Option AV → AW → Prop} {x3 : Int} {u1 u2 u4 : AV} (h1 : 0 ≤ x3) (h2 : x3 < 10) : R d 41 57 [vR 134, u1, u2, vI x3, u4] [] (WS L σ) Q = if ¬ (σ 135 x3) = 98 then R d 41 95 [vR 134, u1, u2, vI x3, u4] [] (WS L σ) Q else R d 41 68 [vR 134, u1, u2, vI x3, u4] [] (WS L σ) Q := K_aload_n fi_41_57 rfl <| K_gf fi_41_58 kd_134 mk_134_1 <| K_iload_n fi_41_61 rfl <| K_ia fi_41_62 kd_135 h1 h2 <| K_bipush fi_41_63 <| R_icmp_ne fi_41_65 rfl
theorem b41_68 {d L : Nat} {σ : St} {Q : Option AV → AW → Prop} {x2 x4 x3 : Int} {u1 : AV} (h1 : 0 ≤ x3) (h2 : x3 < 10) : R d 41 68 [vR 134, u1, vI x2, vI x3, vI x4] [] (WS L σ) Q = if ¬ x4 = (σ 137 x3) then R d 41 89 [vR 134, u1, vI x2, vI x3, vI x4] [vI x2] (WS L σ) Q else R d 41 80 [vR 134, u1, vI x2, vI x3, vI x4] [vI x2] (WS L σ) Q := K_iload_n fi_41_68 rfl <| K_iload fi_41_69 rfl <| K_aload_n fi_41_71 rfl <| K_gf fi_41_72 kd_134 mk_134_3 <| K_iload_n fi_41_75 rfl <| K_ia fi_41_76 kd_137 h1 h2 <| R_icmp_ne fi_41_77 rfl
theorem b41_80 {d L : Nat} {σ : St} {Q : Option AV → AW → Prop} {y0 x3 : Int} {u1 u2 u4 : AV} (h1 : 0 ≤ x3) (h2 : x3 < 10) : R d 41 80 [vR 134, u1, u2, vI x3, u4] [vI y0] (WS L σ) Q = R d 41 90 [vR 134, u1, u2, vI x3, u4] [vI (σ 136 x3), vI y0] (WS L σ) Q := K_aload_n fi_41_80 rfl <| K_gf fi_41_81 kd_134 mk_134_2 <| K_iload_n fi_41_84 rfl <| K_ia fi_41_85 kd_136 h1 h2 <| R_goto fi_41_86 rfl
theorem b41_89 {d L : Nat} {σ : St} {Q : Option AV → AW → Prop} {y0 : Int} {u0 u1 u2 u3 u4 : AV} : R d 41 89 [u0, u1, u2, u3, u4] [vI y0] (WS L σ) Q = R d 41 90 [u0, u1, u2, u3, u4] [vI 0, vI y0] (WS L σ) Q := K_iconst fi_41_89 <| rfl
theorem b41_90 {d L : Nat} {σ : St} {Q : Option AV → AW → Prop} {y0 y1 x1 : Int} {u0 u2 u3 u4 : AV} (h1 : -2147483648 ≤ y1 + y0 ∧ y1 + y0 ≤ 2147483647) : R d 41 90 [u0, vI x1, u2, u3, u4] [vI y0, vI y1] (WS L σ) Q = R d 41 113 [u0, vI x1, vI (y1 + y0), u3, u4] [] (WS L σ) Q := K_iaddx fi_41_90 h1 <| K_istore_n fi_41_91 (Nat.le_of_ble_eq_true rfl) rfl rfl <| R_goto fi_41_92 rfl
theorem b41_95 {d L : Nat} {σ : St} {Q : Option AV → AW → Prop} {x2 x4 : Int} {u0 u1 u3 : AV} : R d 41 95 [u0, u1, vI x2, u3, vI x4] [] (WS L σ) Q = if ¬ x4 = 0 then R d 41 110 [u0, u1, vI x2, u3, vI x4] [vI x2] (WS L σ) Q else R d 41 101 [u0, u1, vI x2, u3, vI x4] [vI x2] (WS L σ) Q := K_iload_n fi_41_95 rfl <| K_iload fi_41_96 rfl <| R_if_ne fi_41_98 rfl
theorem b41_101 {d L : Nat} {σ : St} {Q : Option AV → AW → Prop} {y0 x3 : Int} {u1 u2 u4 : AV} (h1 : 0 ≤ x3) (h2 : x3 < 10) : R d 41 101 [vR 134, u1, u2, vI x3, u4] [vI y0] (WS L σ) Q = R d 41 111 [vR 134, u1, u2, vI x3, u4] [vI (σ 136 x3), vI y0] (WS L σ) Q := K_aload_n fi_41_101 rfl <| K_gf fi_41_102 kd_134 mk_134_2 <| K_iload_n fi_41_105 rfl <| K_ia fi_41_106 kd_136 h1 h2 <| R_goto fi_41_107 rfl
theorem b41_110 {d L : Nat} {σ : St} {Q : Option AV → AW → Prop} {y0 : Int} {u0 u1 u2 u3 u4 : AV} : R d 41 110 [u0, u1, u2, u3, u4] [vI y0] (WS L σ) Q = R d 41 111 [u0, u1, u2, u3, u4] [vI 0, vI y0] (WS L σ) Q := K_iconst fi_41_110 <| rfl
theorem b41_111 {d L : Nat} {σ : St} {Q : Option AV → AW → Prop} {y0 y1 x1 : Int} {u0 u2 u3 u4 : AV} (h1 : -2147483648 ≤ y1 - y0 ∧ y1 - y0 ≤ 2147483647) : R d 41 111 [u0, vI x1, u2, u3, u4] [vI y0, vI y1] (WS L σ) Q = R d 41 113 [u0, vI x1, vI (y1 - y0), u3, u4] [] (WS L σ) Q := K_isubx fi_41_111 h1 <| K_istore_n fi_41_112 (Nat.le_of_ble_eq_true rfl) rfl rfl <| rfl
theorem b41_113 {d L : Nat} {σ : St} {Q : Option AV → AW → Prop} {x3 : Int} {u0 u1 u2 u4 : AV} (h1 : -2147483648 ≤ x3 + 1 ∧ x3 + 1 ≤ 2147483647) : R d 41 113 [u0, u1, u2, vI x3, u4] [] (WS L σ) Q = R d 41 4 [u0, u1, u2, vI (x3 + 1), u4] [] (WS L σ) Q := K_iincx fi_41_113 rfl (Nat.le_of_ble_eq_true rfl) rfl h1 rfl <| R_goto fi_41_116 rfl
theorem b41_119 {d L : Nat} {σ : St} {Q : Option AV → AW → Prop} {x2 : Int} {u0 u1 u3 u4 : AV} : R d 41 119 [u0, u1, vI x2, u3, u4] [] (WS L σ) Q = Q (some (vI x2)) (WS L σ) := K_iload_n fi_41_119 rfl <| R_ireti fi_41_120 rfl
theorem fi_42_0 : am_find 42 0 = some (.iload_n 0, 1, 0, 0, 0) := by decide +kernel
theorem fi_42_1 : am_find 42 1 = some (.iload_n 0, 1, 0, 0, 0) := by decide +kernel
theorem fi_42_2 : am_find 42 2 = some (.iconst 1, 1, 0, 1, 0) := by decide +kernel
theorem fi_42_3 : am_find 42 3 = some (.iushr, 1, 0, 0, 0) := by decide +kernel
theorem fi_42_4 : am_find 42 4 = some (.ldc_w 265, 3, 0, 1431655765, 562) := by decide +kernel
theorem fi_42_7 : am_find 42 7 = some (.iand, 1, 0, 0, 0) := by decide +kernel
theorem fi_42_8 : am_find 42 8 = some (.isub, 1, 0, 0, 0) := by decide +kernel
theorem fi_42_9 : am_find 42 9 = some (.istore_n 0, 1, 0, 0, 0) := by decide +kernel
theorem fi_42_10 : am_find 42 10 = some (.iload_n 0, 1, 0, 0, 0) := by decide +kernel
theorem fi_42_11 : am_find 42 11 = some (.ldc_w 266, 3, 0, 858993459, 563) := by decide +kernel
theorem fi_42_14 : am_find 42 14 = some (.iand, 1, 0, 0, 0) := by decide +kernel
theorem fi_42_15 : am_find 42 15 = some (.iload_n 0, 1, 0, 0, 0) := by decide +kernel
theorem fi_42_16 : am_find 42 16 = some (.iconst 2, 1, 0, 2, 0) := by decide +kernel
theorem fi_42_17 : am_find 42 17 = some (.iushr, 1, 0, 0, 0) := by decide +kernel
theorem fi_42_18 : am_find 42 18 = some (.ldc_w 266, 3, 0, 858993459, 563) := by decide +kernel
theorem fi_42_21 : am_find 42 21 = some (.iand, 1, 0, 0, 0) := by decide +kernel
theorem fi_42_22 : am_find 42 22 = some (.iadd, 1, 0, 0, 0) := by decide +kernel
theorem fi_42_23 : am_find 42 23 = some (.istore_n 0, 1, 0, 0, 0) := by decide +kernel
theorem fi_42_24 : am_find 42 24 = some (.iload_n 0, 1, 0, 0, 0) := by decide +kernel
theorem fi_42_25 : am_find 42 25 = some (.iload_n 0, 1, 0, 0, 0) := by decide +kernel
theorem fi_42_26 : am_find 42 26 = some (.iconst 4, 1, 0, 4, 0) := by decide +kernel
theorem fi_42_27 : am_find 42 27 = some (.iushr, 1, 0, 0, 0) := by decide +kernel
theorem fi_42_28 : am_find 42 28 = some (.iadd, 1, 0, 0, 0) := by decide +kernel
theorem fi_42_29 : am_find 42 29 = some (.ldc_w 267, 3, 0, 252645135, 564) := by decide +kernel
theorem fi_42_32 : am_find 42 32 = some (.iand, 1, 0, 0, 0) := by decide +kernel
theorem fi_42_33 : am_find 42 33 = some (.istore_n 0, 1, 0, 0, 0) := by decide +kernel
theorem fi_42_34 : am_find 42 34 = some (.iload_n 0, 1, 0, 0, 0) := by decide +kernel
theorem fi_42_35 : am_find 42 35 = some (.iload_n 0, 1, 0, 0, 0) := by decide +kernel
theorem fi_42_36 : am_find 42 36 = some (.bipush 8, 2, 0, 8, 0) := by decide +kernel
theorem fi_42_38 : am_find 42 38 = some (.iushr, 1, 0, 0, 0) := by decide +kernel
theorem fi_42_39 : am_find 42 39 = some (.iadd, 1, 0, 0, 0) := by decide +kernel
theorem fi_42_40 : am_find 42 40 = some (.istore_n 0, 1, 0, 0, 0) := by decide +kernel
theorem fi_42_41 : am_find 42 41 = some (.iload_n 0, 1, 0, 0, 0) := by decide +kernel
theorem fi_42_42 : am_find 42 42 = some (.iload_n 0, 1, 0, 0, 0) := by decide +kernel
theorem fi_42_43 : am_find 42 43 = some (.bipush 16, 2, 0, 16, 0) := by decide +kernel
theorem fi_42_45 : am_find 42 45 = some (.iushr, 1, 0, 0, 0) := by decide +kernel
theorem fi_42_46 : am_find 42 46 = some (.iadd, 1, 0, 0, 0) := by decide +kernel
theorem fi_42_47 : am_find 42 47 = some (.istore_n 0, 1, 0, 0, 0) := by decide +kernel
theorem fi_42_48 : am_find 42 48 = some (.iload_n 0, 1, 0, 0, 0) := by decide +kernel
theorem fi_42_49 : am_find 42 49 = some (.bipush 63, 2, 0, 63, 0) := by decide +kernel
theorem fi_42_51 : am_find 42 51 = some (.iand, 1, 0, 0, 0) := by decide +kernel
theorem fi_42_52 : am_find 42 52 = some (.ireturn, 1, 0, 0, 0) := by decide +kernel
theorem b42_0 {d L : Nat} {σ : St} {Q : Option AV → AW → Prop} {x0 : Int} (h1 : -2147483648 ≤ x0 - (i_and (i_ushr x0 1) 1431655765) ∧ x0 - (i_and (i_ushr x0 1) 1431655765) ≤ 2147483647) (h2 : -2147483648 ≤ (i_and (x0 - (i_and (i_ushr x0 1) 1431655765)) 858993459) + (i_and (i_ushr (x0 - (i_and (i_ushr x0 1) 1431655765)) 2) 858993459) ∧ (i_and (x0 - (i_and (i_ushr x0 1) 1431655765)) 858993459) + (i_and (i_ushr (x0 - (i_and (i_ushr x0 1) 1431655765)) 2) 858993459) ≤ 2147483647) (h3 : -2147483648 ≤ ((i_and (x0 - (i_and (i_ushr x0 1) 1431655765)) 858993459) + (i_and (i_ushr (x0 - (i_and (i_ushr x0 1) 1431655765)) 2) 858993459)) + (i_ushr ((i_and (x0 - (i_and (i_ushr x0 1) 1431655765)) 858993459) + (i_and (i_ushr (x0 - (i_and (i_ushr x0 1) 1431655765)) 2) 858993459)) 4) ∧ ((i_and (x0 - (i_and (i_ushr x0 1) 1431655765)) 858993459) + (i_and (i_ushr (x0 - (i_and (i_ushr x0 1) 1431655765)) 2) 858993459)) + (i_ushr ((i_and (x0 - (i_and (i_ushr x0 1) 1431655765)) 858993459) + (i_and (i_ushr (x0 - (i_and (i_ushr x0 1) 1431655765)) 2) 858993459)) 4) ≤ 2147483647) (h4 : -2147483648 ≤ (i_and (((i_and (x0 - (i_and (i_ushr x0 1) 1431655765)) 858993459) + (i_and (i_ushr (x0 - (i_and (i_ushr x0 1) 1431655765)) 2) 858993459)) + (i_ushr ((i_and (x0 - (i_and (i_ushr x0 1) 1431655765)) 858993459) + (i_and (i_ushr (x0 - (i_and (i_ushr x0 1) 1431655765)) 2) 858993459)) 4)) 252645135) + (i_ushr (i_and (((i_and (x0 - (i_and (i_ushr x0 1) 1431655765)) 858993459) + (i_and (i_ushr (x0 - (i_and (i_ushr x0 1) 1431655765)) 2) 858993459)) + (i_ushr ((i_and (x0 - (i_and (i_ushr x0 1) 1431655765)) 858993459) + (i_and (i_ushr (x0 - (i_and (i_ushr x0 1) 1431655765)) 2) 858993459)) 4)) 252645135) 8) ∧ (i_and (((i_and (x0 - (i_and (i_ushr x0 1) 1431655765)) 858993459) + (i_and (i_ushr (x0 - (i_and (i_ushr x0 1) 1431655765)) 2) 858993459)) + (i_ushr ((i_and (x0 - (i_and (i_ushr x0 1) 1431655765)) 858993459) + (i_and (i_ushr (x0 - (i_and (i_ushr x0 1) 1431655765)) 2) 858993459)) 4)) 252645135) + (i_ushr (i_and (((i_and (x0 - (i_and (i_ushr x0 1) 1431655765)) 858993459) + (i_and (i_ushr (x0 - (i_and (i_ushr x0 1) 1431655765)) 2) 858993459)) + (i_ushr ((i_and (x0 - (i_and (i_ushr x0 1) 1431655765)) 858993459) + (i_and (i_ushr (x0 - (i_and (i_ushr x0 1) 1431655765)) 2) 858993459)) 4)) 252645135) 8) ≤ 2147483647) (h5 : -2147483648 ≤ ((i_and (((i_and (x0 - (i_and (i_ushr x0 1) 1431655765)) 858993459) + (i_and (i_ushr (x0 - (i_and (i_ushr x0 1) 1431655765)) 2) 858993459)) + (i_ushr ((i_and (x0 - (i_and (i_ushr x0 1) 1431655765)) 858993459) + (i_and (i_ushr (x0 - (i_and (i_ushr x0 1) 1431655765)) 2) 858993459)) 4)) 252645135) + (i_ushr (i_and (((i_and (x0 - (i_and (i_ushr x0 1) 1431655765)) 858993459) + (i_and (i_ushr (x0 - (i_and (i_ushr x0 1) 1431655765)) 2) 858993459)) + (i_ushr ((i_and (x0 - (i_and (i_ushr x0 1) 1431655765)) 858993459) + (i_and (i_ushr (x0 - (i_and (i_ushr x0 1) 1431655765)) 2) 858993459)) 4)) 252645135) 8)) + (i_ushr ((i_and (((i_and (x0 - (i_and (i_ushr x0 1) 1431655765)) 858993459) + (i_and (i_ushr (x0 - (i_and (i_ushr x0 1) 1431655765)) 2) 858993459)) + (i_ushr ((i_and (x0 - (i_and (i_ushr x0 1) 1431655765)) 858993459) + (i_and (i_ushr (x0 - (i_and (i_ushr x0 1) 1431655765)) 2) 858993459)) 4)) 252645135) + (i_ushr (i_and (((i_and (x0 - (i_and (i_ushr x0 1) 1431655765)) 858993459) + (i_and (i_ushr (x0 - (i_and (i_ushr x0 1) 1431655765)) 2) 858993459)) + (i_ushr ((i_and (x0 - (i_and (i_ushr x0 1) 1431655765)) 858993459) + (i_and (i_ushr (x0 - (i_and (i_ushr x0 1) 1431655765)) 2) 858993459)) 4)) 252645135) 8)) 16) ∧ ((i_and (((i_and (x0 - (i_and (i_ushr x0 1) 1431655765)) 858993459) + (i_and (i_ushr (x0 - (i_and (i_ushr x0 1) 1431655765)) 2) 858993459)) + (i_ushr ((i_and (x0 - (i_and (i_ushr x0 1) 1431655765)) 858993459) + (i_and (i_ushr (x0 - (i_and (i_ushr x0 1) 1431655765)) 2) 858993459)) 4)) 252645135) + (i_ushr (i_and (((i_and (x0 - (i_and (i_ushr x0 1) 1431655765)) 858993459) + (i_and (i_ushr (x0 - (i_and (i_ushr x0 1) 1431655765)) 2) 858993459)) + (i_ushr ((i_and (x0 - (i_and (i_ushr x0 1) 1431655765)) 858993459) + (i_and (i_ushr (x0 - (i_and (i_ushr x0 1) 1431655765)) 2) 858993459)) 4)) 252645135) 8)) + (i_ushr ((i_and (((i_and (x0 - (i_and (i_ushr x0 1) 1431655765)) 858993459) + (i_and (i_ushr (x0 - (i_and (i_ushr x0 1) 1431655765)) 2) 858993459)) + (i_ushr ((i_and (x0 - (i_and (i_ushr x0 1) 1431655765)) 858993459) + (i_and (i_ushr (x0 - (i_and (i_ushr x0 1) 1431655765)) 2) 858993459)) 4)) 252645135) + (i_ushr (i_and (((i_and (x0 - (i_and (i_ushr x0 1) 1431655765)) 858993459) + (i_and (i_ushr (x0 - (i_and (i_ushr x0 1) 1431655765)) 2) 858993459)) + (i_ushr ((i_and (x0 - (i_and (i_ushr x0 1) 1431655765)) 858993459) + (i_and (i_ushr (x0 - (i_and (i_ushr x0 1) 1431655765)) 2) 858993459)) 4)) 252645135) 8)) 16) ≤ 2147483647) : R d 42 0 [vI x0] [] (WS L σ) Q = Q (some (vI (i_and (((i_and (((i_and (x0 - (i_and (i_ushr x0 1) 1431655765)) 858993459) + (i_and (i_ushr (x0 - (i_and (i_ushr x0 1) 1431655765)) 2) 858993459)) + (i_ushr ((i_and (x0 - (i_and (i_ushr x0 1) 1431655765)) 858993459) + (i_and (i_ushr (x0 - (i_and (i_ushr x0 1) 1431655765)) 2) 858993459)) 4)) 252645135) + (i_ushr (i_and (((i_and (x0 - (i_and (i_ushr x0 1) 1431655765)) 858993459) + (i_and (i_ushr (x0 - (i_and (i_ushr x0 1) 1431655765)) 2) 858993459)) + (i_ushr ((i_and (x0 - (i_and (i_ushr x0 1) 1431655765)) 858993459) + (i_and (i_ushr (x0 - (i_and (i_ushr x0 1) 1431655765)) 2) 858993459)) 4)) 252645135) 8)) + (i_ushr ((i_and (((i_and (x0 - (i_and (i_ushr x0 1) 1431655765)) 858993459) + (i_and (i_ushr (x0 - (i_and (i_ushr x0 1) 1431655765)) 2) 858993459)) + (i_ushr ((i_and (x0 - (i_and (i_ushr x0 1) 1431655765)) 858993459) + (i_and (i_ushr (x0 - (i_and (i_ushr x0 1) 1431655765)) 2) 858993459)) 4)) 252645135) + (i_ushr (i_and (((i_and (x0 - (i_and (i_ushr x0 1) 1431655765)) 858993459) + (i_and (i_ushr (x0 - (i_and (i_ushr x0 1) 1431655765)) 2) 858993459)) + (i_ushr ((i_and (x0 - (i_and (i_ushr x0 1) 1431655765)) 858993459) + (i_and (i_ushr (x0 - (i_and (i_ushr x0 1) 1431655765)) 2) 858993459)) 4)) 252645135) 8)) 16)) 63))) (WS L σ) := K_iload_n fi_42_0 rfl <| K_iload_n fi_42_1 rfl <| K_iconst fi_42_2 <| K_iushr fi_42_3 <| K_ldc_w fi_42_4 <| K_iand fi_42_7 <| K_isubx fi_42_8 h1 <| K_istore_n fi_42_9 (Nat.le_of_ble_eq_true rfl) rfl rfl <| K_iload_n fi_42_10 rfl <| K_ldc_w fi_42_11 <| K_iand fi_42_14 <| K_iload_n fi_42_15 rfl <| K_iconst fi_42_16 <| K_iushr fi_42_17 <| K_ldc_w fi_42_18 <| K_iand fi_42_21 <| K_iaddx fi_42_22 h2 <| K_istore_n fi_42_23 (Nat.le_of_ble_eq_true rfl) rfl rfl <| K_iload_n fi_42_24 rfl <| K_iload_n fi_42_25 rfl <| K_iconst fi_42_26 <| K_iushr fi_42_27 <| K_iaddx fi_42_28 h3 <| K_ldc_w fi_42_29 <| K_iand fi_42_32 <| K_istore_n fi_42_33 (Nat.le_of_ble_eq_true rfl) rfl rfl <| K_iload_n fi_42_34 rfl <| K_iload_n fi_42_35 rfl <| K_bipush fi_42_36 <| K_iushr fi_42_38 <| K_iaddx fi_42_39 h4 <| K_istore_n fi_42_40 (Nat.le_of_ble_eq_true rfl) rfl rfl <| K_iload_n fi_42_41 rfl <| K_iload_n fi_42_42 rfl <| K_bipush fi_42_43 <| K_iushr fi_42_45 <| K_iaddx fi_42_46 h5 <| K_istore_n fi_42_47 (Nat.le_of_ble_eq_true rfl) rfl rfl <| K_iload_n fi_42_48 rfl <| K_bipush fi_42_49 <| K_iand fi_42_51 <| R_ireti fi_42_52 rfl
theorem fi_43_0 : am_find 43 0 = some (.iload_n 1, 1, 0, 0, 0) := by decide +kernel
theorem fi_43_1 : am_find 43 1 = some (.sipush 256, 3, 0, 256, 0) := by decide +kernel
theorem fi_43_4 : am_find 43 4 = some (.imul, 1, 0, 0, 0) := by decide +kernel
theorem fi_43_5 : am_find 43 5 = some (.iload_n 2, 1, 0, 0, 0) := by decide +kernel
theorem fi_43_6 : am_find 43 6 = some (.iadd, 1, 0, 0, 0) := by decide +kernel
theorem fi_43_7 : am_find 43 7 = some (.istore 4, 2, 0, 0, 0) := by decide +kernel
theorem fi_43_9 : am_find 43 9 = some (.iload_n 2, 1, 0, 0, 0) := by decide +kernel
theorem fi_43_10 : am_find 43 10 = some (.sipush 256, 3, 0, 256, 0) := by decide +kernel
theorem fi_43_13 : am_find 43 13 = some (.invokestatic 101, 3, 13, 2, 24) := by decide +kernel
theorem fi_43_16 : am_find 43 16 = some (.ifCond .eq 24, 3, 0, 0, 0) := by decide +kernel
theorem fi_43_19 : am_find 43 19 = some (.iload 4, 2, 0, 0, 0) := by decide +kernel
theorem fi_43_21 : am_find 43 21 = some (.aload_n 0, 1, 0, 0, 0) := by decide +kernel
theorem fi_43_22 : am_find 43 22 = some (.getfield 46, 3, 8, 13, 18) := by decide +kernel
theorem fi_43_25 : am_find 43 25 = some (.arraylength, 1, 0, 0, 0) := by decide +kernel
theorem fi_43_26 : am_find 43 26 = some (.invokestatic 101, 3, 13, 2, 24) := by decide +kernel
theorem fi_43_29 : am_find 43 29 = some (.ifCond .eq 11, 3, 0, 0, 0) := by decide +kernel
theorem fi_43_32 : am_find 43 32 = some (.aload_n 0, 1, 0, 0, 0) := by decide +kernel
theorem fi_43_33 : am_find 43 33 = some (.getfield 46, 3, 8, 13, 18) := by decide +kernel
theorem fi_43_36 : am_find 43 36 = some (.iload 4, 2, 0, 0, 0) := by decide +kernel
theorem fi_43_38 : am_find 43 38 = some (.iload_n 3, 1, 0, 0, 0) := by decide +kernel
theorem fi_43_39 : am_find 43 39 = some (.iastore, 1, 0, 0, 0) := by decide +kernel
theorem fi_43_40 : am_find 43 40 = some (.return_, 1, 0, 0, 0) := by decide +kernel
theorem b43_0 {d L : Nat} {σ : St} {Q : Option AV → AW → Prop} {x1 x2 : Int} {u0 u3 u4 : AV} (h1 : -2147483648 ≤ x1 * 256 ∧ x1 * 256 ≤ 2147483647) (h2 : -2147483648 ≤ (x1 * 256) + x2 ∧ (x1 * 256) + x2 ≤ 2147483647) : R (d + 1) 43 0 [u0, vI x1, vI x2, u3, u4] [] (WS L σ) Q = R d 13 0 [vI x2, vI 256] [] (WS L σ) (fun r w => R (d + 1) 43 16 [u0, vI x1, vI x2, u3, vI ((x1 * 256) + x2)] (am_push r []) w Q) := K_iload_n fi_43_0 rfl <| K_sipush fi_43_1 <| K_imulx fi_43_4 h1 <| K_iload_n fi_43_5 rfl <| K_iaddx fi_43_6 h2 <| K_istore fi_43_7 (Nat.le_of_ble_eq_true rfl) rfl rfl <| K_iload_n fi_43_9 rfl <| K_sipush fi_43_10 <| R_invS fi_43_13 (by decide) (am_invS_of (Nat.le_of_ble_eq_true rfl) rfl (Nat.le_of_ble_eq_true rfl) (Nat.le_of_ble_eq_true rfl) rfl rfl)
theorem b43_16 {d L : Nat} {σ : St} {Q : Option AV → AW → Prop} {y0 : Int} {u0 u1 u2 u3 u4 : AV} : R d 43 16 [u0, u1, u2, u3, u4] [vI y0] (WS L σ) Q = if y0 = 0 then R d 43 40 [u0, u1, u2, u3, u4] [] (WS L σ) Q else R d 43 19 [u0, u1, u2, u3, u4] [] (WS L σ) Q := R_if_eq fi_43_16 rfl
theorem b43_19 {d L : Nat} {σ : St} {Q : Option AV → AW → Prop} {x4 : Int} {u1 u2 u3 : AV} : R (d + 1) 43 19 [vR 20, u1, u2, u3, vI x4] [] (WS L σ) Q = R d 13 0 [vI x4, vI 768] [] (WS L σ) (fun r w => R (d + 1) 43 29 [vR 20, u1, u2, u3, vI x4] (am_push r []) w Q) := K_iload fi_43_19 rfl <| K_aload_n fi_43_21 rfl <| K_gf fi_43_22 kd_20 mk_20_13 <| K_alenx fi_43_25 (Or.inl kd_31) rfl <| R_invS fi_43_26 (by decide) (am_invS_of (Nat.le_of_ble_eq_true rfl) rfl (Nat.le_of_ble_eq_true rfl) (Nat.le_of_ble_eq_true rfl) rfl rfl)
theorem b43_29 {d L : Nat} {σ : St} {Q : Option AV → AW → Prop} {y0 : Int} {u0 u1 u2 u3 u4 : AV} : R d 43 29 [u0, u1, u2, u3, u4] [vI y0] (WS L σ) Q = if y0 = 0 then R d 43 40 [u0, u1, u2, u3, u4] [] (WS L σ) Q else R d 43 32 [u0, u1, u2, u3, u4] [] (WS L σ) Q := R_if_eq fi_43_29 rfl
theorem b43_32 {d L : Nat} {σ : St} {Q : Option AV → AW → Prop} {x4 x3 : Int} {u1 u2 : AV} (h1 : 0 ≤ x4) (h2 : x4 < 768) : R d 43 32 [vR 20, u1, u2, vI x3, vI x4] [] (WS L σ) Q = R d 43 40 [vR 20, u1, u2, vI x3, vI x4] [] (WS L (st2 σ 31 x4 x3)) Q := K_aload_n fi_43_32 rfl <| K_gf fi_43_33 kd_20 mk_20_13 <| K_iload fi_43_36 rfl <| K_iload_n fi_43_38 rfl <| K_is fi_43_39 kd_31 h1 h2 <| rfl
theorem b43_40 {d L : Nat} {σ : St} {Q : Option AV → AW → Prop} {u0 u1 u2 u3 u4 : AV} : R d 43 40 [u0, u1, u2, u3, u4] [] (WS L σ) Q = Q none (WS L σ) := R_return fi_43_40
theorem fi_44_0 : am_find 44 0 = some (.iload_n 1, 1, 0, 0, 0) := by decide +kernel
theorem fi_44_1 : am_find 44 1 = some (.aload_n 0, 1, 0, 0, 0) := by decide +kernel
theorem fi_44_2 : am_find 44 2 = some (.getfield 10, 3, 9, 0, 0) := by decide +kernel
theorem fi_44_5 : am_find 44 5 = some (.getfield 76, 3, 8, 0, 42) := by decide +kernel
theorem fi_44_8 : am_find 44 8 = some (.invokestatic 72, 3, 13, 2, 14) := by decide +kernel
theorem fi_44_11 : am_find 44 11 = some (.ifCond .eq 11, 3, 0, 0, 0) := by decide +kernel
theorem fi_44_14 : am_find 44 14 = some (.iload_n 2, 1, 0, 0, 0) := by decide +kernel
theorem fi_44_15 : am_find 44 15 = some (.iconst 3, 1, 0, 3, 0) := by decide +kernel
theorem fi_44_16 : am_find 44 16 = some (.invokestatic 72, 3, 13, 2, 14) := by decide +kernel
theorem fi_44_19 : am_find 44 19 = some (.ifCond .ne 5, 3, 0, 0, 0) := by decide +kernel
theorem fi_44_22 : am_find 44 22 = some (.iconst (-1), 1, 0, (-1), 0) := by decide +kernel
theorem fi_44_23 : am_find 44 23 = some (.ireturn, 1, 0, 0, 0) := by decide +kernel
theorem fi_44_24 : am_find 44 24 = some (.aload_n 0, 1, 0, 0, 0) := by decide +kernel
theorem fi_44_25 : am_find 44 25 = some (.getfield 10, 3, 9, 0, 0) := by decide +kernel
theorem fi_44_28 : am_find 44 28 = some (.iload_n 1, 1, 0, 0, 0) := by decide +kernel
theorem fi_44_29 : am_find 44 29 = some (.iload_n 2, 1, 0, 0, 0) := by decide +kernel
theorem fi_44_30 : am_find 44 30 = some (.invokevirtual 88, 3, 36, 2, 48) := by decide +kernel
theorem fi_44_33 : am_find 44 33 = some (.istore_n 3, 1, 0, 0, 0) := by decide +kernel
theorem fi_44_34 : am_find 44 34 = some (.iload_n 2, 1, 0, 0, 0) := by decide +kernel
theorem fi_44_35 : am_find 44 35 = some (.iconst 2, 1, 0, 2, 0) := by decide +kernel
theorem fi_44_36 : am_find 44 36 = some (.if_icmp .ne 14, 3, 0, 0, 0) := by decide +kernel
theorem fi_44_39 : am_find 44 39 = some (.iload_n 3, 1, 0, 0, 0) := by decide +kernel
theorem fi_44_40 : am_find 44 40 = some (.bipush 9, 2, 0, 9, 0) := by decide +kernel
theorem fi_44_42 : am_find 44 42 = some (.if_icmp .ne 8, 3, 0, 0, 0) := by decide +kernel
theorem fi_44_45 : am_find 44 45 = some (.bipush (-5), 2, 0, (-5), 0) := by decide +kernel
theorem fi_44_47 : am_find 44 47 = some (.goto 4, 3, 0, 0, 0) := by decide +kernel
theorem fi_44_50 : am_find 44 50 = some (.iload_n 3, 1, 0, 0, 0) := by decide +kernel
theorem fi_44_51 : am_find 44 51 = some (.ireturn, 1, 0, 0, 0) := by decide +kernel
theorem b44_0 {d L : Nat} {σ : St} {Q : Option AV → AW → Prop} {x1 : Int} {u2 u3 : AV} : R (d + 1) 44 0 [vR 19, vI x1, u2, u3] [] (WS L σ) Q = R d 13 0 [vI x1, vI (σ 20 0)] [] (WS L σ) (fun r w => R (d + 1) 44 11 [vR 19, vI x1, u2, u3] (am_push r []) w Q) := K_iload_n fi_44_0 rfl <| K_aload_n fi_44_1 rfl <| K_gf fi_44_2 kd_19 mk_19_0 <| K_gf fi_44_5 kd_20 mk_20_0 <| R_invS fi_44_8 (by decide) (am_invS_of (Nat.le_of_ble_eq_true rfl) rfl (Nat.le_of_ble_eq_true rfl) (Nat.le_of_ble_eq_true rfl) rfl rfl)
theorem b44_11 {d L : Nat} {σ : St} {Q : Option AV → AW → Prop} {y0 : Int} {u0 u1 u2 u3 : AV} : R d 44 11 [u0, u1, u2, u3] [vI y0] (WS L σ) Q = if y0 = 0 then R d 44 22 [u0, u1, u2, u3] [] (WS L σ) Q else R d 44 14 [u0, u1, u2, u3] [] (WS L σ) Q := R_if_eq fi_44_11 rfl
theorem b44_14 {d L : Nat} {σ : St} {Q : Option AV → AW → Prop} {x2 : Int} {u0 u1 u3 : AV} : R (d + 1) 44 14 [u0, u1, vI x2, u3] [] (WS L σ) Q = R d 13 0 [vI x2, vI 3] [] (WS L σ) (fun r w => R (d + 1) 44 19 [u0, u1, vI x2, u3] (am_push r []) w Q) := K_iload_n fi_44_14 rfl <| K_iconst fi_44_15 <| R_invS fi_44_16 (by decide) (am_invS_of (Nat.le_of_ble_eq_true rfl) rfl (Nat.le_of_ble_eq_true rfl) (Nat.le_of_ble_eq_true rfl) rfl rfl)
theorem b44_19 {d L : Nat} {σ : St} {Q : Option AV → AW → Prop} {y0 : Int} {u0 u1 u2 u3 : AV} : R d 44 19 [u0, u1, u2, u3] [vI y0] (WS L σ) Q = if ¬ y0 = 0 then R d 44 24 [u0, u1, u2, u3] [] (WS L σ) Q else R d 44 22 [u0, u1, u2, u3] [] (WS L σ) Q := R_if_ne fi_44_19 rfl
theorem b44_22 {d L : Nat} {σ : St} {Q : Option AV → AW → Prop} {u0 u1 u2 u3 : AV} : R d 44 22 [u0, u1, u2, u3] [] (WS L σ) Q = Q (some (vI (-1))) (WS L σ) := K_iconst fi_44_22 <| R_ireti fi_44_23 rfl
theorem b44_24 {d L : Nat} {σ : St} {Q : Option AV → AW → Prop} {x1 x2 : Int} {u3 : AV} : R (d + 1) 44 24 [vR 19, vI x1, vI x2, u3] [] (WS L σ) Q = R d 36 0 [vR 20, vI x1, vI x2, vX 9] [] (WS L σ) (fun r w => R (d + 1) 44 33 [vR 19, vI x1, vI x2, u3] (am_push r []) w Q) := K_aload_n fi_44_24 rfl <| K_gf fi_44_25 kd_19 mk_19_0 <| K_iload_n fi_44_28 rfl <| K_iload_n fi_44_29 rfl <| R_invV fi_44_30 (am_invV_of rfl (kd_20) (Nat.le_of_ble_eq_true rfl) (Nat.le_of_ble_eq_true rfl) rfl rfl)
theorem b44_33 {d L : Nat} {σ : St} {Q : Option AV → AW → Prop} {y0 x2 : Int} {u0 u1 u3 : AV} : R d 44 33 [u0, u1, vI x2, u3] [vI y0] (WS L σ) Q = if ¬ x2 = 2 then R d 44 50 [u0, u1, vI x2, vI y0] [] (WS L σ) Q else R d 44 39 [u0, u1, vI x2, vI y0] [] (WS L σ) Q := K_istore_n fi_44_33 (Nat.le_of_ble_eq_true rfl) rfl rfl <| K_iload_n fi_44_34 rfl <| K_iconst fi_44_35 <| R_icmp_ne fi_44_36 rfl
theorem b44_39 {d L : Nat} {σ : St} {Q : Option AV → AW → Prop} {x3 : Int} {u0 u1 u2 : AV} : R d 44 39 [u0, u1, u2, vI x3] [] (WS L σ) Q = if ¬ x3 = 9 then R d 44 50 [u0, u1, u2, vI x3] [] (WS L σ) Q else R d 44 45 [u0, u1, u2, vI x3] [] (WS L σ) Q := K_iload_n fi_44_39 rfl <| K_bipush fi_44_40 <| R_icmp_ne fi_44_42 rfl
theorem b44_45 {d L : Nat} {σ : St} {Q : Option AV → AW → Prop} {u0 u1 u2 u3 : AV} : R d 44 45 [u0, u1, u2, u3] [] (WS L σ) Q = R d 44 51 [u0, u1, u2, u3] [vI (-5)] (WS L σ) Q := K_bipush fi_44_45 <| R_goto fi_44_47 rfl
theorem b44_50 {d L : Nat} {σ : St} {Q : Option AV → AW → Prop} {x3 : Int} {u0 u1 u2 : AV} : R d 44 50 [u0, u1, u2, vI x3] [] (WS L σ) Q = R d 44 51 [u0, u1, u2, vI x3] [vI x3] (WS L σ) Q := K_iload_n fi_44_50 rfl <| rfl
theorem b44_51 {d L : Nat} {σ : St} {Q : Option AV → AW → Prop} {y0 : Int} {u0 u1 u2 u3 : AV} : R d 44 51 [u0, u1, u2, u3] [vI y0] (WS L σ) Q = Q (some (vI y0)) (WS L σ) := R_ireti fi_44_51 rfl
theorem fi_45_0 : am_find 45 0 = some (.iload_n 1, 1, 0, 0, 0) := by decide +kernel
theorem fi_45_1 : am_find 45 1 = some (.iconst 2, 1, 0, 2, 0) := by decide +kernel
theorem fi_45_2 : am_find 45 2 = some (.if_icmp .eq 11, 3, 0, 0, 0) := by decide +kernel
theorem fi_45_5 : am_find 45 5 = some (.iload_n 1, 1, 0, 0, 0) := by decide +kernel
theorem fi_45_6 : am_find 45 6 = some (.iconst 3, 1, 0, 3, 0) := by decide +kernel
theorem fi_45_7 : am_find 45 7 = some (.if_icmp .eq 6, 3, 0, 0, 0) := by decide +kernel
theorem fi_45_10 : am_find 45 10 = some (.bipush (-2), 2, 0, (-2), 0) := by decide +kernel
theorem fi_45_12 : am_find 45 12 = some (.ireturn, 1, 0, 0, 0) := by decide +kernel
theorem fi_45_13 : am_find 45 13 = some (.aload_n 0, 1, 0, 0, 0) := by decide +kernel
theorem fi_45_14 : am_find 45 14 = some (.getfield 10, 3, 9, 0, 0) := by decide +kernel
theorem fi_45_17 : am_find 45 17 = some (.getfield 92, 3, 8, 1, 52) := by decide +kernel
theorem fi_45_20 : am_find 45 20 = some (.istore_n 2, 1, 0, 0, 0) := by decide +kernel
theorem fi_45_21 : am_find 45 21 = some (.aload_n 0, 1, 0, 0, 0) := by decide +kernel
theorem fi_45_22 : am_find 45 22 = some (.getfield 10, 3, 9, 0, 0) := by decide +kernel
theorem fi_45_25 : am_find 45 25 = some (.iload_n 1, 1, 0, 0, 0) := by decide +kernel
theorem fi_45_26 : am_find 45 26 = some (.putfield 92, 3, 8, 1, 52) := by decide +kernel
theorem fi_45_29 : am_find 45 29 = some (.aload_n 0, 1, 0, 0, 0) := by decide +kernel
theorem fi_45_30 : am_find 45 30 = some (.getfield 10, 3, 9, 0, 0) := by decide +kernel
theorem fi_45_33 : am_find 45 33 = some (.invokevirtual 95, 3, 46, 0, 49) := by decide +kernel
theorem fi_45_36 : am_find 45 36 = some (.iload_n 2, 1, 0, 0, 0) := by decide +kernel
theorem fi_45_37 : am_find 45 37 = some (.ireturn, 1, 0, 0, 0) := by decide +kernel
theorem b45_0 {d L : Nat} {σ : St} {Q : Option AV → AW → Prop} {x1 : Int} {u0 u2 : AV} : R d 45 0 [u0, vI x1, u2] [] (WS L σ) Q = if x1 = 2 then R d 45 13 [u0, vI x1, u2] [] (WS L σ) Q else R d 45 5 [u0, vI x1, u2] [] (WS L σ) Q := K_iload_n fi_45_0 rfl <| K_iconst fi_45_1 <| R_icmp_eq fi_45_2 rfl
theorem b45_5 {d L : Nat} {σ : St} {Q : Option AV → AW → Prop} {x1 : Int} {u0 u2 : AV} : R d 45 5 [u0, vI x1, u2] [] (WS L σ) Q = if x1 = 3 then R d 45 13 [u0, vI x1, u2] [] (WS L σ) Q else R d 45 10 [u0, vI x1, u2] [] (WS L σ) Q := K_iload_n fi_45_5 rfl <| K_iconst fi_45_6 <| R_icmp_eq fi_45_7 rfl
theorem b45_10 {d L : Nat} {σ : St} {Q : Option AV → AW → Prop} {u0 u1 u2 : AV} : R d 45 10 [u0, u1, u2] [] (WS L σ) Q = Q (some (vI (-2))) (WS L σ) := K_bipush fi_45_10 <| R_ireti fi_45_12 rfl
theorem b45_13 {d L : Nat} {σ : St} {Q : Option AV → AW → Prop} {x1 : Int} {u2 : AV} : R d 45 13 [vR 19, vI x1, u2] [] (WS L σ) Q = R d 45 29 [vR 19, vI x1, vI (σ 20 1)] [] (WS L (st2 σ 20 1 x1)) Q := K_aload_n fi_45_13 rfl <| K_gf fi_45_14 kd_19 mk_19_0 <| K_gf fi_45_17 kd_20 mk_20_1 <| K_istore_n fi_45_20 (Nat.le_of_ble_eq_true rfl) rfl rfl <| K_aload_n fi_45_21 rfl <| K_gf fi_45_22 kd_19 mk_19_0 <| K_iload_n fi_45_25 rfl <| K_pf fi_45_26 kd_20 rfl rfl rfl rfl <| rfl
theorem b45_29 {d L : Nat} {σ : St} {Q : Option AV → AW → Prop} {u1 u2 : AV} : R (d + 1) 45 29 [vR 19, u1, u2] [] (WS L σ) Q = R d 46 0 [vR 20] [] (WS L σ) (fun r w => R (d + 1) 45 36 [vR 19, u1, u2] (am_push r []) w Q) := K_aload_n fi_45_29 rfl <| K_gf fi_45_30 kd_19 mk_19_0 <| R_invV fi_45_33 (am_invV_of rfl (kd_20) (Nat.le_of_ble_eq_true rfl) (Nat.le_of_ble_eq_true rfl) rfl rfl)
theorem b45_36 {d L : Nat} {σ : St} {Q : Option AV → AW → Prop} {x2 : Int} {u0 u1 : AV} : R d 45 36 [u0, u1, vI x2] [] (WS L σ) Q = Q (some (vI x2)) (WS L σ) := K_iload_n fi_45_36 rfl <| R_ireti fi_45_37 rfl
theorem fi_46_0 : am_find 46 0 = some (.aload_n 0, 1, 0, 0, 0) := by decide +kernel
theorem fi_46_1 : am_find 46 1 = some (.getfield 43, 3, 8, 12, 17) := by decide +kernel
theorem fi_46_4 : am_find 46 4 = some (.iconst 0, 1, 0, 0, 0) := by decide +kernel
theorem fi_46_5 : am_find 46 5 = some (.invokestatic 63, 3, 4, 2, 10) := by decide +kernel
theorem fi_46_8 : am_find 46 8 = some (.return_, 1, 0, 0, 0) := by decide +kernel
theorem b46_0 {d L : Nat} {σ : St} {Q : Option AV → AW → Prop} : R (d + 1) 46 0 [vR 20] [] (WS L σ) Q = R d 4 0 [vR 30, vI 0, vX 9, vX 9] [] (WS L σ) (fun r w => R (d + 1) 46 8 [vR 20] (am_push r []) w Q) := K_aload_n fi_46_0 rfl <| K_gf fi_46_1 kd_20 mk_20_12 <| K_iconst fi_46_4 <| R_invS fi_46_5 (by decide) (am_invS_of (Nat.le_of_ble_eq_true rfl) rfl (Nat.le_of_ble_eq_true rfl) (Nat.le_of_ble_eq_true rfl) rfl rfl)
theorem b46_8 {d L : Nat} {σ : St} {Q : Option AV → AW → Prop} {u0 : AV} : R d 46 8 [u0] [] (WS L σ) Q = Q none (WS L σ) := R_return fi_46_8
theorem fi_47_0 : am_find 47 0 = some (.iload_n 3, 1, 0, 0, 0) := by decide +kernel
theorem fi_47_1 : am_find 47 1 = some (.iconst 1, 1, 0, 1, 0) := by decide +kernel
theorem fi_47_2 : am_find 47 2 = some (.if_icmp .lt 9, 3, 0, 0, 0) := by decide +kernel
theorem fi_47_5 : am_find 47 5 = some (.iload_n 3, 1, 0, 0, 0) := by decide +kernel
theorem fi_47_6 : am_find 47 6 = some (.bipush 8, 2, 0, 8, 0) := by decide +kernel
theorem fi_47_8 : am_find 47 8 = some (.if_icmp .le 6, 3, 0, 0, 0) := by decide +kernel
theorem fi_47_11 : am_find 47 11 = some (.bipush (-2), 2, 0, (-2), 0) := by decide +kernel
theorem fi_47_13 : am_find 47 13 = some (.ireturn, 1, 0, 0, 0) := by decide +kernel
theorem fi_47_14 : am_find 47 14 = some (.aload_n 0, 1, 0, 0, 0) := by decide +kernel
theorem fi_47_15 : am_find 47 15 = some (.getfield 10, 3, 9, 0, 0) := by decide +kernel
theorem fi_47_18 : am_find 47 18 = some (.getfield 98, 3, 8, 6, 53) := by decide +kernel
theorem fi_47_21 : am_find 47 21 = some (.getfield 102, 3, 5, 1, 54) := by decide +kernel
theorem fi_47_24 : am_find 47 24 = some (.iload_n 3, 1, 0, 0, 0) := by decide +kernel
theorem fi_47_25 : am_find 47 25 = some (.iadd, 1, 0, 0, 0) := by decide +kernel
theorem fi_47_26 : am_find 47 26 = some (.bipush 120, 2, 0, 120, 0) := by decide +kernel
theorem fi_47_28 : am_find 47 28 = some (.if_icmp .le 6, 3, 0, 0, 0) := by decide +kernel
theorem fi_47_31 : am_find 47 31 = some (.bipush (-4), 2, 0, (-4), 0) := by decide +kernel
theorem fi_47_33 : am_find 47 33 = some (.ireturn, 1, 0, 0, 0) := by decide +kernel
theorem fi_47_34 : am_find 47 34 = some (.iload_n 3, 1, 0, 0, 0) := by decide +kernel
theorem fi_47_35 : am_find 47 35 = some (.iconst 1, 1, 0, 1, 0) := by decide +kernel
theorem fi_47_36 : am_find 47 36 = some (.isub, 1, 0, 0, 0) := by decide +kernel
theorem fi_47_37 : am_find 47 37 = some (.istore 4, 2, 0, 0, 0) := by decide +kernel
theorem fi_47_39 : am_find 47 39 = some (.iload 4, 2, 0, 0, 0) := by decide +kernel
theorem fi_47_41 : am_find 47 41 = some (.ifCond .lt 32, 3, 0, 0, 0) := by decide +kernel
theorem fi_47_44 : am_find 47 44 = some (.aload_n 0, 1, 0, 0, 0) := by decide +kernel
theorem fi_47_45 : am_find 47 45 = some (.getfield 10, 3, 9, 0, 0) := by decide +kernel
theorem fi_47_48 : am_find 47 48 = some (.getfield 98, 3, 8, 6, 53) := by decide +kernel
theorem fi_47_51 : am_find 47 51 = some (.lload_n 1, 1, 0, 0, 0) := by decide +kernel
theorem fi_47_52 : am_find 47 52 = some (.bipush 8, 2, 0, 8, 0) := by decide +kernel
theorem fi_47_54 : am_find 47 54 = some (.iload 4, 2, 0, 0, 0) := by decide +kernel
theorem fi_47_56 : am_find 47 56 = some (.imul, 1, 0, 0, 0) := by decide +kernel
theorem fi_47_57 : am_find 47 57 = some (.lushr, 1, 0, 0, 0) := by decide +kernel
theorem fi_47_58 : am_find 47 58 = some (.l2i, 1, 0, 0, 0) := by decide +kernel
theorem fi_47_59 : am_find 47 59 = some (.sipush 255, 3, 0, 255, 0) := by decide +kernel
theorem fi_47_62 : am_find 47 62 = some (.iand, 1, 0, 0, 0) := by decide +kernel
theorem fi_47_63 : am_find 47 63 = some (.invokevirtual 107, 3, 48, 1, 50) := by decide +kernel
theorem fi_47_66 : am_find 47 66 = some (.pop, 1, 0, 0, 0) := by decide +kernel
theorem fi_47_67 : am_find 47 67 = some (.iinc 4 (-1), 3, 0, 0, 0) := by decide +kernel
theorem fi_47_70 : am_find 47 70 = some (.goto (-31), 3, 0, 0, 0) := by decide +kernel
theorem fi_47_73 : am_find 47 73 = some (.aload_n 0, 1, 0, 0, 0) := by decide +kernel
theorem fi_47_74 : am_find 47 74 = some (.getfield 10, 3, 9, 0, 0) := by decide +kernel
theorem fi_47_77 : am_find 47 77 = some (.getfield 98, 3, 8, 6, 53) := by decide +kernel
theorem fi_47_80 : am_find 47 80 = some (.getfield 102, 3, 5, 1, 54) := by decide +kernel
theorem fi_47_83 : am_find 47 83 = some (.ireturn, 1, 0, 0, 0) := by decide +kernel
theorem b47_0 {d L : Nat} {σ : St} {Q : Option AV → AW → Prop} {x3 : Int} {u0 u1 u2 u4 : AV} : R d 47 0 [u0, u1, u2, vI x3, u4] [] (WS L σ) Q = if x3 < 1 then R d 47 11 [u0, u1, u2, vI x3, u4] [] (WS L σ) Q else R d 47 5 [u0, u1, u2, vI x3, u4] [] (WS L σ) Q := K_iload_n fi_47_0 rfl <| K_iconst fi_47_1 <| R_icmp_lt fi_47_2 rfl
theorem b47_5 {d L : Nat} {σ : St} {Q : Option AV → AW → Prop} {x3 : Int} {u0 u1 u2 u4 : AV} : R d 47 5 [u0, u1, u2, vI x3, u4] [] (WS L σ) Q = if x3 ≤ 8 then R d 47 14 [u0, u1, u2, vI x3, u4] [] (WS L σ) Q else R d 47 11 [u0, u1, u2, vI x3, u4] [] (WS L σ) Q := K_iload_n fi_47_5 rfl <| K_bipush fi_47_6 <| R_icmp_le fi_47_8 rfl
theorem b47_11 {d L : Nat} {σ : St} {Q : Option AV → AW → Prop} {u0 u1 u2 u3 u4 : AV} : R d 47 11 [u0, u1, u2, u3, u4] [] (WS L σ) Q = Q (some (vI (-2))) (WS L σ) := K_bipush fi_47_11 <| R_ireti fi_47_13 rfl
theorem b47_14 {d L : Nat} {σ : St} {Q : Option AV → AW → Prop} {x3 : Int} {u1 u2 u4 : AV} (h1 : -2147483648 ≤ (σ 21 1) + x3 ∧ (σ 21 1) + x3 ≤ 2147483647) : R d 47 14 [vR 19, u1, u2, vI x3, u4] [] (WS L σ) Q = if ((σ 21 1) + x3) ≤ 120 then R d 47 34 [vR 19, u1, u2, vI x3, u4] [] (WS L σ) Q else R d 47 31 [vR 19, u1, u2, vI x3, u4] [] (WS L σ) Q := K_aload_n fi_47_14 rfl <| K_gf fi_47_15 kd_19 mk_19_0 <| K_gf fi_47_18 kd_20 mk_20_6 <| K_gf fi_47_21 kd_21 mk_21_1 <| K_iload_n fi_47_24 rfl <| K_iaddx fi_47_25 h1 <| K_bipush fi_47_26 <| R_icmp_le fi_47_28 rfl
theorem b47_31 {d L : Nat} {σ : St} {Q : Option AV → AW → Prop} {u0 u1 u2 u3 u4 : AV} : R d 47 31 [u0, u1, u2, u3, u4] [] (WS L σ) Q = Q (some (vI (-4))) (WS L σ) := K_bipush fi_47_31 <| R_ireti fi_47_33 rfl
theorem b47_34 {d L : Nat} {σ : St} {Q : Option AV → AW → Prop} {x3 : Int} {u0 u1 u2 u4 : AV} (h1 : -2147483648 ≤ x3 - 1 ∧ x3 - 1 ≤ 2147483647) : R d 47 34 [u0, u1, u2, vI x3, u4] [] (WS L σ) Q = R d 47 39 [u0, u1, u2, vI x3, vI (x3 - 1)] [] (WS L σ) Q := K_iload_n fi_47_34 rfl <| K_iconst fi_47_35 <| K_isubx fi_47_36 h1 <| K_istore fi_47_37 (Nat.le_of_ble_eq_true rfl) rfl rfl <| rfl
theorem b47_39 {d L : Nat} {σ : St} {Q : Option AV → AW → Prop} {x4 : Int} {u0 u1 u2 u3 : AV} : R d 47 39 [u0, u1, u2, u3, vI x4] [] (WS L σ) Q = if x4 < 0 then R d 47 73 [u0, u1, u2, u3, vI x4] [] (WS L σ) Q else R d 47 44 [u0, u1, u2, u3, vI x4] [] (WS L σ) Q := K_iload fi_47_39 rfl <| R_if_lt fi_47_41 rfl
theorem b47_44 {d L : Nat} {σ : St} {Q : Option AV → AW → Prop} {x4 : Int} {x1 : Int64} {u2 u3 : AV} (h1 : -2147483648 ≤ 8 * x4 ∧ 8 * x4 ≤ 2147483647) : R (d + 1) 47 44 [vR 19, vL x1, u2, u3, vI x4] [] (WS L σ) Q = R d 48 0 [vR 21, vI (i_and (l_i (l_ushr x1 (8 * x4))) 255)] [] (WS L σ) (fun r w => R (d + 1) 47 66 [vR 19, vL x1, u2, u3, vI x4] (am_push r []) w Q) := K_aload_n fi_47_44 rfl <| K_gf fi_47_45 kd_19 mk_19_0 <| K_gf fi_47_48 kd_20 mk_20_6 <| K_lload_n fi_47_51 rfl <| K_bipush fi_47_52 <| K_iload fi_47_54 rfl <| K_imulx fi_47_56 h1 <| K_lushr fi_47_57 <| K_l2i fi_47_58 <| K_sipush fi_47_59 <| K_iand fi_47_62 <| R_invV fi_47_63 (am_invV_of rfl (kd_21) (Nat.le_of_ble_eq_true rfl) (Nat.le_of_ble_eq_true rfl) rfl rfl)
theorem b47_66 {d L : Nat} {σ : St} {Q : Option AV → AW → Prop} {y0 x4 : Int} {u0 u1 u2 u3 : AV} (h1 : -2147483648 ≤ x4 + (-1) ∧ x4 + (-1) ≤ 2147483647) : R d 47 66 [u0, u1, u2, u3, vI x4] [vI y0] (WS L σ) Q = R d 47 39 [u0, u1, u2, u3, vI (x4 + (-1))] [] (WS L σ) Q := K_popi fi_47_66 <| K_iincx fi_47_67 rfl (Nat.le_of_ble_eq_true rfl) rfl h1 rfl <| R_goto fi_47_70 rfl
theorem b47_73 {d L : Nat} {σ : St} {Q : Option AV → AW → Prop} {u1 u2 u3 u4 : AV} : R d 47 73 [vR 19, u1, u2, u3, u4] [] (WS L σ) Q = Q (some (vI (σ 21 1))) (WS L σ) := K_aload_n fi_47_73 rfl <| K_gf fi_47_74 kd_19 mk_19_0 <| K_gf fi_47_77 kd_20 mk_20_6 <| K_gf fi_47_80 kd_21 mk_21_1 <| R_ireti fi_47_83 rfl
theorem fi_48_0 : am_find 48 0 = some (.aload_n 0, 1, 0, 0, 0) := by decide +kernel
theorem fi_48_1 : am_find 48 1 = some (.getfield 21, 3, 5, 1, 55) := by decide +kernel
theorem fi_48_4 : am_find 48 4 = some (.ifCond .lt 35, 3, 0, 0, 0) := by decide +kernel
theorem fi_48_7 : am_find 48 7 = some (.aload_n 0, 1, 0, 0, 0) := by decide +kernel
theorem fi_48_8 : am_find 48 8 = some (.getfield 21, 3, 5, 1, 55) := by decide +kernel
theorem fi_48_11 : am_find 48 11 = some (.aload_n 0, 1, 0, 0, 0) := by decide +kernel
theorem fi_48_12 : am_find 48 12 = some (.getfield 15, 3, 5, 0, 22) := by decide +kernel
theorem fi_48_15 : am_find 48 15 = some (.arraylength, 1, 0, 0, 0) := by decide +kernel
theorem fi_48_16 : am_find 48 16 = some (.if_icmp .ge 23, 3, 0, 0, 0) := by decide +kernel
theorem fi_48_19 : am_find 48 19 = some (.aload_n 0, 1, 0, 0, 0) := by decide +kernel
theorem fi_48_20 : am_find 48 20 = some (.getfield 15, 3, 5, 0, 22) := by decide +kernel
theorem fi_48_23 : am_find 48 23 = some (.aload_n 0, 1, 0, 0, 0) := by decide +kernel
theorem fi_48_24 : am_find 48 24 = some (.getfield 21, 3, 5, 1, 55) := by decide +kernel
theorem fi_48_27 : am_find 48 27 = some (.iload_n 1, 1, 0, 0, 0) := by decide +kernel
theorem fi_48_28 : am_find 48 28 = some (.iastore, 1, 0, 0, 0) := by decide +kernel
theorem fi_48_29 : am_find 48 29 = some (.aload_n 0, 1, 0, 0, 0) := by decide +kernel
theorem fi_48_30 : am_find 48 30 = some (.dup, 1, 0, 0, 0) := by decide +kernel
theorem fi_48_31 : am_find 48 31 = some (.getfield 21, 3, 5, 1, 55) := by decide +kernel
theorem fi_48_34 : am_find 48 34 = some (.iconst 1, 1, 0, 1, 0) := by decide +kernel
theorem fi_48_35 : am_find 48 35 = some (.iadd, 1, 0, 0, 0) := by decide +kernel
theorem fi_48_36 : am_find 48 36 = some (.putfield 21, 3, 5, 1, 55) := by decide +kernel
theorem fi_48_39 : am_find 48 39 = some (.aload_n 0, 1, 0, 0, 0) := by decide +kernel
theorem fi_48_40 : am_find 48 40 = some (.getfield 21, 3, 5, 1, 55) := by decide +kernel
theorem fi_48_43 : am_find 48 43 = some (.ireturn, 1, 0, 0, 0) := by decide +kernel
theorem b48_0 {d L : Nat} {σ : St} {Q : Option AV → AW → Prop} {r0 : Nat} {u1 : AV} (h1 : KD r0 = 5) : R d 48 0 [vR r0, u1] [] (WS L σ) Q = if (σ r0 1) < 0 then R d 48 39 [vR r0, u1] [] (WS L σ) Q else R d 48 7 [vR r0, u1] [] (WS L σ) Q := K_aload_n fi_48_0 rfl <| K_gf fi_48_1 h1 (row_sz h1) <| R_if_lt fi_48_4 rfl
theorem b48_7 {d L : Nat} {σ : St} {Q : Option AV → AW → Prop} {r0 : Nat} {u1 : AV} (h1 : KD r0 = 5) : R d 48 7 [vR r0, u1] [] (WS L σ) Q = if (LN L (r0 + 1) : Int) ≤ (σ r0 1) then R d 48 39 [vR r0, u1] [] (WS L σ) Q else R d 48 19 [vR r0, u1] [] (WS L σ) Q := K_aload_n fi_48_7 rfl <| K_gf fi_48_8 h1 (row_sz h1) <| K_aload_n fi_48_11 rfl <| K_gf fi_48_12 h1 (row_it h1) <| K_alen fi_48_15 (Or.inl (row_ar h1)) <| R_icmp_ge fi_48_16 rfl
theorem b48_19 {d L : Nat} {σ : St} {Q : Option AV → AW → Prop} {x1 : Int} {r0 : Nat} (h1 : KD r0 = 5) (h2 : 0 ≤ σ r0 1) (h3 : (σ r0 1) < (LN L (r0 + 1) : Int)) : R d 48 19 [vR r0, vI x1] [] (WS L σ) Q = R d 48 29 [vR r0, vI x1] [] (WS L (st2 σ (r0 + 1) (σ r0 1) x1)) Q := K_aload_n fi_48_19 rfl <| K_gf fi_48_20 h1 (row_it h1) <| K_aload_n fi_48_23 rfl <| K_gf fi_48_24 h1 (row_sz h1) <| K_iload_n fi_48_27 rfl <| K_is fi_48_28 (row_ar h1) h2 h3 <| rfl
theorem b48_29 {d L : Nat} {σ : St} {Q : Option AV → AW → Prop} {r0 : Nat} {u1 : AV} (h1 : KD r0 = 5) (h2 : -2147483648 ≤ (σ r0 1) + 1 ∧ (σ r0 1) + 1 ≤ 2147483647) : R d 48 29 [vR r0, u1] [] (WS L σ) Q = R d 48 39 [vR r0, u1] [] (WS L (st2 σ r0 1 ((σ r0 1) + 1))) Q := K_aload_n fi_48_29 rfl <| K_dupr fi_48_30 <| K_gf fi_48_31 h1 (row_sz h1) <| K_iconst fi_48_34 <| K_iaddx fi_48_35 h2 <| K_pf fi_48_36 h1 rfl rfl (row_c h1).1 (row_c h1).2 <| rfl
theorem b48_39 {d L : Nat} {σ : St} {Q : Option AV → AW → Prop} {r0 : Nat} {u1 : AV} (h1 : KD r0 = 5) : R d 48 39 [vR r0, u1] [] (WS L σ) Q = Q (some (vI (σ r0 1))) (WS L σ) := K_aload_n fi_48_39 rfl <| K_gf fi_48_40 h1 (row_sz h1) <| R_ireti fi_48_43 rfl
theorem fi_49_0 : am_find 49 0 = some (.aload_n 0, 1, 0, 0, 0) := by decide +kernel
theorem fi_49_1 : am_find 49 1 = some (.getfield 10, 3, 9, 0, 0) := by decide +kernel
theorem fi_49_4 : am_find 49 4 = some (.getfield 111, 3, 8, 2, 56) := by decide +kernel
theorem fi_49_7 : am_find 49 7 = some (.bipush 6, 2, 0, 6, 0) := by decide +kernel
theorem fi_49_9 : am_find 49 9 = some (.if_icmp .lt 6, 3, 0, 0, 0) := by decide +kernel
theorem fi_49_12 : am_find 49 12 = some (.bipush (-4), 2, 0, (-4), 0) := by decide +kernel
theorem fi_49_14 : am_find 49 14 = some (.ireturn, 1, 0, 0, 0) := by decide +kernel
theorem fi_49_15 : am_find 49 15 = some (.aload_n 0, 1, 0, 0, 0) := by decide +kernel
theorem fi_49_16 : am_find 49 16 = some (.getfield 24, 3, 9, 2, 2) := by decide +kernel
theorem fi_49_19 : am_find 49 19 = some (.aload_n 0, 1, 0, 0, 0) := by decide +kernel
theorem fi_49_20 : am_find 49 20 = some (.getfield 10, 3, 9, 0, 0) := by decide +kernel
theorem fi_49_23 : am_find 49 23 = some (.getfield 98, 3, 8, 6, 53) := by decide +kernel
theorem fi_49_26 : am_find 49 26 = some (.invokevirtual 114, 3, 18, 1, 18) := by decide +kernel
theorem fi_49_29 : am_find 49 29 = some (.istore_n 1, 1, 0, 0, 0) := by decide +kernel
theorem fi_49_30 : am_find 49 30 = some (.iload_n 1, 1, 0, 0, 0) := by decide +kernel
theorem fi_49_31 : am_find 49 31 = some (.ifCond .ge 20, 3, 0, 0, 0) := by decide +kernel
theorem fi_49_34 : am_find 49 34 = some (.aload_n 0, 1, 0, 0, 0) := by decide +kernel
theorem fi_49_35 : am_find 49 35 = some (.getfield 10, 3, 9, 0, 0) := by decide +kernel
theorem fi_49_38 : am_find 49 38 = some (.aload_n 0, 1, 0, 0, 0) := by decide +kernel
theorem fi_49_39 : am_find 49 39 = some (.getfield 10, 3, 9, 0, 0) := by decide +kernel
theorem fi_49_42 : am_find 49 42 = some (.getfield 98, 3, 8, 6, 53) := by decide +kernel
theorem fi_49_45 : am_find 49 45 = some (.invokevirtual 118, 3, 50, 1, 51) := by decide +kernel
theorem fi_49_48 : am_find 49 48 = some (.goto 7, 3, 0, 0, 0) := by decide +kernel
theorem fi_49_51 : am_find 49 51 = some (.bipush (-10), 2, 0, (-10), 0) := by decide +kernel
theorem fi_49_53 : am_find 49 53 = some (.iload_n 1, 1, 0, 0, 0) := by decide +kernel
theorem fi_49_54 : am_find 49 54 = some (.isub, 1, 0, 0, 0) := by decide +kernel
theorem fi_49_55 : am_find 49 55 = some (.istore_n 2, 1, 0, 0, 0) := by decide +kernel
theorem fi_49_56 : am_find 49 56 = some (.aload_n 0, 1, 0, 0, 0) := by decide +kernel
theorem fi_49_57 : am_find 49 57 = some (.getfield 10, 3, 9, 0, 0) := by decide +kernel
theorem fi_49_60 : am_find 49 60 = some (.getfield 98, 3, 8, 6, 53) := by decide +kernel
theorem fi_49_63 : am_find 49 63 = some (.invokevirtual 121, 3, 53, 0, 52) := by decide +kernel
theorem fi_49_66 : am_find 49 66 = some (.iload_n 2, 1, 0, 0, 0) := by decide +kernel
theorem fi_49_67 : am_find 49 67 = some (.ireturn, 1, 0, 0, 0) := by decide +kernel
theorem b49_0 {d L : Nat} {σ : St} {Q : Option AV → AW → Prop} {u1 u2 : AV} : R d 49 0 [vR 19, u1, u2] [] (WS L σ) Q = if (σ 20 2) < 6 then R d 49 15 [vR 19, u1, u2] [] (WS L σ) Q else R d 49 12 [vR 19, u1, u2] [] (WS L σ) Q := K_aload_n fi_49_0 rfl <| K_gf fi_49_1 kd_19 mk_19_0 <| K_gf fi_49_4 kd_20 mk_20_2 <| K_bipush fi_49_7 <| R_icmp_lt fi_49_9 rfl
theorem b49_12 {d L : Nat} {σ : St} {Q : Option AV → AW → Prop} {u0 u1 u2 : AV} : R d 49 12 [u0, u1, u2] [] (WS L σ) Q = Q (some (vI (-4))) (WS L σ) := K_bipush fi_49_12 <| R_ireti fi_49_14 rfl
theorem b49_15 {d L : Nat} {σ : St} {Q : Option AV → AW → Prop} {u1 u2 : AV} : R (d + 1) 49 15 [vR 19, u1, u2] [] (WS L σ) Q = R d 18 0 [vR 134, vR 21, vX 9] [] (WS L σ) (fun r w => R (d + 1) 49 29 [vR 19, u1, u2] (am_push r []) w Q) := K_aload_n fi_49_15 rfl <| K_gf fi_49_16 kd_19 mk_19_2 <| K_aload_n fi_49_19 rfl <| K_gf fi_49_20 kd_19 mk_19_0 <| K_gf fi_49_23 kd_20 mk_20_6 <| R_invV fi_49_26 (am_invV_of rfl (kd_134) (Nat.le_of_ble_eq_true rfl) (Nat.le_of_ble_eq_true rfl) rfl rfl)
theorem b49_29 {d L : Nat} {σ : St} {Q : Option AV → AW → Prop} {y0 : Int} {u0 u1 u2 : AV} : R d 49 29 [u0, u1, u2] [vI y0] (WS L σ) Q = if 0 ≤ y0 then R d 49 51 [u0, vI y0, u2] [] (WS L σ) Q else R d 49 34 [u0, vI y0, u2] [] (WS L σ) Q := K_istore_n fi_49_29 (Nat.le_of_ble_eq_true rfl) rfl rfl <| K_iload_n fi_49_30 rfl <| R_if_ge fi_49_31 rfl
theorem b49_34 {d L : Nat} {σ : St} {Q : Option AV → AW → Prop} {u1 u2 : AV} : R (d + 1) 49 34 [vR 19, u1, u2] [] (WS L σ) Q = R d 50 0 [vR 20, vR 21, vX 9] [] (WS L σ) (fun r w => R (d + 1) 49 48 [vR 19, u1, u2] (am_push r []) w Q) := K_aload_n fi_49_34 rfl <| K_gf fi_49_35 kd_19 mk_19_0 <| K_aload_n fi_49_38 rfl <| K_gf fi_49_39 kd_19 mk_19_0 <| K_gf fi_49_42 kd_20 mk_20_6 <| R_invV fi_49_45 (am_invV_of rfl (kd_20) (Nat.le_of_ble_eq_true rfl) (Nat.le_of_ble_eq_true rfl) rfl rfl)
theorem b49_48 {d L : Nat} {σ : St} {Q : Option AV → AW → Prop} {y0 : Int} {u0 u1 u2 : AV} : R d 49 48 [u0, u1, u2] [vI y0] (WS L σ) Q = R d 49 55 [u0, u1, u2] [vI y0] (WS L σ) Q := R_goto fi_49_48 rfl
theorem b49_51 {d L : Nat} {σ : St} {Q : Option AV → AW → Prop} {x1 : Int} {u0 u2 : AV} (h1 : -2147483648 ≤ (-10) - x1 ∧ (-10) - x1 ≤ 2147483647) : R d 49 51 [u0, vI x1, u2] [] (WS L σ) Q = R d 49 55 [u0, vI x1, u2] [vI ((-10) - x1)] (WS L σ) Q := K_bipush fi_49_51 <| K_iload_n fi_49_53 rfl <| K_isubx fi_49_54 h1 <| rfl
theorem b49_55 {d L : Nat} {σ : St} {Q : Option AV → AW → Prop} {y0 x1 : Int} {u2 : AV} : R (d + 1) 49 55 [vR 19, vI x1, u2] [vI y0] (WS L σ) Q = R d 53 0 [vR 21] [] (WS L σ) (fun r w => R (d + 1) 49 66 [vR 19, vI x1, vI y0] (am_push r []) w Q) := K_istore_n fi_49_55 (Nat.le_of_ble_eq_true rfl) rfl rfl <| K_aload_n fi_49_56 rfl <| K_gf fi_49_57 kd_19 mk_19_0 <| K_gf fi_49_60 kd_20 mk_20_6 <| R_invV fi_49_63 (am_invV_of rfl (kd_21) (Nat.le_of_ble_eq_true rfl) (Nat.le_of_ble_eq_true rfl) rfl rfl)
theorem b49_66 {d L : Nat} {σ : St} {Q : Option AV → AW → Prop} {x2 : Int} {u0 u1 : AV} : R d 49 66 [u0, u1, vI x2] [] (WS L σ) Q = Q (some (vI x2)) (WS L σ) := K_iload_n fi_49_66 rfl <| R_ireti fi_49_67 rfl
theorem fi_50_0 : am_find 50 0 = some (.aload_n 0, 1, 0, 0, 0) := by decide +kernel
theorem fi_50_1 : am_find 50 1 = some (.getfield 72, 3, 8, 2, 57) := by decide +kernel
theorem fi_50_4 : am_find 50 4 = some (.istore_n 2, 1, 0, 0, 0) := by decide +kernel
theorem fi_50_5 : am_find 50 5 = some (.iload_n 2, 1, 0, 0, 0) := by decide +kernel
theorem fi_50_6 : am_find 50 6 = some (.aload_n 0, 1, 0, 0, 0) := by decide +kernel
theorem fi_50_7 : am_find 50 7 = some (.getfield 53, 3, 8, 14, 19) := by decide +kernel
theorem fi_50_10 : am_find 50 10 = some (.arraylength, 1, 0, 0, 0) := by decide +kernel
theorem fi_50_11 : am_find 50 11 = some (.invokestatic 101, 3, 13, 2, 24) := by decide +kernel
theorem fi_50_14 : am_find 50 14 = some (.ifCond .eq 32, 3, 0, 0, 0) := by decide +kernel
theorem fi_50_17 : am_find 50 17 = some (.aload_n 0, 1, 0, 0, 0) := by decide +kernel
theorem fi_50_18 : am_find 50 18 = some (.getfield 53, 3, 8, 14, 19) := by decide +kernel
theorem fi_50_21 : am_find 50 21 = some (.iload_n 2, 1, 0, 0, 0) := by decide +kernel
theorem fi_50_22 : am_find 50 22 = some (.aaload, 1, 0, 0, 0) := by decide +kernel
theorem fi_50_23 : am_find 50 23 = some (.ifnull 23, 3, 0, 0, 0) := by decide +kernel
theorem fi_50_26 : am_find 50 26 = some (.aload_n 0, 1, 0, 0, 0) := by decide +kernel
theorem fi_50_27 : am_find 50 27 = some (.getfield 53, 3, 8, 14, 19) := by decide +kernel
theorem fi_50_30 : am_find 50 30 = some (.iload_n 2, 1, 0, 0, 0) := by decide +kernel
theorem fi_50_31 : am_find 50 31 = some (.aaload, 1, 0, 0, 0) := by decide +kernel
theorem fi_50_32 : am_find 50 32 = some (.aload_n 1, 1, 0, 0, 0) := by decide +kernel
theorem fi_50_33 : am_find 50 33 = some (.invokevirtual 81, 3, 51, 1, 53) := by decide +kernel
theorem fi_50_36 : am_find 50 36 = some (.aload_n 0, 1, 0, 0, 0) := by decide +kernel
theorem fi_50_37 : am_find 50 37 = some (.dup, 1, 0, 0, 0) := by decide +kernel
theorem fi_50_38 : am_find 50 38 = some (.getfield 72, 3, 8, 2, 57) := by decide +kernel
theorem fi_50_41 : am_find 50 41 = some (.iconst 1, 1, 0, 1, 0) := by decide +kernel
theorem fi_50_42 : am_find 50 42 = some (.iadd, 1, 0, 0, 0) := by decide +kernel
theorem fi_50_43 : am_find 50 43 = some (.putfield 72, 3, 8, 2, 57) := by decide +kernel
theorem fi_50_46 : am_find 50 46 = some (.iload_n 2, 1, 0, 0, 0) := by decide +kernel
theorem fi_50_47 : am_find 50 47 = some (.ireturn, 1, 0, 0, 0) := by decide +kernel
theorem b50_0 {d L : Nat} {σ : St} {Q : Option AV → AW → Prop} {r1 : Nat} {u2 : AV} : R (d + 1) 50 0 [vR 20, vR r1, u2] [] (WS L σ) Q = R d 13 0 [vI (σ 20 2), vI 6] [] (WS L σ) (fun r w => R (d + 1) 50 14 [vR 20, vR r1, vI (σ 20 2)] (am_push r []) w Q) := K_aload_n fi_50_0 rfl <| K_gf fi_50_1 kd_20 mk_20_2 <| K_istore_n fi_50_4 (Nat.le_of_ble_eq_true rfl) rfl rfl <| K_iload_n fi_50_5 rfl <| K_aload_n fi_50_6 rfl <| K_gf fi_50_7 kd_20 mk_20_14 <| K_alenx fi_50_10 (Or.inr (Or.inr (Or.inl kd_32))) rfl <| R_invS fi_50_11 (by decide) (am_invS_of (Nat.le_of_ble_eq_true rfl) rfl (Nat.le_of_ble_eq_true rfl) (Nat.le_of_ble_eq_true rfl) rfl rfl)
theorem b50_14 {d L : Nat} {σ : St} {Q : Option AV → AW → Prop} {y0 : Int} {u0 u1 u2 : AV} : R d 50 14 [u0, u1, u2] [vI y0] (WS L σ) Q = if y0 = 0 then R d 50 46 [u0, u1, u2] [] (WS L σ) Q else R d 50 17 [u0, u1, u2] [] (WS L σ) Q := R_if_eq fi_50_14 rfl
theorem b50_17 {d L : Nat} {σ : St} {Q : Option AV → AW → Prop} {x2 : Int} {u1 : AV} (h1 : 0 ≤ x2) (h2 : x2 < 6) : R d 50 17 [vR 20, u1, vI x2] [] (WS L σ) Q = R d 50 26 [vR 20, u1, vI x2] [] (WS L σ) Q := K_aload_n fi_50_17 rfl <| K_gf fi_50_18 kd_20 mk_20_14 <| K_iload_n fi_50_21 rfl <| K_aa fi_50_22 kd_32 h1 h2 (aa_32 h1 h2) <| R_ifnull fi_50_23
theorem b50_26 {d L : Nat} {σ : St} {Q : Option AV → AW → Prop} {x2 : Int} {r1 : Nat} (h1 : 0 ≤ x2) (h2 : x2 < 6) (h3 : KD (33 + 2 * x2.toNat) = 5) : R (d + 1) 50 26 [vR 20, vR r1, vI x2] [] (WS L σ) Q = R d 51 0 [vR (33 + 2 * x2.toNat), vR r1] [] (WS L σ) (fun r w => R (d + 1) 50 36 [vR 20, vR r1, vI x2] (am_push r []) w Q) := K_aload_n fi_50_26 rfl <| K_gf fi_50_27 kd_20 mk_20_14 <| K_iload_n fi_50_30 rfl <| K_aa fi_50_31 kd_32 h1 h2 (aa_32 h1 h2) <| K_aload_n fi_50_32 rfl <| R_invV fi_50_33 (am_invV_of rfl (h3) (Nat.le_of_ble_eq_true rfl) (Nat.le_of_ble_eq_true rfl) rfl rfl)
theorem b50_36 {d L : Nat} {σ : St} {Q : Option AV → AW → Prop} {u1 u2 : AV} (h1 : -2147483648 ≤ (σ 20 2) + 1 ∧ (σ 20 2) + 1 ≤ 2147483647) : R d 50 36 [vR 20, u1, u2] [] (WS L σ) Q = R d 50 46 [vR 20, u1, u2] [] (WS L (st2 σ 20 2 ((σ 20 2) + 1))) Q := K_aload_n fi_50_36 rfl <| K_dupr fi_50_37 <| K_gf fi_50_38 kd_20 mk_20_2 <| K_iconst fi_50_41 <| K_iaddx fi_50_42 h1 <| K_pf fi_50_43 kd_20 rfl rfl rfl rfl <| rfl
theorem b50_46 {d L : Nat} {σ : St} {Q : Option AV → AW → Prop} {x2 : Int} {u0 u1 : AV} : R d 50 46 [u0, u1, vI x2] [] (WS L σ) Q = Q (some (vI x2)) (WS L σ) := K_iload_n fi_50_46 rfl <| R_ireti fi_50_47 rfl
theorem fi_51_0 : am_find 51 0 = some (.aload_n 1, 1, 0, 0, 0) := by decide +kernel
theorem fi_51_1 : am_find 51 1 = some (.ifnull 30, 3, 0, 0, 0) := by decide +kernel
theorem fi_51_4 : am_find 51 4 = some (.aload_n 1, 1, 0, 0, 0) := by decide +kernel
theorem fi_51_5 : am_find 51 5 = some (.getfield 15, 3, 5, 0, 22) := by decide +kernel
theorem fi_51_8 : am_find 51 8 = some (.aload_n 0, 1, 0, 0, 0) := by decide +kernel
theorem fi_51_9 : am_find 51 9 = some (.getfield 15, 3, 5, 0, 22) := by decide +kernel
theorem fi_51_12 : am_find 51 12 = some (.invokestatic 25, 3, 52, 2, 54) := by decide +kernel
theorem fi_51_15 : am_find 51 15 = some (.aload_n 0, 1, 0, 0, 0) := by decide +kernel
theorem fi_51_16 : am_find 51 16 = some (.aload_n 1, 1, 0, 0, 0) := by decide +kernel
theorem fi_51_17 : am_find 51 17 = some (.getfield 21, 3, 5, 1, 55) := by decide +kernel
theorem fi_51_20 : am_find 51 20 = some (.aload_n 0, 1, 0, 0, 0) := by decide +kernel
theorem fi_51_21 : am_find 51 21 = some (.getfield 15, 3, 5, 0, 22) := by decide +kernel
theorem fi_51_24 : am_find 51 24 = some (.arraylength, 1, 0, 0, 0) := by decide +kernel
theorem fi_51_25 : am_find 51 25 = some (.invokestatic 29, 3, 9991, 0, 606) := by decide +kernel
theorem fi_51_28 : am_find 51 28 = some (.putfield 21, 3, 5, 1, 55) := by decide +kernel
theorem fi_51_31 : am_find 51 31 = some (.return_, 1, 0, 0, 0) := by decide +kernel
theorem b51_0 {d L : Nat} {σ : St} {Q : Option AV → AW → Prop} {r1 : Nat} {u0 : AV} : R d 51 0 [u0, vR r1] [] (WS L σ) Q = R d 51 4 [u0, vR r1] [] (WS L σ) Q := K_aload_n fi_51_0 rfl <| R_ifnull fi_51_1
theorem b51_4 {d L : Nat} {σ : St} {Q : Option AV → AW → Prop} {r1 r0 : Nat} (h1 : KD r1 = 5) (h2 : KD r0 = 5) : R (d + 1) 51 4 [vR r0, vR r1] [] (WS L σ) Q = R d 52 0 [vR (r1 + 1), vR (r0 + 1)] [] (WS L σ) (fun r w => R (d + 1) 51 15 [vR r0, vR r1] (am_push r []) w Q) := K_aload_n fi_51_4 rfl <| K_gf fi_51_5 h1 (row_it h1) <| K_aload_n fi_51_8 rfl <| K_gf fi_51_9 h2 (row_it h2) <| R_invS fi_51_12 (by decide) (am_invS_of (Nat.le_of_ble_eq_true rfl) rfl (Nat.le_of_ble_eq_true rfl) (Nat.le_of_ble_eq_true rfl) rfl rfl)
theorem b51_15 {d L : Nat} {σ : St} {Q : Option AV → AW → Prop} {r0 r1 : Nat} (h1 : KD r1 = 5) (h2 : KD r0 = 5) : R d 51 15 [vR r0, vR r1] [] (WS L σ) Q = R d 51 31 [vR r0, vR r1] [] (WS L (st2 σ r0 1 (i_min (σ r1 1) (LN L (r0 + 1) : Int)))) Q := K_aload_n fi_51_15 rfl <| K_aload_n fi_51_16 rfl <| K_gf fi_51_17 h1 (row_sz h1) <| K_aload_n fi_51_20 rfl <| K_gf fi_51_21 h2 (row_it h2) <| K_alen fi_51_24 (Or.inl (row_ar h2)) <| K_min fi_51_25 (Nat.le_of_ble_eq_true rfl) <| K_pf fi_51_28 h2 rfl rfl (row_c h2).1 (row_c h2).2 <| rfl
theorem b51_31 {d L : Nat} {σ : St} {Q : Option AV → AW → Prop} {u0 u1 : AV} : R d 51 31 [u0, u1] [] (WS L σ) Q = Q none (WS L σ) := R_return fi_51_31
theorem fi_52_0 : am_find 52 0 = some (.aload_n 0, 1, 0, 0, 0) := by decide +kernel
theorem fi_52_1 : am_find 52 1 = some (.iconst 0, 1, 0, 0, 0) := by decide +kernel
theorem fi_52_2 : am_find 52 2 = some (.aload_n 1, 1, 0, 0, 0) := by decide +kernel
theorem fi_52_3 : am_find 52 3 = some (.iconst 0, 1, 0, 0, 0) := by decide +kernel
theorem fi_52_4 : am_find 52 4 = some (.aload_n 0, 1, 0, 0, 0) := by decide +kernel
theorem fi_52_5 : am_find 52 5 = some (.arraylength, 1, 0, 0, 0) := by decide +kernel
theorem fi_52_6 : am_find 52 6 = some (.aload_n 1, 1, 0, 0, 0) := by decide +kernel
theorem fi_52_7 : am_find 52 7 = some (.arraylength, 1, 0, 0, 0) := by decide +kernel
theorem fi_52_8 : am_find 52 8 = some (.invokestatic 29, 3, 9991, 0, 606) := by decide +kernel
theorem fi_52_11 : am_find 52 11 = some (.invokestatic 32, 3, 9998, 0, 609) := by decide +kernel
theorem fi_52_14 : am_find 52 14 = some (.return_, 1, 0, 0, 0) := by decide +kernel
theorem b52_0 {d L : Nat} {σ : St} {Q : Option AV → AW → Prop} {r0 r1 : Nat} (h1 : KD r0 = 100) (h2 : KD r1 = 100) (h3 : 0 ≤ i_min (LN L r0 : Int) (LN L r1 : Int)) (h4 : 0 + (i_min (LN L r0 : Int) (LN L r1 : Int)) ≤ (LN L r0 : Int)) (h5 : 0 + (i_min (LN L r0 : Int) (LN L r1 : Int)) ≤ (LN L r1 : Int)) : R d 52 0 [vR r0, vR r1] [] (WS L σ) Q = R d 52 14 [vR r0, vR r1] [] (WS L (cp2 σ r0 r1 0 0 (i_min (LN L r0 : Int) (LN L r1 : Int)))) Q := K_aload_n fi_52_0 rfl <| K_iconst fi_52_1 <| K_aload_n fi_52_2 rfl <| K_iconst fi_52_3 <| K_aload_n fi_52_4 rfl <| K_alen fi_52_5 (Or.inl h1) <| K_aload_n fi_52_6 rfl <| K_alen fi_52_7 (Or.inl h2) <| K_min fi_52_8 (Nat.le_of_ble_eq_true rfl) <| K_cpy fi_52_11 h1 h2 (by decide) (by decide) h3 h4 h5 (Nat.le_of_ble_eq_true rfl) <| rfl
theorem b52_14 {d L : Nat} {σ : St} {Q : Option AV → AW → Prop} {u0 u1 : AV} : R d 52 14 [u0, u1] [] (WS L σ) Q = Q none (WS L σ) := R_return fi_52_14
theorem fi_53_0 : am_find 53 0 = some (.aload_n 0, 1, 0, 0, 0) := by decide +kernel
theorem fi_53_1 : am_find 53 1 = some (.iconst 0, 1, 0, 0, 0) := by decide +kernel
theorem fi_53_2 : am_find 53 2 = some (.putfield 21, 3, 5, 1, 55) := by decide +kernel
theorem fi_53_5 : am_find 53 5 = some (.return_, 1, 0, 0, 0) := by decide +kernel
theorem b53_0 {d L : Nat} {σ : St} {Q : Option AV → AW → Prop} {r0 : Nat} (h1 : KD r0 = 5) : R d 53 0 [vR r0] [] (WS L σ) Q = R d 53 5 [vR r0] [] (WS L (st2 σ r0 1 0)) Q := K_aload_n fi_53_0 rfl <| K_iconst fi_53_1 <| K_pf fi_53_2 h1 rfl rfl (row_c h1).1 (row_c h1).2 <| rfl
theorem b53_5 {d L : Nat} {σ : St} {Q : Option AV → AW → Prop} {u0 : AV} : R d 53 5 [u0] [] (WS L σ) Q = Q none (WS L σ) := R_return fi_53_5
theorem fi_54_0 : am_find 54 0 = some (.iload_n 1, 1, 0, 0, 0) := by decide +kernel
theorem fi_54_1 : am_find 54 1 = some (.iconst 3, 1, 0, 3, 0) := by decide +kernel
theorem fi_54_2 : am_find 54 2 = some (.invokestatic 72, 3, 13, 2, 14) := by decide +kernel
theorem fi_54_5 : am_find 54 5 = some (.ifCond .eq 21, 3, 0, 0, 0) := by decide +kernel
theorem fi_54_8 : am_find 54 8 = some (.iload_n 2, 1, 0, 0, 0) := by decide +kernel
theorem fi_54_9 : am_find 54 9 = some (.iconst 1, 1, 0, 1, 0) := by decide +kernel
theorem fi_54_10 : am_find 54 10 = some (.iadd, 1, 0, 0, 0) := by decide +kernel
theorem fi_54_11 : am_find 54 11 = some (.aload_n 0, 1, 0, 0, 0) := by decide +kernel
theorem fi_54_12 : am_find 54 12 = some (.getfield 10, 3, 9, 0, 0) := by decide +kernel
theorem fi_54_15 : am_find 54 15 = some (.getfield 111, 3, 8, 2, 56) := by decide +kernel
theorem fi_54_18 : am_find 54 18 = some (.iconst 1, 1, 0, 1, 0) := by decide +kernel
theorem fi_54_19 : am_find 54 19 = some (.iadd, 1, 0, 0, 0) := by decide +kernel
theorem fi_54_20 : am_find 54 20 = some (.invokestatic 72, 3, 13, 2, 14) := by decide +kernel
theorem fi_54_23 : am_find 54 23 = some (.ifCond .ne 5, 3, 0, 0, 0) := by decide +kernel
theorem fi_54_26 : am_find 54 26 = some (.iconst (-1), 1, 0, (-1), 0) := by decide +kernel
theorem fi_54_27 : am_find 54 27 = some (.ireturn, 1, 0, 0, 0) := by decide +kernel
theorem fi_54_28 : am_find 54 28 = some (.aload_n 0, 1, 0, 0, 0) := by decide +kernel
theorem fi_54_29 : am_find 54 29 = some (.getfield 10, 3, 9, 0, 0) := by decide +kernel
theorem fi_54_32 : am_find 54 32 = some (.iload_n 1, 1, 0, 0, 0) := by decide +kernel
theorem fi_54_33 : am_find 54 33 = some (.invokevirtual 124, 3, 17, 1, 55) := by decide +kernel
theorem fi_54_36 : am_find 54 36 = some (.istore_n 3, 1, 0, 0, 0) := by decide +kernel
theorem fi_54_37 : am_find 54 37 = some (.aload_n 0, 1, 0, 0, 0) := by decide +kernel
theorem fi_54_38 : am_find 54 38 = some (.getfield 10, 3, 9, 0, 0) := by decide +kernel
theorem fi_54_41 : am_find 54 41 = some (.iload_n 1, 1, 0, 0, 0) := by decide +kernel
theorem fi_54_42 : am_find 54 42 = some (.iload_n 2, 1, 0, 0, 0) := by decide +kernel
theorem fi_54_43 : am_find 54 43 = some (.invokevirtual 127, 3, 55, 2, 56) := by decide +kernel
theorem fi_54_46 : am_find 54 46 = some (.aload_n 0, 1, 0, 0, 0) := by decide +kernel
theorem fi_54_47 : am_find 54 47 = some (.iload_n 1, 1, 0, 0, 0) := by decide +kernel
theorem fi_54_48 : am_find 54 48 = some (.invokevirtual 84, 3, 15, 1, 16) := by decide +kernel
theorem fi_54_51 : am_find 54 51 = some (.iload_n 3, 1, 0, 0, 0) := by decide +kernel
theorem fi_54_52 : am_find 54 52 = some (.ifCond .ge 8, 3, 0, 0, 0) := by decide +kernel
theorem fi_54_55 : am_find 54 55 = some (.bipush (-5), 2, 0, (-5), 0) := by decide +kernel
theorem fi_54_57 : am_find 54 57 = some (.goto 4, 3, 0, 0, 0) := by decide +kernel
theorem fi_54_60 : am_find 54 60 = some (.iload_n 3, 1, 0, 0, 0) := by decide +kernel
theorem fi_54_61 : am_find 54 61 = some (.ireturn, 1, 0, 0, 0) := by decide +kernel
theorem b54_0 {d L : Nat} {σ : St} {Q : Option AV → AW → Prop} {x1 : Int} {u0 u2 u3 : AV} : R (d + 1) 54 0 [u0, vI x1, u2, u3] [] (WS L σ) Q = R d 13 0 [vI x1, vI 3] [] (WS L σ) (fun r w => R (d + 1) 54 5 [u0, vI x1, u2, u3] (am_push r []) w Q) := K_iload_n fi_54_0 rfl <| K_iconst fi_54_1 <| R_invS fi_54_2 (by decide) (am_invS_of (Nat.le_of_ble_eq_true rfl) rfl (Nat.le_of_ble_eq_true rfl) (Nat.le_of_ble_eq_true rfl) rfl rfl)
theorem b54_5 {d L : Nat} {σ : St} {Q : Option AV → AW → Prop} {y0 : Int} {u0 u1 u2 u3 : AV} : R d 54 5 [u0, u1, u2, u3] [vI y0] (WS L σ) Q = if y0 = 0 then R d 54 26 [u0, u1, u2, u3] [] (WS L σ) Q else R d 54 8 [u0, u1, u2, u3] [] (WS L σ) Q := R_if_eq fi_54_5 rfl
theorem b54_8 {d L : Nat} {σ : St} {Q : Option AV → AW → Prop} {x2 : Int} {u1 u3 : AV} (h1 : -2147483648 ≤ x2 + 1 ∧ x2 + 1 ≤ 2147483647) (h2 : -2147483648 ≤ (σ 20 2) + 1 ∧ (σ 20 2) + 1 ≤ 2147483647) : R (d + 1) 54 8 [vR 19, u1, vI x2, u3] [] (WS L σ) Q = R d 13 0 [vI (x2 + 1), vI ((σ 20 2) + 1)] [] (WS L σ) (fun r w => R (d + 1) 54 23 [vR 19, u1, vI x2, u3] (am_push r []) w Q) := K_iload_n fi_54_8 rfl <| K_iconst fi_54_9 <| K_iaddx fi_54_10 h1 <| K_aload_n fi_54_11 rfl <| K_gf fi_54_12 kd_19 mk_19_0 <| K_gf fi_54_15 kd_20 mk_20_2 <| K_iconst fi_54_18 <| K_iaddx fi_54_19 h2 <| R_invS fi_54_20 (by decide) (am_invS_of (Nat.le_of_ble_eq_true rfl) rfl (Nat.le_of_ble_eq_true rfl) (Nat.le_of_ble_eq_true rfl) rfl rfl)
theorem b54_23 {d L : Nat} {σ : St} {Q : Option AV → AW → Prop} {y0 : Int} {u0 u1 u2 u3 : AV} : R d 54 23 [u0, u1, u2, u3] [vI y0] (WS L σ) Q = if ¬ y0 = 0 then R d 54 28 [u0, u1, u2, u3] [] (WS L σ) Q else R d 54 26 [u0, u1, u2, u3] [] (WS L σ) Q := R_if_ne fi_54_23 rfl
theorem b54_26 {d L : Nat} {σ : St} {Q : Option AV → AW → Prop} {u0 u1 u2 u3 : AV} : R d 54 26 [u0, u1, u2, u3] [] (WS L σ) Q = Q (some (vI (-1))) (WS L σ) := K_iconst fi_54_26 <| R_ireti fi_54_27 rfl
theorem b54_28 {d L : Nat} {σ : St} {Q : Option AV → AW → Prop} {x1 : Int} {u2 u3 : AV} : R (d + 1) 54 28 [vR 19, vI x1, u2, u3] [] (WS L σ) Q = R d 17 0 [vR 20, vI x1] [] (WS L σ) (fun r w => R (d + 1) 54 36 [vR 19, vI x1, u2, u3] (am_push r []) w Q) := K_aload_n fi_54_28 rfl <| K_gf fi_54_29 kd_19 mk_19_0 <| K_iload_n fi_54_32 rfl <| R_invV fi_54_33 (am_invV_of rfl (kd_20) (Nat.le_of_ble_eq_true rfl) (Nat.le_of_ble_eq_true rfl) rfl rfl)
theorem b54_36 {d L : Nat} {σ : St} {Q : Option AV → AW → Prop} {y0 x1 x2 : Int} {u3 : AV} : R (d + 1) 54 36 [vR 19, vI x1, vI x2, u3] [vI y0] (WS L σ) Q = R d 55 0 [vR 20, vI x1, vI x2] [] (WS L σ) (fun r w => R (d + 1) 54 46 [vR 19, vI x1, vI x2, vI y0] (am_push r []) w Q) := K_istore_n fi_54_36 (Nat.le_of_ble_eq_true rfl) rfl rfl <| K_aload_n fi_54_37 rfl <| K_gf fi_54_38 kd_19 mk_19_0 <| K_iload_n fi_54_41 rfl <| K_iload_n fi_54_42 rfl <| R_invV fi_54_43 (am_invV_of rfl (kd_20) (Nat.le_of_ble_eq_true rfl) (Nat.le_of_ble_eq_true rfl) rfl rfl)
theorem b54_46 {d L : Nat} {σ : St} {Q : Option AV → AW → Prop} {x1 : Int} {u2 u3 : AV} : R (d + 1) 54 46 [vR 19, vI x1, u2, u3] [] (WS L σ) Q = R d 15 0 [vR 19, vI x1, vX 9, vX 9] [] (WS L σ) (fun r w => R (d + 1) 54 51 [vR 19, vI x1, u2, u3] (am_push r []) w Q) := K_aload_n fi_54_46 rfl <| K_iload_n fi_54_47 rfl <| R_invV fi_54_48 (am_invV_of rfl (kd_19) (Nat.le_of_ble_eq_true rfl) (Nat.le_of_ble_eq_true rfl) rfl rfl)
theorem b54_51 {d L : Nat} {σ : St} {Q : Option AV → AW → Prop} {x3 : Int} {u0 u1 u2 : AV} : R d 54 51 [u0, u1, u2, vI x3] [] (WS L σ) Q = if 0 ≤ x3 then R d 54 60 [u0, u1, u2, vI x3] [] (WS L σ) Q else R d 54 55 [u0, u1, u2, vI x3] [] (WS L σ) Q := K_iload_n fi_54_51 rfl <| R_if_ge fi_54_52 rfl
theorem b54_55 {d L : Nat} {σ : St} {Q : Option AV → AW → Prop} {u0 u1 u2 u3 : AV} : R d 54 55 [u0, u1, u2, u3] [] (WS L σ) Q = R d 54 61 [u0, u1, u2, u3] [vI (-5)] (WS L σ) Q := K_bipush fi_54_55 <| R_goto fi_54_57 rfl
theorem b54_60 {d L : Nat} {σ : St} {Q : Option AV → AW → Prop} {x3 : Int} {u0 u1 u2 : AV} : R d 54 60 [u0, u1, u2, vI x3] [] (WS L σ) Q = R d 54 61 [u0, u1, u2, vI x3] [vI x3] (WS L σ) Q := K_iload_n fi_54_60 rfl <| rfl
theorem b54_61 {d L : Nat} {σ : St} {Q : Option AV → AW → Prop} {y0 : Int} {u0 u1 u2 u3 : AV} : R d 54 61 [u0, u1, u2, u3] [vI y0] (WS L σ) Q = Q (some (vI y0)) (WS L σ) := R_ireti fi_54_61 rfl
theorem fi_55_0 : am_find 55 0 = some (.iload_n 1, 1, 0, 0, 0) := by decide +kernel
theorem fi_55_1 : am_find 55 1 = some (.aload_n 0, 1, 0, 0, 0) := by decide +kernel
theorem fi_55_2 : am_find 55 2 = some (.getfield 37, 3, 8, 10, 15) := by decide +kernel
theorem fi_55_5 : am_find 55 5 = some (.arraylength, 1, 0, 0, 0) := by decide +kernel
theorem fi_55_6 : am_find 55 6 = some (.invokestatic 101, 3, 13, 2, 24) := by decide +kernel
theorem fi_55_9 : am_find 55 9 = some (.ifCond .eq 10, 3, 0, 0, 0) := by decide +kernel
theorem fi_55_12 : am_find 55 12 = some (.aload_n 0, 1, 0, 0, 0) := by decide +kernel
theorem fi_55_13 : am_find 55 13 = some (.getfield 37, 3, 8, 10, 15) := by decide +kernel
theorem fi_55_16 : am_find 55 16 = some (.iload_n 1, 1, 0, 0, 0) := by decide +kernel
theorem fi_55_17 : am_find 55 17 = some (.iload_n 2, 1, 0, 0, 0) := by decide +kernel
theorem fi_55_18 : am_find 55 18 = some (.iastore, 1, 0, 0, 0) := by decide +kernel
theorem fi_55_19 : am_find 55 19 = some (.return_, 1, 0, 0, 0) := by decide +kernel
theorem b55_0 {d L : Nat} {σ : St} {Q : Option AV → AW → Prop} {x1 : Int} {u2 : AV} : R (d + 1) 55 0 [vR 20, vI x1, u2] [] (WS L σ) Q = R d 13 0 [vI x1, vI 3] [] (WS L σ) (fun r w => R (d + 1) 55 9 [vR 20, vI x1, u2] (am_push r []) w Q) := K_iload_n fi_55_0 rfl <| K_aload_n fi_55_1 rfl <| K_gf fi_55_2 kd_20 mk_20_10 <| K_alenx fi_55_5 (Or.inl kd_28) rfl <| R_invS fi_55_6 (by decide) (am_invS_of (Nat.le_of_ble_eq_true rfl) rfl (Nat.le_of_ble_eq_true rfl) (Nat.le_of_ble_eq_true rfl) rfl rfl)
theorem b55_9 {d L : Nat} {σ : St} {Q : Option AV → AW → Prop} {y0 : Int} {u0 u1 u2 : AV} : R d 55 9 [u0, u1, u2] [vI y0] (WS L σ) Q = if y0 = 0 then R d 55 19 [u0, u1, u2] [] (WS L σ) Q else R d 55 12 [u0, u1, u2] [] (WS L σ) Q := R_if_eq fi_55_9 rfl
theorem b55_12 {d L : Nat} {σ : St} {Q : Option AV → AW → Prop} {x1 x2 : Int} (h1 : 0 ≤ x1) (h2 : x1 < 3) : R d 55 12 [vR 20, vI x1, vI x2] [] (WS L σ) Q = R d 55 19 [vR 20, vI x1, vI x2] [] (WS L (st2 σ 28 x1 x2)) Q := K_aload_n fi_55_12 rfl <| K_gf fi_55_13 kd_20 mk_20_10 <| K_iload_n fi_55_16 rfl <| K_iload_n fi_55_17 rfl <| K_is fi_55_18 kd_28 h1 h2 <| rfl
theorem b55_19 {d L : Nat} {σ : St} {Q : Option AV → AW → Prop} {u0 u1 u2 : AV} : R d 55 19 [u0, u1, u2] [] (WS L σ) Q = Q none (WS L σ) := R_return fi_55_19
theorem fi_56_0 : am_find 56 0 = some (.iload_n 1, 1, 0, 0, 0) := by decide +kernel
theorem fi_56_1 : am_find 56 1 = some (.iconst 3, 1, 0, 3, 0) := by decide +kernel
theorem fi_56_2 : am_find 56 2 = some (.invokestatic 72, 3, 13, 2, 14) := by decide +kernel
theorem fi_56_5 : am_find 56 5 = some (.ifCond .ne 7, 3, 0, 0, 0) := by decide +kernel
theorem fi_56_8 : am_find 56 8 = some (.sipush (-1001), 3, 0, (-1001), 0) := by decide +kernel
theorem fi_56_11 : am_find 56 11 = some (.ireturn, 1, 0, 0, 0) := by decide +kernel
theorem fi_56_12 : am_find 56 12 = some (.iload_n 2, 1, 0, 0, 0) := by decide +kernel
theorem fi_56_13 : am_find 56 13 = some (.aload_n 0, 1, 0, 0, 0) := by decide +kernel
theorem fi_56_14 : am_find 56 14 = some (.getfield 10, 3, 9, 0, 0) := by decide +kernel
theorem fi_56_17 : am_find 56 17 = some (.invokevirtual 131, 3, 34, 0, 19) := by decide +kernel
theorem fi_56_20 : am_find 56 20 = some (.iconst 1, 1, 0, 1, 0) := by decide +kernel
theorem fi_56_21 : am_find 56 21 = some (.iadd, 1, 0, 0, 0) := by decide +kernel
theorem fi_56_22 : am_find 56 22 = some (.invokestatic 72, 3, 13, 2, 14) := by decide +kernel
theorem fi_56_25 : am_find 56 25 = some (.ifCond .eq 15, 3, 0, 0, 0) := by decide +kernel
theorem fi_56_28 : am_find 56 28 = some (.aload_n 0, 1, 0, 0, 0) := by decide +kernel
theorem fi_56_29 : am_find 56 29 = some (.getfield 10, 3, 9, 0, 0) := by decide +kernel
theorem fi_56_32 : am_find 56 32 = some (.iload_n 1, 1, 0, 0, 0) := by decide +kernel
theorem fi_56_33 : am_find 56 33 = some (.iload_n 2, 1, 0, 0, 0) := by decide +kernel
theorem fi_56_34 : am_find 56 34 = some (.invokevirtual 135, 3, 57, 2, 57) := by decide +kernel
theorem fi_56_37 : am_find 56 37 = some (.goto 6, 3, 0, 0, 0) := by decide +kernel
theorem fi_56_40 : am_find 56 40 = some (.sipush (-1002), 3, 0, (-1002), 0) := by decide +kernel
theorem fi_56_43 : am_find 56 43 = some (.ireturn, 1, 0, 0, 0) := by decide +kernel
theorem b56_0 {d L : Nat} {σ : St} {Q : Option AV → AW → Prop} {x1 : Int} {u0 u2 : AV} : R (d + 1) 56 0 [u0, vI x1, u2] [] (WS L σ) Q = R d 13 0 [vI x1, vI 3] [] (WS L σ) (fun r w => R (d + 1) 56 5 [u0, vI x1, u2] (am_push r []) w Q) := K_iload_n fi_56_0 rfl <| K_iconst fi_56_1 <| R_invS fi_56_2 (by decide) (am_invS_of (Nat.le_of_ble_eq_true rfl) rfl (Nat.le_of_ble_eq_true rfl) (Nat.le_of_ble_eq_true rfl) rfl rfl)
theorem b56_5 {d L : Nat} {σ : St} {Q : Option AV → AW → Prop} {y0 : Int} {u0 u1 u2 : AV} : R d 56 5 [u0, u1, u2] [vI y0] (WS L σ) Q = if ¬ y0 = 0 then R d 56 12 [u0, u1, u2] [] (WS L σ) Q else R d 56 8 [u0, u1, u2] [] (WS L σ) Q := R_if_ne fi_56_5 rfl
theorem b56_8 {d L : Nat} {σ : St} {Q : Option AV → AW → Prop} {u0 u1 u2 : AV} : R d 56 8 [u0, u1, u2] [] (WS L σ) Q = Q (some (vI (-1001))) (WS L σ) := K_sipush fi_56_8 <| R_ireti fi_56_11 rfl
theorem b56_12 {d L : Nat} {σ : St} {Q : Option AV → AW → Prop} {x2 : Int} {u1 : AV} : R (d + 1) 56 12 [vR 19, u1, vI x2] [] (WS L σ) Q = R d 34 0 [vR 20] [] (WS L σ) (fun r w => R (d + 1) 56 20 [vR 19, u1, vI x2] (am_push r [vI x2]) w Q) := K_iload_n fi_56_12 rfl <| K_aload_n fi_56_13 rfl <| K_gf fi_56_14 kd_19 mk_19_0 <| R_invV fi_56_17 (am_invV_of rfl (kd_20) (Nat.le_of_ble_eq_true rfl) (Nat.le_of_ble_eq_true rfl) rfl rfl)
theorem b56_20 {d L : Nat} {σ : St} {Q : Option AV → AW → Prop} {y0 y1 : Int} {u0 u1 u2 : AV} (h1 : -2147483648 ≤ y0 + 1 ∧ y0 + 1 ≤ 2147483647) : R (d + 1) 56 20 [u0, u1, u2] [vI y0, vI y1] (WS L σ) Q = R d 13 0 [vI y1, vI (y0 + 1)] [] (WS L σ) (fun r w => R (d + 1) 56 25 [u0, u1, u2] (am_push r []) w Q) := K_iconst fi_56_20 <| K_iaddx fi_56_21 h1 <| R_invS fi_56_22 (by decide) (am_invS_of (Nat.le_of_ble_eq_true rfl) rfl (Nat.le_of_ble_eq_true rfl) (Nat.le_of_ble_eq_true rfl) rfl rfl)
theorem b56_25 {d L : Nat} {σ : St} {Q : Option AV → AW → Prop} {y0 : Int} {u0 u1 u2 : AV} : R d 56 25 [u0, u1, u2] [vI y0] (WS L σ) Q = if y0 = 0 then R d 56 40 [u0, u1, u2] [] (WS L σ) Q else R d 56 28 [u0, u1, u2] [] (WS L σ) Q := R_if_eq fi_56_25 rfl
theorem b56_28 {d L : Nat} {σ : St} {Q : Option AV → AW → Prop} {x1 x2 : Int} : R (d + 1) 56 28 [vR 19, vI x1, vI x2] [] (WS L σ) Q = R d 57 0 [vR 20, vI x1, vI x2, vX 9] [] (WS L σ) (fun r w => R (d + 1) 56 37 [vR 19, vI x1, vI x2] (am_push r []) w Q) := K_aload_n fi_56_28 rfl <| K_gf fi_56_29 kd_19 mk_19_0 <| K_iload_n fi_56_32 rfl <| K_iload_n fi_56_33 rfl <| R_invV fi_56_34 (am_invV_of rfl (kd_20) (Nat.le_of_ble_eq_true rfl) (Nat.le_of_ble_eq_true rfl) rfl rfl)
theorem b56_37 {d L : Nat} {σ : St} {Q : Option AV → AW → Prop} {y0 : Int} {u0 u1 u2 : AV} : R d 56 37 [u0, u1, u2] [vI y0] (WS L σ) Q = R d 56 43 [u0, u1, u2] [vI y0] (WS L σ) Q := R_goto fi_56_37 rfl
theorem b56_40 {d L : Nat} {σ : St} {Q : Option AV → AW → Prop} {u0 u1 u2 : AV} : R d 56 40 [u0, u1, u2] [] (WS L σ) Q = R d 56 43 [u0, u1, u2] [vI (-1002)] (WS L σ) Q := K_sipush fi_56_40 <| rfl
theorem b56_43 {d L : Nat} {σ : St} {Q : Option AV → AW → Prop} {y0 : Int} {u0 u1 u2 : AV} : R d 56 43 [u0, u1, u2] [vI y0] (WS L σ) Q = Q (some (vI y0)) (WS L σ) := R_ireti fi_56_43 rfl
theorem fi_57_0 : am_find 57 0 = some (.iload_n 1, 1, 0, 0, 0) := by decide +kernel
theorem fi_57_1 : am_find 57 1 = some (.sipush 256, 3, 0, 256, 0) := by decide +kernel
theorem fi_57_4 : am_find 57 4 = some (.imul, 1, 0, 0, 0) := by decide +kernel
theorem fi_57_5 : am_find 57 5 = some (.iload_n 2, 1, 0, 0, 0) := by decide +kernel
theorem fi_57_6 : am_find 57 6 = some (.iadd, 1, 0, 0, 0) := by decide +kernel
theorem fi_57_7 : am_find 57 7 = some (.istore_n 3, 1, 0, 0, 0) := by decide +kernel
theorem fi_57_8 : am_find 57 8 = some (.iload_n 2, 1, 0, 0, 0) := by decide +kernel
theorem fi_57_9 : am_find 57 9 = some (.sipush 256, 3, 0, 256, 0) := by decide +kernel
theorem fi_57_12 : am_find 57 12 = some (.invokestatic 101, 3, 13, 2, 24) := by decide +kernel
theorem fi_57_15 : am_find 57 15 = some (.ifCond .eq 24, 3, 0, 0, 0) := by decide +kernel
theorem fi_57_18 : am_find 57 18 = some (.iload_n 3, 1, 0, 0, 0) := by decide +kernel
theorem fi_57_19 : am_find 57 19 = some (.aload_n 0, 1, 0, 0, 0) := by decide +kernel
theorem fi_57_20 : am_find 57 20 = some (.getfield 46, 3, 8, 13, 18) := by decide +kernel
theorem fi_57_23 : am_find 57 23 = some (.arraylength, 1, 0, 0, 0) := by decide +kernel
theorem fi_57_24 : am_find 57 24 = some (.invokestatic 101, 3, 13, 2, 24) := by decide +kernel
theorem fi_57_27 : am_find 57 27 = some (.ifCond .eq 12, 3, 0, 0, 0) := by decide +kernel
theorem fi_57_30 : am_find 57 30 = some (.aload_n 0, 1, 0, 0, 0) := by decide +kernel
theorem fi_57_31 : am_find 57 31 = some (.getfield 46, 3, 8, 13, 18) := by decide +kernel
theorem fi_57_34 : am_find 57 34 = some (.iload_n 3, 1, 0, 0, 0) := by decide +kernel
theorem fi_57_35 : am_find 57 35 = some (.iaload, 1, 0, 0, 0) := by decide +kernel
theorem fi_57_36 : am_find 57 36 = some (.goto 4, 3, 0, 0, 0) := by decide +kernel
theorem fi_57_39 : am_find 57 39 = some (.iconst 0, 1, 0, 0, 0) := by decide +kernel
theorem fi_57_40 : am_find 57 40 = some (.ireturn, 1, 0, 0, 0) := by decide +kernel
theorem b57_0 {d L : Nat} {σ : St} {Q : Option AV → AW → Prop} {x1 x2 : Int} {u0 u3 : AV} (h1 : -2147483648 ≤ x1 * 256 ∧ x1 * 256 ≤ 2147483647) (h2 : -2147483648 ≤ (x1 * 256) + x2 ∧ (x1 * 256) + x2 ≤ 2147483647) : R (d + 1) 57 0 [u0, vI x1, vI x2, u3] [] (WS L σ) Q = R d 13 0 [vI x2, vI 256] [] (WS L σ) (fun r w => R (d + 1) 57 15 [u0, vI x1, vI x2, vI ((x1 * 256) + x2)] (am_push r []) w Q) := K_iload_n fi_57_0 rfl <| K_sipush fi_57_1 <| K_imulx fi_57_4 h1 <| K_iload_n fi_57_5 rfl <| K_iaddx fi_57_6 h2 <| K_istore_n fi_57_7 (Nat.le_of_ble_eq_true rfl) rfl rfl <| K_iload_n fi_57_8 rfl <| K_sipush fi_57_9 <| R_invS fi_57_12 (by decide) (am_invS_of (Nat.le_of_ble_eq_true rfl) rfl (Nat.le_of_ble_eq_true rfl) (Nat.le_of_ble_eq_true rfl) rfl rfl)
theorem b57_15 {d L : Nat} {σ : St} {Q : Option AV → AW → Prop} {y0 : Int} {u0 u1 u2 u3 : AV} : R d 57 15 [u0, u1, u2, u3] [vI y0] (WS L σ) Q = if y0 = 0 then R d 57 39 [u0, u1, u2, u3] [] (WS L σ) Q else R d 57 18 [u0, u1, u2, u3] [] (WS L σ) Q := R_if_eq fi_57_15 rfl
theorem b57_18 {d L : Nat} {σ : St} {Q : Option AV → AW → Prop} {x3 : Int} {u1 u2 : AV} : R (d + 1) 57 18 [vR 20, u1, u2, vI x3] [] (WS L σ) Q = R d 13 0 [vI x3, vI 768] [] (WS L σ) (fun r w => R (d + 1) 57 27 [vR 20, u1, u2, vI x3] (am_push r []) w Q) := K_iload_n fi_57_18 rfl <| K_aload_n fi_57_19 rfl <| K_gf fi_57_20 kd_20 mk_20_13 <| K_alenx fi_57_23 (Or.inl kd_31) rfl <| R_invS fi_57_24 (by decide) (am_invS_of (Nat.le_of_ble_eq_true rfl) rfl (Nat.le_of_ble_eq_true rfl) (Nat.le_of_ble_eq_true rfl) rfl rfl)
theorem b57_27 {d L : Nat} {σ : St} {Q : Option AV → AW → Prop} {y0 : Int} {u0 u1 u2 u3 : AV} : R d 57 27 [u0, u1, u2, u3] [vI y0] (WS L σ) Q = if y0 = 0 then R d 57 39 [u0, u1, u2, u3] [] (WS L σ) Q else R d 57 30 [u0, u1, u2, u3] [] (WS L σ) Q := R_if_eq fi_57_27 rfl
theorem b57_30 {d L : Nat} {σ : St} {Q : Option AV → AW → Prop} {x3 : Int} {u1 u2 : AV} (h1 : 0 ≤ x3) (h2 : x3 < 768) : R d 57 30 [vR 20, u1, u2, vI x3] [] (WS L σ) Q = R d 57 40 [vR 20, u1, u2, vI x3] [vI (σ 31 x3)] (WS L σ) Q := K_aload_n fi_57_30 rfl <| K_gf fi_57_31 kd_20 mk_20_13 <| K_iload_n fi_57_34 rfl <| K_ia fi_57_35 kd_31 h1 h2 <| R_goto fi_57_36 rfl
theorem b57_39 {d L : Nat} {σ : St} {Q : Option AV → AW → Prop} {u0 u1 u2 u3 : AV} : R d 57 39 [u0, u1, u2, u3] [] (WS L σ) Q = R d 57 40 [u0, u1, u2, u3] [vI 0] (WS L σ) Q := K_iconst fi_57_39 <| rfl
theorem b57_40 {d L : Nat} {σ : St} {Q : Option AV → AW → Prop} {y0 : Int} {u0 u1 u2 u3 : AV} : R d 57 40 [u0, u1, u2, u3] [vI y0] (WS L σ) Q = Q (some (vI y0)) (WS L σ) := R_ireti fi_57_40 rfl
theorem fi_58_0 : am_find 58 0 = some (.iload_n 1, 1, 0, 0, 0) := by decide +kernel
theorem fi_58_1 : am_find 58 1 = some (.iconst 4, 1, 0, 4, 0) := by decide +kernel
theorem fi_58_2 : am_find 58 2 = some (.invokestatic 72, 3, 13, 2, 14) := by decide +kernel
theorem fi_58_5 : am_find 58 5 = some (.ifCond .ne 5, 3, 0, 0, 0) := by decide +kernel
theorem fi_58_8 : am_find 58 8 = some (.iconst (-1), 1, 0, (-1), 0) := by decide +kernel
theorem fi_58_9 : am_find 58 9 = some (.ireturn, 1, 0, 0, 0) := by decide +kernel
theorem fi_58_10 : am_find 58 10 = some (.aload_n 0, 1, 0, 0, 0) := by decide +kernel
theorem fi_58_11 : am_find 58 11 = some (.getfield 10, 3, 9, 0, 0) := by decide +kernel
theorem fi_58_14 : am_find 58 14 = some (.getfield 138, 3, 8, 3, 58) := by decide +kernel
theorem fi_58_17 : am_find 58 17 = some (.istore_n 2, 1, 0, 0, 0) := by decide +kernel
theorem fi_58_18 : am_find 58 18 = some (.aload_n 0, 1, 0, 0, 0) := by decide +kernel
theorem fi_58_19 : am_find 58 19 = some (.getfield 10, 3, 9, 0, 0) := by decide +kernel
theorem fi_58_22 : am_find 58 22 = some (.iload_n 1, 1, 0, 0, 0) := by decide +kernel
theorem fi_58_23 : am_find 58 23 = some (.putfield 138, 3, 8, 3, 58) := by decide +kernel
theorem fi_58_26 : am_find 58 26 = some (.iload_n 2, 1, 0, 0, 0) := by decide +kernel
theorem fi_58_27 : am_find 58 27 = some (.ireturn, 1, 0, 0, 0) := by decide +kernel
theorem b58_0 {d L : Nat} {σ : St} {Q : Option AV → AW → Prop} {x1 : Int} {u0 u2 : AV} : R (d + 1) 58 0 [u0, vI x1, u2] [] (WS L σ) Q = R d 13 0 [vI x1, vI 4] [] (WS L σ) (fun r w => R (d + 1) 58 5 [u0, vI x1, u2] (am_push r []) w Q) := K_iload_n fi_58_0 rfl <| K_iconst fi_58_1 <| R_invS fi_58_2 (by decide) (am_invS_of (Nat.le_of_ble_eq_true rfl) rfl (Nat.le_of_ble_eq_true rfl) (Nat.le_of_ble_eq_true rfl) rfl rfl)
theorem b58_5 {d L : Nat} {σ : St} {Q : Option AV → AW → Prop} {y0 : Int} {u0 u1 u2 : AV} : R d 58 5 [u0, u1, u2] [vI y0] (WS L σ) Q = if ¬ y0 = 0 then R d 58 10 [u0, u1, u2] [] (WS L σ) Q else R d 58 8 [u0, u1, u2] [] (WS L σ) Q := R_if_ne fi_58_5 rfl
theorem b58_8 {d L : Nat} {σ : St} {Q : Option AV → AW → Prop} {u0 u1 u2 : AV} : R d 58 8 [u0, u1, u2] [] (WS L σ) Q = Q (some (vI (-1))) (WS L σ) := K_iconst fi_58_8 <| R_ireti fi_58_9 rfl
theorem b58_10 {d L : Nat} {σ : St} {Q : Option AV → AW → Prop} {x1 : Int} {u2 : AV} : R d 58 10 [vR 19, vI x1, u2] [] (WS L σ) Q = R d 58 26 [vR 19, vI x1, vI (σ 20 3)] [] (WS L (st2 σ 20 3 x1)) Q := K_aload_n fi_58_10 rfl <| K_gf fi_58_11 kd_19 mk_19_0 <| K_gf fi_58_14 kd_20 mk_20_3 <| K_istore_n fi_58_17 (Nat.le_of_ble_eq_true rfl) rfl rfl <| K_aload_n fi_58_18 rfl <| K_gf fi_58_19 kd_19 mk_19_0 <| K_iload_n fi_58_22 rfl <| K_pf fi_58_23 kd_20 rfl rfl rfl rfl <| rfl
theorem b58_26 {d L : Nat} {σ : St} {Q : Option AV → AW → Prop} {x2 : Int} {u0 u1 : AV} : R d 58 26 [u0, u1, vI x2] [] (WS L σ) Q = Q (some (vI x2)) (WS L σ) := K_iload_n fi_58_26 rfl <| R_ireti fi_58_27 rfl
theorem fi_59_0 : am_find 59 0 = some (.iload_n 1, 1, 0, 0, 0) := by decide +kernel
theorem fi_59_1 : am_find 59 1 = some (.iconst 1, 1, 0, 1, 0) := by decide +kernel
theorem fi_59_2 : am_find 59 2 = some (.iadd, 1, 0, 0, 0) := by decide +kernel
theorem fi_59_3 : am_find 59 3 = some (.iconst 4, 1, 0, 4, 0) := by decide +kernel
theorem fi_59_4 : am_find 59 4 = some (.invokestatic 72, 3, 13, 2, 14) := by decide +kernel
theorem fi_59_7 : am_find 59 7 = some (.ifCond .eq 17, 3, 0, 0, 0) := by decide +kernel
theorem fi_59_10 : am_find 59 10 = some (.aload_n 0, 1, 0, 0, 0) := by decide +kernel
theorem fi_59_11 : am_find 59 11 = some (.getfield 10, 3, 9, 0, 0) := by decide +kernel
theorem fi_59_14 : am_find 59 14 = some (.getfield 141, 3, 8, 7, 59) := by decide +kernel
theorem fi_59_17 : am_find 59 17 = some (.iload_n 1, 1, 0, 0, 0) := by decide +kernel
theorem fi_59_18 : am_find 59 18 = some (.invokestatic 144, 3, 60, 2, 58) := by decide +kernel
theorem fi_59_21 : am_find 59 21 = some (.goto 4, 3, 0, 0, 0) := by decide +kernel
theorem fi_59_24 : am_find 59 24 = some (.iconst (-1), 1, 0, (-1), 0) := by decide +kernel
theorem fi_59_25 : am_find 59 25 = some (.ireturn, 1, 0, 0, 0) := by decide +kernel
theorem b59_0 {d L : Nat} {σ : St} {Q : Option AV → AW → Prop} {x1 : Int} {u0 : AV} (h1 : -2147483648 ≤ x1 + 1 ∧ x1 + 1 ≤ 2147483647) : R (d + 1) 59 0 [u0, vI x1] [] (WS L σ) Q = R d 13 0 [vI (x1 + 1), vI 4] [] (WS L σ) (fun r w => R (d + 1) 59 7 [u0, vI x1] (am_push r []) w Q) := K_iload_n fi_59_0 rfl <| K_iconst fi_59_1 <| K_iaddx fi_59_2 h1 <| K_iconst fi_59_3 <| R_invS fi_59_4 (by decide) (am_invS_of (Nat.le_of_ble_eq_true rfl) rfl (Nat.le_of_ble_eq_true rfl) (Nat.le_of_ble_eq_true rfl) rfl rfl)
theorem b59_7 {d L : Nat} {σ : St} {Q : Option AV → AW → Prop} {y0 : Int} {u0 u1 : AV} : R d 59 7 [u0, u1] [vI y0] (WS L σ) Q = if y0 = 0 then R d 59 24 [u0, u1] [] (WS L σ) Q else R d 59 10 [u0, u1] [] (WS L σ) Q := R_if_eq fi_59_7 rfl
theorem b59_10 {d L : Nat} {σ : St} {Q : Option AV → AW → Prop} {x1 : Int} : R (d + 1) 59 10 [vR 19, vI x1] [] (WS L σ) Q = R d 60 0 [vR 23, vI x1] [] (WS L σ) (fun r w => R (d + 1) 59 21 [vR 19, vI x1] (am_push r []) w Q) := K_aload_n fi_59_10 rfl <| K_gf fi_59_11 kd_19 mk_19_0 <| K_gf fi_59_14 kd_20 mk_20_7 <| K_iload_n fi_59_17 rfl <| R_invS fi_59_18 (by decide) (am_invS_of (Nat.le_of_ble_eq_true rfl) rfl (Nat.le_of_ble_eq_true rfl) (Nat.le_of_ble_eq_true rfl) rfl rfl)
theorem b59_21 {d L : Nat} {σ : St} {Q : Option AV → AW → Prop} {y0 : Int} {u0 u1 : AV} : R d 59 21 [u0, u1] [vI y0] (WS L σ) Q = R d 59 25 [u0, u1] [vI y0] (WS L σ) Q := R_goto fi_59_21 rfl
theorem b59_24 {d L : Nat} {σ : St} {Q : Option AV → AW → Prop} {u0 u1 : AV} : R d 59 24 [u0, u1] [] (WS L σ) Q = R d 59 25 [u0, u1] [vI (-1)] (WS L σ) Q := K_iconst fi_59_24 <| rfl
theorem b59_25 {d L : Nat} {σ : St} {Q : Option AV → AW → Prop} {y0 : Int} {u0 u1 : AV} : R d 59 25 [u0, u1] [vI y0] (WS L σ) Q = Q (some (vI y0)) (WS L σ) := R_ireti fi_59_25 rfl
