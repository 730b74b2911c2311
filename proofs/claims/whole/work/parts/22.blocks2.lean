/-! block lemmas (printed by wip/whole/gen_blocks.py): methods 110 to 143 -/
theorem fi_110_0 : am_find 110 0 = some (.aload_n 0, 1, 0, 0, 0) := by decide +kernel
theorem fi_110_1 : am_find 110 1 = some (.getfield 9, 3, 6, 0, 37) := by decide +kernel
theorem fi_110_4 : am_find 110 4 = some (.invokevirtual 15, 3, 34, 0, 129) := by decide +kernel
theorem fi_110_7 : am_find 110 7 = some (.istore_n 1, 1, 0, 0, 0) := by decide +kernel
theorem fi_110_8 : am_find 110 8 = some (.aload_n 0, 1, 0, 0, 0) := by decide +kernel
theorem fi_110_9 : am_find 110 9 = some (.ldc 21, 2, 0, 1000000, 888) := by decide +kernel
theorem fi_110_11 : am_find 110 11 = some (.putfield 22, 3, 6, 2, 80) := by decide +kernel
theorem fi_110_14 : am_find 110 14 = some (.iconst 0, 1, 0, 0, 0) := by decide +kernel
theorem fi_110_15 : am_find 110 15 = some (.istore_n 2, 1, 0, 0, 0) := by decide +kernel
theorem fi_110_16 : am_find 110 16 = some (.iload_n 2, 1, 0, 0, 0) := by decide +kernel
theorem fi_110_17 : am_find 110 17 = some (.iload_n 1, 1, 0, 0, 0) := by decide +kernel
theorem fi_110_18 : am_find 110 18 = some (.if_icmp .gt 68, 3, 0, 0, 0) := by decide +kernel
theorem fi_110_21 : am_find 110 21 = some (.iload_n 2, 1, 0, 0, 0) := by decide +kernel
theorem fi_110_22 : am_find 110 22 = some (.invokestatic 26, 3, 42, 1, 130) := by decide +kernel
theorem fi_110_25 : am_find 110 25 = some (.aload_n 0, 1, 0, 0, 0) := by decide +kernel
theorem fi_110_26 : am_find 110 26 = some (.getfield 9, 3, 6, 0, 37) := by decide +kernel
theorem fi_110_29 : am_find 110 29 = some (.getfield 32, 3, 8, 0, 81) := by decide +kernel
theorem fi_110_32 : am_find 110 32 = some (.iconst 2, 1, 0, 2, 0) := by decide +kernel
theorem fi_110_33 : am_find 110 33 = some (.idiv, 1, 0, 0, 0) := by decide +kernel
theorem fi_110_34 : am_find 110 34 = some (.if_icmp .ne 46, 3, 0, 0, 0) := by decide +kernel
theorem fi_110_37 : am_find 110 37 = some (.aload_n 0, 1, 0, 0, 0) := by decide +kernel
theorem fi_110_38 : am_find 110 38 = some (.getfield 9, 3, 6, 0, 37) := by decide +kernel
theorem fi_110_41 : am_find 110 41 = some (.iload_n 2, 1, 0, 0, 0) := by decide +kernel
theorem fi_110_42 : am_find 110 42 = some (.invokevirtual 35, 3, 40, 1, 131) := by decide +kernel
theorem fi_110_45 : am_find 110 45 = some (.aload_n 0, 1, 0, 0, 0) := by decide +kernel
theorem fi_110_46 : am_find 110 46 = some (.getfield 9, 3, 6, 0, 37) := by decide +kernel
theorem fi_110_49 : am_find 110 49 = some (.iload_n 1, 1, 0, 0, 0) := by decide +kernel
theorem fi_110_50 : am_find 110 50 = some (.iload_n 2, 1, 0, 0, 0) := by decide +kernel
theorem fi_110_51 : am_find 110 51 = some (.iconst (-1), 1, 0, (-1), 0) := by decide +kernel
theorem fi_110_52 : am_find 110 52 = some (.ixor, 1, 0, 0, 0) := by decide +kernel
theorem fi_110_53 : am_find 110 53 = some (.iand, 1, 0, 0, 0) := by decide +kernel
theorem fi_110_54 : am_find 110 54 = some (.invokevirtual 35, 3, 40, 1, 131) := by decide +kernel
theorem fi_110_57 : am_find 110 57 = some (.isub, 1, 0, 0, 0) := by decide +kernel
theorem fi_110_58 : am_find 110 58 = some (.invokestatic 38, 3, 9992, 0, 891) := by decide +kernel
theorem fi_110_61 : am_find 110 61 = some (.istore_n 3, 1, 0, 0, 0) := by decide +kernel
theorem fi_110_62 : am_find 110 62 = some (.iload_n 3, 1, 0, 0, 0) := by decide +kernel
theorem fi_110_63 : am_find 110 63 = some (.aload_n 0, 1, 0, 0, 0) := by decide +kernel
theorem fi_110_64 : am_find 110 64 = some (.getfield 22, 3, 6, 2, 80) := by decide +kernel
theorem fi_110_67 : am_find 110 67 = some (.if_icmp .ge 13, 3, 0, 0, 0) := by decide +kernel
theorem fi_110_70 : am_find 110 70 = some (.aload_n 0, 1, 0, 0, 0) := by decide +kernel
theorem fi_110_71 : am_find 110 71 = some (.iload_n 3, 1, 0, 0, 0) := by decide +kernel
theorem fi_110_72 : am_find 110 72 = some (.putfield 22, 3, 6, 2, 80) := by decide +kernel
theorem fi_110_75 : am_find 110 75 = some (.aload_n 0, 1, 0, 0, 0) := by decide +kernel
theorem fi_110_76 : am_find 110 76 = some (.iload_n 2, 1, 0, 0, 0) := by decide +kernel
theorem fi_110_77 : am_find 110 77 = some (.putfield 43, 3, 6, 1, 82) := by decide +kernel
theorem fi_110_80 : am_find 110 80 = some (.iinc 2 1, 3, 0, 0, 0) := by decide +kernel
theorem fi_110_83 : am_find 110 83 = some (.goto (-67), 3, 0, 0, 0) := by decide +kernel
theorem fi_110_86 : am_find 110 86 = some (.return_, 1, 0, 0, 0) := by decide +kernel
theorem b110_0 {d L : Nat} {σ : St} {Q : Option AV → AW → Prop} {u1 u2 u3 : AV} : R (d + 1) 110 0 [vR 146, u1, u2, u3] [] (WS L σ) Q = R d 34 0 [vR 20] [] (WS L σ) (fun r w => R (d + 1) 110 7 [vR 146, u1, u2, u3] (am_push r []) w Q) := K_aload_n fi_110_0 rfl <| K_gf fi_110_1 kd_146 mk_146_0 <| R_invV fi_110_4 (am_invV_of rfl (kd_20) (Nat.le_of_ble_eq_true rfl) (Nat.le_of_ble_eq_true rfl) rfl rfl)
theorem b110_7 {d L : Nat} {σ : St} {Q : Option AV → AW → Prop} {y0 : Int} {u1 u2 u3 : AV} : R d 110 7 [vR 146, u1, u2, u3] [vI y0] (WS L σ) Q = R d 110 14 [vR 146, vI y0, u2, u3] [] (WS L (st2 σ 146 2 1000000)) Q := K_istore_n fi_110_7 (Nat.le_of_ble_eq_true rfl) rfl rfl <| K_aload_n fi_110_8 rfl <| K_ldci fi_110_9 <| K_pf fi_110_11 kd_146 rfl rfl rfl rfl <| rfl
theorem b110_14 {d L : Nat} {σ : St} {Q : Option AV → AW → Prop} {x1 : Int} {u0 u2 u3 : AV} : R d 110 14 [u0, vI x1, u2, u3] [] (WS L σ) Q = R d 110 16 [u0, vI x1, vI 0, u3] [] (WS L σ) Q := K_iconst fi_110_14 <| K_istore_n fi_110_15 (Nat.le_of_ble_eq_true rfl) rfl rfl <| rfl
theorem b110_16 {d L : Nat} {σ : St} {Q : Option AV → AW → Prop} {x2 x1 : Int} {u0 u3 : AV} : R d 110 16 [u0, vI x1, vI x2, u3] [] (WS L σ) Q = if x1 < x2 then R d 110 86 [u0, vI x1, vI x2, u3] [] (WS L σ) Q else R d 110 21 [u0, vI x1, vI x2, u3] [] (WS L σ) Q := K_iload_n fi_110_16 rfl <| K_iload_n fi_110_17 rfl <| R_icmp_gt fi_110_18 rfl
theorem b110_21 {d L : Nat} {σ : St} {Q : Option AV → AW → Prop} {x2 : Int} {u0 u1 u3 : AV} : R (d + 1) 110 21 [u0, u1, vI x2, u3] [] (WS L σ) Q = R d 42 0 [vI x2] [] (WS L σ) (fun r w => R (d + 1) 110 25 [u0, u1, vI x2, u3] (am_push r []) w Q) := K_iload_n fi_110_21 rfl <| R_invS fi_110_22 (by decide) (am_invS_of (Nat.le_of_ble_eq_true rfl) rfl (Nat.le_of_ble_eq_true rfl) (Nat.le_of_ble_eq_true rfl) rfl rfl)
theorem b110_25 {d L : Nat} {σ : St} {Q : Option AV → AW → Prop} {y0 : Int} {u1 u2 u3 : AV} : R d 110 25 [vR 146, u1, u2, u3] [vI y0] (WS L σ) Q = if ¬ y0 = (i_div (σ 20 0) 2) then R d 110 80 [vR 146, u1, u2, u3] [] (WS L σ) Q else R d 110 37 [vR 146, u1, u2, u3] [] (WS L σ) Q := K_aload_n fi_110_25 rfl <| K_gf fi_110_26 kd_146 mk_146_0 <| K_gf fi_110_29 kd_20 mk_20_0 <| K_iconst fi_110_32 <| K_idiv fi_110_33 (by decide) <| R_icmp_ne fi_110_34 rfl
theorem b110_37 {d L : Nat} {σ : St} {Q : Option AV → AW → Prop} {x2 : Int} {u1 u3 : AV} : R (d + 1) 110 37 [vR 146, u1, vI x2, u3] [] (WS L σ) Q = R d 40 0 [vR 20, vI x2, vX 9, vX 9] [] (WS L σ) (fun r w => R (d + 1) 110 45 [vR 146, u1, vI x2, u3] (am_push r []) w Q) := K_aload_n fi_110_37 rfl <| K_gf fi_110_38 kd_146 mk_146_0 <| K_iload_n fi_110_41 rfl <| R_invV fi_110_42 (am_invV_of rfl (kd_20) (Nat.le_of_ble_eq_true rfl) (Nat.le_of_ble_eq_true rfl) rfl rfl)
theorem b110_45 {d L : Nat} {σ : St} {Q : Option AV → AW → Prop} {y0 x1 x2 : Int} {u3 : AV} : R (d + 1) 110 45 [vR 146, vI x1, vI x2, u3] [vI y0] (WS L σ) Q = R d 40 0 [vR 20, vI (i_and x1 (i_xor x2 (-1))), vX 9, vX 9] [] (WS L σ) (fun r w => R (d + 1) 110 57 [vR 146, vI x1, vI x2, u3] (am_push r [vI y0]) w Q) := K_aload_n fi_110_45 rfl <| K_gf fi_110_46 kd_146 mk_146_0 <| K_iload_n fi_110_49 rfl <| K_iload_n fi_110_50 rfl <| K_iconst fi_110_51 <| K_ixor fi_110_52 <| K_iand fi_110_53 <| R_invV fi_110_54 (am_invV_of rfl (kd_20) (Nat.le_of_ble_eq_true rfl) (Nat.le_of_ble_eq_true rfl) rfl rfl)
theorem b110_57 {d L : Nat} {σ : St} {Q : Option AV → AW → Prop} {y0 y1 : Int} {u1 u2 u3 : AV} (h1 : -2147483648 ≤ y1 - y0 ∧ y1 - y0 ≤ 2147483647) : R d 110 57 [vR 146, u1, u2, u3] [vI y0, vI y1] (WS L σ) Q = if (σ 146 2) ≤ (i_abs (y1 - y0)) then R d 110 80 [vR 146, u1, u2, vI (i_abs (y1 - y0))] [] (WS L σ) Q else R d 110 70 [vR 146, u1, u2, vI (i_abs (y1 - y0))] [] (WS L σ) Q := K_isubx fi_110_57 h1 <| K_abs fi_110_58 (Nat.le_of_ble_eq_true rfl) <| K_istore_n fi_110_61 (Nat.le_of_ble_eq_true rfl) rfl rfl <| K_iload_n fi_110_62 rfl <| K_aload_n fi_110_63 rfl <| K_gf fi_110_64 kd_146 mk_146_2 <| R_icmp_ge fi_110_67 rfl
theorem b110_70 {d L : Nat} {σ : St} {Q : Option AV → AW → Prop} {x3 : Int} {u1 u2 : AV} : R d 110 70 [vR 146, u1, u2, vI x3] [] (WS L σ) Q = R d 110 75 [vR 146, u1, u2, vI x3] [] (WS L (st2 σ 146 2 x3)) Q := K_aload_n fi_110_70 rfl <| K_iload_n fi_110_71 rfl <| K_pf fi_110_72 kd_146 rfl rfl rfl rfl <| rfl
theorem b110_75 {d L : Nat} {σ : St} {Q : Option AV → AW → Prop} {x2 : Int} {u1 u3 : AV} : R d 110 75 [vR 146, u1, vI x2, u3] [] (WS L σ) Q = R d 110 80 [vR 146, u1, vI x2, u3] [] (WS L (st2 σ 146 1 x2)) Q := K_aload_n fi_110_75 rfl <| K_iload_n fi_110_76 rfl <| K_pf fi_110_77 kd_146 rfl rfl rfl rfl <| rfl
theorem b110_80 {d L : Nat} {σ : St} {Q : Option AV → AW → Prop} {x2 x1 : Int} {u0 u3 : AV} (h1 : -2147483648 ≤ x2 + 1 ∧ x2 + 1 ≤ 2147483647) : R d 110 80 [u0, vI x1, vI x2, u3] [] (WS L σ) Q = R d 110 16 [u0, vI x1, vI (x2 + 1), u3] [] (WS L σ) Q := K_iincx fi_110_80 rfl (Nat.le_of_ble_eq_true rfl) rfl h1 rfl <| R_goto fi_110_83 rfl
theorem b110_86 {d L : Nat} {σ : St} {Q : Option AV → AW → Prop} {u0 u1 u2 u3 : AV} : R d 110 86 [u0, u1, u2, u3] [] (WS L σ) Q = Q none (WS L σ) := R_return fi_110_86
theorem fi_111_0 : am_find 111 0 = some (.iload_n 1, 1, 0, 0, 0) := by decide +kernel
theorem fi_111_1 : am_find 111 1 = some (.iconst 3, 1, 0, 3, 0) := by decide +kernel
theorem fi_111_2 : am_find 111 2 = some (.invokestatic 72, 3, 13, 2, 14) := by decide +kernel
theorem fi_111_5 : am_find 111 5 = some (.ifCond .eq 19, 3, 0, 0, 0) := by decide +kernel
theorem fi_111_8 : am_find 111 8 = some (.iload_n 2, 1, 0, 0, 0) := by decide +kernel
theorem fi_111_9 : am_find 111 9 = some (.iconst 3, 1, 0, 3, 0) := by decide +kernel
theorem fi_111_10 : am_find 111 10 = some (.invokestatic 72, 3, 13, 2, 14) := by decide +kernel
theorem fi_111_13 : am_find 111 13 = some (.ifCond .eq 11, 3, 0, 0, 0) := by decide +kernel
theorem fi_111_16 : am_find 111 16 = some (.iload_n 3, 1, 0, 0, 0) := by decide +kernel
theorem fi_111_17 : am_find 111 17 = some (.iconst 2, 1, 0, 2, 0) := by decide +kernel
theorem fi_111_18 : am_find 111 18 = some (.invokestatic 72, 3, 13, 2, 14) := by decide +kernel
theorem fi_111_21 : am_find 111 21 = some (.ifCond .ne 5, 3, 0, 0, 0) := by decide +kernel
theorem fi_111_24 : am_find 111 24 = some (.iconst (-1), 1, 0, (-1), 0) := by decide +kernel
theorem fi_111_25 : am_find 111 25 = some (.ireturn, 1, 0, 0, 0) := by decide +kernel
theorem fi_111_26 : am_find 111 26 = some (.iload_n 1, 1, 0, 0, 0) := by decide +kernel
theorem fi_111_27 : am_find 111 27 = some (.iload_n 2, 1, 0, 0, 0) := by decide +kernel
theorem fi_111_28 : am_find 111 28 = some (.if_icmp .ne 6, 3, 0, 0, 0) := by decide +kernel
theorem fi_111_31 : am_find 111 31 = some (.bipush (-2), 2, 0, (-2), 0) := by decide +kernel
theorem fi_111_33 : am_find 111 33 = some (.ireturn, 1, 0, 0, 0) := by decide +kernel
theorem fi_111_34 : am_find 111 34 = some (.aload_n 0, 1, 0, 0, 0) := by decide +kernel
theorem fi_111_35 : am_find 111 35 = some (.getfield 54, 3, 9, 6, 6) := by decide +kernel
theorem fi_111_38 : am_find 111 38 = some (.iload_n 1, 1, 0, 0, 0) := by decide +kernel
theorem fi_111_39 : am_find 111 39 = some (.iload_n 2, 1, 0, 0, 0) := by decide +kernel
theorem fi_111_40 : am_find 111 40 = some (.invokevirtual 227, 3, 112, 2, 132) := by decide +kernel
theorem fi_111_43 : am_find 111 43 = some (.iload_n 3, 1, 0, 0, 0) := by decide +kernel
theorem fi_111_44 : am_find 111 44 = some (.ifCond .ne 13, 3, 0, 0, 0) := by decide +kernel
theorem fi_111_47 : am_find 111 47 = some (.aload_n 0, 1, 0, 0, 0) := by decide +kernel
theorem fi_111_48 : am_find 111 48 = some (.getfield 54, 3, 9, 6, 6) := by decide +kernel
theorem fi_111_51 : am_find 111 51 = some (.getfield 221, 3, 6, 1, 78) := by decide +kernel
theorem fi_111_54 : am_find 111 54 = some (.goto 10, 3, 0, 0, 0) := by decide +kernel
theorem fi_111_57 : am_find 111 57 = some (.aload_n 0, 1, 0, 0, 0) := by decide +kernel
theorem fi_111_58 : am_find 111 58 = some (.getfield 54, 3, 9, 6, 6) := by decide +kernel
theorem fi_111_61 : am_find 111 61 = some (.getfield 230, 3, 6, 3, 83) := by decide +kernel
theorem fi_111_64 : am_find 111 64 = some (.ireturn, 1, 0, 0, 0) := by decide +kernel
theorem b111_0 {d L : Nat} {σ : St} {Q : Option AV → AW → Prop} {x1 : Int} {u0 u2 u3 : AV} : R (d + 1) 111 0 [u0, vI x1, u2, u3] [] (WS L σ) Q = R d 13 0 [vI x1, vI 3] [] (WS L σ) (fun r w => R (d + 1) 111 5 [u0, vI x1, u2, u3] (am_push r []) w Q) := K_iload_n fi_111_0 rfl <| K_iconst fi_111_1 <| R_invS fi_111_2 (by decide) (am_invS_of (Nat.le_of_ble_eq_true rfl) rfl (Nat.le_of_ble_eq_true rfl) (Nat.le_of_ble_eq_true rfl) rfl rfl)
theorem b111_5 {d L : Nat} {σ : St} {Q : Option AV → AW → Prop} {y0 : Int} {u0 u1 u2 u3 : AV} : R d 111 5 [u0, u1, u2, u3] [vI y0] (WS L σ) Q = if y0 = 0 then R d 111 24 [u0, u1, u2, u3] [] (WS L σ) Q else R d 111 8 [u0, u1, u2, u3] [] (WS L σ) Q := R_if_eq fi_111_5 rfl
theorem b111_8 {d L : Nat} {σ : St} {Q : Option AV → AW → Prop} {x2 : Int} {u0 u1 u3 : AV} : R (d + 1) 111 8 [u0, u1, vI x2, u3] [] (WS L σ) Q = R d 13 0 [vI x2, vI 3] [] (WS L σ) (fun r w => R (d + 1) 111 13 [u0, u1, vI x2, u3] (am_push r []) w Q) := K_iload_n fi_111_8 rfl <| K_iconst fi_111_9 <| R_invS fi_111_10 (by decide) (am_invS_of (Nat.le_of_ble_eq_true rfl) rfl (Nat.le_of_ble_eq_true rfl) (Nat.le_of_ble_eq_true rfl) rfl rfl)
theorem b111_13 {d L : Nat} {σ : St} {Q : Option AV → AW → Prop} {y0 : Int} {u0 u1 u2 u3 : AV} : R d 111 13 [u0, u1, u2, u3] [vI y0] (WS L σ) Q = if y0 = 0 then R d 111 24 [u0, u1, u2, u3] [] (WS L σ) Q else R d 111 16 [u0, u1, u2, u3] [] (WS L σ) Q := R_if_eq fi_111_13 rfl
theorem b111_16 {d L : Nat} {σ : St} {Q : Option AV → AW → Prop} {x3 : Int} {u0 u1 u2 : AV} : R (d + 1) 111 16 [u0, u1, u2, vI x3] [] (WS L σ) Q = R d 13 0 [vI x3, vI 2] [] (WS L σ) (fun r w => R (d + 1) 111 21 [u0, u1, u2, vI x3] (am_push r []) w Q) := K_iload_n fi_111_16 rfl <| K_iconst fi_111_17 <| R_invS fi_111_18 (by decide) (am_invS_of (Nat.le_of_ble_eq_true rfl) rfl (Nat.le_of_ble_eq_true rfl) (Nat.le_of_ble_eq_true rfl) rfl rfl)
theorem b111_21 {d L : Nat} {σ : St} {Q : Option AV → AW → Prop} {y0 : Int} {u0 u1 u2 u3 : AV} : R d 111 21 [u0, u1, u2, u3] [vI y0] (WS L σ) Q = if ¬ y0 = 0 then R d 111 26 [u0, u1, u2, u3] [] (WS L σ) Q else R d 111 24 [u0, u1, u2, u3] [] (WS L σ) Q := R_if_ne fi_111_21 rfl
theorem b111_24 {d L : Nat} {σ : St} {Q : Option AV → AW → Prop} {u0 u1 u2 u3 : AV} : R d 111 24 [u0, u1, u2, u3] [] (WS L σ) Q = Q (some (vI (-1))) (WS L σ) := K_iconst fi_111_24 <| R_ireti fi_111_25 rfl
theorem b111_26 {d L : Nat} {σ : St} {Q : Option AV → AW → Prop} {x1 x2 : Int} {u0 u3 : AV} : R d 111 26 [u0, vI x1, vI x2, u3] [] (WS L σ) Q = if ¬ x1 = x2 then R d 111 34 [u0, vI x1, vI x2, u3] [] (WS L σ) Q else R d 111 31 [u0, vI x1, vI x2, u3] [] (WS L σ) Q := K_iload_n fi_111_26 rfl <| K_iload_n fi_111_27 rfl <| R_icmp_ne fi_111_28 rfl
theorem b111_31 {d L : Nat} {σ : St} {Q : Option AV → AW → Prop} {u0 u1 u2 u3 : AV} : R d 111 31 [u0, u1, u2, u3] [] (WS L σ) Q = Q (some (vI (-2))) (WS L σ) := K_bipush fi_111_31 <| R_ireti fi_111_33 rfl
theorem b111_34 {d L : Nat} {σ : St} {Q : Option AV → AW → Prop} {x1 x2 : Int} {u3 : AV} : R (d + 1) 111 34 [vR 19, vI x1, vI x2, u3] [] (WS L σ) Q = R d 112 0 [vR 146, vI x1, vI x2, vX 9, vX 9, vX 9, vX 9, vX 9, vX 9] [] (WS L σ) (fun r w => R (d + 1) 111 43 [vR 19, vI x1, vI x2, u3] (am_push r []) w Q) := K_aload_n fi_111_34 rfl <| K_gf fi_111_35 kd_19 mk_19_6 <| K_iload_n fi_111_38 rfl <| K_iload_n fi_111_39 rfl <| R_invV fi_111_40 (am_invV_of rfl (kd_146) (Nat.le_of_ble_eq_true rfl) (Nat.le_of_ble_eq_true rfl) rfl rfl)
theorem b111_43 {d L : Nat} {σ : St} {Q : Option AV → AW → Prop} {x3 : Int} {u0 u1 u2 : AV} : R d 111 43 [u0, u1, u2, vI x3] [] (WS L σ) Q = if ¬ x3 = 0 then R d 111 57 [u0, u1, u2, vI x3] [] (WS L σ) Q else R d 111 47 [u0, u1, u2, vI x3] [] (WS L σ) Q := K_iload_n fi_111_43 rfl <| R_if_ne fi_111_44 rfl
theorem b111_47 {d L : Nat} {σ : St} {Q : Option AV → AW → Prop} {u1 u2 u3 : AV} : R d 111 47 [vR 19, u1, u2, u3] [] (WS L σ) Q = R d 111 64 [vR 19, u1, u2, u3] [vI (σ 146 1)] (WS L σ) Q := K_aload_n fi_111_47 rfl <| K_gf fi_111_48 kd_19 mk_19_6 <| K_gf fi_111_51 kd_146 mk_146_1 <| R_goto fi_111_54 rfl
theorem b111_57 {d L : Nat} {σ : St} {Q : Option AV → AW → Prop} {u1 u2 u3 : AV} : R d 111 57 [vR 19, u1, u2, u3] [] (WS L σ) Q = R d 111 64 [vR 19, u1, u2, u3] [vI (σ 146 3)] (WS L σ) Q := K_aload_n fi_111_57 rfl <| K_gf fi_111_58 kd_19 mk_19_6 <| K_gf fi_111_61 kd_146 mk_146_3 <| rfl
theorem b111_64 {d L : Nat} {σ : St} {Q : Option AV → AW → Prop} {y0 : Int} {u0 u1 u2 u3 : AV} : R d 111 64 [u0, u1, u2, u3] [vI y0] (WS L σ) Q = Q (some (vI y0)) (WS L σ) := R_ireti fi_111_64 rfl
theorem fi_112_0 : am_find 112 0 = some (.aload_n 0, 1, 0, 0, 0) := by decide +kernel
theorem fi_112_1 : am_find 112 1 = some (.getfield 9, 3, 6, 0, 37) := by decide +kernel
theorem fi_112_4 : am_find 112 4 = some (.invokevirtual 15, 3, 34, 0, 129) := by decide +kernel
theorem fi_112_7 : am_find 112 7 = some (.istore_n 3, 1, 0, 0, 0) := by decide +kernel
theorem fi_112_8 : am_find 112 8 = some (.ldc 46, 2, 0, (-1000000), 900) := by decide +kernel
theorem fi_112_10 : am_find 112 10 = some (.istore 4, 2, 0, 0, 0) := by decide +kernel
theorem fi_112_12 : am_find 112 12 = some (.iconst 0, 1, 0, 0, 0) := by decide +kernel
theorem fi_112_13 : am_find 112 13 = some (.istore 5, 2, 0, 0, 0) := by decide +kernel
theorem fi_112_15 : am_find 112 15 = some (.iload 5, 2, 0, 0, 0) := by decide +kernel
theorem fi_112_17 : am_find 112 17 = some (.iload_n 3, 1, 0, 0, 0) := by decide +kernel
theorem fi_112_18 : am_find 112 18 = some (.iconst 2, 1, 0, 2, 0) := by decide +kernel
theorem fi_112_19 : am_find 112 19 = some (.idiv, 1, 0, 0, 0) := by decide +kernel
theorem fi_112_20 : am_find 112 20 = some (.if_icmp .gt 84, 3, 0, 0, 0) := by decide +kernel
theorem fi_112_23 : am_find 112 23 = some (.iload_n 3, 1, 0, 0, 0) := by decide +kernel
theorem fi_112_24 : am_find 112 24 = some (.iload 5, 2, 0, 0, 0) := by decide +kernel
theorem fi_112_26 : am_find 112 26 = some (.iconst (-1), 1, 0, (-1), 0) := by decide +kernel
theorem fi_112_27 : am_find 112 27 = some (.ixor, 1, 0, 0, 0) := by decide +kernel
theorem fi_112_28 : am_find 112 28 = some (.iand, 1, 0, 0, 0) := by decide +kernel
theorem fi_112_29 : am_find 112 29 = some (.istore 6, 2, 0, 0, 0) := by decide +kernel
theorem fi_112_31 : am_find 112 31 = some (.aload_n 0, 1, 0, 0, 0) := by decide +kernel
theorem fi_112_32 : am_find 112 32 = some (.getfield 9, 3, 6, 0, 37) := by decide +kernel
theorem fi_112_35 : am_find 112 35 = some (.iload_n 2, 1, 0, 0, 0) := by decide +kernel
theorem fi_112_36 : am_find 112 36 = some (.iload 5, 2, 0, 0, 0) := by decide +kernel
theorem fi_112_38 : am_find 112 38 = some (.invokevirtual 47, 3, 57, 2, 133) := by decide +kernel
theorem fi_112_41 : am_find 112 41 = some (.aload_n 0, 1, 0, 0, 0) := by decide +kernel
theorem fi_112_42 : am_find 112 42 = some (.getfield 9, 3, 6, 0, 37) := by decide +kernel
theorem fi_112_45 : am_find 112 45 = some (.iload_n 2, 1, 0, 0, 0) := by decide +kernel
theorem fi_112_46 : am_find 112 46 = some (.iload 6, 2, 0, 0, 0) := by decide +kernel
theorem fi_112_48 : am_find 112 48 = some (.invokevirtual 47, 3, 57, 2, 133) := by decide +kernel
theorem fi_112_51 : am_find 112 51 = some (.if_icmp .lt 8, 3, 0, 0, 0) := by decide +kernel
theorem fi_112_54 : am_find 112 54 = some (.iload 6, 2, 0, 0, 0) := by decide +kernel
theorem fi_112_56 : am_find 112 56 = some (.goto 5, 3, 0, 0, 0) := by decide +kernel
theorem fi_112_59 : am_find 112 59 = some (.iload 5, 2, 0, 0, 0) := by decide +kernel
theorem fi_112_61 : am_find 112 61 = some (.istore 7, 2, 0, 0, 0) := by decide +kernel
theorem fi_112_63 : am_find 112 63 = some (.aload_n 0, 1, 0, 0, 0) := by decide +kernel
theorem fi_112_64 : am_find 112 64 = some (.getfield 9, 3, 6, 0, 37) := by decide +kernel
theorem fi_112_67 : am_find 112 67 = some (.iload_n 1, 1, 0, 0, 0) := by decide +kernel
theorem fi_112_68 : am_find 112 68 = some (.iload 7, 2, 0, 0, 0) := by decide +kernel
theorem fi_112_70 : am_find 112 70 = some (.invokevirtual 47, 3, 57, 2, 133) := by decide +kernel
theorem fi_112_73 : am_find 112 73 = some (.istore 8, 2, 0, 0, 0) := by decide +kernel
theorem fi_112_75 : am_find 112 75 = some (.iload 8, 2, 0, 0, 0) := by decide +kernel
theorem fi_112_77 : am_find 112 77 = some (.iload 4, 2, 0, 0, 0) := by decide +kernel
theorem fi_112_79 : am_find 112 79 = some (.if_icmp .le 19, 3, 0, 0, 0) := by decide +kernel
theorem fi_112_82 : am_find 112 82 = some (.iload 8, 2, 0, 0, 0) := by decide +kernel
theorem fi_112_84 : am_find 112 84 = some (.istore 4, 2, 0, 0, 0) := by decide +kernel
theorem fi_112_86 : am_find 112 86 = some (.aload_n 0, 1, 0, 0, 0) := by decide +kernel
theorem fi_112_87 : am_find 112 87 = some (.iload 5, 2, 0, 0, 0) := by decide +kernel
theorem fi_112_89 : am_find 112 89 = some (.putfield 43, 3, 6, 1, 82) := by decide +kernel
theorem fi_112_92 : am_find 112 92 = some (.aload_n 0, 1, 0, 0, 0) := by decide +kernel
theorem fi_112_93 : am_find 112 93 = some (.iload 7, 2, 0, 0, 0) := by decide +kernel
theorem fi_112_95 : am_find 112 95 = some (.putfield 51, 3, 6, 3, 84) := by decide +kernel
theorem fi_112_98 : am_find 112 98 = some (.iinc 5 1, 3, 0, 0, 0) := by decide +kernel
theorem fi_112_101 : am_find 112 101 = some (.goto (-86), 3, 0, 0, 0) := by decide +kernel
theorem fi_112_104 : am_find 112 104 = some (.return_, 1, 0, 0, 0) := by decide +kernel
theorem b112_0 {d L : Nat} {σ : St} {Q : Option AV → AW → Prop} {u1 u2 u3 u4 u5 u6 u7 u8 : AV} : R (d + 1) 112 0 [vR 146, u1, u2, u3, u4, u5, u6, u7, u8] [] (WS L σ) Q = R d 34 0 [vR 20] [] (WS L σ) (fun r w => R (d + 1) 112 7 [vR 146, u1, u2, u3, u4, u5, u6, u7, u8] (am_push r []) w Q) := K_aload_n fi_112_0 rfl <| K_gf fi_112_1 kd_146 mk_146_0 <| R_invV fi_112_4 (am_invV_of rfl (kd_20) (Nat.le_of_ble_eq_true rfl) (Nat.le_of_ble_eq_true rfl) rfl rfl)
theorem b112_7 {d L : Nat} {σ : St} {Q : Option AV → AW → Prop} {y0 : Int} {u0 u1 u2 u3 u4 u5 u6 u7 u8 : AV} : R d 112 7 [u0, u1, u2, u3, u4, u5, u6, u7, u8] [vI y0] (WS L σ) Q = R d 112 15 [u0, u1, u2, vI y0, vI (-1000000), vI 0, u6, u7, u8] [] (WS L σ) Q := K_istore_n fi_112_7 (Nat.le_of_ble_eq_true rfl) rfl rfl <| K_ldci fi_112_8 <| K_istore fi_112_10 (Nat.le_of_ble_eq_true rfl) rfl rfl <| K_iconst fi_112_12 <| K_istore fi_112_13 (Nat.le_of_ble_eq_true rfl) rfl rfl <| rfl
theorem b112_15 {d L : Nat} {σ : St} {Q : Option AV → AW → Prop} {x5 x3 : Int} {u0 u1 u2 u4 u6 u7 u8 : AV} : R d 112 15 [u0, u1, u2, vI x3, u4, vI x5, u6, u7, u8] [] (WS L σ) Q = if (i_div x3 2) < x5 then R d 112 104 [u0, u1, u2, vI x3, u4, vI x5, u6, u7, u8] [] (WS L σ) Q else R d 112 23 [u0, u1, u2, vI x3, u4, vI x5, u6, u7, u8] [] (WS L σ) Q := K_iload fi_112_15 rfl <| K_iload_n fi_112_17 rfl <| K_iconst fi_112_18 <| K_idiv fi_112_19 (by decide) <| R_icmp_gt fi_112_20 rfl
theorem b112_23 {d L : Nat} {σ : St} {Q : Option AV → AW → Prop} {x3 x5 x2 : Int} {u1 u4 u6 u7 u8 : AV} : R (d + 1) 112 23 [vR 146, u1, vI x2, vI x3, u4, vI x5, u6, u7, u8] [] (WS L σ) Q = R d 57 0 [vR 20, vI x2, vI x5, vX 9] [] (WS L σ) (fun r w => R (d + 1) 112 41 [vR 146, u1, vI x2, vI x3, u4, vI x5, vI (i_and x3 (i_xor x5 (-1))), u7, u8] (am_push r []) w Q) := K_iload_n fi_112_23 rfl <| K_iload fi_112_24 rfl <| K_iconst fi_112_26 <| K_ixor fi_112_27 <| K_iand fi_112_28 <| K_istore fi_112_29 (Nat.le_of_ble_eq_true rfl) rfl rfl <| K_aload_n fi_112_31 rfl <| K_gf fi_112_32 kd_146 mk_146_0 <| K_iload_n fi_112_35 rfl <| K_iload fi_112_36 rfl <| R_invV fi_112_38 (am_invV_of rfl (kd_20) (Nat.le_of_ble_eq_true rfl) (Nat.le_of_ble_eq_true rfl) rfl rfl)
theorem b112_41 {d L : Nat} {σ : St} {Q : Option AV → AW → Prop} {y0 x2 x6 : Int} {u1 u3 u4 u5 u7 u8 : AV} : R (d + 1) 112 41 [vR 146, u1, vI x2, u3, u4, u5, vI x6, u7, u8] [vI y0] (WS L σ) Q = R d 57 0 [vR 20, vI x2, vI x6, vX 9] [] (WS L σ) (fun r w => R (d + 1) 112 51 [vR 146, u1, vI x2, u3, u4, u5, vI x6, u7, u8] (am_push r [vI y0]) w Q) := K_aload_n fi_112_41 rfl <| K_gf fi_112_42 kd_146 mk_146_0 <| K_iload_n fi_112_45 rfl <| K_iload fi_112_46 rfl <| R_invV fi_112_48 (am_invV_of rfl (kd_20) (Nat.le_of_ble_eq_true rfl) (Nat.le_of_ble_eq_true rfl) rfl rfl)
theorem b112_51 {d L : Nat} {σ : St} {Q : Option AV → AW → Prop} {y0 y1 : Int} {u0 u1 u2 u3 u4 u5 u6 u7 u8 : AV} : R d 112 51 [u0, u1, u2, u3, u4, u5, u6, u7, u8] [vI y0, vI y1] (WS L σ) Q = if y1 < y0 then R d 112 59 [u0, u1, u2, u3, u4, u5, u6, u7, u8] [] (WS L σ) Q else R d 112 54 [u0, u1, u2, u3, u4, u5, u6, u7, u8] [] (WS L σ) Q := R_icmp_lt fi_112_51 rfl
theorem b112_54 {d L : Nat} {σ : St} {Q : Option AV → AW → Prop} {x6 : Int} {u0 u1 u2 u3 u4 u5 u7 u8 : AV} : R d 112 54 [u0, u1, u2, u3, u4, u5, vI x6, u7, u8] [] (WS L σ) Q = R d 112 61 [u0, u1, u2, u3, u4, u5, vI x6, u7, u8] [vI x6] (WS L σ) Q := K_iload fi_112_54 rfl <| R_goto fi_112_56 rfl
theorem b112_59 {d L : Nat} {σ : St} {Q : Option AV → AW → Prop} {x5 : Int} {u0 u1 u2 u3 u4 u6 u7 u8 : AV} : R d 112 59 [u0, u1, u2, u3, u4, vI x5, u6, u7, u8] [] (WS L σ) Q = R d 112 61 [u0, u1, u2, u3, u4, vI x5, u6, u7, u8] [vI x5] (WS L σ) Q := K_iload fi_112_59 rfl <| rfl
theorem b112_61 {d L : Nat} {σ : St} {Q : Option AV → AW → Prop} {y0 x1 : Int} {u2 u3 u4 u5 u6 u7 u8 : AV} : R (d + 1) 112 61 [vR 146, vI x1, u2, u3, u4, u5, u6, u7, u8] [vI y0] (WS L σ) Q = R d 57 0 [vR 20, vI x1, vI y0, vX 9] [] (WS L σ) (fun r w => R (d + 1) 112 73 [vR 146, vI x1, u2, u3, u4, u5, u6, vI y0, u8] (am_push r []) w Q) := K_istore fi_112_61 (Nat.le_of_ble_eq_true rfl) rfl rfl <| K_aload_n fi_112_63 rfl <| K_gf fi_112_64 kd_146 mk_146_0 <| K_iload_n fi_112_67 rfl <| K_iload fi_112_68 rfl <| R_invV fi_112_70 (am_invV_of rfl (kd_20) (Nat.le_of_ble_eq_true rfl) (Nat.le_of_ble_eq_true rfl) rfl rfl)
theorem b112_73 {d L : Nat} {σ : St} {Q : Option AV → AW → Prop} {y0 x4 : Int} {u0 u1 u2 u3 u5 u6 u7 u8 : AV} : R d 112 73 [u0, u1, u2, u3, vI x4, u5, u6, u7, u8] [vI y0] (WS L σ) Q = if y0 ≤ x4 then R d 112 98 [u0, u1, u2, u3, vI x4, u5, u6, u7, vI y0] [] (WS L σ) Q else R d 112 82 [u0, u1, u2, u3, vI x4, u5, u6, u7, vI y0] [] (WS L σ) Q := K_istore fi_112_73 (Nat.le_of_ble_eq_true rfl) rfl rfl <| K_iload fi_112_75 rfl <| K_iload fi_112_77 rfl <| R_icmp_le fi_112_79 rfl
theorem b112_82 {d L : Nat} {σ : St} {Q : Option AV → AW → Prop} {x8 x5 : Int} {u1 u2 u3 u4 u6 u7 : AV} : R d 112 82 [vR 146, u1, u2, u3, u4, vI x5, u6, u7, vI x8] [] (WS L σ) Q = R d 112 92 [vR 146, u1, u2, u3, vI x8, vI x5, u6, u7, vI x8] [] (WS L (st2 σ 146 1 x5)) Q := K_iload fi_112_82 rfl <| K_istore fi_112_84 (Nat.le_of_ble_eq_true rfl) rfl rfl <| K_aload_n fi_112_86 rfl <| K_iload fi_112_87 rfl <| K_pf fi_112_89 kd_146 rfl rfl rfl rfl <| rfl
theorem b112_92 {d L : Nat} {σ : St} {Q : Option AV → AW → Prop} {x7 : Int} {u1 u2 u3 u4 u5 u6 u8 : AV} : R d 112 92 [vR 146, u1, u2, u3, u4, u5, u6, vI x7, u8] [] (WS L σ) Q = R d 112 98 [vR 146, u1, u2, u3, u4, u5, u6, vI x7, u8] [] (WS L (st2 σ 146 3 x7)) Q := K_aload_n fi_112_92 rfl <| K_iload fi_112_93 rfl <| K_pf fi_112_95 kd_146 rfl rfl rfl rfl <| rfl
theorem b112_98 {d L : Nat} {σ : St} {Q : Option AV → AW → Prop} {x5 : Int} {u0 u1 u2 u3 u4 u6 u7 u8 : AV} (h1 : -2147483648 ≤ x5 + 1 ∧ x5 + 1 ≤ 2147483647) : R d 112 98 [u0, u1, u2, u3, u4, vI x5, u6, u7, u8] [] (WS L σ) Q = R d 112 15 [u0, u1, u2, u3, u4, vI (x5 + 1), u6, u7, u8] [] (WS L σ) Q := K_iincx fi_112_98 rfl (Nat.le_of_ble_eq_true rfl) rfl h1 rfl <| R_goto fi_112_101 rfl
theorem b112_104 {d L : Nat} {σ : St} {Q : Option AV → AW → Prop} {u0 u1 u2 u3 u4 u5 u6 u7 u8 : AV} : R d 112 104 [u0, u1, u2, u3, u4, u5, u6, u7, u8] [] (WS L σ) Q = Q none (WS L σ) := R_return fi_112_104
theorem fi_113_0 : am_find 113 0 = some (.iload_n 1, 1, 0, 0, 0) := by decide +kernel
theorem fi_113_1 : am_find 113 1 = some (.aload_n 0, 1, 0, 0, 0) := by decide +kernel
theorem fi_113_2 : am_find 113 2 = some (.getfield 10, 3, 9, 0, 0) := by decide +kernel
theorem fi_113_5 : am_find 113 5 = some (.getfield 92, 3, 8, 1, 52) := by decide +kernel
theorem fi_113_8 : am_find 113 8 = some (.invokestatic 72, 3, 13, 2, 14) := by decide +kernel
theorem fi_113_11 : am_find 113 11 = some (.ifCond .eq 25, 3, 0, 0, 0) := by decide +kernel
theorem fi_113_14 : am_find 113 14 = some (.iload_n 2, 1, 0, 0, 0) := by decide +kernel
theorem fi_113_15 : am_find 113 15 = some (.aload_n 0, 1, 0, 0, 0) := by decide +kernel
theorem fi_113_16 : am_find 113 16 = some (.getfield 10, 3, 9, 0, 0) := by decide +kernel
theorem fi_113_19 : am_find 113 19 = some (.getfield 92, 3, 8, 1, 52) := by decide +kernel
theorem fi_113_22 : am_find 113 22 = some (.invokestatic 72, 3, 13, 2, 14) := by decide +kernel
theorem fi_113_25 : am_find 113 25 = some (.ifCond .eq 11, 3, 0, 0, 0) := by decide +kernel
theorem fi_113_28 : am_find 113 28 = some (.iload_n 3, 1, 0, 0, 0) := by decide +kernel
theorem fi_113_29 : am_find 113 29 = some (.iconst 2, 1, 0, 2, 0) := by decide +kernel
theorem fi_113_30 : am_find 113 30 = some (.invokestatic 72, 3, 13, 2, 14) := by decide +kernel
theorem fi_113_33 : am_find 113 33 = some (.ifCond .ne 5, 3, 0, 0, 0) := by decide +kernel
theorem fi_113_36 : am_find 113 36 = some (.iconst (-1), 1, 0, (-1), 0) := by decide +kernel
theorem fi_113_37 : am_find 113 37 = some (.ireturn, 1, 0, 0, 0) := by decide +kernel
theorem fi_113_38 : am_find 113 38 = some (.iload_n 1, 1, 0, 0, 0) := by decide +kernel
theorem fi_113_39 : am_find 113 39 = some (.iload_n 2, 1, 0, 0, 0) := by decide +kernel
theorem fi_113_40 : am_find 113 40 = some (.if_icmp .ne 6, 3, 0, 0, 0) := by decide +kernel
theorem fi_113_43 : am_find 113 43 = some (.bipush (-2), 2, 0, (-2), 0) := by decide +kernel
theorem fi_113_45 : am_find 113 45 = some (.ireturn, 1, 0, 0, 0) := by decide +kernel
theorem fi_113_46 : am_find 113 46 = some (.aload_n 0, 1, 0, 0, 0) := by decide +kernel
theorem fi_113_47 : am_find 113 47 = some (.getfield 54, 3, 9, 6, 6) := by decide +kernel
theorem fi_113_50 : am_find 113 50 = some (.iload_n 1, 1, 0, 0, 0) := by decide +kernel
theorem fi_113_51 : am_find 113 51 = some (.iload_n 2, 1, 0, 0, 0) := by decide +kernel
theorem fi_113_52 : am_find 113 52 = some (.invokevirtual 233, 3, 114, 2, 134) := by decide +kernel
theorem fi_113_55 : am_find 113 55 = some (.iload_n 3, 1, 0, 0, 0) := by decide +kernel
theorem fi_113_56 : am_find 113 56 = some (.ifCond .ne 13, 3, 0, 0, 0) := by decide +kernel
theorem fi_113_59 : am_find 113 59 = some (.aload_n 0, 1, 0, 0, 0) := by decide +kernel
theorem fi_113_60 : am_find 113 60 = some (.getfield 54, 3, 9, 6, 6) := by decide +kernel
theorem fi_113_63 : am_find 113 63 = some (.getfield 236, 3, 6, 4, 85) := by decide +kernel
theorem fi_113_66 : am_find 113 66 = some (.goto 10, 3, 0, 0, 0) := by decide +kernel
theorem fi_113_69 : am_find 113 69 = some (.aload_n 0, 1, 0, 0, 0) := by decide +kernel
theorem fi_113_70 : am_find 113 70 = some (.getfield 54, 3, 9, 6, 6) := by decide +kernel
theorem fi_113_73 : am_find 113 73 = some (.getfield 239, 3, 6, 5, 86) := by decide +kernel
theorem fi_113_76 : am_find 113 76 = some (.ireturn, 1, 0, 0, 0) := by decide +kernel
theorem b113_0 {d L : Nat} {σ : St} {Q : Option AV → AW → Prop} {x1 : Int} {u2 u3 : AV} : R (d + 1) 113 0 [vR 19, vI x1, u2, u3] [] (WS L σ) Q = R d 13 0 [vI x1, vI (σ 20 1)] [] (WS L σ) (fun r w => R (d + 1) 113 11 [vR 19, vI x1, u2, u3] (am_push r []) w Q) := K_iload_n fi_113_0 rfl <| K_aload_n fi_113_1 rfl <| K_gf fi_113_2 kd_19 mk_19_0 <| K_gf fi_113_5 kd_20 mk_20_1 <| R_invS fi_113_8 (by decide) (am_invS_of (Nat.le_of_ble_eq_true rfl) rfl (Nat.le_of_ble_eq_true rfl) (Nat.le_of_ble_eq_true rfl) rfl rfl)
theorem b113_11 {d L : Nat} {σ : St} {Q : Option AV → AW → Prop} {y0 : Int} {u0 u1 u2 u3 : AV} : R d 113 11 [u0, u1, u2, u3] [vI y0] (WS L σ) Q = if y0 = 0 then R d 113 36 [u0, u1, u2, u3] [] (WS L σ) Q else R d 113 14 [u0, u1, u2, u3] [] (WS L σ) Q := R_if_eq fi_113_11 rfl
theorem b113_14 {d L : Nat} {σ : St} {Q : Option AV → AW → Prop} {x2 : Int} {u1 u3 : AV} : R (d + 1) 113 14 [vR 19, u1, vI x2, u3] [] (WS L σ) Q = R d 13 0 [vI x2, vI (σ 20 1)] [] (WS L σ) (fun r w => R (d + 1) 113 25 [vR 19, u1, vI x2, u3] (am_push r []) w Q) := K_iload_n fi_113_14 rfl <| K_aload_n fi_113_15 rfl <| K_gf fi_113_16 kd_19 mk_19_0 <| K_gf fi_113_19 kd_20 mk_20_1 <| R_invS fi_113_22 (by decide) (am_invS_of (Nat.le_of_ble_eq_true rfl) rfl (Nat.le_of_ble_eq_true rfl) (Nat.le_of_ble_eq_true rfl) rfl rfl)
theorem b113_25 {d L : Nat} {σ : St} {Q : Option AV → AW → Prop} {y0 : Int} {u0 u1 u2 u3 : AV} : R d 113 25 [u0, u1, u2, u3] [vI y0] (WS L σ) Q = if y0 = 0 then R d 113 36 [u0, u1, u2, u3] [] (WS L σ) Q else R d 113 28 [u0, u1, u2, u3] [] (WS L σ) Q := R_if_eq fi_113_25 rfl
theorem b113_28 {d L : Nat} {σ : St} {Q : Option AV → AW → Prop} {x3 : Int} {u0 u1 u2 : AV} : R (d + 1) 113 28 [u0, u1, u2, vI x3] [] (WS L σ) Q = R d 13 0 [vI x3, vI 2] [] (WS L σ) (fun r w => R (d + 1) 113 33 [u0, u1, u2, vI x3] (am_push r []) w Q) := K_iload_n fi_113_28 rfl <| K_iconst fi_113_29 <| R_invS fi_113_30 (by decide) (am_invS_of (Nat.le_of_ble_eq_true rfl) rfl (Nat.le_of_ble_eq_true rfl) (Nat.le_of_ble_eq_true rfl) rfl rfl)
theorem b113_33 {d L : Nat} {σ : St} {Q : Option AV → AW → Prop} {y0 : Int} {u0 u1 u2 u3 : AV} : R d 113 33 [u0, u1, u2, u3] [vI y0] (WS L σ) Q = if ¬ y0 = 0 then R d 113 38 [u0, u1, u2, u3] [] (WS L σ) Q else R d 113 36 [u0, u1, u2, u3] [] (WS L σ) Q := R_if_ne fi_113_33 rfl
theorem b113_36 {d L : Nat} {σ : St} {Q : Option AV → AW → Prop} {u0 u1 u2 u3 : AV} : R d 113 36 [u0, u1, u2, u3] [] (WS L σ) Q = Q (some (vI (-1))) (WS L σ) := K_iconst fi_113_36 <| R_ireti fi_113_37 rfl
theorem b113_38 {d L : Nat} {σ : St} {Q : Option AV → AW → Prop} {x1 x2 : Int} {u0 u3 : AV} : R d 113 38 [u0, vI x1, vI x2, u3] [] (WS L σ) Q = if ¬ x1 = x2 then R d 113 46 [u0, vI x1, vI x2, u3] [] (WS L σ) Q else R d 113 43 [u0, vI x1, vI x2, u3] [] (WS L σ) Q := K_iload_n fi_113_38 rfl <| K_iload_n fi_113_39 rfl <| R_icmp_ne fi_113_40 rfl
theorem b113_43 {d L : Nat} {σ : St} {Q : Option AV → AW → Prop} {u0 u1 u2 u3 : AV} : R d 113 43 [u0, u1, u2, u3] [] (WS L σ) Q = Q (some (vI (-2))) (WS L σ) := K_bipush fi_113_43 <| R_ireti fi_113_45 rfl
theorem b113_46 {d L : Nat} {σ : St} {Q : Option AV → AW → Prop} {x1 x2 : Int} {u3 : AV} : R (d + 1) 113 46 [vR 19, vI x1, vI x2, u3] [] (WS L σ) Q = R d 114 0 [vR 146, vI x1, vI x2, vX 9, vX 9] [] (WS L σ) (fun r w => R (d + 1) 113 55 [vR 19, vI x1, vI x2, u3] (am_push r []) w Q) := K_aload_n fi_113_46 rfl <| K_gf fi_113_47 kd_19 mk_19_6 <| K_iload_n fi_113_50 rfl <| K_iload_n fi_113_51 rfl <| R_invV fi_113_52 (am_invV_of rfl (kd_146) (Nat.le_of_ble_eq_true rfl) (Nat.le_of_ble_eq_true rfl) rfl rfl)
theorem b113_55 {d L : Nat} {σ : St} {Q : Option AV → AW → Prop} {x3 : Int} {u0 u1 u2 : AV} : R d 113 55 [u0, u1, u2, vI x3] [] (WS L σ) Q = if ¬ x3 = 0 then R d 113 69 [u0, u1, u2, vI x3] [] (WS L σ) Q else R d 113 59 [u0, u1, u2, vI x3] [] (WS L σ) Q := K_iload_n fi_113_55 rfl <| R_if_ne fi_113_56 rfl
theorem b113_59 {d L : Nat} {σ : St} {Q : Option AV → AW → Prop} {u1 u2 u3 : AV} : R d 113 59 [vR 19, u1, u2, u3] [] (WS L σ) Q = R d 113 76 [vR 19, u1, u2, u3] [vI (σ 146 4)] (WS L σ) Q := K_aload_n fi_113_59 rfl <| K_gf fi_113_60 kd_19 mk_19_6 <| K_gf fi_113_63 kd_146 mk_146_4 <| R_goto fi_113_66 rfl
theorem b113_69 {d L : Nat} {σ : St} {Q : Option AV → AW → Prop} {u1 u2 u3 : AV} : R d 113 69 [vR 19, u1, u2, u3] [] (WS L σ) Q = R d 113 76 [vR 19, u1, u2, u3] [vI (σ 146 5)] (WS L σ) Q := K_aload_n fi_113_69 rfl <| K_gf fi_113_70 kd_19 mk_19_6 <| K_gf fi_113_73 kd_146 mk_146_5 <| rfl
theorem b113_76 {d L : Nat} {σ : St} {Q : Option AV → AW → Prop} {y0 : Int} {u0 u1 u2 u3 : AV} : R d 113 76 [u0, u1, u2, u3] [vI y0] (WS L σ) Q = Q (some (vI y0)) (WS L σ) := R_ireti fi_113_76 rfl
theorem fi_114_0 : am_find 114 0 = some (.aload_n 0, 1, 0, 0, 0) := by decide +kernel
theorem fi_114_1 : am_find 114 1 = some (.iconst 0, 1, 0, 0, 0) := by decide +kernel
theorem fi_114_2 : am_find 114 2 = some (.putfield 54, 3, 6, 4, 87) := by decide +kernel
theorem fi_114_5 : am_find 114 5 = some (.aload_n 0, 1, 0, 0, 0) := by decide +kernel
theorem fi_114_6 : am_find 114 6 = some (.bipush (-5), 2, 0, (-5), 0) := by decide +kernel
theorem fi_114_8 : am_find 114 8 = some (.putfield 57, 3, 6, 5, 88) := by decide +kernel
theorem fi_114_11 : am_find 114 11 = some (.iconst 0, 1, 0, 0, 0) := by decide +kernel
theorem fi_114_12 : am_find 114 12 = some (.istore_n 3, 1, 0, 0, 0) := by decide +kernel
theorem fi_114_13 : am_find 114 13 = some (.iload_n 3, 1, 0, 0, 0) := by decide +kernel
theorem fi_114_14 : am_find 114 14 = some (.aload_n 0, 1, 0, 0, 0) := by decide +kernel
theorem fi_114_15 : am_find 114 15 = some (.getfield 9, 3, 6, 0, 37) := by decide +kernel
theorem fi_114_18 : am_find 114 18 = some (.getfield 32, 3, 8, 0, 81) := by decide +kernel
theorem fi_114_21 : am_find 114 21 = some (.if_icmp .ge 87, 3, 0, 0, 0) := by decide +kernel
theorem fi_114_24 : am_find 114 24 = some (.iconst 0, 1, 0, 0, 0) := by decide +kernel
theorem fi_114_25 : am_find 114 25 = some (.istore 4, 2, 0, 0, 0) := by decide +kernel
theorem fi_114_27 : am_find 114 27 = some (.iload 4, 2, 0, 0, 0) := by decide +kernel
theorem fi_114_29 : am_find 114 29 = some (.aload_n 0, 1, 0, 0, 0) := by decide +kernel
theorem fi_114_30 : am_find 114 30 = some (.getfield 9, 3, 6, 0, 37) := by decide +kernel
theorem fi_114_33 : am_find 114 33 = some (.getfield 32, 3, 8, 0, 81) := by decide +kernel
theorem fi_114_36 : am_find 114 36 = some (.if_icmp .ge 66, 3, 0, 0, 0) := by decide +kernel
theorem fi_114_39 : am_find 114 39 = some (.aload_n 0, 1, 0, 0, 0) := by decide +kernel
theorem fi_114_40 : am_find 114 40 = some (.iload_n 1, 1, 0, 0, 0) := by decide +kernel
theorem fi_114_41 : am_find 114 41 = some (.iload_n 3, 1, 0, 0, 0) := by decide +kernel
theorem fi_114_42 : am_find 114 42 = some (.iload 4, 2, 0, 0, 0) := by decide +kernel
theorem fi_114_44 : am_find 114 44 = some (.invokevirtual 60, 3, 115, 3, 135) := by decide +kernel
theorem fi_114_47 : am_find 114 47 = some (.ifCond .eq 49, 3, 0, 0, 0) := by decide +kernel
theorem fi_114_50 : am_find 114 50 = some (.aload_n 0, 1, 0, 0, 0) := by decide +kernel
theorem fi_114_51 : am_find 114 51 = some (.iload_n 2, 1, 0, 0, 0) := by decide +kernel
theorem fi_114_52 : am_find 114 52 = some (.iload 4, 2, 0, 0, 0) := by decide +kernel
theorem fi_114_54 : am_find 114 54 = some (.iload_n 3, 1, 0, 0, 0) := by decide +kernel
theorem fi_114_55 : am_find 114 55 = some (.invokevirtual 60, 3, 115, 3, 135) := by decide +kernel
theorem fi_114_58 : am_find 114 58 = some (.ifCond .eq 38, 3, 0, 0, 0) := by decide +kernel
theorem fi_114_61 : am_find 114 61 = some (.aload_n 0, 1, 0, 0, 0) := by decide +kernel
theorem fi_114_62 : am_find 114 62 = some (.aload_n 0, 1, 0, 0, 0) := by decide +kernel
theorem fi_114_63 : am_find 114 63 = some (.getfield 54, 3, 6, 4, 87) := by decide +kernel
theorem fi_114_66 : am_find 114 66 = some (.ifCond .ne 13, 3, 0, 0, 0) := by decide +kernel
theorem fi_114_69 : am_find 114 69 = some (.bipush 10, 2, 0, 10, 0) := by decide +kernel
theorem fi_114_71 : am_find 114 71 = some (.iload_n 3, 1, 0, 0, 0) := by decide +kernel
theorem fi_114_72 : am_find 114 72 = some (.imul, 1, 0, 0, 0) := by decide +kernel
theorem fi_114_73 : am_find 114 73 = some (.iload 4, 2, 0, 0, 0) := by decide +kernel
theorem fi_114_75 : am_find 114 75 = some (.iadd, 1, 0, 0, 0) := by decide +kernel
theorem fi_114_76 : am_find 114 76 = some (.goto 7, 3, 0, 0, 0) := by decide +kernel
theorem fi_114_79 : am_find 114 79 = some (.aload_n 0, 1, 0, 0, 0) := by decide +kernel
theorem fi_114_80 : am_find 114 80 = some (.getfield 57, 3, 6, 5, 88) := by decide +kernel
theorem fi_114_83 : am_find 114 83 = some (.putfield 57, 3, 6, 5, 88) := by decide +kernel
theorem fi_114_86 : am_find 114 86 = some (.aload_n 0, 1, 0, 0, 0) := by decide +kernel
theorem fi_114_87 : am_find 114 87 = some (.dup, 1, 0, 0, 0) := by decide +kernel
theorem fi_114_88 : am_find 114 88 = some (.getfield 54, 3, 6, 4, 87) := by decide +kernel
theorem fi_114_91 : am_find 114 91 = some (.iconst 1, 1, 0, 1, 0) := by decide +kernel
theorem fi_114_92 : am_find 114 92 = some (.iadd, 1, 0, 0, 0) := by decide +kernel
theorem fi_114_93 : am_find 114 93 = some (.putfield 54, 3, 6, 4, 87) := by decide +kernel
theorem fi_114_96 : am_find 114 96 = some (.iinc 4 1, 3, 0, 0, 0) := by decide +kernel
theorem fi_114_99 : am_find 114 99 = some (.goto (-72), 3, 0, 0, 0) := by decide +kernel
theorem fi_114_102 : am_find 114 102 = some (.iinc 3 1, 3, 0, 0, 0) := by decide +kernel
theorem fi_114_105 : am_find 114 105 = some (.goto (-92), 3, 0, 0, 0) := by decide +kernel
theorem fi_114_108 : am_find 114 108 = some (.return_, 1, 0, 0, 0) := by decide +kernel
theorem b114_0 {d L : Nat} {σ : St} {Q : Option AV → AW → Prop} {u1 u2 u3 u4 : AV} : R d 114 0 [vR 146, u1, u2, u3, u4] [] (WS L σ) Q = R d 114 5 [vR 146, u1, u2, u3, u4] [] (WS L (st2 σ 146 4 0)) Q := K_aload_n fi_114_0 rfl <| K_iconst fi_114_1 <| K_pf fi_114_2 kd_146 rfl rfl rfl rfl <| rfl
theorem b114_5 {d L : Nat} {σ : St} {Q : Option AV → AW → Prop} {u1 u2 u3 u4 : AV} : R d 114 5 [vR 146, u1, u2, u3, u4] [] (WS L σ) Q = R d 114 11 [vR 146, u1, u2, u3, u4] [] (WS L (st2 σ 146 5 (-5))) Q := K_aload_n fi_114_5 rfl <| K_bipush fi_114_6 <| K_pf fi_114_8 kd_146 rfl rfl rfl rfl <| rfl
theorem b114_11 {d L : Nat} {σ : St} {Q : Option AV → AW → Prop} {u0 u1 u2 u3 u4 : AV} : R d 114 11 [u0, u1, u2, u3, u4] [] (WS L σ) Q = R d 114 13 [u0, u1, u2, vI 0, u4] [] (WS L σ) Q := K_iconst fi_114_11 <| K_istore_n fi_114_12 (Nat.le_of_ble_eq_true rfl) rfl rfl <| rfl
theorem b114_13 {d L : Nat} {σ : St} {Q : Option AV → AW → Prop} {x3 : Int} {u1 u2 u4 : AV} : R d 114 13 [vR 146, u1, u2, vI x3, u4] [] (WS L σ) Q = if (σ 20 0) ≤ x3 then R d 114 108 [vR 146, u1, u2, vI x3, u4] [] (WS L σ) Q else R d 114 24 [vR 146, u1, u2, vI x3, u4] [] (WS L σ) Q := K_iload_n fi_114_13 rfl <| K_aload_n fi_114_14 rfl <| K_gf fi_114_15 kd_146 mk_146_0 <| K_gf fi_114_18 kd_20 mk_20_0 <| R_icmp_ge fi_114_21 rfl
theorem b114_24 {d L : Nat} {σ : St} {Q : Option AV → AW → Prop} {u0 u1 u2 u3 u4 : AV} : R d 114 24 [u0, u1, u2, u3, u4] [] (WS L σ) Q = R d 114 27 [u0, u1, u2, u3, vI 0] [] (WS L σ) Q := K_iconst fi_114_24 <| K_istore fi_114_25 (Nat.le_of_ble_eq_true rfl) rfl rfl <| rfl
theorem b114_27 {d L : Nat} {σ : St} {Q : Option AV → AW → Prop} {x4 : Int} {u1 u2 u3 : AV} : R d 114 27 [vR 146, u1, u2, u3, vI x4] [] (WS L σ) Q = if (σ 20 0) ≤ x4 then R d 114 102 [vR 146, u1, u2, u3, vI x4] [] (WS L σ) Q else R d 114 39 [vR 146, u1, u2, u3, vI x4] [] (WS L σ) Q := K_iload fi_114_27 rfl <| K_aload_n fi_114_29 rfl <| K_gf fi_114_30 kd_146 mk_146_0 <| K_gf fi_114_33 kd_20 mk_20_0 <| R_icmp_ge fi_114_36 rfl
theorem b114_39 {d L : Nat} {σ : St} {Q : Option AV → AW → Prop} {x1 x3 x4 : Int} {u2 : AV} : R (d + 1) 114 39 [vR 146, vI x1, u2, vI x3, vI x4] [] (WS L σ) Q = R d 115 0 [vR 146, vI x1, vI x3, vI x4, vX 9, vX 9] [] (WS L σ) (fun r w => R (d + 1) 114 47 [vR 146, vI x1, u2, vI x3, vI x4] (am_push r []) w Q) := K_aload_n fi_114_39 rfl <| K_iload_n fi_114_40 rfl <| K_iload_n fi_114_41 rfl <| K_iload fi_114_42 rfl <| R_invV fi_114_44 (am_invV_of rfl (kd_146) (Nat.le_of_ble_eq_true rfl) (Nat.le_of_ble_eq_true rfl) rfl rfl)
theorem b114_47 {d L : Nat} {σ : St} {Q : Option AV → AW → Prop} {y0 : Int} {u0 u1 u2 u3 u4 : AV} : R d 114 47 [u0, u1, u2, u3, u4] [vI y0] (WS L σ) Q = if y0 = 0 then R d 114 96 [u0, u1, u2, u3, u4] [] (WS L σ) Q else R d 114 50 [u0, u1, u2, u3, u4] [] (WS L σ) Q := R_if_eq fi_114_47 rfl
theorem b114_50 {d L : Nat} {σ : St} {Q : Option AV → AW → Prop} {x2 x4 x3 : Int} {u1 : AV} : R (d + 1) 114 50 [vR 146, u1, vI x2, vI x3, vI x4] [] (WS L σ) Q = R d 115 0 [vR 146, vI x2, vI x4, vI x3, vX 9, vX 9] [] (WS L σ) (fun r w => R (d + 1) 114 58 [vR 146, u1, vI x2, vI x3, vI x4] (am_push r []) w Q) := K_aload_n fi_114_50 rfl <| K_iload_n fi_114_51 rfl <| K_iload fi_114_52 rfl <| K_iload_n fi_114_54 rfl <| R_invV fi_114_55 (am_invV_of rfl (kd_146) (Nat.le_of_ble_eq_true rfl) (Nat.le_of_ble_eq_true rfl) rfl rfl)
theorem b114_58 {d L : Nat} {σ : St} {Q : Option AV → AW → Prop} {y0 : Int} {u0 u1 u2 u3 u4 : AV} : R d 114 58 [u0, u1, u2, u3, u4] [vI y0] (WS L σ) Q = if y0 = 0 then R d 114 96 [u0, u1, u2, u3, u4] [] (WS L σ) Q else R d 114 61 [u0, u1, u2, u3, u4] [] (WS L σ) Q := R_if_eq fi_114_58 rfl
theorem b114_61 {d L : Nat} {σ : St} {Q : Option AV → AW → Prop} {u1 u2 u3 u4 : AV} : R d 114 61 [vR 146, u1, u2, u3, u4] [] (WS L σ) Q = if ¬ (σ 146 4) = 0 then R d 114 79 [vR 146, u1, u2, u3, u4] [vR 146] (WS L σ) Q else R d 114 69 [vR 146, u1, u2, u3, u4] [vR 146] (WS L σ) Q := K_aload_n fi_114_61 rfl <| K_aload_n fi_114_62 rfl <| K_gf fi_114_63 kd_146 mk_146_4 <| R_if_ne fi_114_66 rfl
theorem b114_69 {d L : Nat} {σ : St} {Q : Option AV → AW → Prop} {x3 x4 : Int} {u0 u1 u2 : AV} (h1 : -2147483648 ≤ 10 * x3 ∧ 10 * x3 ≤ 2147483647) (h2 : -2147483648 ≤ (10 * x3) + x4 ∧ (10 * x3) + x4 ≤ 2147483647) : R d 114 69 [u0, u1, u2, vI x3, vI x4] [vR 146] (WS L σ) Q = R d 114 83 [u0, u1, u2, vI x3, vI x4] [vI ((10 * x3) + x4), vR 146] (WS L σ) Q := K_bipush fi_114_69 <| K_iload_n fi_114_71 rfl <| K_imulx fi_114_72 h1 <| K_iload fi_114_73 rfl <| K_iaddx fi_114_75 h2 <| R_goto fi_114_76 rfl
theorem b114_79 {d L : Nat} {σ : St} {Q : Option AV → AW → Prop} {u1 u2 u3 u4 : AV} : R d 114 79 [vR 146, u1, u2, u3, u4] [vR 146] (WS L σ) Q = R d 114 83 [vR 146, u1, u2, u3, u4] [vI (σ 146 5), vR 146] (WS L σ) Q := K_aload_n fi_114_79 rfl <| K_gf fi_114_80 kd_146 mk_146_5 <| rfl
theorem b114_83 {d L : Nat} {σ : St} {Q : Option AV → AW → Prop} {y0 : Int} {u0 u1 u2 u3 u4 : AV} : R d 114 83 [u0, u1, u2, u3, u4] [vI y0, vR 146] (WS L σ) Q = R d 114 86 [u0, u1, u2, u3, u4] [] (WS L (st2 σ 146 5 y0)) Q := K_pf fi_114_83 kd_146 rfl rfl rfl rfl <| rfl
theorem b114_86 {d L : Nat} {σ : St} {Q : Option AV → AW → Prop} {u1 u2 u3 u4 : AV} (h1 : -2147483648 ≤ (σ 146 4) + 1 ∧ (σ 146 4) + 1 ≤ 2147483647) : R d 114 86 [vR 146, u1, u2, u3, u4] [] (WS L σ) Q = R d 114 96 [vR 146, u1, u2, u3, u4] [] (WS L (st2 σ 146 4 ((σ 146 4) + 1))) Q := K_aload_n fi_114_86 rfl <| K_dupr fi_114_87 <| K_gf fi_114_88 kd_146 mk_146_4 <| K_iconst fi_114_91 <| K_iaddx fi_114_92 h1 <| K_pf fi_114_93 kd_146 rfl rfl rfl rfl <| rfl
theorem b114_96 {d L : Nat} {σ : St} {Q : Option AV → AW → Prop} {x4 : Int} {u0 u1 u2 u3 : AV} (h1 : -2147483648 ≤ x4 + 1 ∧ x4 + 1 ≤ 2147483647) : R d 114 96 [u0, u1, u2, u3, vI x4] [] (WS L σ) Q = R d 114 27 [u0, u1, u2, u3, vI (x4 + 1)] [] (WS L σ) Q := K_iincx fi_114_96 rfl (Nat.le_of_ble_eq_true rfl) rfl h1 rfl <| R_goto fi_114_99 rfl
theorem b114_102 {d L : Nat} {σ : St} {Q : Option AV → AW → Prop} {x3 : Int} {u0 u1 u2 u4 : AV} (h1 : -2147483648 ≤ x3 + 1 ∧ x3 + 1 ≤ 2147483647) : R d 114 102 [u0, u1, u2, vI x3, u4] [] (WS L σ) Q = R d 114 13 [u0, u1, u2, vI (x3 + 1), u4] [] (WS L σ) Q := K_iincx fi_114_102 rfl (Nat.le_of_ble_eq_true rfl) rfl h1 rfl <| R_goto fi_114_105 rfl
theorem b114_108 {d L : Nat} {σ : St} {Q : Option AV → AW → Prop} {u0 u1 u2 u3 u4 : AV} : R d 114 108 [u0, u1, u2, u3, u4] [] (WS L σ) Q = Q none (WS L σ) := R_return fi_114_108
theorem fi_115_0 : am_find 115 0 = some (.aload_n 0, 1, 0, 0, 0) := by decide +kernel
theorem fi_115_1 : am_find 115 1 = some (.getfield 9, 3, 6, 0, 37) := by decide +kernel
theorem fi_115_4 : am_find 115 4 = some (.iload_n 1, 1, 0, 0, 0) := by decide +kernel
theorem fi_115_5 : am_find 115 5 = some (.invokevirtual 64, 3, 72, 1, 136) := by decide +kernel
theorem fi_115_8 : am_find 115 8 = some (.istore 4, 2, 0, 0, 0) := by decide +kernel
theorem fi_115_10 : am_find 115 10 = some (.iload 4, 2, 0, 0, 0) := by decide +kernel
theorem fi_115_12 : am_find 115 12 = some (.iconst 1, 1, 0, 1, 0) := by decide +kernel
theorem fi_115_13 : am_find 115 13 = some (.iload_n 2, 1, 0, 0, 0) := by decide +kernel
theorem fi_115_14 : am_find 115 14 = some (.ishl, 1, 0, 0, 0) := by decide +kernel
theorem fi_115_15 : am_find 115 15 = some (.iconst (-1), 1, 0, (-1), 0) := by decide +kernel
theorem fi_115_16 : am_find 115 16 = some (.ixor, 1, 0, 0, 0) := by decide +kernel
theorem fi_115_17 : am_find 115 17 = some (.iand, 1, 0, 0, 0) := by decide +kernel
theorem fi_115_18 : am_find 115 18 = some (.iconst 1, 1, 0, 1, 0) := by decide +kernel
theorem fi_115_19 : am_find 115 19 = some (.iload_n 3, 1, 0, 0, 0) := by decide +kernel
theorem fi_115_20 : am_find 115 20 = some (.ishl, 1, 0, 0, 0) := by decide +kernel
theorem fi_115_21 : am_find 115 21 = some (.ior, 1, 0, 0, 0) := by decide +kernel
theorem fi_115_22 : am_find 115 22 = some (.istore 5, 2, 0, 0, 0) := by decide +kernel
theorem fi_115_24 : am_find 115 24 = some (.iload 4, 2, 0, 0, 0) := by decide +kernel
theorem fi_115_26 : am_find 115 26 = some (.iload_n 2, 1, 0, 0, 0) := by decide +kernel
theorem fi_115_27 : am_find 115 27 = some (.ishr, 1, 0, 0, 0) := by decide +kernel
theorem fi_115_28 : am_find 115 28 = some (.iconst 1, 1, 0, 1, 0) := by decide +kernel
theorem fi_115_29 : am_find 115 29 = some (.iand, 1, 0, 0, 0) := by decide +kernel
theorem fi_115_30 : am_find 115 30 = some (.iconst 1, 1, 0, 1, 0) := by decide +kernel
theorem fi_115_31 : am_find 115 31 = some (.if_icmp .ne 30, 3, 0, 0, 0) := by decide +kernel
theorem fi_115_34 : am_find 115 34 = some (.aload_n 0, 1, 0, 0, 0) := by decide +kernel
theorem fi_115_35 : am_find 115 35 = some (.getfield 9, 3, 6, 0, 37) := by decide +kernel
theorem fi_115_38 : am_find 115 38 = some (.iload_n 1, 1, 0, 0, 0) := by decide +kernel
theorem fi_115_39 : am_find 115 39 = some (.iload 5, 2, 0, 0, 0) := by decide +kernel
theorem fi_115_41 : am_find 115 41 = some (.invokevirtual 47, 3, 57, 2, 133) := by decide +kernel
theorem fi_115_44 : am_find 115 44 = some (.aload_n 0, 1, 0, 0, 0) := by decide +kernel
theorem fi_115_45 : am_find 115 45 = some (.getfield 9, 3, 6, 0, 37) := by decide +kernel
theorem fi_115_48 : am_find 115 48 = some (.iload_n 1, 1, 0, 0, 0) := by decide +kernel
theorem fi_115_49 : am_find 115 49 = some (.iload 4, 2, 0, 0, 0) := by decide +kernel
theorem fi_115_51 : am_find 115 51 = some (.invokevirtual 47, 3, 57, 2, 133) := by decide +kernel
theorem fi_115_54 : am_find 115 54 = some (.if_icmp .le 7, 3, 0, 0, 0) := by decide +kernel
theorem fi_115_57 : am_find 115 57 = some (.iconst 1, 1, 0, 1, 0) := by decide +kernel
theorem fi_115_58 : am_find 115 58 = some (.goto 4, 3, 0, 0, 0) := by decide +kernel
theorem fi_115_61 : am_find 115 61 = some (.iconst 0, 1, 0, 0, 0) := by decide +kernel
theorem fi_115_62 : am_find 115 62 = some (.ireturn, 1, 1, 0, 0) := by decide +kernel
theorem b115_0 {d L : Nat} {σ : St} {Q : Option AV → AW → Prop} {x1 : Int} {u2 u3 u4 u5 : AV} : R (d + 1) 115 0 [vR 146, vI x1, u2, u3, u4, u5] [] (WS L σ) Q = R d 72 0 [vR 20, vI x1] [] (WS L σ) (fun r w => R (d + 1) 115 8 [vR 146, vI x1, u2, u3, u4, u5] (am_push r []) w Q) := K_aload_n fi_115_0 rfl <| K_gf fi_115_1 kd_146 mk_146_0 <| K_iload_n fi_115_4 rfl <| R_invV fi_115_5 (am_invV_of rfl (kd_20) (Nat.le_of_ble_eq_true rfl) (Nat.le_of_ble_eq_true rfl) rfl rfl)
theorem b115_8 {d L : Nat} {σ : St} {Q : Option AV → AW → Prop} {y0 x2 x3 : Int} {u0 u1 u4 u5 : AV} : R d 115 8 [u0, u1, vI x2, vI x3, u4, u5] [vI y0] (WS L σ) Q = if ¬ (i_and (i_shr y0 x2) 1) = 1 then R d 115 61 [u0, u1, vI x2, vI x3, vI y0, vI (i_or (i_and y0 (i_xor (i_shl 1 x2) (-1))) (i_shl 1 x3))] [] (WS L σ) Q else R d 115 34 [u0, u1, vI x2, vI x3, vI y0, vI (i_or (i_and y0 (i_xor (i_shl 1 x2) (-1))) (i_shl 1 x3))] [] (WS L σ) Q := K_istore fi_115_8 (Nat.le_of_ble_eq_true rfl) rfl rfl <| K_iload fi_115_10 rfl <| K_iconst fi_115_12 <| K_iload_n fi_115_13 rfl <| K_ishl fi_115_14 <| K_iconst fi_115_15 <| K_ixor fi_115_16 <| K_iand fi_115_17 <| K_iconst fi_115_18 <| K_iload_n fi_115_19 rfl <| K_ishl fi_115_20 <| K_ior fi_115_21 <| K_istore fi_115_22 (Nat.le_of_ble_eq_true rfl) rfl rfl <| K_iload fi_115_24 rfl <| K_iload_n fi_115_26 rfl <| K_ishr fi_115_27 <| K_iconst fi_115_28 <| K_iand fi_115_29 <| K_iconst fi_115_30 <| R_icmp_ne fi_115_31 rfl
theorem b115_34 {d L : Nat} {σ : St} {Q : Option AV → AW → Prop} {x1 x5 : Int} {u2 u3 u4 : AV} : R (d + 1) 115 34 [vR 146, vI x1, u2, u3, u4, vI x5] [] (WS L σ) Q = R d 57 0 [vR 20, vI x1, vI x5, vX 9] [] (WS L σ) (fun r w => R (d + 1) 115 44 [vR 146, vI x1, u2, u3, u4, vI x5] (am_push r []) w Q) := K_aload_n fi_115_34 rfl <| K_gf fi_115_35 kd_146 mk_146_0 <| K_iload_n fi_115_38 rfl <| K_iload fi_115_39 rfl <| R_invV fi_115_41 (am_invV_of rfl (kd_20) (Nat.le_of_ble_eq_true rfl) (Nat.le_of_ble_eq_true rfl) rfl rfl)
theorem b115_44 {d L : Nat} {σ : St} {Q : Option AV → AW → Prop} {y0 x1 x4 : Int} {u2 u3 u5 : AV} : R (d + 1) 115 44 [vR 146, vI x1, u2, u3, vI x4, u5] [vI y0] (WS L σ) Q = R d 57 0 [vR 20, vI x1, vI x4, vX 9] [] (WS L σ) (fun r w => R (d + 1) 115 54 [vR 146, vI x1, u2, u3, vI x4, u5] (am_push r [vI y0]) w Q) := K_aload_n fi_115_44 rfl <| K_gf fi_115_45 kd_146 mk_146_0 <| K_iload_n fi_115_48 rfl <| K_iload fi_115_49 rfl <| R_invV fi_115_51 (am_invV_of rfl (kd_20) (Nat.le_of_ble_eq_true rfl) (Nat.le_of_ble_eq_true rfl) rfl rfl)
theorem b115_54 {d L : Nat} {σ : St} {Q : Option AV → AW → Prop} {y0 y1 : Int} {u0 u1 u2 u3 u4 u5 : AV} : R d 115 54 [u0, u1, u2, u3, u4, u5] [vI y0, vI y1] (WS L σ) Q = if y1 ≤ y0 then R d 115 61 [u0, u1, u2, u3, u4, u5] [] (WS L σ) Q else R d 115 57 [u0, u1, u2, u3, u4, u5] [] (WS L σ) Q := R_icmp_le fi_115_54 rfl
theorem b115_57 {d L : Nat} {σ : St} {Q : Option AV → AW → Prop} {u0 u1 u2 u3 u4 u5 : AV} : R d 115 57 [u0, u1, u2, u3, u4, u5] [] (WS L σ) Q = R d 115 62 [u0, u1, u2, u3, u4, u5] [vI 1] (WS L σ) Q := K_iconst fi_115_57 <| R_goto fi_115_58 rfl
theorem b115_61 {d L : Nat} {σ : St} {Q : Option AV → AW → Prop} {u0 u1 u2 u3 u4 u5 : AV} : R d 115 61 [u0, u1, u2, u3, u4, u5] [] (WS L σ) Q = R d 115 62 [u0, u1, u2, u3, u4, u5] [vI 0] (WS L σ) Q := K_iconst fi_115_61 <| rfl
theorem b115_62 {d L : Nat} {σ : St} {Q : Option AV → AW → Prop} {y0 : Int} {u0 u1 u2 u3 u4 u5 : AV} (h1 : am_rfit 1 y0 = true) : R d 115 62 [u0, u1, u2, u3, u4, u5] [vI y0] (WS L σ) Q = Q (some (vI y0)) (WS L σ) := R_ireti fi_115_62 h1
theorem fi_116_0 : am_find 116 0 = some (.iload_n 1, 1, 0, 0, 0) := by decide +kernel
theorem fi_116_1 : am_find 116 1 = some (.aload_n 0, 1, 0, 0, 0) := by decide +kernel
theorem fi_116_2 : am_find 116 2 = some (.getfield 10, 3, 9, 0, 0) := by decide +kernel
theorem fi_116_5 : am_find 116 5 = some (.getfield 92, 3, 8, 1, 52) := by decide +kernel
theorem fi_116_8 : am_find 116 8 = some (.invokestatic 72, 3, 13, 2, 14) := by decide +kernel
theorem fi_116_11 : am_find 116 11 = some (.ifCond .eq 17, 3, 0, 0, 0) := by decide +kernel
theorem fi_116_14 : am_find 116 14 = some (.iload_n 2, 1, 0, 0, 0) := by decide +kernel
theorem fi_116_15 : am_find 116 15 = some (.aload_n 0, 1, 0, 0, 0) := by decide +kernel
theorem fi_116_16 : am_find 116 16 = some (.getfield 10, 3, 9, 0, 0) := by decide +kernel
theorem fi_116_19 : am_find 116 19 = some (.getfield 92, 3, 8, 1, 52) := by decide +kernel
theorem fi_116_22 : am_find 116 22 = some (.invokestatic 72, 3, 13, 2, 14) := by decide +kernel
theorem fi_116_25 : am_find 116 25 = some (.ifCond .ne 5, 3, 0, 0, 0) := by decide +kernel
theorem fi_116_28 : am_find 116 28 = some (.iconst (-1), 1, 0, (-1), 0) := by decide +kernel
theorem fi_116_29 : am_find 116 29 = some (.ireturn, 1, 0, 0, 0) := by decide +kernel
theorem fi_116_30 : am_find 116 30 = some (.iload_n 1, 1, 0, 0, 0) := by decide +kernel
theorem fi_116_31 : am_find 116 31 = some (.iload_n 2, 1, 0, 0, 0) := by decide +kernel
theorem fi_116_32 : am_find 116 32 = some (.if_icmp .ne 8, 3, 0, 0, 0) := by decide +kernel
theorem fi_116_35 : am_find 116 35 = some (.bipush (-2), 2, 0, (-2), 0) := by decide +kernel
theorem fi_116_37 : am_find 116 37 = some (.goto 12, 3, 0, 0, 0) := by decide +kernel
theorem fi_116_40 : am_find 116 40 = some (.aload_n 0, 1, 0, 0, 0) := by decide +kernel
theorem fi_116_41 : am_find 116 41 = some (.getfield 54, 3, 9, 6, 6) := by decide +kernel
theorem fi_116_44 : am_find 116 44 = some (.iload_n 1, 1, 0, 0, 0) := by decide +kernel
theorem fi_116_45 : am_find 116 45 = some (.iload_n 2, 1, 0, 0, 0) := by decide +kernel
theorem fi_116_46 : am_find 116 46 = some (.invokevirtual 242, 3, 117, 2, 137) := by decide +kernel
theorem fi_116_49 : am_find 116 49 = some (.ireturn, 1, 0, 0, 0) := by decide +kernel
theorem b116_0 {d L : Nat} {σ : St} {Q : Option AV → AW → Prop} {x1 : Int} {u2 : AV} : R (d + 1) 116 0 [vR 19, vI x1, u2] [] (WS L σ) Q = R d 13 0 [vI x1, vI (σ 20 1)] [] (WS L σ) (fun r w => R (d + 1) 116 11 [vR 19, vI x1, u2] (am_push r []) w Q) := K_iload_n fi_116_0 rfl <| K_aload_n fi_116_1 rfl <| K_gf fi_116_2 kd_19 mk_19_0 <| K_gf fi_116_5 kd_20 mk_20_1 <| R_invS fi_116_8 (by decide) (am_invS_of (Nat.le_of_ble_eq_true rfl) rfl (Nat.le_of_ble_eq_true rfl) (Nat.le_of_ble_eq_true rfl) rfl rfl)
theorem b116_11 {d L : Nat} {σ : St} {Q : Option AV → AW → Prop} {y0 : Int} {u0 u1 u2 : AV} : R d 116 11 [u0, u1, u2] [vI y0] (WS L σ) Q = if y0 = 0 then R d 116 28 [u0, u1, u2] [] (WS L σ) Q else R d 116 14 [u0, u1, u2] [] (WS L σ) Q := R_if_eq fi_116_11 rfl
theorem b116_14 {d L : Nat} {σ : St} {Q : Option AV → AW → Prop} {x2 : Int} {u1 : AV} : R (d + 1) 116 14 [vR 19, u1, vI x2] [] (WS L σ) Q = R d 13 0 [vI x2, vI (σ 20 1)] [] (WS L σ) (fun r w => R (d + 1) 116 25 [vR 19, u1, vI x2] (am_push r []) w Q) := K_iload_n fi_116_14 rfl <| K_aload_n fi_116_15 rfl <| K_gf fi_116_16 kd_19 mk_19_0 <| K_gf fi_116_19 kd_20 mk_20_1 <| R_invS fi_116_22 (by decide) (am_invS_of (Nat.le_of_ble_eq_true rfl) rfl (Nat.le_of_ble_eq_true rfl) (Nat.le_of_ble_eq_true rfl) rfl rfl)
theorem b116_25 {d L : Nat} {σ : St} {Q : Option AV → AW → Prop} {y0 : Int} {u0 u1 u2 : AV} : R d 116 25 [u0, u1, u2] [vI y0] (WS L σ) Q = if ¬ y0 = 0 then R d 116 30 [u0, u1, u2] [] (WS L σ) Q else R d 116 28 [u0, u1, u2] [] (WS L σ) Q := R_if_ne fi_116_25 rfl
theorem b116_28 {d L : Nat} {σ : St} {Q : Option AV → AW → Prop} {u0 u1 u2 : AV} : R d 116 28 [u0, u1, u2] [] (WS L σ) Q = Q (some (vI (-1))) (WS L σ) := K_iconst fi_116_28 <| R_ireti fi_116_29 rfl
theorem b116_30 {d L : Nat} {σ : St} {Q : Option AV → AW → Prop} {x1 x2 : Int} {u0 : AV} : R d 116 30 [u0, vI x1, vI x2] [] (WS L σ) Q = if ¬ x1 = x2 then R d 116 40 [u0, vI x1, vI x2] [] (WS L σ) Q else R d 116 35 [u0, vI x1, vI x2] [] (WS L σ) Q := K_iload_n fi_116_30 rfl <| K_iload_n fi_116_31 rfl <| R_icmp_ne fi_116_32 rfl
theorem b116_35 {d L : Nat} {σ : St} {Q : Option AV → AW → Prop} {u0 u1 u2 : AV} : R d 116 35 [u0, u1, u2] [] (WS L σ) Q = R d 116 49 [u0, u1, u2] [vI (-2)] (WS L σ) Q := K_bipush fi_116_35 <| R_goto fi_116_37 rfl
theorem b116_40 {d L : Nat} {σ : St} {Q : Option AV → AW → Prop} {x1 x2 : Int} : R (d + 1) 116 40 [vR 19, vI x1, vI x2] [] (WS L σ) Q = R d 117 0 [vR 146, vI x1, vI x2, vX 9] [] (WS L σ) (fun r w => R (d + 1) 116 49 [vR 19, vI x1, vI x2] (am_push r []) w Q) := K_aload_n fi_116_40 rfl <| K_gf fi_116_41 kd_19 mk_19_6 <| K_iload_n fi_116_44 rfl <| K_iload_n fi_116_45 rfl <| R_invV fi_116_46 (am_invV_of rfl (kd_146) (Nat.le_of_ble_eq_true rfl) (Nat.le_of_ble_eq_true rfl) rfl rfl)
theorem b116_49 {d L : Nat} {σ : St} {Q : Option AV → AW → Prop} {y0 : Int} {u0 u1 u2 : AV} : R d 116 49 [u0, u1, u2] [vI y0] (WS L σ) Q = Q (some (vI y0)) (WS L σ) := R_ireti fi_116_49 rfl
theorem fi_117_0 : am_find 117 0 = some (.iconst 0, 1, 0, 0, 0) := by decide +kernel
theorem fi_117_1 : am_find 117 1 = some (.istore_n 3, 1, 0, 0, 0) := by decide +kernel
theorem fi_117_2 : am_find 117 2 = some (.iload_n 3, 1, 0, 0, 0) := by decide +kernel
theorem fi_117_3 : am_find 117 3 = some (.bipush 20, 2, 0, 20, 0) := by decide +kernel
theorem fi_117_5 : am_find 117 5 = some (.if_icmp .ge 54, 3, 0, 0, 0) := by decide +kernel
theorem fi_117_8 : am_find 117 8 = some (.aload_n 0, 1, 0, 0, 0) := by decide +kernel
theorem fi_117_9 : am_find 117 9 = some (.iload_n 1, 1, 0, 0, 0) := by decide +kernel
theorem fi_117_10 : am_find 117 10 = some (.iload_n 2, 1, 0, 0, 0) := by decide +kernel
theorem fi_117_11 : am_find 117 11 = some (.invokevirtual 67, 3, 114, 2, 138) := by decide +kernel
theorem fi_117_14 : am_find 117 14 = some (.aload_n 0, 1, 0, 0, 0) := by decide +kernel
theorem fi_117_15 : am_find 117 15 = some (.getfield 54, 3, 6, 4, 87) := by decide +kernel
theorem fi_117_18 : am_find 117 18 = some (.ifCond .ne 5, 3, 0, 0, 0) := by decide +kernel
theorem fi_117_21 : am_find 117 21 = some (.iload_n 3, 1, 0, 0, 0) := by decide +kernel
theorem fi_117_22 : am_find 117 22 = some (.ireturn, 1, 0, 0, 0) := by decide +kernel
theorem fi_117_23 : am_find 117 23 = some (.aload_n 0, 1, 0, 0, 0) := by decide +kernel
theorem fi_117_24 : am_find 117 24 = some (.getfield 9, 3, 6, 0, 37) := by decide +kernel
theorem fi_117_27 : am_find 117 27 = some (.aload_n 0, 1, 0, 0, 0) := by decide +kernel
theorem fi_117_28 : am_find 117 28 = some (.getfield 57, 3, 6, 5, 88) := by decide +kernel
theorem fi_117_31 : am_find 117 31 = some (.bipush 10, 2, 0, 10, 0) := by decide +kernel
theorem fi_117_33 : am_find 117 33 = some (.idiv, 1, 0, 0, 0) := by decide +kernel
theorem fi_117_34 : am_find 117 34 = some (.iload_n 2, 1, 0, 0, 0) := by decide +kernel
theorem fi_117_35 : am_find 117 35 = some (.invokevirtual 71, 3, 73, 2, 139) := by decide +kernel
theorem fi_117_38 : am_find 117 38 = some (.aload_n 0, 1, 0, 0, 0) := by decide +kernel
theorem fi_117_39 : am_find 117 39 = some (.getfield 9, 3, 6, 0, 37) := by decide +kernel
theorem fi_117_42 : am_find 117 42 = some (.aload_n 0, 1, 0, 0, 0) := by decide +kernel
theorem fi_117_43 : am_find 117 43 = some (.getfield 57, 3, 6, 5, 88) := by decide +kernel
theorem fi_117_46 : am_find 117 46 = some (.bipush 10, 2, 0, 10, 0) := by decide +kernel
theorem fi_117_48 : am_find 117 48 = some (.irem, 1, 0, 0, 0) := by decide +kernel
theorem fi_117_49 : am_find 117 49 = some (.iload_n 1, 1, 0, 0, 0) := by decide +kernel
theorem fi_117_50 : am_find 117 50 = some (.invokevirtual 71, 3, 73, 2, 139) := by decide +kernel
theorem fi_117_53 : am_find 117 53 = some (.iinc 3 1, 3, 0, 0, 0) := by decide +kernel
theorem fi_117_56 : am_find 117 56 = some (.goto (-54), 3, 0, 0, 0) := by decide +kernel
theorem fi_117_59 : am_find 117 59 = some (.bipush 20, 2, 0, 20, 0) := by decide +kernel
theorem fi_117_61 : am_find 117 61 = some (.ireturn, 1, 0, 0, 0) := by decide +kernel
theorem b117_0 {d L : Nat} {σ : St} {Q : Option AV → AW → Prop} {u0 u1 u2 u3 : AV} : R d 117 0 [u0, u1, u2, u3] [] (WS L σ) Q = R d 117 2 [u0, u1, u2, vI 0] [] (WS L σ) Q := K_iconst fi_117_0 <| K_istore_n fi_117_1 (Nat.le_of_ble_eq_true rfl) rfl rfl <| rfl
theorem b117_2 {d L : Nat} {σ : St} {Q : Option AV → AW → Prop} {x3 : Int} {u0 u1 u2 : AV} : R d 117 2 [u0, u1, u2, vI x3] [] (WS L σ) Q = if 20 ≤ x3 then R d 117 59 [u0, u1, u2, vI x3] [] (WS L σ) Q else R d 117 8 [u0, u1, u2, vI x3] [] (WS L σ) Q := K_iload_n fi_117_2 rfl <| K_bipush fi_117_3 <| R_icmp_ge fi_117_5 rfl
theorem b117_8 {d L : Nat} {σ : St} {Q : Option AV → AW → Prop} {x1 x2 : Int} {u3 : AV} : R (d + 1) 117 8 [vR 146, vI x1, vI x2, u3] [] (WS L σ) Q = R d 114 0 [vR 146, vI x1, vI x2, vX 9, vX 9] [] (WS L σ) (fun r w => R (d + 1) 117 14 [vR 146, vI x1, vI x2, u3] (am_push r []) w Q) := K_aload_n fi_117_8 rfl <| K_iload_n fi_117_9 rfl <| K_iload_n fi_117_10 rfl <| R_invV fi_117_11 (am_invV_of rfl (kd_146) (Nat.le_of_ble_eq_true rfl) (Nat.le_of_ble_eq_true rfl) rfl rfl)
theorem b117_14 {d L : Nat} {σ : St} {Q : Option AV → AW → Prop} {u1 u2 u3 : AV} : R d 117 14 [vR 146, u1, u2, u3] [] (WS L σ) Q = if ¬ (σ 146 4) = 0 then R d 117 23 [vR 146, u1, u2, u3] [] (WS L σ) Q else R d 117 21 [vR 146, u1, u2, u3] [] (WS L σ) Q := K_aload_n fi_117_14 rfl <| K_gf fi_117_15 kd_146 mk_146_4 <| R_if_ne fi_117_18 rfl
theorem b117_21 {d L : Nat} {σ : St} {Q : Option AV → AW → Prop} {x3 : Int} {u0 u1 u2 : AV} : R d 117 21 [u0, u1, u2, vI x3] [] (WS L σ) Q = Q (some (vI x3)) (WS L σ) := K_iload_n fi_117_21 rfl <| R_ireti fi_117_22 rfl
theorem b117_23 {d L : Nat} {σ : St} {Q : Option AV → AW → Prop} {x2 : Int} {u1 u3 : AV} : R (d + 1) 117 23 [vR 146, u1, vI x2, u3] [] (WS L σ) Q = R d 73 0 [vR 20, vI (i_div (σ 146 5) 10), vI x2, vX 9] [] (WS L σ) (fun r w => R (d + 1) 117 38 [vR 146, u1, vI x2, u3] (am_push r []) w Q) := K_aload_n fi_117_23 rfl <| K_gf fi_117_24 kd_146 mk_146_0 <| K_aload_n fi_117_27 rfl <| K_gf fi_117_28 kd_146 mk_146_5 <| K_bipush fi_117_31 <| K_idiv fi_117_33 (by decide) <| K_iload_n fi_117_34 rfl <| R_invV fi_117_35 (am_invV_of rfl (kd_20) (Nat.le_of_ble_eq_true rfl) (Nat.le_of_ble_eq_true rfl) rfl rfl)
theorem b117_38 {d L : Nat} {σ : St} {Q : Option AV → AW → Prop} {x1 : Int} {u2 u3 : AV} : R (d + 1) 117 38 [vR 146, vI x1, u2, u3] [] (WS L σ) Q = R d 73 0 [vR 20, vI (i_rem (σ 146 5) 10), vI x1, vX 9] [] (WS L σ) (fun r w => R (d + 1) 117 53 [vR 146, vI x1, u2, u3] (am_push r []) w Q) := K_aload_n fi_117_38 rfl <| K_gf fi_117_39 kd_146 mk_146_0 <| K_aload_n fi_117_42 rfl <| K_gf fi_117_43 kd_146 mk_146_5 <| K_bipush fi_117_46 <| K_irem fi_117_48 (by decide) <| K_iload_n fi_117_49 rfl <| R_invV fi_117_50 (am_invV_of rfl (kd_20) (Nat.le_of_ble_eq_true rfl) (Nat.le_of_ble_eq_true rfl) rfl rfl)
theorem b117_53 {d L : Nat} {σ : St} {Q : Option AV → AW → Prop} {x3 : Int} {u0 u1 u2 : AV} (h1 : -2147483648 ≤ x3 + 1 ∧ x3 + 1 ≤ 2147483647) : R d 117 53 [u0, u1, u2, vI x3] [] (WS L σ) Q = R d 117 2 [u0, u1, u2, vI (x3 + 1)] [] (WS L σ) Q := K_iincx fi_117_53 rfl (Nat.le_of_ble_eq_true rfl) rfl h1 rfl <| R_goto fi_117_56 rfl
theorem b117_59 {d L : Nat} {σ : St} {Q : Option AV → AW → Prop} {u0 u1 u2 u3 : AV} : R d 117 59 [u0, u1, u2, u3] [] (WS L σ) Q = Q (some (vI 20)) (WS L σ) := K_bipush fi_117_59 <| R_ireti fi_117_61 rfl
theorem fi_118_0 : am_find 118 0 = some (.iload_n 1, 1, 0, 0, 0) := by decide +kernel
theorem fi_118_1 : am_find 118 1 = some (.iconst 3, 1, 0, 3, 0) := by decide +kernel
theorem fi_118_2 : am_find 118 2 = some (.invokestatic 72, 3, 13, 2, 14) := by decide +kernel
theorem fi_118_5 : am_find 118 5 = some (.ifCond .eq 31, 3, 0, 0, 0) := by decide +kernel
theorem fi_118_8 : am_find 118 8 = some (.iload_n 2, 1, 0, 0, 0) := by decide +kernel
theorem fi_118_9 : am_find 118 9 = some (.aload_n 0, 1, 0, 0, 0) := by decide +kernel
theorem fi_118_10 : am_find 118 10 = some (.getfield 10, 3, 9, 0, 0) := by decide +kernel
theorem fi_118_13 : am_find 118 13 = some (.getfield 76, 3, 8, 0, 42) := by decide +kernel
theorem fi_118_16 : am_find 118 16 = some (.invokestatic 72, 3, 13, 2, 14) := by decide +kernel
theorem fi_118_19 : am_find 118 19 = some (.ifCond .eq 17, 3, 0, 0, 0) := by decide +kernel
theorem fi_118_22 : am_find 118 22 = some (.iload_n 3, 1, 0, 0, 0) := by decide +kernel
theorem fi_118_23 : am_find 118 23 = some (.aload_n 0, 1, 0, 0, 0) := by decide +kernel
theorem fi_118_24 : am_find 118 24 = some (.getfield 10, 3, 9, 0, 0) := by decide +kernel
theorem fi_118_27 : am_find 118 27 = some (.getfield 76, 3, 8, 0, 42) := by decide +kernel
theorem fi_118_30 : am_find 118 30 = some (.invokestatic 72, 3, 13, 2, 14) := by decide +kernel
theorem fi_118_33 : am_find 118 33 = some (.ifCond .ne 5, 3, 0, 0, 0) := by decide +kernel
theorem fi_118_36 : am_find 118 36 = some (.iconst (-1), 1, 0, (-1), 0) := by decide +kernel
theorem fi_118_37 : am_find 118 37 = some (.ireturn, 1, 0, 0, 0) := by decide +kernel
theorem fi_118_38 : am_find 118 38 = some (.iload_n 2, 1, 0, 0, 0) := by decide +kernel
theorem fi_118_39 : am_find 118 39 = some (.iload_n 3, 1, 0, 0, 0) := by decide +kernel
theorem fi_118_40 : am_find 118 40 = some (.if_icmp .ne 8, 3, 0, 0, 0) := by decide +kernel
theorem fi_118_43 : am_find 118 43 = some (.bipush (-2), 2, 0, (-2), 0) := by decide +kernel
theorem fi_118_45 : am_find 118 45 = some (.goto 13, 3, 0, 0, 0) := by decide +kernel
theorem fi_118_48 : am_find 118 48 = some (.aload_n 0, 1, 0, 0, 0) := by decide +kernel
theorem fi_118_49 : am_find 118 49 = some (.getfield 61, 3, 9, 7, 7) := by decide +kernel
theorem fi_118_52 : am_find 118 52 = some (.iload_n 1, 1, 0, 0, 0) := by decide +kernel
theorem fi_118_53 : am_find 118 53 = some (.iload_n 2, 1, 0, 0, 0) := by decide +kernel
theorem fi_118_54 : am_find 118 54 = some (.iload_n 3, 1, 0, 0, 0) := by decide +kernel
theorem fi_118_55 : am_find 118 55 = some (.invokevirtual 245, 3, 119, 3, 140) := by decide +kernel
theorem fi_118_58 : am_find 118 58 = some (.ireturn, 1, 0, 0, 0) := by decide +kernel
theorem b118_0 {d L : Nat} {σ : St} {Q : Option AV → AW → Prop} {x1 : Int} {u0 u2 u3 : AV} : R (d + 1) 118 0 [u0, vI x1, u2, u3] [] (WS L σ) Q = R d 13 0 [vI x1, vI 3] [] (WS L σ) (fun r w => R (d + 1) 118 5 [u0, vI x1, u2, u3] (am_push r []) w Q) := K_iload_n fi_118_0 rfl <| K_iconst fi_118_1 <| R_invS fi_118_2 (by decide) (am_invS_of (Nat.le_of_ble_eq_true rfl) rfl (Nat.le_of_ble_eq_true rfl) (Nat.le_of_ble_eq_true rfl) rfl rfl)
theorem b118_5 {d L : Nat} {σ : St} {Q : Option AV → AW → Prop} {y0 : Int} {u0 u1 u2 u3 : AV} : R d 118 5 [u0, u1, u2, u3] [vI y0] (WS L σ) Q = if y0 = 0 then R d 118 36 [u0, u1, u2, u3] [] (WS L σ) Q else R d 118 8 [u0, u1, u2, u3] [] (WS L σ) Q := R_if_eq fi_118_5 rfl
theorem b118_8 {d L : Nat} {σ : St} {Q : Option AV → AW → Prop} {x2 : Int} {u1 u3 : AV} : R (d + 1) 118 8 [vR 19, u1, vI x2, u3] [] (WS L σ) Q = R d 13 0 [vI x2, vI (σ 20 0)] [] (WS L σ) (fun r w => R (d + 1) 118 19 [vR 19, u1, vI x2, u3] (am_push r []) w Q) := K_iload_n fi_118_8 rfl <| K_aload_n fi_118_9 rfl <| K_gf fi_118_10 kd_19 mk_19_0 <| K_gf fi_118_13 kd_20 mk_20_0 <| R_invS fi_118_16 (by decide) (am_invS_of (Nat.le_of_ble_eq_true rfl) rfl (Nat.le_of_ble_eq_true rfl) (Nat.le_of_ble_eq_true rfl) rfl rfl)
theorem b118_19 {d L : Nat} {σ : St} {Q : Option AV → AW → Prop} {y0 : Int} {u0 u1 u2 u3 : AV} : R d 118 19 [u0, u1, u2, u3] [vI y0] (WS L σ) Q = if y0 = 0 then R d 118 36 [u0, u1, u2, u3] [] (WS L σ) Q else R d 118 22 [u0, u1, u2, u3] [] (WS L σ) Q := R_if_eq fi_118_19 rfl
theorem b118_22 {d L : Nat} {σ : St} {Q : Option AV → AW → Prop} {x3 : Int} {u1 u2 : AV} : R (d + 1) 118 22 [vR 19, u1, u2, vI x3] [] (WS L σ) Q = R d 13 0 [vI x3, vI (σ 20 0)] [] (WS L σ) (fun r w => R (d + 1) 118 33 [vR 19, u1, u2, vI x3] (am_push r []) w Q) := K_iload_n fi_118_22 rfl <| K_aload_n fi_118_23 rfl <| K_gf fi_118_24 kd_19 mk_19_0 <| K_gf fi_118_27 kd_20 mk_20_0 <| R_invS fi_118_30 (by decide) (am_invS_of (Nat.le_of_ble_eq_true rfl) rfl (Nat.le_of_ble_eq_true rfl) (Nat.le_of_ble_eq_true rfl) rfl rfl)
theorem b118_33 {d L : Nat} {σ : St} {Q : Option AV → AW → Prop} {y0 : Int} {u0 u1 u2 u3 : AV} : R d 118 33 [u0, u1, u2, u3] [vI y0] (WS L σ) Q = if ¬ y0 = 0 then R d 118 38 [u0, u1, u2, u3] [] (WS L σ) Q else R d 118 36 [u0, u1, u2, u3] [] (WS L σ) Q := R_if_ne fi_118_33 rfl
theorem b118_36 {d L : Nat} {σ : St} {Q : Option AV → AW → Prop} {u0 u1 u2 u3 : AV} : R d 118 36 [u0, u1, u2, u3] [] (WS L σ) Q = Q (some (vI (-1))) (WS L σ) := K_iconst fi_118_36 <| R_ireti fi_118_37 rfl
theorem b118_38 {d L : Nat} {σ : St} {Q : Option AV → AW → Prop} {x2 x3 : Int} {u0 u1 : AV} : R d 118 38 [u0, u1, vI x2, vI x3] [] (WS L σ) Q = if ¬ x2 = x3 then R d 118 48 [u0, u1, vI x2, vI x3] [] (WS L σ) Q else R d 118 43 [u0, u1, vI x2, vI x3] [] (WS L σ) Q := K_iload_n fi_118_38 rfl <| K_iload_n fi_118_39 rfl <| R_icmp_ne fi_118_40 rfl
theorem b118_43 {d L : Nat} {σ : St} {Q : Option AV → AW → Prop} {u0 u1 u2 u3 : AV} : R d 118 43 [u0, u1, u2, u3] [] (WS L σ) Q = R d 118 58 [u0, u1, u2, u3] [vI (-2)] (WS L σ) Q := K_bipush fi_118_43 <| R_goto fi_118_45 rfl
theorem b118_48 {d L : Nat} {σ : St} {Q : Option AV → AW → Prop} {x1 x2 x3 : Int} : R (d + 1) 118 48 [vR 19, vI x1, vI x2, vI x3] [] (WS L σ) Q = R d 119 0 [vR 147, vI x1, vI x2, vI x3, vX 9, vX 9] [] (WS L σ) (fun r w => R (d + 1) 118 58 [vR 19, vI x1, vI x2, vI x3] (am_push r []) w Q) := K_aload_n fi_118_48 rfl <| K_gf fi_118_49 kd_19 mk_19_7 <| K_iload_n fi_118_52 rfl <| K_iload_n fi_118_53 rfl <| K_iload_n fi_118_54 rfl <| R_invV fi_118_55 (am_invV_of rfl (kd_147) (Nat.le_of_ble_eq_true rfl) (Nat.le_of_ble_eq_true rfl) rfl rfl)
theorem b118_58 {d L : Nat} {σ : St} {Q : Option AV → AW → Prop} {y0 : Int} {u0 u1 u2 u3 : AV} : R d 118 58 [u0, u1, u2, u3] [vI y0] (WS L σ) Q = Q (some (vI y0)) (WS L σ) := R_ireti fi_118_58 rfl
theorem fi_119_0 : am_find 119 0 = some (.iconst 0, 1, 0, 0, 0) := by decide +kernel
theorem fi_119_1 : am_find 119 1 = some (.istore 4, 2, 0, 0, 0) := by decide +kernel
theorem fi_119_3 : am_find 119 3 = some (.iconst 0, 1, 0, 0, 0) := by decide +kernel
theorem fi_119_4 : am_find 119 4 = some (.istore 5, 2, 0, 0, 0) := by decide +kernel
theorem fi_119_6 : am_find 119 6 = some (.iload 5, 2, 0, 0, 0) := by decide +kernel
theorem fi_119_8 : am_find 119 8 = some (.aload_n 0, 1, 0, 0, 0) := by decide +kernel
theorem fi_119_9 : am_find 119 9 = some (.getfield 18, 3, 7, 0, 40) := by decide +kernel
theorem fi_119_12 : am_find 119 12 = some (.getfield 22, 3, 8, 4, 89) := by decide +kernel
theorem fi_119_15 : am_find 119 15 = some (.if_icmp .ge 26, 3, 0, 0, 0) := by decide +kernel
theorem fi_119_18 : am_find 119 18 = some (.iload 4, 2, 0, 0, 0) := by decide +kernel
theorem fi_119_20 : am_find 119 20 = some (.aload_n 0, 1, 0, 0, 0) := by decide +kernel
theorem fi_119_21 : am_find 119 21 = some (.iload 5, 2, 0, 0, 0) := by decide +kernel
theorem fi_119_23 : am_find 119 23 = some (.iload_n 1, 1, 0, 0, 0) := by decide +kernel
theorem fi_119_24 : am_find 119 24 = some (.iload_n 2, 1, 0, 0, 0) := by decide +kernel
theorem fi_119_25 : am_find 119 25 = some (.invokevirtual 28, 3, 120, 3, 141) := by decide +kernel
theorem fi_119_28 : am_find 119 28 = some (.iload_n 3, 1, 0, 0, 0) := by decide +kernel
theorem fi_119_29 : am_find 119 29 = some (.ishr, 1, 0, 0, 0) := by decide +kernel
theorem fi_119_30 : am_find 119 30 = some (.iconst 1, 1, 0, 1, 0) := by decide +kernel
theorem fi_119_31 : am_find 119 31 = some (.iand, 1, 0, 0, 0) := by decide +kernel
theorem fi_119_32 : am_find 119 32 = some (.iadd, 1, 0, 0, 0) := by decide +kernel
theorem fi_119_33 : am_find 119 33 = some (.istore 4, 2, 0, 0, 0) := by decide +kernel
theorem fi_119_35 : am_find 119 35 = some (.iinc 5 1, 3, 0, 0, 0) := by decide +kernel
theorem fi_119_38 : am_find 119 38 = some (.goto (-32), 3, 0, 0, 0) := by decide +kernel
theorem fi_119_41 : am_find 119 41 = some (.iload 4, 2, 0, 0, 0) := by decide +kernel
theorem fi_119_43 : am_find 119 43 = some (.ireturn, 1, 0, 0, 0) := by decide +kernel
theorem b119_0 {d L : Nat} {σ : St} {Q : Option AV → AW → Prop} {u0 u1 u2 u3 u4 u5 : AV} : R d 119 0 [u0, u1, u2, u3, u4, u5] [] (WS L σ) Q = R d 119 6 [u0, u1, u2, u3, vI 0, vI 0] [] (WS L σ) Q := K_iconst fi_119_0 <| K_istore fi_119_1 (Nat.le_of_ble_eq_true rfl) rfl rfl <| K_iconst fi_119_3 <| K_istore fi_119_4 (Nat.le_of_ble_eq_true rfl) rfl rfl <| rfl
theorem b119_6 {d L : Nat} {σ : St} {Q : Option AV → AW → Prop} {x5 : Int} {u1 u2 u3 u4 : AV} : R d 119 6 [vR 147, u1, u2, u3, u4, vI x5] [] (WS L σ) Q = if (σ 20 4) ≤ x5 then R d 119 41 [vR 147, u1, u2, u3, u4, vI x5] [] (WS L σ) Q else R d 119 18 [vR 147, u1, u2, u3, u4, vI x5] [] (WS L σ) Q := K_iload fi_119_6 rfl <| K_aload_n fi_119_8 rfl <| K_gf fi_119_9 kd_147 mk_147_0 <| K_gf fi_119_12 kd_20 mk_20_4 <| R_icmp_ge fi_119_15 rfl
theorem b119_18 {d L : Nat} {σ : St} {Q : Option AV → AW → Prop} {x4 x5 x1 x2 : Int} {u3 : AV} : R (d + 1) 119 18 [vR 147, vI x1, vI x2, u3, vI x4, vI x5] [] (WS L σ) Q = R d 120 0 [vR 147, vI x5, vI x1, vI x2, vX 9, vX 9, vX 9] [] (WS L σ) (fun r w => R (d + 1) 119 28 [vR 147, vI x1, vI x2, u3, vI x4, vI x5] (am_push r [vI x4]) w Q) := K_iload fi_119_18 rfl <| K_aload_n fi_119_20 rfl <| K_iload fi_119_21 rfl <| K_iload_n fi_119_23 rfl <| K_iload_n fi_119_24 rfl <| R_invV fi_119_25 (am_invV_of rfl (kd_147) (Nat.le_of_ble_eq_true rfl) (Nat.le_of_ble_eq_true rfl) rfl rfl)
theorem b119_28 {d L : Nat} {σ : St} {Q : Option AV → AW → Prop} {y0 y1 x3 x5 : Int} {u0 u1 u2 u4 : AV} (h1 : -2147483648 ≤ y1 + (i_and (i_shr y0 x3) 1) ∧ y1 + (i_and (i_shr y0 x3) 1) ≤ 2147483647) (h2 : -2147483648 ≤ x5 + 1 ∧ x5 + 1 ≤ 2147483647) : R d 119 28 [u0, u1, u2, vI x3, u4, vI x5] [vI y0, vI y1] (WS L σ) Q = R d 119 6 [u0, u1, u2, vI x3, vI (y1 + (i_and (i_shr y0 x3) 1)), vI (x5 + 1)] [] (WS L σ) Q := K_iload_n fi_119_28 rfl <| K_ishr fi_119_29 <| K_iconst fi_119_30 <| K_iand fi_119_31 <| K_iaddx fi_119_32 h1 <| K_istore fi_119_33 (Nat.le_of_ble_eq_true rfl) rfl rfl <| K_iincx fi_119_35 rfl (Nat.le_of_ble_eq_true rfl) rfl h2 rfl <| R_goto fi_119_38 rfl
theorem b119_41 {d L : Nat} {σ : St} {Q : Option AV → AW → Prop} {x4 : Int} {u0 u1 u2 u3 u5 : AV} : R d 119 41 [u0, u1, u2, u3, vI x4, u5] [] (WS L σ) Q = Q (some (vI x4)) (WS L σ) := K_iload fi_119_41 rfl <| R_ireti fi_119_43 rfl
theorem fi_120_0 : am_find 120 0 = some (.aload_n 0, 1, 0, 0, 0) := by decide +kernel
theorem fi_120_1 : am_find 120 1 = some (.getfield 18, 3, 7, 0, 40) := by decide +kernel
theorem fi_120_4 : am_find 120 4 = some (.iload_n 1, 1, 0, 0, 0) := by decide +kernel
theorem fi_120_5 : am_find 120 5 = some (.invokevirtual 32, 3, 95, 1, 142) := by decide +kernel
theorem fi_120_8 : am_find 120 8 = some (.astore 4, 2, 0, 0, 0) := by decide +kernel
theorem fi_120_10 : am_find 120 10 = some (.iconst 0, 1, 0, 0, 0) := by decide +kernel
theorem fi_120_11 : am_find 120 11 = some (.istore 5, 2, 0, 0, 0) := by decide +kernel
theorem fi_120_13 : am_find 120 13 = some (.aload 4, 2, 0, 0, 0) := by decide +kernel
theorem fi_120_15 : am_find 120 15 = some (.ifnonnull 7, 3, 0, 0, 0) := by decide +kernel
theorem fi_120_18 : am_find 120 18 = some (.iconst (-1), 1, 0, (-1), 0) := by decide +kernel
theorem fi_120_19 : am_find 120 19 = some (.goto 10, 3, 0, 0, 0) := by decide +kernel
theorem fi_120_22 : am_find 120 22 = some (.aload 4, 2, 0, 0, 0) := by decide +kernel
theorem fi_120_24 : am_find 120 24 = some (.getfield 36, 3, 5, 1, 90) := by decide +kernel
theorem fi_120_27 : am_find 120 27 = some (.iconst 1, 1, 0, 1, 0) := by decide +kernel
theorem fi_120_28 : am_find 120 28 = some (.isub, 1, 0, 0, 0) := by decide +kernel
theorem fi_120_29 : am_find 120 29 = some (.istore 6, 2, 0, 0, 0) := by decide +kernel
theorem fi_120_31 : am_find 120 31 = some (.iload 6, 2, 0, 0, 0) := by decide +kernel
theorem fi_120_33 : am_find 120 33 = some (.ifCond .lt 45, 3, 0, 0, 0) := by decide +kernel
theorem fi_120_36 : am_find 120 36 = some (.aload 4, 2, 0, 0, 0) := by decide +kernel
theorem fi_120_38 : am_find 120 38 = some (.iload 6, 2, 0, 0, 0) := by decide +kernel
theorem fi_120_40 : am_find 120 40 = some (.invokevirtual 41, 3, 64, 1, 143) := by decide +kernel
theorem fi_120_43 : am_find 120 43 = some (.iload_n 2, 1, 0, 0, 0) := by decide +kernel
theorem fi_120_44 : am_find 120 44 = some (.bipush 8, 2, 0, 8, 0) := by decide +kernel
theorem fi_120_46 : am_find 120 46 = some (.imul, 1, 0, 0, 0) := by decide +kernel
theorem fi_120_47 : am_find 120 47 = some (.iload_n 3, 1, 0, 0, 0) := by decide +kernel
theorem fi_120_48 : am_find 120 48 = some (.iadd, 1, 0, 0, 0) := by decide +kernel
theorem fi_120_49 : am_find 120 49 = some (.if_icmp .ne 6, 3, 0, 0, 0) := by decide +kernel
theorem fi_120_52 : am_find 120 52 = some (.iload 5, 2, 0, 0, 0) := by decide +kernel
theorem fi_120_54 : am_find 120 54 = some (.ireturn, 1, 0, 0, 0) := by decide +kernel
theorem fi_120_55 : am_find 120 55 = some (.iload 5, 2, 0, 0, 0) := by decide +kernel
theorem fi_120_57 : am_find 120 57 = some (.iconst 1, 1, 0, 1, 0) := by decide +kernel
theorem fi_120_58 : am_find 120 58 = some (.aload 4, 2, 0, 0, 0) := by decide +kernel
theorem fi_120_60 : am_find 120 60 = some (.iload 6, 2, 0, 0, 0) := by decide +kernel
theorem fi_120_62 : am_find 120 62 = some (.invokevirtual 41, 3, 64, 1, 143) := by decide +kernel
theorem fi_120_65 : am_find 120 65 = some (.bipush 7, 2, 0, 7, 0) := by decide +kernel
theorem fi_120_67 : am_find 120 67 = some (.iand, 1, 0, 0, 0) := by decide +kernel
theorem fi_120_68 : am_find 120 68 = some (.ishl, 1, 0, 0, 0) := by decide +kernel
theorem fi_120_69 : am_find 120 69 = some (.ior, 1, 0, 0, 0) := by decide +kernel
theorem fi_120_70 : am_find 120 70 = some (.istore 5, 2, 0, 0, 0) := by decide +kernel
theorem fi_120_72 : am_find 120 72 = some (.iinc 6 (-1), 3, 0, 0, 0) := by decide +kernel
theorem fi_120_75 : am_find 120 75 = some (.goto (-44), 3, 0, 0, 0) := by decide +kernel
theorem fi_120_78 : am_find 120 78 = some (.iconst 0, 1, 0, 0, 0) := by decide +kernel
theorem fi_120_79 : am_find 120 79 = some (.ireturn, 1, 0, 0, 0) := by decide +kernel
theorem b120_0 {d L : Nat} {σ : St} {Q : Option AV → AW → Prop} {x1 : Int} {u2 u3 u4 u5 u6 : AV} : R (d + 1) 120 0 [vR 147, vI x1, u2, u3, u4, u5, u6] [] (WS L σ) Q = R d 95 0 [vR 20, vI x1] [] (WS L σ) (fun r w => R (d + 1) 120 8 [vR 147, vI x1, u2, u3, u4, u5, u6] (am_push r []) w Q) := K_aload_n fi_120_0 rfl <| K_gf fi_120_1 kd_147 mk_147_0 <| K_iload_n fi_120_4 rfl <| R_invV fi_120_5 (am_invV_of rfl (kd_20) (Nat.le_of_ble_eq_true rfl) (Nat.le_of_ble_eq_true rfl) rfl rfl)
theorem b120_8 {d L : Nat} {σ : St} {Q : Option AV → AW → Prop} {q0 : Nat} {u0 u1 u2 u3 u4 u5 u6 : AV} : R d 120 8 [u0, u1, u2, u3, u4, u5, u6] [vR q0] (WS L σ) Q = R d 120 22 [u0, u1, u2, u3, vR q0, vI 0, u6] [] (WS L σ) Q := K_astore fi_120_8 (Nat.le_of_ble_eq_true rfl) rfl rfl <| K_iconst fi_120_10 <| K_istore fi_120_11 (Nat.le_of_ble_eq_true rfl) rfl rfl <| K_aload fi_120_13 rfl <| R_ifnonnull fi_120_15 rfl
theorem b120_8n {d L : Nat} {σ : St} {Q : Option AV → AW → Prop} {u0 u1 u2 u3 u4 u5 u6 : AV} : R d 120 8 [u0, u1, u2, u3, u4, u5, u6] [vX 0] (WS L σ) Q = R d 120 18 [u0, u1, u2, u3, vX 0, vI 0, u6] [] (WS L σ) Q := K_astoreN fi_120_8 (Nat.le_of_ble_eq_true rfl) rfl rfl <| K_iconst fi_120_10 <| K_istore fi_120_11 (Nat.le_of_ble_eq_true rfl) rfl rfl <| K_aloadN fi_120_13 rfl <| R_ifnonnullN fi_120_15
theorem b120_18 {d L : Nat} {σ : St} {Q : Option AV → AW → Prop} {u0 u1 u2 u3 u4 u5 u6 : AV} : R d 120 18 [u0, u1, u2, u3, u4, u5, u6] [] (WS L σ) Q = R d 120 29 [u0, u1, u2, u3, u4, u5, u6] [vI (-1)] (WS L σ) Q := K_iconst fi_120_18 <| R_goto fi_120_19 rfl
theorem b120_22 {d L : Nat} {σ : St} {Q : Option AV → AW → Prop} {r4 : Nat} {u0 u1 u2 u3 u5 u6 : AV} (h1 : KD r4 = 5) (h2 : -2147483648 ≤ (σ r4 1) - 1 ∧ (σ r4 1) - 1 ≤ 2147483647) : R d 120 22 [u0, u1, u2, u3, vR r4, u5, u6] [] (WS L σ) Q = R d 120 29 [u0, u1, u2, u3, vR r4, u5, u6] [vI ((σ r4 1) - 1)] (WS L σ) Q := K_aload fi_120_22 rfl <| K_gf fi_120_24 h1 (row_sz h1) <| K_iconst fi_120_27 <| K_isubx fi_120_28 h2 <| rfl
theorem b120_29 {d L : Nat} {σ : St} {Q : Option AV → AW → Prop} {y0 : Int} {u0 u1 u2 u3 u4 u5 u6 : AV} : R d 120 29 [u0, u1, u2, u3, u4, u5, u6] [vI y0] (WS L σ) Q = R d 120 31 [u0, u1, u2, u3, u4, u5, vI y0] [] (WS L σ) Q := K_istore fi_120_29 (Nat.le_of_ble_eq_true rfl) rfl rfl <| rfl
theorem b120_29m {d L : Nat} {σ : St} {Q : Option AV → AW → Prop} {y0 : Int} {u0 u1 u2 u3 u4 u5 u6 : AV} : R d 120 29 [u0, u1, u2, u3, u4, u5, u6] [vI y0] (WS L σ) Q = R d 120 31 [u0, u1, u2, u3, u4, u5, vI y0] [] (WS L σ) Q := K_istore fi_120_29 (Nat.le_of_ble_eq_true rfl) rfl rfl <| rfl
theorem b120_31 {d L : Nat} {σ : St} {Q : Option AV → AW → Prop} {x6 : Int} {u0 u1 u2 u3 u4 u5 : AV} : R d 120 31 [u0, u1, u2, u3, u4, u5, vI x6] [] (WS L σ) Q = if x6 < 0 then R d 120 78 [u0, u1, u2, u3, u4, u5, vI x6] [] (WS L σ) Q else R d 120 36 [u0, u1, u2, u3, u4, u5, vI x6] [] (WS L σ) Q := K_iload fi_120_31 rfl <| R_if_lt fi_120_33 rfl
theorem b120_31m {d L : Nat} {σ : St} {Q : Option AV → AW → Prop} {x6 : Int} {u0 u1 u2 u3 u4 u5 : AV} : R d 120 31 [u0, u1, u2, u3, u4, u5, vI x6] [] (WS L σ) Q = if x6 < 0 then R d 120 78 [u0, u1, u2, u3, u4, u5, vI x6] [] (WS L σ) Q else R d 120 36 [u0, u1, u2, u3, u4, u5, vI x6] [] (WS L σ) Q := K_iload fi_120_31 rfl <| R_if_lt fi_120_33 rfl
theorem b120_36 {d L : Nat} {σ : St} {Q : Option AV → AW → Prop} {x6 : Int} {r4 : Nat} {u0 u1 u2 u3 u5 : AV} (h1 : KD r4 = 5) : R (d + 1) 120 36 [u0, u1, u2, u3, vR r4, u5, vI x6] [] (WS L σ) Q = R d 64 0 [vR r4, vI x6] [] (WS L σ) (fun r w => R (d + 1) 120 43 [u0, u1, u2, u3, vR r4, u5, vI x6] (am_push r []) w Q) := K_aload fi_120_36 rfl <| K_iload fi_120_38 rfl <| R_invV fi_120_40 (am_invV_of rfl (h1) (Nat.le_of_ble_eq_true rfl) (Nat.le_of_ble_eq_true rfl) rfl rfl)
theorem b120_43 {d L : Nat} {σ : St} {Q : Option AV → AW → Prop} {y0 x2 x3 : Int} {u0 u1 u4 u5 u6 : AV} (h1 : -2147483648 ≤ x2 * 8 ∧ x2 * 8 ≤ 2147483647) (h2 : -2147483648 ≤ (x2 * 8) + x3 ∧ (x2 * 8) + x3 ≤ 2147483647) : R d 120 43 [u0, u1, vI x2, vI x3, u4, u5, u6] [vI y0] (WS L σ) Q = if ¬ y0 = ((x2 * 8) + x3) then R d 120 55 [u0, u1, vI x2, vI x3, u4, u5, u6] [] (WS L σ) Q else R d 120 52 [u0, u1, vI x2, vI x3, u4, u5, u6] [] (WS L σ) Q := K_iload_n fi_120_43 rfl <| K_bipush fi_120_44 <| K_imulx fi_120_46 h1 <| K_iload_n fi_120_47 rfl <| K_iaddx fi_120_48 h2 <| R_icmp_ne fi_120_49 rfl
theorem b120_52 {d L : Nat} {σ : St} {Q : Option AV → AW → Prop} {x5 : Int} {u0 u1 u2 u3 u4 u6 : AV} : R d 120 52 [u0, u1, u2, u3, u4, vI x5, u6] [] (WS L σ) Q = Q (some (vI x5)) (WS L σ) := K_iload fi_120_52 rfl <| R_ireti fi_120_54 rfl
theorem b120_55 {d L : Nat} {σ : St} {Q : Option AV → AW → Prop} {x5 x6 : Int} {r4 : Nat} {u0 u1 u2 u3 : AV} (h1 : KD r4 = 5) : R (d + 1) 120 55 [u0, u1, u2, u3, vR r4, vI x5, vI x6] [] (WS L σ) Q = R d 64 0 [vR r4, vI x6] [] (WS L σ) (fun r w => R (d + 1) 120 65 [u0, u1, u2, u3, vR r4, vI x5, vI x6] (am_push r [vI 1, vI x5]) w Q) := K_iload fi_120_55 rfl <| K_iconst fi_120_57 <| K_aload fi_120_58 rfl <| K_iload fi_120_60 rfl <| R_invV fi_120_62 (am_invV_of rfl (h1) (Nat.le_of_ble_eq_true rfl) (Nat.le_of_ble_eq_true rfl) rfl rfl)
theorem b120_65 {d L : Nat} {σ : St} {Q : Option AV → AW → Prop} {y0 y1 y2 x6 : Int} {u0 u1 u2 u3 u4 u5 : AV} (h1 : -2147483648 ≤ x6 + (-1) ∧ x6 + (-1) ≤ 2147483647) : R d 120 65 [u0, u1, u2, u3, u4, u5, vI x6] [vI y0, vI y1, vI y2] (WS L σ) Q = R d 120 31 [u0, u1, u2, u3, u4, vI (i_or y2 (i_shl y1 (i_and y0 7))), vI (x6 + (-1))] [] (WS L σ) Q := K_bipush fi_120_65 <| K_iand fi_120_67 <| K_ishl fi_120_68 <| K_ior fi_120_69 <| K_istore fi_120_70 (Nat.le_of_ble_eq_true rfl) rfl rfl <| K_iincx fi_120_72 rfl (Nat.le_of_ble_eq_true rfl) rfl h1 rfl <| R_goto fi_120_75 rfl
theorem b120_78 {d L : Nat} {σ : St} {Q : Option AV → AW → Prop} {u0 u1 u2 u3 u4 u5 u6 : AV} : R d 120 78 [u0, u1, u2, u3, u4, u5, u6] [] (WS L σ) Q = Q (some (vI 0)) (WS L σ) := K_iconst fi_120_78 <| R_ireti fi_120_79 rfl
theorem b120_78m {d L : Nat} {σ : St} {Q : Option AV → AW → Prop} {u0 u1 u2 u3 u4 u5 u6 : AV} : R d 120 78 [u0, u1, u2, u3, u4, u5, u6] [] (WS L σ) Q = Q (some (vI 0)) (WS L σ) := K_iconst fi_120_78 <| R_ireti fi_120_79 rfl
theorem fi_121_0 : am_find 121 0 = some (.iload_n 1, 1, 0, 0, 0) := by decide +kernel
theorem fi_121_1 : am_find 121 1 = some (.iconst 3, 1, 0, 3, 0) := by decide +kernel
theorem fi_121_2 : am_find 121 2 = some (.invokestatic 72, 3, 13, 2, 14) := by decide +kernel
theorem fi_121_5 : am_find 121 5 = some (.ifCond .ne 5, 3, 0, 0, 0) := by decide +kernel
theorem fi_121_8 : am_find 121 8 = some (.iconst (-1), 1, 0, (-1), 0) := by decide +kernel
theorem fi_121_9 : am_find 121 9 = some (.ireturn, 1, 0, 0, 0) := by decide +kernel
theorem fi_121_10 : am_find 121 10 = some (.aload_n 0, 1, 0, 0, 0) := by decide +kernel
theorem fi_121_11 : am_find 121 11 = some (.getfield 10, 3, 9, 0, 0) := by decide +kernel
theorem fi_121_14 : am_find 121 14 = some (.getfield 76, 3, 8, 0, 42) := by decide +kernel
theorem fi_121_17 : am_find 121 17 = some (.bipush 6, 2, 0, 6, 0) := by decide +kernel
theorem fi_121_19 : am_find 121 19 = some (.if_icmp .le 6, 3, 0, 0, 0) := by decide +kernel
theorem fi_121_22 : am_find 121 22 = some (.bipush (-9), 2, 0, (-9), 0) := by decide +kernel
theorem fi_121_24 : am_find 121 24 = some (.ireturn, 1, 0, 0, 0) := by decide +kernel
theorem fi_121_25 : am_find 121 25 = some (.iload_n 2, 1, 0, 0, 0) := by decide +kernel
theorem fi_121_26 : am_find 121 26 = some (.iconst 1, 1, 0, 1, 0) := by decide +kernel
theorem fi_121_27 : am_find 121 27 = some (.iadd, 1, 0, 0, 0) := by decide +kernel
theorem fi_121_28 : am_find 121 28 = some (.aload_n 0, 1, 0, 0, 0) := by decide +kernel
theorem fi_121_29 : am_find 121 29 = some (.getfield 10, 3, 9, 0, 0) := by decide +kernel
theorem fi_121_32 : am_find 121 32 = some (.getfield 76, 3, 8, 0, 42) := by decide +kernel
theorem fi_121_35 : am_find 121 35 = some (.iconst 1, 1, 0, 1, 0) := by decide +kernel
theorem fi_121_36 : am_find 121 36 = some (.iadd, 1, 0, 0, 0) := by decide +kernel
theorem fi_121_37 : am_find 121 37 = some (.invokestatic 72, 3, 13, 2, 14) := by decide +kernel
theorem fi_121_40 : am_find 121 40 = some (.ifCond .ne 5, 3, 0, 0, 0) := by decide +kernel
theorem fi_121_43 : am_find 121 43 = some (.iconst (-1), 1, 0, (-1), 0) := by decide +kernel
theorem fi_121_44 : am_find 121 44 = some (.ireturn, 1, 0, 0, 0) := by decide +kernel
theorem fi_121_45 : am_find 121 45 = some (.aload_n 0, 1, 0, 0, 0) := by decide +kernel
theorem fi_121_46 : am_find 121 46 = some (.getfield 61, 3, 9, 7, 7) := by decide +kernel
theorem fi_121_49 : am_find 121 49 = some (.iload_n 1, 1, 0, 0, 0) := by decide +kernel
theorem fi_121_50 : am_find 121 50 = some (.invokevirtual 248, 3, 122, 1, 144) := by decide +kernel
theorem fi_121_53 : am_find 121 53 = some (.iload_n 2, 1, 0, 0, 0) := by decide +kernel
theorem fi_121_54 : am_find 121 54 = some (.ifCond .ge 13, 3, 0, 0, 0) := by decide +kernel
theorem fi_121_57 : am_find 121 57 = some (.aload_n 0, 1, 0, 0, 0) := by decide +kernel
theorem fi_121_58 : am_find 121 58 = some (.getfield 61, 3, 9, 7, 7) := by decide +kernel
theorem fi_121_61 : am_find 121 61 = some (.invokevirtual 251, 3, 124, 0, 145) := by decide +kernel
theorem fi_121_64 : am_find 121 64 = some (.goto 11, 3, 0, 0, 0) := by decide +kernel
theorem fi_121_67 : am_find 121 67 = some (.aload_n 0, 1, 0, 0, 0) := by decide +kernel
theorem fi_121_68 : am_find 121 68 = some (.getfield 61, 3, 9, 7, 7) := by decide +kernel
theorem fi_121_71 : am_find 121 71 = some (.iload_n 2, 1, 0, 0, 0) := by decide +kernel
theorem fi_121_72 : am_find 121 72 = some (.invokevirtual 254, 3, 125, 1, 146) := by decide +kernel
theorem fi_121_75 : am_find 121 75 = some (.ireturn, 1, 0, 0, 0) := by decide +kernel
theorem b121_0 {d L : Nat} {σ : St} {Q : Option AV → AW → Prop} {x1 : Int} {u0 u2 : AV} : R (d + 1) 121 0 [u0, vI x1, u2] [] (WS L σ) Q = R d 13 0 [vI x1, vI 3] [] (WS L σ) (fun r w => R (d + 1) 121 5 [u0, vI x1, u2] (am_push r []) w Q) := K_iload_n fi_121_0 rfl <| K_iconst fi_121_1 <| R_invS fi_121_2 (by decide) (am_invS_of (Nat.le_of_ble_eq_true rfl) rfl (Nat.le_of_ble_eq_true rfl) (Nat.le_of_ble_eq_true rfl) rfl rfl)
theorem b121_5 {d L : Nat} {σ : St} {Q : Option AV → AW → Prop} {y0 : Int} {u0 u1 u2 : AV} : R d 121 5 [u0, u1, u2] [vI y0] (WS L σ) Q = if ¬ y0 = 0 then R d 121 10 [u0, u1, u2] [] (WS L σ) Q else R d 121 8 [u0, u1, u2] [] (WS L σ) Q := R_if_ne fi_121_5 rfl
theorem b121_8 {d L : Nat} {σ : St} {Q : Option AV → AW → Prop} {u0 u1 u2 : AV} : R d 121 8 [u0, u1, u2] [] (WS L σ) Q = Q (some (vI (-1))) (WS L σ) := K_iconst fi_121_8 <| R_ireti fi_121_9 rfl
theorem b121_10 {d L : Nat} {σ : St} {Q : Option AV → AW → Prop} {u1 u2 : AV} : R d 121 10 [vR 19, u1, u2] [] (WS L σ) Q = if (σ 20 0) ≤ 6 then R d 121 25 [vR 19, u1, u2] [] (WS L σ) Q else R d 121 22 [vR 19, u1, u2] [] (WS L σ) Q := K_aload_n fi_121_10 rfl <| K_gf fi_121_11 kd_19 mk_19_0 <| K_gf fi_121_14 kd_20 mk_20_0 <| K_bipush fi_121_17 <| R_icmp_le fi_121_19 rfl
theorem b121_22 {d L : Nat} {σ : St} {Q : Option AV → AW → Prop} {u0 u1 u2 : AV} : R d 121 22 [u0, u1, u2] [] (WS L σ) Q = Q (some (vI (-9))) (WS L σ) := K_bipush fi_121_22 <| R_ireti fi_121_24 rfl
theorem b121_25 {d L : Nat} {σ : St} {Q : Option AV → AW → Prop} {x2 : Int} {u1 : AV} (h1 : -2147483648 ≤ x2 + 1 ∧ x2 + 1 ≤ 2147483647) (h2 : -2147483648 ≤ (σ 20 0) + 1 ∧ (σ 20 0) + 1 ≤ 2147483647) : R (d + 1) 121 25 [vR 19, u1, vI x2] [] (WS L σ) Q = R d 13 0 [vI (x2 + 1), vI ((σ 20 0) + 1)] [] (WS L σ) (fun r w => R (d + 1) 121 40 [vR 19, u1, vI x2] (am_push r []) w Q) := K_iload_n fi_121_25 rfl <| K_iconst fi_121_26 <| K_iaddx fi_121_27 h1 <| K_aload_n fi_121_28 rfl <| K_gf fi_121_29 kd_19 mk_19_0 <| K_gf fi_121_32 kd_20 mk_20_0 <| K_iconst fi_121_35 <| K_iaddx fi_121_36 h2 <| R_invS fi_121_37 (by decide) (am_invS_of (Nat.le_of_ble_eq_true rfl) rfl (Nat.le_of_ble_eq_true rfl) (Nat.le_of_ble_eq_true rfl) rfl rfl)
theorem b121_40 {d L : Nat} {σ : St} {Q : Option AV → AW → Prop} {y0 : Int} {u0 u1 u2 : AV} : R d 121 40 [u0, u1, u2] [vI y0] (WS L σ) Q = if ¬ y0 = 0 then R d 121 45 [u0, u1, u2] [] (WS L σ) Q else R d 121 43 [u0, u1, u2] [] (WS L σ) Q := R_if_ne fi_121_40 rfl
theorem b121_43 {d L : Nat} {σ : St} {Q : Option AV → AW → Prop} {u0 u1 u2 : AV} : R d 121 43 [u0, u1, u2] [] (WS L σ) Q = Q (some (vI (-1))) (WS L σ) := K_iconst fi_121_43 <| R_ireti fi_121_44 rfl
theorem b121_45 {d L : Nat} {σ : St} {Q : Option AV → AW → Prop} {x1 : Int} {u2 : AV} : R (d + 1) 121 45 [vR 19, vI x1, u2] [] (WS L σ) Q = R d 122 0 [vR 147, vI x1, vX 9, vX 9, vX 9, vX 9] [] (WS L σ) (fun r w => R (d + 1) 121 53 [vR 19, vI x1, u2] (am_push r []) w Q) := K_aload_n fi_121_45 rfl <| K_gf fi_121_46 kd_19 mk_19_7 <| K_iload_n fi_121_49 rfl <| R_invV fi_121_50 (am_invV_of rfl (kd_147) (Nat.le_of_ble_eq_true rfl) (Nat.le_of_ble_eq_true rfl) rfl rfl)
theorem b121_53 {d L : Nat} {σ : St} {Q : Option AV → AW → Prop} {x2 : Int} {u0 u1 : AV} : R d 121 53 [u0, u1, vI x2] [] (WS L σ) Q = if 0 ≤ x2 then R d 121 67 [u0, u1, vI x2] [] (WS L σ) Q else R d 121 57 [u0, u1, vI x2] [] (WS L σ) Q := K_iload_n fi_121_53 rfl <| R_if_ge fi_121_54 rfl
theorem b121_57 {d L : Nat} {σ : St} {Q : Option AV → AW → Prop} {u1 u2 : AV} : R (d + 1) 121 57 [vR 19, u1, u2] [] (WS L σ) Q = R d 124 0 [vR 147] [] (WS L σ) (fun r w => R (d + 1) 121 64 [vR 19, u1, u2] (am_push r []) w Q) := K_aload_n fi_121_57 rfl <| K_gf fi_121_58 kd_19 mk_19_7 <| R_invV fi_121_61 (am_invV_of rfl (kd_147) (Nat.le_of_ble_eq_true rfl) (Nat.le_of_ble_eq_true rfl) rfl rfl)
theorem b121_64 {d L : Nat} {σ : St} {Q : Option AV → AW → Prop} {y0 : Int} {u0 u1 u2 : AV} : R d 121 64 [u0, u1, u2] [vI y0] (WS L σ) Q = R d 121 75 [u0, u1, u2] [vI y0] (WS L σ) Q := R_goto fi_121_64 rfl
theorem b121_67 {d L : Nat} {σ : St} {Q : Option AV → AW → Prop} {x2 : Int} {u1 : AV} : R (d + 1) 121 67 [vR 19, u1, vI x2] [] (WS L σ) Q = R d 125 0 [vR 147, vI x2, vX 9, vX 9, vX 9] [] (WS L σ) (fun r w => R (d + 1) 121 75 [vR 19, u1, vI x2] (am_push r []) w Q) := K_aload_n fi_121_67 rfl <| K_gf fi_121_68 kd_19 mk_19_7 <| K_iload_n fi_121_71 rfl <| R_invV fi_121_72 (am_invV_of rfl (kd_147) (Nat.le_of_ble_eq_true rfl) (Nat.le_of_ble_eq_true rfl) rfl rfl)
theorem b121_75 {d L : Nat} {σ : St} {Q : Option AV → AW → Prop} {y0 : Int} {u0 u1 u2 : AV} : R d 121 75 [u0, u1, u2] [vI y0] (WS L σ) Q = Q (some (vI y0)) (WS L σ) := R_ireti fi_121_75 rfl
theorem fi_122_0 : am_find 122 0 = some (.iconst 0, 1, 0, 0, 0) := by decide +kernel
theorem fi_122_1 : am_find 122 1 = some (.istore_n 2, 1, 0, 0, 0) := by decide +kernel
theorem fi_122_2 : am_find 122 2 = some (.iload_n 2, 1, 0, 0, 0) := by decide +kernel
theorem fi_122_3 : am_find 122 3 = some (.aload_n 0, 1, 0, 0, 0) := by decide +kernel
theorem fi_122_4 : am_find 122 4 = some (.getfield 9, 3, 7, 1, 38) := by decide +kernel
theorem fi_122_7 : am_find 122 7 = some (.arraylength, 1, 0, 0, 0) := by decide +kernel
theorem fi_122_8 : am_find 122 8 = some (.if_icmp .ge 28, 3, 0, 0, 0) := by decide +kernel
theorem fi_122_11 : am_find 122 11 = some (.aload_n 0, 1, 0, 0, 0) := by decide +kernel
theorem fi_122_12 : am_find 122 12 = some (.getfield 9, 3, 7, 1, 38) := by decide +kernel
theorem fi_122_15 : am_find 122 15 = some (.iload_n 2, 1, 0, 0, 0) := by decide +kernel
theorem fi_122_16 : am_find 122 16 = some (.aload_n 0, 1, 0, 0, 0) := by decide +kernel
theorem fi_122_17 : am_find 122 17 = some (.iload_n 2, 1, 0, 0, 0) := by decide +kernel
theorem fi_122_18 : am_find 122 18 = some (.bipush 12, 2, 0, 12, 0) := by decide +kernel
theorem fi_122_20 : am_find 122 20 = some (.irem, 1, 0, 0, 0) := by decide +kernel
theorem fi_122_21 : am_find 122 21 = some (.iload_n 1, 1, 0, 0, 0) := by decide +kernel
theorem fi_122_22 : am_find 122 22 = some (.iload_n 2, 1, 0, 0, 0) := by decide +kernel
theorem fi_122_23 : am_find 122 23 = some (.bipush 12, 2, 0, 12, 0) := by decide +kernel
theorem fi_122_25 : am_find 122 25 = some (.idiv, 1, 0, 0, 0) := by decide +kernel
theorem fi_122_26 : am_find 122 26 = some (.invokevirtual 28, 3, 120, 3, 141) := by decide +kernel
theorem fi_122_29 : am_find 122 29 = some (.iastore, 1, 0, 0, 0) := by decide +kernel
theorem fi_122_30 : am_find 122 30 = some (.iinc 2 1, 3, 0, 0, 0) := by decide +kernel
theorem fi_122_33 : am_find 122 33 = some (.goto (-31), 3, 0, 0, 0) := by decide +kernel
theorem fi_122_36 : am_find 122 36 = some (.aload_n 0, 1, 0, 0, 0) := by decide +kernel
theorem fi_122_37 : am_find 122 37 = some (.getfield 18, 3, 7, 0, 40) := by decide +kernel
theorem fi_122_40 : am_find 122 40 = some (.invokevirtual 45, 3, 34, 0, 147) := by decide +kernel
theorem fi_122_43 : am_find 122 43 = some (.aload_n 0, 1, 0, 0, 0) := by decide +kernel
theorem fi_122_44 : am_find 122 44 = some (.getfield 15, 3, 7, 2, 39) := by decide +kernel
theorem fi_122_47 : am_find 122 47 = some (.arraylength, 1, 0, 0, 0) := by decide +kernel
theorem fi_122_48 : am_find 122 48 = some (.iconst 1, 1, 0, 1, 0) := by decide +kernel
theorem fi_122_49 : am_find 122 49 = some (.isub, 1, 0, 0, 0) := by decide +kernel
theorem fi_122_50 : am_find 122 50 = some (.iand, 1, 0, 0, 0) := by decide +kernel
theorem fi_122_51 : am_find 122 51 = some (.istore_n 2, 1, 0, 0, 0) := by decide +kernel
theorem fi_122_52 : am_find 122 52 = some (.aload_n 0, 1, 0, 0, 0) := by decide +kernel
theorem fi_122_53 : am_find 122 53 = some (.getfield 15, 3, 7, 2, 39) := by decide +kernel
theorem fi_122_56 : am_find 122 56 = some (.iload_n 2, 1, 0, 0, 0) := by decide +kernel
theorem fi_122_57 : am_find 122 57 = some (.iconst 0, 1, 0, 0, 0) := by decide +kernel
theorem fi_122_58 : am_find 122 58 = some (.iastore, 1, 0, 0, 0) := by decide +kernel
theorem fi_122_59 : am_find 122 59 = some (.iload_n 2, 1, 0, 0, 0) := by decide +kernel
theorem fi_122_60 : am_find 122 60 = some (.iconst 1, 1, 0, 1, 0) := by decide +kernel
theorem fi_122_61 : am_find 122 61 = some (.isub, 1, 0, 0, 0) := by decide +kernel
theorem fi_122_62 : am_find 122 62 = some (.istore_n 3, 1, 0, 0, 0) := by decide +kernel
theorem fi_122_63 : am_find 122 63 = some (.iload_n 3, 1, 0, 0, 0) := by decide +kernel
theorem fi_122_64 : am_find 122 64 = some (.ifCond .lt 65, 3, 0, 0, 0) := by decide +kernel
theorem fi_122_67 : am_find 122 67 = some (.ldc 49, 2, 0, 1000000, 948) := by decide +kernel
theorem fi_122_69 : am_find 122 69 = some (.istore 4, 2, 0, 0, 0) := by decide +kernel
theorem fi_122_71 : am_find 122 71 = some (.iconst 0, 1, 0, 0, 0) := by decide +kernel
theorem fi_122_72 : am_find 122 72 = some (.istore 5, 2, 0, 0, 0) := by decide +kernel
theorem fi_122_74 : am_find 122 74 = some (.iload 5, 2, 0, 0, 0) := by decide +kernel
theorem fi_122_76 : am_find 122 76 = some (.bipush 6, 2, 0, 6, 0) := by decide +kernel
theorem fi_122_78 : am_find 122 78 = some (.if_icmp .ge 37, 3, 0, 0, 0) := by decide +kernel
theorem fi_122_81 : am_find 122 81 = some (.iload_n 2, 1, 0, 0, 0) := by decide +kernel
theorem fi_122_82 : am_find 122 82 = some (.iload_n 3, 1, 0, 0, 0) := by decide +kernel
theorem fi_122_83 : am_find 122 83 = some (.iconst (-1), 1, 0, (-1), 0) := by decide +kernel
theorem fi_122_84 : am_find 122 84 = some (.ixor, 1, 0, 0, 0) := by decide +kernel
theorem fi_122_85 : am_find 122 85 = some (.iand, 1, 0, 0, 0) := by decide +kernel
theorem fi_122_86 : am_find 122 86 = some (.iload 5, 2, 0, 0, 0) := by decide +kernel
theorem fi_122_88 : am_find 122 88 = some (.ishr, 1, 0, 0, 0) := by decide +kernel
theorem fi_122_89 : am_find 122 89 = some (.iconst 1, 1, 0, 1, 0) := by decide +kernel
theorem fi_122_90 : am_find 122 90 = some (.iand, 1, 0, 0, 0) := by decide +kernel
theorem fi_122_91 : am_find 122 91 = some (.iconst 1, 1, 0, 1, 0) := by decide +kernel
theorem fi_122_92 : am_find 122 92 = some (.if_icmp .ne 17, 3, 0, 0, 0) := by decide +kernel
theorem fi_122_95 : am_find 122 95 = some (.iload 4, 2, 0, 0, 0) := by decide +kernel
theorem fi_122_97 : am_find 122 97 = some (.aload_n 0, 1, 0, 0, 0) := by decide +kernel
theorem fi_122_98 : am_find 122 98 = some (.iload_n 3, 1, 0, 0, 0) := by decide +kernel
theorem fi_122_99 : am_find 122 99 = some (.iload 5, 2, 0, 0, 0) := by decide +kernel
theorem fi_122_101 : am_find 122 101 = some (.invokevirtual 50, 3, 123, 2, 148) := by decide +kernel
theorem fi_122_104 : am_find 122 104 = some (.invokestatic 54, 3, 9991, 0, 954) := by decide +kernel
theorem fi_122_107 : am_find 122 107 = some (.istore 4, 2, 0, 0, 0) := by decide +kernel
theorem fi_122_109 : am_find 122 109 = some (.iinc 5 1, 3, 0, 0, 0) := by decide +kernel
theorem fi_122_112 : am_find 122 112 = some (.goto (-38), 3, 0, 0, 0) := by decide +kernel
theorem fi_122_115 : am_find 122 115 = some (.aload_n 0, 1, 0, 0, 0) := by decide +kernel
theorem fi_122_116 : am_find 122 116 = some (.getfield 15, 3, 7, 2, 39) := by decide +kernel
theorem fi_122_119 : am_find 122 119 = some (.iload_n 3, 1, 0, 0, 0) := by decide +kernel
theorem fi_122_120 : am_find 122 120 = some (.iload 4, 2, 0, 0, 0) := by decide +kernel
theorem fi_122_122 : am_find 122 122 = some (.iastore, 1, 0, 0, 0) := by decide +kernel
theorem fi_122_123 : am_find 122 123 = some (.iinc 3 (-1), 3, 0, 0, 0) := by decide +kernel
theorem fi_122_126 : am_find 122 126 = some (.goto (-63), 3, 0, 0, 0) := by decide +kernel
theorem fi_122_129 : am_find 122 129 = some (.return_, 1, 0, 0, 0) := by decide +kernel
theorem b122_0 {d L : Nat} {σ : St} {Q : Option AV → AW → Prop} {x1 : Int} {u0 u2 u3 u4 u5 : AV} : R d 122 0 [u0, vI x1, u2, u3, u4, u5] [] (WS L σ) Q = R d 122 2 [u0, vI x1, vI 0, u3, u4, u5] [] (WS L σ) Q := K_iconst fi_122_0 <| K_istore_n fi_122_1 (Nat.le_of_ble_eq_true rfl) rfl rfl <| rfl
theorem b122_2 {d L : Nat} {σ : St} {Q : Option AV → AW → Prop} {x2 : Int} {u1 u3 u4 u5 : AV} : R d 122 2 [vR 147, u1, vI x2, u3, u4, u5] [] (WS L σ) Q = if 96 ≤ x2 then R d 122 36 [vR 147, u1, vI x2, u3, u4, u5] [] (WS L σ) Q else R d 122 11 [vR 147, u1, vI x2, u3, u4, u5] [] (WS L σ) Q := K_iload_n fi_122_2 rfl <| K_aload_n fi_122_3 rfl <| K_gf fi_122_4 kd_147 mk_147_1 <| K_alenx fi_122_7 (Or.inl kd_148) rfl <| R_icmp_ge fi_122_8 rfl
theorem b122_11 {d L : Nat} {σ : St} {Q : Option AV → AW → Prop} {x2 x1 : Int} {u3 u4 u5 : AV} : R (d + 1) 122 11 [vR 147, vI x1, vI x2, u3, u4, u5] [] (WS L σ) Q = R d 120 0 [vR 147, vI (i_rem x2 12), vI x1, vI (i_div x2 12), vX 9, vX 9, vX 9] [] (WS L σ) (fun r w => R (d + 1) 122 29 [vR 147, vI x1, vI x2, u3, u4, u5] (am_push r [vI x2, vR 148]) w Q) := K_aload_n fi_122_11 rfl <| K_gf fi_122_12 kd_147 mk_147_1 <| K_iload_n fi_122_15 rfl <| K_aload_n fi_122_16 rfl <| K_iload_n fi_122_17 rfl <| K_bipush fi_122_18 <| K_irem fi_122_20 (by decide) <| K_iload_n fi_122_21 rfl <| K_iload_n fi_122_22 rfl <| K_bipush fi_122_23 <| K_idiv fi_122_25 (by decide) <| R_invV fi_122_26 (am_invV_of rfl (kd_147) (Nat.le_of_ble_eq_true rfl) (Nat.le_of_ble_eq_true rfl) rfl rfl)
theorem b122_29 {d L : Nat} {σ : St} {Q : Option AV → AW → Prop} {y0 y1 : Int} {u0 u1 u2 u3 u4 u5 : AV} (h1 : 0 ≤ y1) (h2 : y1 < 96) : R d 122 29 [u0, u1, u2, u3, u4, u5] [vI y0, vI y1, vR 148] (WS L σ) Q = R d 122 30 [u0, u1, u2, u3, u4, u5] [] (WS L (st2 σ 148 y1 y0)) Q := K_is fi_122_29 kd_148 h1 h2 <| rfl
theorem b122_30 {d L : Nat} {σ : St} {Q : Option AV → AW → Prop} {x2 x1 : Int} {u0 u3 u4 u5 : AV} (h1 : -2147483648 ≤ x2 + 1 ∧ x2 + 1 ≤ 2147483647) : R d 122 30 [u0, vI x1, vI x2, u3, u4, u5] [] (WS L σ) Q = R d 122 2 [u0, vI x1, vI (x2 + 1), u3, u4, u5] [] (WS L σ) Q := K_iincx fi_122_30 rfl (Nat.le_of_ble_eq_true rfl) rfl h1 rfl <| R_goto fi_122_33 rfl
theorem b122_36 {d L : Nat} {σ : St} {Q : Option AV → AW → Prop} {u1 u2 u3 u4 u5 : AV} : R (d + 1) 122 36 [vR 147, u1, u2, u3, u4, u5] [] (WS L σ) Q = R d 34 0 [vR 20] [] (WS L σ) (fun r w => R (d + 1) 122 43 [vR 147, u1, u2, u3, u4, u5] (am_push r []) w Q) := K_aload_n fi_122_36 rfl <| K_gf fi_122_37 kd_147 mk_147_0 <| R_invV fi_122_40 (am_invV_of rfl (kd_20) (Nat.le_of_ble_eq_true rfl) (Nat.le_of_ble_eq_true rfl) rfl rfl)
theorem b122_43 {d L : Nat} {σ : St} {Q : Option AV → AW → Prop} {y0 x1 : Int} {u2 u3 u4 u5 : AV} (h1 : 0 ≤ i_and y0 63) (h2 : (i_and y0 63) < 64) : R d 122 43 [vR 147, vI x1, u2, u3, u4, u5] [vI y0] (WS L σ) Q = R d 122 59 [vR 147, vI x1, vI (i_and y0 63), u3, u4, u5] [] (WS L (st2 σ 149 (i_and y0 63) 0)) Q := K_aload_n fi_122_43 rfl <| K_gf fi_122_44 kd_147 mk_147_2 <| K_alenx fi_122_47 (Or.inl kd_149) rfl <| K_iconst fi_122_48 <| K_isubx fi_122_49 (show (-2147483648 : Int) ≤ 63 ∧ (63 : Int) ≤ 2147483647 from ⟨by decide, by decide⟩) <| K_iand fi_122_50 <| K_istore_n fi_122_51 (Nat.le_of_ble_eq_true rfl) rfl rfl <| K_aload_n fi_122_52 rfl <| K_gf fi_122_53 kd_147 mk_147_2 <| K_iload_n fi_122_56 rfl <| K_iconst fi_122_57 <| K_is fi_122_58 kd_149 h1 h2 <| rfl
theorem b122_59 {d L : Nat} {σ : St} {Q : Option AV → AW → Prop} {x2 : Int} {u0 u1 u3 u4 u5 : AV} (h1 : -2147483648 ≤ x2 - 1 ∧ x2 - 1 ≤ 2147483647) : R d 122 59 [u0, u1, vI x2, u3, u4, u5] [] (WS L σ) Q = R d 122 63 [u0, u1, vI x2, vI (x2 - 1), u4, u5] [] (WS L σ) Q := K_iload_n fi_122_59 rfl <| K_iconst fi_122_60 <| K_isubx fi_122_61 h1 <| K_istore_n fi_122_62 (Nat.le_of_ble_eq_true rfl) rfl rfl <| rfl
theorem b122_63 {d L : Nat} {σ : St} {Q : Option AV → AW → Prop} {x3 : Int} {u0 u1 u2 u4 u5 : AV} : R d 122 63 [u0, u1, u2, vI x3, u4, u5] [] (WS L σ) Q = if x3 < 0 then R d 122 129 [u0, u1, u2, vI x3, u4, u5] [] (WS L σ) Q else R d 122 67 [u0, u1, u2, vI x3, u4, u5] [] (WS L σ) Q := K_iload_n fi_122_63 rfl <| R_if_lt fi_122_64 rfl
theorem b122_67 {d L : Nat} {σ : St} {Q : Option AV → AW → Prop} {u0 u1 u2 u3 u4 u5 : AV} : R d 122 67 [u0, u1, u2, u3, u4, u5] [] (WS L σ) Q = R d 122 74 [u0, u1, u2, u3, vI 1000000, vI 0] [] (WS L σ) Q := K_ldci fi_122_67 <| K_istore fi_122_69 (Nat.le_of_ble_eq_true rfl) rfl rfl <| K_iconst fi_122_71 <| K_istore fi_122_72 (Nat.le_of_ble_eq_true rfl) rfl rfl <| rfl
theorem b122_74 {d L : Nat} {σ : St} {Q : Option AV → AW → Prop} {x5 : Int} {u0 u1 u2 u3 u4 : AV} : R d 122 74 [u0, u1, u2, u3, u4, vI x5] [] (WS L σ) Q = if 6 ≤ x5 then R d 122 115 [u0, u1, u2, u3, u4, vI x5] [] (WS L σ) Q else R d 122 81 [u0, u1, u2, u3, u4, vI x5] [] (WS L σ) Q := K_iload fi_122_74 rfl <| K_bipush fi_122_76 <| R_icmp_ge fi_122_78 rfl
theorem b122_81 {d L : Nat} {σ : St} {Q : Option AV → AW → Prop} {x2 x3 x5 : Int} {u0 u1 u4 : AV} : R d 122 81 [u0, u1, vI x2, vI x3, u4, vI x5] [] (WS L σ) Q = if ¬ (i_and (i_shr (i_and x2 (i_xor x3 (-1))) x5) 1) = 1 then R d 122 109 [u0, u1, vI x2, vI x3, u4, vI x5] [] (WS L σ) Q else R d 122 95 [u0, u1, vI x2, vI x3, u4, vI x5] [] (WS L σ) Q := K_iload_n fi_122_81 rfl <| K_iload_n fi_122_82 rfl <| K_iconst fi_122_83 <| K_ixor fi_122_84 <| K_iand fi_122_85 <| K_iload fi_122_86 rfl <| K_ishr fi_122_88 <| K_iconst fi_122_89 <| K_iand fi_122_90 <| K_iconst fi_122_91 <| R_icmp_ne fi_122_92 rfl
theorem b122_95 {d L : Nat} {σ : St} {Q : Option AV → AW → Prop} {x4 x3 x5 : Int} {u1 u2 : AV} : R (d + 1) 122 95 [vR 147, u1, u2, vI x3, vI x4, vI x5] [] (WS L σ) Q = R d 123 0 [vR 147, vI x3, vI x5, vX 9, vX 9, vX 9, vX 9] [] (WS L σ) (fun r w => R (d + 1) 122 104 [vR 147, u1, u2, vI x3, vI x4, vI x5] (am_push r [vI x4]) w Q) := K_iload fi_122_95 rfl <| K_aload_n fi_122_97 rfl <| K_iload_n fi_122_98 rfl <| K_iload fi_122_99 rfl <| R_invV fi_122_101 (am_invV_of rfl (kd_147) (Nat.le_of_ble_eq_true rfl) (Nat.le_of_ble_eq_true rfl) rfl rfl)
theorem b122_104 {d L : Nat} {σ : St} {Q : Option AV → AW → Prop} {y0 y1 : Int} {u0 u1 u2 u3 u4 u5 : AV} : R d 122 104 [u0, u1, u2, u3, u4, u5] [vI y0, vI y1] (WS L σ) Q = R d 122 109 [u0, u1, u2, u3, vI (i_min y1 y0), u5] [] (WS L σ) Q := K_min fi_122_104 (Nat.le_of_ble_eq_true rfl) <| K_istore fi_122_107 (Nat.le_of_ble_eq_true rfl) rfl rfl <| rfl
theorem b122_109 {d L : Nat} {σ : St} {Q : Option AV → AW → Prop} {x5 : Int} {u0 u1 u2 u3 u4 : AV} (h1 : -2147483648 ≤ x5 + 1 ∧ x5 + 1 ≤ 2147483647) : R d 122 109 [u0, u1, u2, u3, u4, vI x5] [] (WS L σ) Q = R d 122 74 [u0, u1, u2, u3, u4, vI (x5 + 1)] [] (WS L σ) Q := K_iincx fi_122_109 rfl (Nat.le_of_ble_eq_true rfl) rfl h1 rfl <| R_goto fi_122_112 rfl
theorem b122_115 {d L : Nat} {σ : St} {Q : Option AV → AW → Prop} {x3 x4 : Int} {u1 u2 u5 : AV} (h1 : 0 ≤ x3) (h2 : x3 < 64) : R d 122 115 [vR 147, u1, u2, vI x3, vI x4, u5] [] (WS L σ) Q = R d 122 123 [vR 147, u1, u2, vI x3, vI x4, u5] [] (WS L (st2 σ 149 x3 x4)) Q := K_aload_n fi_122_115 rfl <| K_gf fi_122_116 kd_147 mk_147_2 <| K_iload_n fi_122_119 rfl <| K_iload fi_122_120 rfl <| K_is fi_122_122 kd_149 h1 h2 <| rfl
theorem b122_123 {d L : Nat} {σ : St} {Q : Option AV → AW → Prop} {x3 : Int} {u0 u1 u2 u4 u5 : AV} (h1 : -2147483648 ≤ x3 + (-1) ∧ x3 + (-1) ≤ 2147483647) : R d 122 123 [u0, u1, u2, vI x3, u4, u5] [] (WS L σ) Q = R d 122 63 [u0, u1, u2, vI (x3 + (-1)), u4, u5] [] (WS L σ) Q := K_iincx fi_122_123 rfl (Nat.le_of_ble_eq_true rfl) rfl h1 rfl <| R_goto fi_122_126 rfl
theorem b122_129 {d L : Nat} {σ : St} {Q : Option AV → AW → Prop} {u0 u1 u2 u3 u4 u5 : AV} : R d 122 129 [u0, u1, u2, u3, u4, u5] [] (WS L σ) Q = Q none (WS L σ) := R_return fi_122_129
theorem fi_123_0 : am_find 123 0 = some (.iload_n 1, 1, 0, 0, 0) := by decide +kernel
theorem fi_123_1 : am_find 123 1 = some (.iconst 1, 1, 0, 1, 0) := by decide +kernel
theorem fi_123_2 : am_find 123 2 = some (.iload_n 2, 1, 0, 0, 0) := by decide +kernel
theorem fi_123_3 : am_find 123 3 = some (.ishl, 1, 0, 0, 0) := by decide +kernel
theorem fi_123_4 : am_find 123 4 = some (.ior, 1, 0, 0, 0) := by decide +kernel
theorem fi_123_5 : am_find 123 5 = some (.istore_n 3, 1, 0, 0, 0) := by decide +kernel
theorem fi_123_6 : am_find 123 6 = some (.iload_n 3, 1, 0, 0, 0) := by decide +kernel
theorem fi_123_7 : am_find 123 7 = some (.aload_n 0, 1, 0, 0, 0) := by decide +kernel
theorem fi_123_8 : am_find 123 8 = some (.getfield 15, 3, 7, 2, 39) := by decide +kernel
theorem fi_123_11 : am_find 123 11 = some (.arraylength, 1, 0, 0, 0) := by decide +kernel
theorem fi_123_12 : am_find 123 12 = some (.invokestatic 59, 3, 13, 2, 149) := by decide +kernel
theorem fi_123_15 : am_find 123 15 = some (.ifCond .eq 12, 3, 0, 0, 0) := by decide +kernel
theorem fi_123_18 : am_find 123 18 = some (.aload_n 0, 1, 0, 0, 0) := by decide +kernel
theorem fi_123_19 : am_find 123 19 = some (.getfield 15, 3, 7, 2, 39) := by decide +kernel
theorem fi_123_22 : am_find 123 22 = some (.iload_n 3, 1, 0, 0, 0) := by decide +kernel
theorem fi_123_23 : am_find 123 23 = some (.iaload, 1, 0, 0, 0) := by decide +kernel
theorem fi_123_24 : am_find 123 24 = some (.goto 4, 3, 0, 0, 0) := by decide +kernel
theorem fi_123_27 : am_find 123 27 = some (.iconst 0, 1, 0, 0, 0) := by decide +kernel
theorem fi_123_28 : am_find 123 28 = some (.istore 4, 2, 0, 0, 0) := by decide +kernel
theorem fi_123_30 : am_find 123 30 = some (.iconst 0, 1, 0, 0, 0) := by decide +kernel
theorem fi_123_31 : am_find 123 31 = some (.istore 5, 2, 0, 0, 0) := by decide +kernel
theorem fi_123_33 : am_find 123 33 = some (.iload 5, 2, 0, 0, 0) := by decide +kernel
theorem fi_123_35 : am_find 123 35 = some (.aload_n 0, 1, 0, 0, 0) := by decide +kernel
theorem fi_123_36 : am_find 123 36 = some (.getfield 18, 3, 7, 0, 40) := by decide +kernel
theorem fi_123_39 : am_find 123 39 = some (.getfield 22, 3, 8, 4, 89) := by decide +kernel
theorem fi_123_42 : am_find 123 42 = some (.if_icmp .ge 46, 3, 0, 0, 0) := by decide +kernel
theorem fi_123_45 : am_find 123 45 = some (.iload_n 2, 1, 0, 0, 0) := by decide +kernel
theorem fi_123_46 : am_find 123 46 = some (.bipush 12, 2, 0, 12, 0) := by decide +kernel
theorem fi_123_48 : am_find 123 48 = some (.imul, 1, 0, 0, 0) := by decide +kernel
theorem fi_123_49 : am_find 123 49 = some (.iload 5, 2, 0, 0, 0) := by decide +kernel
theorem fi_123_51 : am_find 123 51 = some (.iadd, 1, 0, 0, 0) := by decide +kernel
theorem fi_123_52 : am_find 123 52 = some (.istore 6, 2, 0, 0, 0) := by decide +kernel
theorem fi_123_54 : am_find 123 54 = some (.iload 6, 2, 0, 0, 0) := by decide +kernel
theorem fi_123_56 : am_find 123 56 = some (.aload_n 0, 1, 0, 0, 0) := by decide +kernel
theorem fi_123_57 : am_find 123 57 = some (.getfield 9, 3, 7, 1, 38) := by decide +kernel
theorem fi_123_60 : am_find 123 60 = some (.arraylength, 1, 0, 0, 0) := by decide +kernel
theorem fi_123_61 : am_find 123 61 = some (.invokestatic 59, 3, 13, 2, 149) := by decide +kernel
theorem fi_123_64 : am_find 123 64 = some (.ifCond .eq 18, 3, 0, 0, 0) := by decide +kernel
theorem fi_123_67 : am_find 123 67 = some (.aload_n 0, 1, 0, 0, 0) := by decide +kernel
theorem fi_123_68 : am_find 123 68 = some (.getfield 9, 3, 7, 1, 38) := by decide +kernel
theorem fi_123_71 : am_find 123 71 = some (.iload 6, 2, 0, 0, 0) := by decide +kernel
theorem fi_123_73 : am_find 123 73 = some (.iaload, 1, 0, 0, 0) := by decide +kernel
theorem fi_123_74 : am_find 123 74 = some (.iload_n 1, 1, 0, 0, 0) := by decide +kernel
theorem fi_123_75 : am_find 123 75 = some (.iand, 1, 0, 0, 0) := by decide +kernel
theorem fi_123_76 : am_find 123 76 = some (.ifCond .eq 6, 3, 0, 0, 0) := by decide +kernel
theorem fi_123_79 : am_find 123 79 = some (.iinc 4 1, 3, 0, 0, 0) := by decide +kernel
theorem fi_123_82 : am_find 123 82 = some (.iinc 5 1, 3, 0, 0, 0) := by decide +kernel
theorem fi_123_85 : am_find 123 85 = some (.goto (-52), 3, 0, 0, 0) := by decide +kernel
theorem fi_123_88 : am_find 123 88 = some (.iload 4, 2, 0, 0, 0) := by decide +kernel
theorem fi_123_90 : am_find 123 90 = some (.ireturn, 1, 0, 0, 0) := by decide +kernel
theorem b123_0 {d L : Nat} {σ : St} {Q : Option AV → AW → Prop} {x1 x2 : Int} {u3 u4 u5 u6 : AV} : R (d + 1) 123 0 [vR 147, vI x1, vI x2, u3, u4, u5, u6] [] (WS L σ) Q = R d 13 0 [vI (i_or x1 (i_shl 1 x2)), vI 64] [] (WS L σ) (fun r w => R (d + 1) 123 15 [vR 147, vI x1, vI x2, vI (i_or x1 (i_shl 1 x2)), u4, u5, u6] (am_push r []) w Q) := K_iload_n fi_123_0 rfl <| K_iconst fi_123_1 <| K_iload_n fi_123_2 rfl <| K_ishl fi_123_3 <| K_ior fi_123_4 <| K_istore_n fi_123_5 (Nat.le_of_ble_eq_true rfl) rfl rfl <| K_iload_n fi_123_6 rfl <| K_aload_n fi_123_7 rfl <| K_gf fi_123_8 kd_147 mk_147_2 <| K_alenx fi_123_11 (Or.inl kd_149) rfl <| R_invS fi_123_12 (by decide) (am_invS_of (Nat.le_of_ble_eq_true rfl) rfl (Nat.le_of_ble_eq_true rfl) (Nat.le_of_ble_eq_true rfl) rfl rfl)
theorem b123_15 {d L : Nat} {σ : St} {Q : Option AV → AW → Prop} {y0 : Int} {u0 u1 u2 u3 u4 u5 u6 : AV} : R d 123 15 [u0, u1, u2, u3, u4, u5, u6] [vI y0] (WS L σ) Q = if y0 = 0 then R d 123 27 [u0, u1, u2, u3, u4, u5, u6] [] (WS L σ) Q else R d 123 18 [u0, u1, u2, u3, u4, u5, u6] [] (WS L σ) Q := R_if_eq fi_123_15 rfl
theorem b123_18 {d L : Nat} {σ : St} {Q : Option AV → AW → Prop} {x3 : Int} {u1 u2 u4 u5 u6 : AV} (h1 : 0 ≤ x3) (h2 : x3 < 64) : R d 123 18 [vR 147, u1, u2, vI x3, u4, u5, u6] [] (WS L σ) Q = R d 123 28 [vR 147, u1, u2, vI x3, u4, u5, u6] [vI (σ 149 x3)] (WS L σ) Q := K_aload_n fi_123_18 rfl <| K_gf fi_123_19 kd_147 mk_147_2 <| K_iload_n fi_123_22 rfl <| K_ia fi_123_23 kd_149 h1 h2 <| R_goto fi_123_24 rfl
theorem b123_27 {d L : Nat} {σ : St} {Q : Option AV → AW → Prop} {u0 u1 u2 u3 u4 u5 u6 : AV} : R d 123 27 [u0, u1, u2, u3, u4, u5, u6] [] (WS L σ) Q = R d 123 28 [u0, u1, u2, u3, u4, u5, u6] [vI 0] (WS L σ) Q := K_iconst fi_123_27 <| rfl
theorem b123_28 {d L : Nat} {σ : St} {Q : Option AV → AW → Prop} {y0 : Int} {u0 u1 u2 u3 u4 u5 u6 : AV} : R d 123 28 [u0, u1, u2, u3, u4, u5, u6] [vI y0] (WS L σ) Q = R d 123 33 [u0, u1, u2, u3, vI y0, vI 0, u6] [] (WS L σ) Q := K_istore fi_123_28 (Nat.le_of_ble_eq_true rfl) rfl rfl <| K_iconst fi_123_30 <| K_istore fi_123_31 (Nat.le_of_ble_eq_true rfl) rfl rfl <| rfl
theorem b123_33 {d L : Nat} {σ : St} {Q : Option AV → AW → Prop} {x5 : Int} {u1 u2 u3 u4 u6 : AV} : R d 123 33 [vR 147, u1, u2, u3, u4, vI x5, u6] [] (WS L σ) Q = if (σ 20 4) ≤ x5 then R d 123 88 [vR 147, u1, u2, u3, u4, vI x5, u6] [] (WS L σ) Q else R d 123 45 [vR 147, u1, u2, u3, u4, vI x5, u6] [] (WS L σ) Q := K_iload fi_123_33 rfl <| K_aload_n fi_123_35 rfl <| K_gf fi_123_36 kd_147 mk_147_0 <| K_gf fi_123_39 kd_20 mk_20_4 <| R_icmp_ge fi_123_42 rfl
theorem b123_45 {d L : Nat} {σ : St} {Q : Option AV → AW → Prop} {x2 x5 : Int} {u1 u3 u4 u6 : AV} (h1 : -2147483648 ≤ x2 * 12 ∧ x2 * 12 ≤ 2147483647) (h2 : -2147483648 ≤ (x2 * 12) + x5 ∧ (x2 * 12) + x5 ≤ 2147483647) : R (d + 1) 123 45 [vR 147, u1, vI x2, u3, u4, vI x5, u6] [] (WS L σ) Q = R d 13 0 [vI ((x2 * 12) + x5), vI 96] [] (WS L σ) (fun r w => R (d + 1) 123 64 [vR 147, u1, vI x2, u3, u4, vI x5, vI ((x2 * 12) + x5)] (am_push r []) w Q) := K_iload_n fi_123_45 rfl <| K_bipush fi_123_46 <| K_imulx fi_123_48 h1 <| K_iload fi_123_49 rfl <| K_iaddx fi_123_51 h2 <| K_istore fi_123_52 (Nat.le_of_ble_eq_true rfl) rfl rfl <| K_iload fi_123_54 rfl <| K_aload_n fi_123_56 rfl <| K_gf fi_123_57 kd_147 mk_147_1 <| K_alenx fi_123_60 (Or.inl kd_148) rfl <| R_invS fi_123_61 (by decide) (am_invS_of (Nat.le_of_ble_eq_true rfl) rfl (Nat.le_of_ble_eq_true rfl) (Nat.le_of_ble_eq_true rfl) rfl rfl)
theorem b123_64 {d L : Nat} {σ : St} {Q : Option AV → AW → Prop} {y0 : Int} {u0 u1 u2 u3 u4 u5 u6 : AV} : R d 123 64 [u0, u1, u2, u3, u4, u5, u6] [vI y0] (WS L σ) Q = if y0 = 0 then R d 123 82 [u0, u1, u2, u3, u4, u5, u6] [] (WS L σ) Q else R d 123 67 [u0, u1, u2, u3, u4, u5, u6] [] (WS L σ) Q := R_if_eq fi_123_64 rfl
theorem b123_67 {d L : Nat} {σ : St} {Q : Option AV → AW → Prop} {x6 x1 : Int} {u2 u3 u4 u5 : AV} (h1 : 0 ≤ x6) (h2 : x6 < 96) : R d 123 67 [vR 147, vI x1, u2, u3, u4, u5, vI x6] [] (WS L σ) Q = if (i_and (σ 148 x6) x1) = 0 then R d 123 82 [vR 147, vI x1, u2, u3, u4, u5, vI x6] [] (WS L σ) Q else R d 123 79 [vR 147, vI x1, u2, u3, u4, u5, vI x6] [] (WS L σ) Q := K_aload_n fi_123_67 rfl <| K_gf fi_123_68 kd_147 mk_147_1 <| K_iload fi_123_71 rfl <| K_ia fi_123_73 kd_148 h1 h2 <| K_iload_n fi_123_74 rfl <| K_iand fi_123_75 <| R_if_eq fi_123_76 rfl
theorem b123_79 {d L : Nat} {σ : St} {Q : Option AV → AW → Prop} {x4 : Int} {u0 u1 u2 u3 u5 u6 : AV} (h1 : -2147483648 ≤ x4 + 1 ∧ x4 + 1 ≤ 2147483647) : R d 123 79 [u0, u1, u2, u3, vI x4, u5, u6] [] (WS L σ) Q = R d 123 82 [u0, u1, u2, u3, vI (x4 + 1), u5, u6] [] (WS L σ) Q := K_iincx fi_123_79 rfl (Nat.le_of_ble_eq_true rfl) rfl h1 rfl <| rfl
theorem b123_82 {d L : Nat} {σ : St} {Q : Option AV → AW → Prop} {x5 : Int} {u0 u1 u2 u3 u4 u6 : AV} (h1 : -2147483648 ≤ x5 + 1 ∧ x5 + 1 ≤ 2147483647) : R d 123 82 [u0, u1, u2, u3, u4, vI x5, u6] [] (WS L σ) Q = R d 123 33 [u0, u1, u2, u3, u4, vI (x5 + 1), u6] [] (WS L σ) Q := K_iincx fi_123_82 rfl (Nat.le_of_ble_eq_true rfl) rfl h1 rfl <| R_goto fi_123_85 rfl
theorem b123_88 {d L : Nat} {σ : St} {Q : Option AV → AW → Prop} {x4 : Int} {u0 u1 u2 u3 u5 u6 : AV} : R d 123 88 [u0, u1, u2, u3, vI x4, u5, u6] [] (WS L σ) Q = Q (some (vI x4)) (WS L σ) := K_iload fi_123_88 rfl <| R_ireti fi_123_90 rfl
theorem fi_124_0 : am_find 124 0 = some (.aload_n 0, 1, 0, 0, 0) := by decide +kernel
theorem fi_124_1 : am_find 124 1 = some (.getfield 15, 3, 7, 2, 39) := by decide +kernel
theorem fi_124_4 : am_find 124 4 = some (.iconst 0, 1, 0, 0, 0) := by decide +kernel
theorem fi_124_5 : am_find 124 5 = some (.iaload, 1, 0, 0, 0) := by decide +kernel
theorem fi_124_6 : am_find 124 6 = some (.ireturn, 1, 0, 0, 0) := by decide +kernel
theorem b124_0 {d L : Nat} {σ : St} {Q : Option AV → AW → Prop} : R d 124 0 [vR 147] [] (WS L σ) Q = Q (some (vI (σ 149 0))) (WS L σ) := K_aload_n fi_124_0 rfl <| K_gf fi_124_1 kd_147 mk_147_2 <| K_iconst fi_124_4 <| K_ia fi_124_5 kd_149 (by decide) (show (0 : Int) < 64 by decide) <| R_ireti fi_124_6 rfl
theorem fi_125_0 : am_find 125 0 = some (.iconst 0, 1, 0, 0, 0) := by decide +kernel
theorem fi_125_1 : am_find 125 1 = some (.istore_n 2, 1, 0, 0, 0) := by decide +kernel
theorem fi_125_2 : am_find 125 2 = some (.iconst (-1), 1, 0, (-1), 0) := by decide +kernel
theorem fi_125_3 : am_find 125 3 = some (.istore_n 3, 1, 0, 0, 0) := by decide +kernel
theorem fi_125_4 : am_find 125 4 = some (.iconst 0, 1, 0, 0, 0) := by decide +kernel
theorem fi_125_5 : am_find 125 5 = some (.istore 4, 2, 0, 0, 0) := by decide +kernel
theorem fi_125_7 : am_find 125 7 = some (.iload 4, 2, 0, 0, 0) := by decide +kernel
theorem fi_125_9 : am_find 125 9 = some (.iload_n 1, 1, 0, 0, 0) := by decide +kernel
theorem fi_125_10 : am_find 125 10 = some (.if_icmp .gt 36, 3, 0, 0, 0) := by decide +kernel
theorem fi_125_13 : am_find 125 13 = some (.iload 4, 2, 0, 0, 0) := by decide +kernel
theorem fi_125_15 : am_find 125 15 = some (.bipush 6, 2, 0, 6, 0) := by decide +kernel
theorem fi_125_17 : am_find 125 17 = some (.if_icmp .ge 29, 3, 0, 0, 0) := by decide +kernel
theorem fi_125_20 : am_find 125 20 = some (.aload_n 0, 1, 0, 0, 0) := by decide +kernel
theorem fi_125_21 : am_find 125 21 = some (.iload_n 2, 1, 0, 0, 0) := by decide +kernel
theorem fi_125_22 : am_find 125 22 = some (.invokevirtual 63, 3, 126, 1, 150) := by decide +kernel
theorem fi_125_25 : am_find 125 25 = some (.istore_n 3, 1, 0, 0, 0) := by decide +kernel
theorem fi_125_26 : am_find 125 26 = some (.iload_n 2, 1, 0, 0, 0) := by decide +kernel
theorem fi_125_27 : am_find 125 27 = some (.iload_n 3, 1, 0, 0, 0) := by decide +kernel
theorem fi_125_28 : am_find 125 28 = some (.ifCond .ge 7, 3, 0, 0, 0) := by decide +kernel
theorem fi_125_31 : am_find 125 31 = some (.iconst 0, 1, 0, 0, 0) := by decide +kernel
theorem fi_125_32 : am_find 125 32 = some (.goto 6, 3, 0, 0, 0) := by decide +kernel
theorem fi_125_35 : am_find 125 35 = some (.iconst 1, 1, 0, 1, 0) := by decide +kernel
theorem fi_125_36 : am_find 125 36 = some (.iload_n 3, 1, 0, 0, 0) := by decide +kernel
theorem fi_125_37 : am_find 125 37 = some (.ishl, 1, 0, 0, 0) := by decide +kernel
theorem fi_125_38 : am_find 125 38 = some (.ior, 1, 0, 0, 0) := by decide +kernel
theorem fi_125_39 : am_find 125 39 = some (.istore_n 2, 1, 0, 0, 0) := by decide +kernel
theorem fi_125_40 : am_find 125 40 = some (.iinc 4 1, 3, 0, 0, 0) := by decide +kernel
theorem fi_125_43 : am_find 125 43 = some (.goto (-36), 3, 0, 0, 0) := by decide +kernel
theorem fi_125_46 : am_find 125 46 = some (.iload_n 3, 1, 0, 0, 0) := by decide +kernel
theorem fi_125_47 : am_find 125 47 = some (.ireturn, 1, 0, 0, 0) := by decide +kernel
theorem b125_0 {d L : Nat} {σ : St} {Q : Option AV → AW → Prop} {x1 : Int} {u0 u2 u3 u4 : AV} : R d 125 0 [u0, vI x1, u2, u3, u4] [] (WS L σ) Q = R d 125 7 [u0, vI x1, vI 0, vI (-1), vI 0] [] (WS L σ) Q := K_iconst fi_125_0 <| K_istore_n fi_125_1 (Nat.le_of_ble_eq_true rfl) rfl rfl <| K_iconst fi_125_2 <| K_istore_n fi_125_3 (Nat.le_of_ble_eq_true rfl) rfl rfl <| K_iconst fi_125_4 <| K_istore fi_125_5 (Nat.le_of_ble_eq_true rfl) rfl rfl <| rfl
theorem b125_7 {d L : Nat} {σ : St} {Q : Option AV → AW → Prop} {x4 x1 : Int} {u0 u2 u3 : AV} : R d 125 7 [u0, vI x1, u2, u3, vI x4] [] (WS L σ) Q = if x1 < x4 then R d 125 46 [u0, vI x1, u2, u3, vI x4] [] (WS L σ) Q else R d 125 13 [u0, vI x1, u2, u3, vI x4] [] (WS L σ) Q := K_iload fi_125_7 rfl <| K_iload_n fi_125_9 rfl <| R_icmp_gt fi_125_10 rfl
theorem b125_13 {d L : Nat} {σ : St} {Q : Option AV → AW → Prop} {x4 : Int} {u0 u1 u2 u3 : AV} : R d 125 13 [u0, u1, u2, u3, vI x4] [] (WS L σ) Q = if 6 ≤ x4 then R d 125 46 [u0, u1, u2, u3, vI x4] [] (WS L σ) Q else R d 125 20 [u0, u1, u2, u3, vI x4] [] (WS L σ) Q := K_iload fi_125_13 rfl <| K_bipush fi_125_15 <| R_icmp_ge fi_125_17 rfl
theorem b125_20 {d L : Nat} {σ : St} {Q : Option AV → AW → Prop} {x2 : Int} {u1 u3 u4 : AV} : R (d + 1) 125 20 [vR 147, u1, vI x2, u3, u4] [] (WS L σ) Q = R d 126 0 [vR 147, vI x2, vX 9] [] (WS L σ) (fun r w => R (d + 1) 125 25 [vR 147, u1, vI x2, u3, u4] (am_push r []) w Q) := K_aload_n fi_125_20 rfl <| K_iload_n fi_125_21 rfl <| R_invV fi_125_22 (am_invV_of rfl (kd_147) (Nat.le_of_ble_eq_true rfl) (Nat.le_of_ble_eq_true rfl) rfl rfl)
theorem b125_25 {d L : Nat} {σ : St} {Q : Option AV → AW → Prop} {y0 x2 : Int} {u0 u1 u3 u4 : AV} : R d 125 25 [u0, u1, vI x2, u3, u4] [vI y0] (WS L σ) Q = if 0 ≤ y0 then R d 125 35 [u0, u1, vI x2, vI y0, u4] [vI x2] (WS L σ) Q else R d 125 31 [u0, u1, vI x2, vI y0, u4] [vI x2] (WS L σ) Q := K_istore_n fi_125_25 (Nat.le_of_ble_eq_true rfl) rfl rfl <| K_iload_n fi_125_26 rfl <| K_iload_n fi_125_27 rfl <| R_if_ge fi_125_28 rfl
theorem b125_31 {d L : Nat} {σ : St} {Q : Option AV → AW → Prop} {y0 : Int} {u0 u1 u2 u3 u4 : AV} : R d 125 31 [u0, u1, u2, u3, u4] [vI y0] (WS L σ) Q = R d 125 38 [u0, u1, u2, u3, u4] [vI 0, vI y0] (WS L σ) Q := K_iconst fi_125_31 <| R_goto fi_125_32 rfl
theorem b125_35 {d L : Nat} {σ : St} {Q : Option AV → AW → Prop} {y0 x3 : Int} {u0 u1 u2 u4 : AV} : R d 125 35 [u0, u1, u2, vI x3, u4] [vI y0] (WS L σ) Q = R d 125 38 [u0, u1, u2, vI x3, u4] [vI (i_shl 1 x3), vI y0] (WS L σ) Q := K_iconst fi_125_35 <| K_iload_n fi_125_36 rfl <| K_ishl fi_125_37 <| rfl
theorem b125_38 {d L : Nat} {σ : St} {Q : Option AV → AW → Prop} {y0 y1 x1 x4 : Int} {u0 u2 u3 : AV} (h1 : -2147483648 ≤ x4 + 1 ∧ x4 + 1 ≤ 2147483647) : R d 125 38 [u0, vI x1, u2, u3, vI x4] [vI y0, vI y1] (WS L σ) Q = R d 125 7 [u0, vI x1, vI (i_or y1 y0), u3, vI (x4 + 1)] [] (WS L σ) Q := K_ior fi_125_38 <| K_istore_n fi_125_39 (Nat.le_of_ble_eq_true rfl) rfl rfl <| K_iincx fi_125_40 rfl (Nat.le_of_ble_eq_true rfl) rfl h1 rfl <| R_goto fi_125_43 rfl
theorem b125_46 {d L : Nat} {σ : St} {Q : Option AV → AW → Prop} {x3 : Int} {u0 u1 u2 u4 : AV} : R d 125 46 [u0, u1, u2, vI x3, u4] [] (WS L σ) Q = Q (some (vI x3)) (WS L σ) := K_iload_n fi_125_46 rfl <| R_ireti fi_125_47 rfl
theorem fi_126_0 : am_find 126 0 = some (.iconst 0, 1, 0, 0, 0) := by decide +kernel
theorem fi_126_1 : am_find 126 1 = some (.istore_n 2, 1, 0, 0, 0) := by decide +kernel
theorem fi_126_2 : am_find 126 2 = some (.iload_n 2, 1, 0, 0, 0) := by decide +kernel
theorem fi_126_3 : am_find 126 3 = some (.aload_n 0, 1, 0, 0, 0) := by decide +kernel
theorem fi_126_4 : am_find 126 4 = some (.getfield 18, 3, 7, 0, 40) := by decide +kernel
theorem fi_126_7 : am_find 126 7 = some (.getfield 66, 3, 8, 0, 91) := by decide +kernel
theorem fi_126_10 : am_find 126 10 = some (.if_icmp .ge 52, 3, 0, 0, 0) := by decide +kernel
theorem fi_126_13 : am_find 126 13 = some (.iload_n 2, 1, 0, 0, 0) := by decide +kernel
theorem fi_126_14 : am_find 126 14 = some (.bipush 6, 2, 0, 6, 0) := by decide +kernel
theorem fi_126_16 : am_find 126 16 = some (.if_icmp .ge 46, 3, 0, 0, 0) := by decide +kernel
theorem fi_126_19 : am_find 126 19 = some (.iload_n 1, 1, 0, 0, 0) := by decide +kernel
theorem fi_126_20 : am_find 126 20 = some (.iload_n 2, 1, 0, 0, 0) := by decide +kernel
theorem fi_126_21 : am_find 126 21 = some (.ishr, 1, 0, 0, 0) := by decide +kernel
theorem fi_126_22 : am_find 126 22 = some (.iconst 1, 1, 0, 1, 0) := by decide +kernel
theorem fi_126_23 : am_find 126 23 = some (.iand, 1, 0, 0, 0) := by decide +kernel
theorem fi_126_24 : am_find 126 24 = some (.ifCond .ne 32, 3, 0, 0, 0) := by decide +kernel
theorem fi_126_27 : am_find 126 27 = some (.iload_n 1, 1, 0, 0, 0) := by decide +kernel
theorem fi_126_28 : am_find 126 28 = some (.aload_n 0, 1, 0, 0, 0) := by decide +kernel
theorem fi_126_29 : am_find 126 29 = some (.getfield 15, 3, 7, 2, 39) := by decide +kernel
theorem fi_126_32 : am_find 126 32 = some (.arraylength, 1, 0, 0, 0) := by decide +kernel
theorem fi_126_33 : am_find 126 33 = some (.invokestatic 59, 3, 13, 2, 149) := by decide +kernel
theorem fi_126_36 : am_find 126 36 = some (.ifCond .eq 20, 3, 0, 0, 0) := by decide +kernel
theorem fi_126_39 : am_find 126 39 = some (.aload_n 0, 1, 0, 0, 0) := by decide +kernel
theorem fi_126_40 : am_find 126 40 = some (.iload_n 1, 1, 0, 0, 0) := by decide +kernel
theorem fi_126_41 : am_find 126 41 = some (.iload_n 2, 1, 0, 0, 0) := by decide +kernel
theorem fi_126_42 : am_find 126 42 = some (.invokevirtual 50, 3, 123, 2, 148) := by decide +kernel
theorem fi_126_45 : am_find 126 45 = some (.aload_n 0, 1, 0, 0, 0) := by decide +kernel
theorem fi_126_46 : am_find 126 46 = some (.getfield 15, 3, 7, 2, 39) := by decide +kernel
theorem fi_126_49 : am_find 126 49 = some (.iload_n 1, 1, 0, 0, 0) := by decide +kernel
theorem fi_126_50 : am_find 126 50 = some (.iaload, 1, 0, 0, 0) := by decide +kernel
theorem fi_126_51 : am_find 126 51 = some (.if_icmp .ne 5, 3, 0, 0, 0) := by decide +kernel
theorem fi_126_54 : am_find 126 54 = some (.iload_n 2, 1, 0, 0, 0) := by decide +kernel
theorem fi_126_55 : am_find 126 55 = some (.ireturn, 1, 0, 0, 0) := by decide +kernel
theorem fi_126_56 : am_find 126 56 = some (.iinc 2 1, 3, 0, 0, 0) := by decide +kernel
theorem fi_126_59 : am_find 126 59 = some (.goto (-57), 3, 0, 0, 0) := by decide +kernel
theorem fi_126_62 : am_find 126 62 = some (.iconst (-1), 1, 0, (-1), 0) := by decide +kernel
theorem fi_126_63 : am_find 126 63 = some (.ireturn, 1, 0, 0, 0) := by decide +kernel
theorem b126_0 {d L : Nat} {σ : St} {Q : Option AV → AW → Prop} {x1 : Int} {u0 u2 : AV} : R d 126 0 [u0, vI x1, u2] [] (WS L σ) Q = R d 126 2 [u0, vI x1, vI 0] [] (WS L σ) Q := K_iconst fi_126_0 <| K_istore_n fi_126_1 (Nat.le_of_ble_eq_true rfl) rfl rfl <| rfl
theorem b126_2 {d L : Nat} {σ : St} {Q : Option AV → AW → Prop} {x2 : Int} {u1 : AV} : R d 126 2 [vR 147, u1, vI x2] [] (WS L σ) Q = if (σ 20 0) ≤ x2 then R d 126 62 [vR 147, u1, vI x2] [] (WS L σ) Q else R d 126 13 [vR 147, u1, vI x2] [] (WS L σ) Q := K_iload_n fi_126_2 rfl <| K_aload_n fi_126_3 rfl <| K_gf fi_126_4 kd_147 mk_147_0 <| K_gf fi_126_7 kd_20 mk_20_0 <| R_icmp_ge fi_126_10 rfl
theorem b126_13 {d L : Nat} {σ : St} {Q : Option AV → AW → Prop} {x2 : Int} {u0 u1 : AV} : R d 126 13 [u0, u1, vI x2] [] (WS L σ) Q = if 6 ≤ x2 then R d 126 62 [u0, u1, vI x2] [] (WS L σ) Q else R d 126 19 [u0, u1, vI x2] [] (WS L σ) Q := K_iload_n fi_126_13 rfl <| K_bipush fi_126_14 <| R_icmp_ge fi_126_16 rfl
theorem b126_19 {d L : Nat} {σ : St} {Q : Option AV → AW → Prop} {x1 x2 : Int} {u0 : AV} : R d 126 19 [u0, vI x1, vI x2] [] (WS L σ) Q = if ¬ (i_and (i_shr x1 x2) 1) = 0 then R d 126 56 [u0, vI x1, vI x2] [] (WS L σ) Q else R d 126 27 [u0, vI x1, vI x2] [] (WS L σ) Q := K_iload_n fi_126_19 rfl <| K_iload_n fi_126_20 rfl <| K_ishr fi_126_21 <| K_iconst fi_126_22 <| K_iand fi_126_23 <| R_if_ne fi_126_24 rfl
theorem b126_27 {d L : Nat} {σ : St} {Q : Option AV → AW → Prop} {x1 : Int} {u2 : AV} : R (d + 1) 126 27 [vR 147, vI x1, u2] [] (WS L σ) Q = R d 13 0 [vI x1, vI 64] [] (WS L σ) (fun r w => R (d + 1) 126 36 [vR 147, vI x1, u2] (am_push r []) w Q) := K_iload_n fi_126_27 rfl <| K_aload_n fi_126_28 rfl <| K_gf fi_126_29 kd_147 mk_147_2 <| K_alenx fi_126_32 (Or.inl kd_149) rfl <| R_invS fi_126_33 (by decide) (am_invS_of (Nat.le_of_ble_eq_true rfl) rfl (Nat.le_of_ble_eq_true rfl) (Nat.le_of_ble_eq_true rfl) rfl rfl)
theorem b126_36 {d L : Nat} {σ : St} {Q : Option AV → AW → Prop} {y0 : Int} {u0 u1 u2 : AV} : R d 126 36 [u0, u1, u2] [vI y0] (WS L σ) Q = if y0 = 0 then R d 126 56 [u0, u1, u2] [] (WS L σ) Q else R d 126 39 [u0, u1, u2] [] (WS L σ) Q := R_if_eq fi_126_36 rfl
theorem b126_39 {d L : Nat} {σ : St} {Q : Option AV → AW → Prop} {x1 x2 : Int} : R (d + 1) 126 39 [vR 147, vI x1, vI x2] [] (WS L σ) Q = R d 123 0 [vR 147, vI x1, vI x2, vX 9, vX 9, vX 9, vX 9] [] (WS L σ) (fun r w => R (d + 1) 126 45 [vR 147, vI x1, vI x2] (am_push r []) w Q) := K_aload_n fi_126_39 rfl <| K_iload_n fi_126_40 rfl <| K_iload_n fi_126_41 rfl <| R_invV fi_126_42 (am_invV_of rfl (kd_147) (Nat.le_of_ble_eq_true rfl) (Nat.le_of_ble_eq_true rfl) rfl rfl)
theorem b126_45 {d L : Nat} {σ : St} {Q : Option AV → AW → Prop} {y0 x1 : Int} {u2 : AV} (h1 : 0 ≤ x1) (h2 : x1 < 64) : R d 126 45 [vR 147, vI x1, u2] [vI y0] (WS L σ) Q = if ¬ y0 = (σ 149 x1) then R d 126 56 [vR 147, vI x1, u2] [] (WS L σ) Q else R d 126 54 [vR 147, vI x1, u2] [] (WS L σ) Q := K_aload_n fi_126_45 rfl <| K_gf fi_126_46 kd_147 mk_147_2 <| K_iload_n fi_126_49 rfl <| K_ia fi_126_50 kd_149 h1 h2 <| R_icmp_ne fi_126_51 rfl
theorem b126_54 {d L : Nat} {σ : St} {Q : Option AV → AW → Prop} {x2 : Int} {u0 u1 : AV} : R d 126 54 [u0, u1, vI x2] [] (WS L σ) Q = Q (some (vI x2)) (WS L σ) := K_iload_n fi_126_54 rfl <| R_ireti fi_126_55 rfl
theorem b126_56 {d L : Nat} {σ : St} {Q : Option AV → AW → Prop} {x2 x1 : Int} {u0 : AV} (h1 : -2147483648 ≤ x2 + 1 ∧ x2 + 1 ≤ 2147483647) : R d 126 56 [u0, vI x1, vI x2] [] (WS L σ) Q = R d 126 2 [u0, vI x1, vI (x2 + 1)] [] (WS L σ) Q := K_iincx fi_126_56 rfl (Nat.le_of_ble_eq_true rfl) rfl h1 rfl <| R_goto fi_126_59 rfl
theorem b126_62 {d L : Nat} {σ : St} {Q : Option AV → AW → Prop} {u0 u1 u2 : AV} : R d 126 62 [u0, u1, u2] [] (WS L σ) Q = Q (some (vI (-1))) (WS L σ) := K_iconst fi_126_62 <| R_ireti fi_126_63 rfl
theorem fi_127_0 : am_find 127 0 = some (.iload_n 1, 1, 0, 0, 0) := by decide +kernel
theorem fi_127_1 : am_find 127 1 = some (.aload_n 0, 1, 0, 0, 0) := by decide +kernel
theorem fi_127_2 : am_find 127 2 = some (.getfield 10, 3, 9, 0, 0) := by decide +kernel
theorem fi_127_5 : am_find 127 5 = some (.getfield 76, 3, 8, 0, 42) := by decide +kernel
theorem fi_127_8 : am_find 127 8 = some (.invokestatic 72, 3, 13, 2, 14) := by decide +kernel
theorem fi_127_11 : am_find 127 11 = some (.ifCond .eq 14, 3, 0, 0, 0) := by decide +kernel
theorem fi_127_14 : am_find 127 14 = some (.aload_n 0, 1, 0, 0, 0) := by decide +kernel
theorem fi_127_15 : am_find 127 15 = some (.getfield 10, 3, 9, 0, 0) := by decide +kernel
theorem fi_127_18 : am_find 127 18 = some (.iload_n 1, 1, 0, 0, 0) := by decide +kernel
theorem fi_127_19 : am_find 127 19 = some (.invokevirtual 257, 3, 94, 1, 151) := by decide +kernel
theorem fi_127_22 : am_find 127 22 = some (.goto 4, 3, 0, 0, 0) := by decide +kernel
theorem fi_127_25 : am_find 127 25 = some (.iconst (-1), 1, 0, (-1), 0) := by decide +kernel
theorem fi_127_26 : am_find 127 26 = some (.ireturn, 1, 0, 0, 0) := by decide +kernel
theorem b127_0 {d L : Nat} {σ : St} {Q : Option AV → AW → Prop} {x1 : Int} : R (d + 1) 127 0 [vR 19, vI x1] [] (WS L σ) Q = R d 13 0 [vI x1, vI (σ 20 0)] [] (WS L σ) (fun r w => R (d + 1) 127 11 [vR 19, vI x1] (am_push r []) w Q) := K_iload_n fi_127_0 rfl <| K_aload_n fi_127_1 rfl <| K_gf fi_127_2 kd_19 mk_19_0 <| K_gf fi_127_5 kd_20 mk_20_0 <| R_invS fi_127_8 (by decide) (am_invS_of (Nat.le_of_ble_eq_true rfl) rfl (Nat.le_of_ble_eq_true rfl) (Nat.le_of_ble_eq_true rfl) rfl rfl)
theorem b127_11 {d L : Nat} {σ : St} {Q : Option AV → AW → Prop} {y0 : Int} {u0 u1 : AV} : R d 127 11 [u0, u1] [vI y0] (WS L σ) Q = if y0 = 0 then R d 127 25 [u0, u1] [] (WS L σ) Q else R d 127 14 [u0, u1] [] (WS L σ) Q := R_if_eq fi_127_11 rfl
theorem b127_14 {d L : Nat} {σ : St} {Q : Option AV → AW → Prop} {x1 : Int} : R (d + 1) 127 14 [vR 19, vI x1] [] (WS L σ) Q = R d 94 0 [vR 20, vI x1, vX 9, vX 9, vX 9] [] (WS L σ) (fun r w => R (d + 1) 127 22 [vR 19, vI x1] (am_push r []) w Q) := K_aload_n fi_127_14 rfl <| K_gf fi_127_15 kd_19 mk_19_0 <| K_iload_n fi_127_18 rfl <| R_invV fi_127_19 (am_invV_of rfl (kd_20) (Nat.le_of_ble_eq_true rfl) (Nat.le_of_ble_eq_true rfl) rfl rfl)
theorem b127_22 {d L : Nat} {σ : St} {Q : Option AV → AW → Prop} {y0 : Int} {u0 u1 : AV} : R d 127 22 [u0, u1] [vI y0] (WS L σ) Q = R d 127 26 [u0, u1] [vI y0] (WS L σ) Q := R_goto fi_127_22 rfl
theorem b127_25 {d L : Nat} {σ : St} {Q : Option AV → AW → Prop} {u0 u1 : AV} : R d 127 25 [u0, u1] [] (WS L σ) Q = R d 127 26 [u0, u1] [vI (-1)] (WS L σ) Q := K_iconst fi_127_25 <| rfl
theorem b127_26 {d L : Nat} {σ : St} {Q : Option AV → AW → Prop} {y0 : Int} {u0 u1 : AV} : R d 127 26 [u0, u1] [vI y0] (WS L σ) Q = Q (some (vI y0)) (WS L σ) := R_ireti fi_127_26 rfl
theorem fi_128_0 : am_find 128 0 = some (.aload_n 0, 1, 0, 0, 0) := by decide +kernel
theorem fi_128_1 : am_find 128 1 = some (.getfield 68, 3, 9, 8, 8) := by decide +kernel
theorem fi_128_4 : am_find 128 4 = some (.invokevirtual 260, 3, 129, 0, 152) := by decide +kernel
theorem fi_128_7 : am_find 128 7 = some (.iload_n 1, 1, 0, 0, 0) := by decide +kernel
theorem fi_128_8 : am_find 128 8 = some (.iconst 3, 1, 0, 3, 0) := by decide +kernel
theorem fi_128_9 : am_find 128 9 = some (.invokestatic 72, 3, 13, 2, 14) := by decide +kernel
theorem fi_128_12 : am_find 128 12 = some (.ifCond .eq 11, 3, 0, 0, 0) := by decide +kernel
theorem fi_128_15 : am_find 128 15 = some (.iload_n 2, 1, 0, 0, 0) := by decide +kernel
theorem fi_128_16 : am_find 128 16 = some (.iconst 3, 1, 0, 3, 0) := by decide +kernel
theorem fi_128_17 : am_find 128 17 = some (.invokestatic 72, 3, 13, 2, 14) := by decide +kernel
theorem fi_128_20 : am_find 128 20 = some (.ifCond .ne 5, 3, 0, 0, 0) := by decide +kernel
theorem fi_128_23 : am_find 128 23 = some (.iconst 0, 1, 0, 0, 0) := by decide +kernel
theorem fi_128_24 : am_find 128 24 = some (.ireturn, 1, 0, 0, 0) := by decide +kernel
theorem fi_128_25 : am_find 128 25 = some (.aload_n 0, 1, 0, 0, 0) := by decide +kernel
theorem fi_128_26 : am_find 128 26 = some (.getfield 10, 3, 9, 0, 0) := by decide +kernel
theorem fi_128_29 : am_find 128 29 = some (.iload_n 1, 1, 0, 0, 0) := by decide +kernel
theorem fi_128_30 : am_find 128 30 = some (.invokevirtual 263, 3, 81, 1, 153) := by decide +kernel
theorem fi_128_33 : am_find 128 33 = some (.invokestatic 266, 3, 42, 1, 154) := by decide +kernel
theorem fi_128_36 : am_find 128 36 = some (.istore 4, 2, 0, 0, 0) := by decide +kernel
theorem fi_128_38 : am_find 128 38 = some (.aload_n 0, 1, 0, 0, 0) := by decide +kernel
theorem fi_128_39 : am_find 128 39 = some (.getfield 68, 3, 9, 8, 8) := by decide +kernel
theorem fi_128_42 : am_find 128 42 = some (.aload_n 0, 1, 0, 0, 0) := by decide +kernel
theorem fi_128_43 : am_find 128 43 = some (.getfield 10, 3, 9, 0, 0) := by decide +kernel
theorem fi_128_46 : am_find 128 46 = some (.iload_n 1, 1, 0, 0, 0) := by decide +kernel
theorem fi_128_47 : am_find 128 47 = some (.invokevirtual 151, 3, 66, 1, 62) := by decide +kernel
theorem fi_128_50 : am_find 128 50 = some (.iload_n 1, 1, 0, 0, 0) := by decide +kernel
theorem fi_128_51 : am_find 128 51 = some (.iload 4, 2, 0, 0, 0) := by decide +kernel
theorem fi_128_53 : am_find 128 53 = some (.iload_n 2, 1, 0, 0, 0) := by decide +kernel
theorem fi_128_54 : am_find 128 54 = some (.iload_n 3, 1, 0, 0, 0) := by decide +kernel
theorem fi_128_55 : am_find 128 55 = some (.invokevirtual 271, 3, 130, 5, 155) := by decide +kernel
theorem fi_128_58 : am_find 128 58 = some (.ireturn, 1, 0, 0, 0) := by decide +kernel
theorem b128_0 {d L : Nat} {σ : St} {Q : Option AV → AW → Prop} {u1 u2 u3 u4 : AV} : R (d + 1) 128 0 [vR 19, u1, u2, u3, u4] [] (WS L σ) Q = R d 129 0 [vR 150] [] (WS L σ) (fun r w => R (d + 1) 128 7 [vR 19, u1, u2, u3, u4] (am_push r []) w Q) := K_aload_n fi_128_0 rfl <| K_gf fi_128_1 kd_19 mk_19_8 <| R_invV fi_128_4 (am_invV_of rfl (kd_150) (Nat.le_of_ble_eq_true rfl) (Nat.le_of_ble_eq_true rfl) rfl rfl)
theorem b128_7 {d L : Nat} {σ : St} {Q : Option AV → AW → Prop} {x1 : Int} {u0 u2 u3 u4 : AV} : R (d + 1) 128 7 [u0, vI x1, u2, u3, u4] [] (WS L σ) Q = R d 13 0 [vI x1, vI 3] [] (WS L σ) (fun r w => R (d + 1) 128 12 [u0, vI x1, u2, u3, u4] (am_push r []) w Q) := K_iload_n fi_128_7 rfl <| K_iconst fi_128_8 <| R_invS fi_128_9 (by decide) (am_invS_of (Nat.le_of_ble_eq_true rfl) rfl (Nat.le_of_ble_eq_true rfl) (Nat.le_of_ble_eq_true rfl) rfl rfl)
theorem b128_12 {d L : Nat} {σ : St} {Q : Option AV → AW → Prop} {y0 : Int} {u0 u1 u2 u3 u4 : AV} : R d 128 12 [u0, u1, u2, u3, u4] [vI y0] (WS L σ) Q = if y0 = 0 then R d 128 23 [u0, u1, u2, u3, u4] [] (WS L σ) Q else R d 128 15 [u0, u1, u2, u3, u4] [] (WS L σ) Q := R_if_eq fi_128_12 rfl
theorem b128_15 {d L : Nat} {σ : St} {Q : Option AV → AW → Prop} {x2 : Int} {u0 u1 u3 u4 : AV} : R (d + 1) 128 15 [u0, u1, vI x2, u3, u4] [] (WS L σ) Q = R d 13 0 [vI x2, vI 3] [] (WS L σ) (fun r w => R (d + 1) 128 20 [u0, u1, vI x2, u3, u4] (am_push r []) w Q) := K_iload_n fi_128_15 rfl <| K_iconst fi_128_16 <| R_invS fi_128_17 (by decide) (am_invS_of (Nat.le_of_ble_eq_true rfl) rfl (Nat.le_of_ble_eq_true rfl) (Nat.le_of_ble_eq_true rfl) rfl rfl)
theorem b128_20 {d L : Nat} {σ : St} {Q : Option AV → AW → Prop} {y0 : Int} {u0 u1 u2 u3 u4 : AV} : R d 128 20 [u0, u1, u2, u3, u4] [vI y0] (WS L σ) Q = if ¬ y0 = 0 then R d 128 25 [u0, u1, u2, u3, u4] [] (WS L σ) Q else R d 128 23 [u0, u1, u2, u3, u4] [] (WS L σ) Q := R_if_ne fi_128_20 rfl
theorem b128_23 {d L : Nat} {σ : St} {Q : Option AV → AW → Prop} {u0 u1 u2 u3 u4 : AV} : R d 128 23 [u0, u1, u2, u3, u4] [] (WS L σ) Q = Q (some (vI 0)) (WS L σ) := K_iconst fi_128_23 <| R_ireti fi_128_24 rfl
theorem b128_25 {d L : Nat} {σ : St} {Q : Option AV → AW → Prop} {x1 : Int} {u2 u3 u4 : AV} : R (d + 1) 128 25 [vR 19, vI x1, u2, u3, u4] [] (WS L σ) Q = R d 81 0 [vR 20, vI x1] [] (WS L σ) (fun r w => R (d + 1) 128 33 [vR 19, vI x1, u2, u3, u4] (am_push r []) w Q) := K_aload_n fi_128_25 rfl <| K_gf fi_128_26 kd_19 mk_19_0 <| K_iload_n fi_128_29 rfl <| R_invV fi_128_30 (am_invV_of rfl (kd_20) (Nat.le_of_ble_eq_true rfl) (Nat.le_of_ble_eq_true rfl) rfl rfl)
theorem b128_33 {d L : Nat} {σ : St} {Q : Option AV → AW → Prop} {y0 : Int} {u0 u1 u2 u3 u4 : AV} : R (d + 1) 128 33 [u0, u1, u2, u3, u4] [vI y0] (WS L σ) Q = R d 42 0 [vI y0] [] (WS L σ) (fun r w => R (d + 1) 128 36 [u0, u1, u2, u3, u4] (am_push r []) w Q) := R_invS fi_128_33 (by decide) (am_invS_of (Nat.le_of_ble_eq_true rfl) rfl (Nat.le_of_ble_eq_true rfl) (Nat.le_of_ble_eq_true rfl) rfl rfl)
theorem b128_36 {d L : Nat} {σ : St} {Q : Option AV → AW → Prop} {y0 x1 : Int} {u2 u3 u4 : AV} : R (d + 1) 128 36 [vR 19, vI x1, u2, u3, u4] [vI y0] (WS L σ) Q = R d 66 0 [vR 20, vI x1] [] (WS L σ) (fun r w => R (d + 1) 128 50 [vR 19, vI x1, u2, u3, vI y0] (am_push r [vR 150]) w Q) := K_istore fi_128_36 (Nat.le_of_ble_eq_true rfl) rfl rfl <| K_aload_n fi_128_38 rfl <| K_gf fi_128_39 kd_19 mk_19_8 <| K_aload_n fi_128_42 rfl <| K_gf fi_128_43 kd_19 mk_19_0 <| K_iload_n fi_128_46 rfl <| R_invV fi_128_47 (am_invV_of rfl (kd_20) (Nat.le_of_ble_eq_true rfl) (Nat.le_of_ble_eq_true rfl) rfl rfl)
theorem b128_50 {d L : Nat} {σ : St} {Q : Option AV → AW → Prop} {y0 x1 x4 x2 x3 : Int} {u0 : AV} : R (d + 1) 128 50 [u0, vI x1, vI x2, vI x3, vI x4] [vI y0, vR 150] (WS L σ) Q = R d 130 0 [vR 150, vI y0, vI x1, vI x4, vI x2, vI x3] [] (WS L σ) (fun r w => R (d + 1) 128 58 [u0, vI x1, vI x2, vI x3, vI x4] (am_push r []) w Q) := K_iload_n fi_128_50 rfl <| K_iload fi_128_51 rfl <| K_iload_n fi_128_53 rfl <| K_iload_n fi_128_54 rfl <| R_invV fi_128_55 (am_invV_of rfl (kd_150) (Nat.le_of_ble_eq_true rfl) (Nat.le_of_ble_eq_true rfl) rfl rfl)
theorem b128_58 {d L : Nat} {σ : St} {Q : Option AV → AW → Prop} {y0 : Int} {u0 u1 u2 u3 u4 : AV} : R d 128 58 [u0, u1, u2, u3, u4] [vI y0] (WS L σ) Q = Q (some (vI y0)) (WS L σ) := R_ireti fi_128_58 rfl
theorem fi_129_0 : am_find 129 0 = some (.aload_n 0, 1, 0, 0, 0) := by decide +kernel
theorem fi_129_1 : am_find 129 1 = some (.getfield 16, 3, 0, 0, 41) := by decide +kernel
theorem fi_129_4 : am_find 129 4 = some (.invokevirtual 20, 3, 53, 0, 156) := by decide +kernel
theorem fi_129_7 : am_find 129 7 = some (.aload_n 0, 1, 0, 0, 0) := by decide +kernel
theorem fi_129_8 : am_find 129 8 = some (.iconst 0, 1, 0, 0, 0) := by decide +kernel
theorem fi_129_9 : am_find 129 9 = some (.putfield 23, 3, 0, 1, 92) := by decide +kernel
theorem fi_129_12 : am_find 129 12 = some (.return_, 1, 0, 0, 0) := by decide +kernel
theorem b129_0 {d L : Nat} {σ : St} {Q : Option AV → AW → Prop} : R (d + 1) 129 0 [vR 150] [] (WS L σ) Q = R d 53 0 [vR 151] [] (WS L σ) (fun r w => R (d + 1) 129 7 [vR 150] (am_push r []) w Q) := K_aload_n fi_129_0 rfl <| K_gf fi_129_1 kd_150 mk_150_0 <| R_invV fi_129_4 (am_invV_of rfl (kd_151) (Nat.le_of_ble_eq_true rfl) (Nat.le_of_ble_eq_true rfl) rfl rfl)
theorem b129_7 {d L : Nat} {σ : St} {Q : Option AV → AW → Prop} : R d 129 7 [vR 150] [] (WS L σ) Q = R d 129 12 [vR 150] [] (WS L (st2 σ 150 1 0)) Q := K_aload_n fi_129_7 rfl <| K_iconst fi_129_8 <| K_pf fi_129_9 kd_150 rfl rfl rfl rfl <| rfl
theorem b129_12 {d L : Nat} {σ : St} {Q : Option AV → AW → Prop} {u0 : AV} : R d 129 12 [u0] [] (WS L σ) Q = Q none (WS L σ) := R_return fi_129_12
theorem fi_130_0 : am_find 130 0 = some (.aload_n 0, 1, 0, 0, 0) := by decide +kernel
theorem fi_130_1 : am_find 130 1 = some (.iload_n 1, 1, 0, 0, 0) := by decide +kernel
theorem fi_130_2 : am_find 130 2 = some (.putfield 27, 3, 0, 2, 93) := by decide +kernel
theorem fi_130_5 : am_find 130 5 = some (.aload_n 0, 1, 0, 0, 0) := by decide +kernel
theorem fi_130_6 : am_find 130 6 = some (.iload_n 2, 1, 0, 0, 0) := by decide +kernel
theorem fi_130_7 : am_find 130 7 = some (.putfield 30, 3, 0, 3, 94) := by decide +kernel
theorem fi_130_10 : am_find 130 10 = some (.aload_n 0, 1, 0, 0, 0) := by decide +kernel
theorem fi_130_11 : am_find 130 11 = some (.iload_n 3, 1, 0, 0, 0) := by decide +kernel
theorem fi_130_12 : am_find 130 12 = some (.putfield 33, 3, 0, 4, 95) := by decide +kernel
theorem fi_130_15 : am_find 130 15 = some (.aload_n 0, 1, 0, 0, 0) := by decide +kernel
theorem fi_130_16 : am_find 130 16 = some (.iload_n 1, 1, 0, 0, 0) := by decide +kernel
theorem fi_130_17 : am_find 130 17 = some (.iload 4, 2, 0, 0, 0) := by decide +kernel
theorem fi_130_19 : am_find 130 19 = some (.iload 5, 2, 0, 0, 0) := by decide +kernel
theorem fi_130_21 : am_find 130 21 = some (.iconst 0, 1, 0, 0, 0) := by decide +kernel
theorem fi_130_22 : am_find 130 22 = some (.invokevirtual 36, 3, 131, 4, 157) := by decide +kernel
theorem fi_130_25 : am_find 130 25 = some (.ireturn, 1, 0, 0, 0) := by decide +kernel
theorem b130_0 {d L : Nat} {σ : St} {Q : Option AV → AW → Prop} {x1 : Int} {u2 u3 u4 u5 : AV} : R d 130 0 [vR 150, vI x1, u2, u3, u4, u5] [] (WS L σ) Q = R d 130 5 [vR 150, vI x1, u2, u3, u4, u5] [] (WS L (st2 σ 150 2 x1)) Q := K_aload_n fi_130_0 rfl <| K_iload_n fi_130_1 rfl <| K_pf fi_130_2 kd_150 rfl rfl rfl rfl <| rfl
theorem b130_5 {d L : Nat} {σ : St} {Q : Option AV → AW → Prop} {x2 : Int} {u1 u3 u4 u5 : AV} : R d 130 5 [vR 150, u1, vI x2, u3, u4, u5] [] (WS L σ) Q = R d 130 10 [vR 150, u1, vI x2, u3, u4, u5] [] (WS L (st2 σ 150 3 x2)) Q := K_aload_n fi_130_5 rfl <| K_iload_n fi_130_6 rfl <| K_pf fi_130_7 kd_150 rfl rfl rfl rfl <| rfl
theorem b130_10 {d L : Nat} {σ : St} {Q : Option AV → AW → Prop} {x3 : Int} {u1 u2 u4 u5 : AV} : R d 130 10 [vR 150, u1, u2, vI x3, u4, u5] [] (WS L σ) Q = R d 130 15 [vR 150, u1, u2, vI x3, u4, u5] [] (WS L (st2 σ 150 4 x3)) Q := K_aload_n fi_130_10 rfl <| K_iload_n fi_130_11 rfl <| K_pf fi_130_12 kd_150 rfl rfl rfl rfl <| rfl
theorem b130_15 {d L : Nat} {σ : St} {Q : Option AV → AW → Prop} {x1 x4 x5 : Int} {u2 u3 : AV} : R (d + 1) 130 15 [vR 150, vI x1, u2, u3, vI x4, vI x5] [] (WS L σ) Q = R d 131 0 [vR 150, vI x1, vI x4, vI x5, vI 0, vX 9, vX 9, vX 9, vX 9] [] (WS L σ) (fun r w => R (d + 1) 130 25 [vR 150, vI x1, u2, u3, vI x4, vI x5] (am_push r []) w Q) := K_aload_n fi_130_15 rfl <| K_iload_n fi_130_16 rfl <| K_iload fi_130_17 rfl <| K_iload fi_130_19 rfl <| K_iconst fi_130_21 <| R_invV fi_130_22 (am_invV_of rfl (kd_150) (Nat.le_of_ble_eq_true rfl) (Nat.le_of_ble_eq_true rfl) rfl rfl)
theorem b130_25 {d L : Nat} {σ : St} {Q : Option AV → AW → Prop} {y0 : Int} {u0 u1 u2 u3 u4 u5 : AV} : R d 130 25 [u0, u1, u2, u3, u4, u5] [vI y0] (WS L σ) Q = Q (some (vI y0)) (WS L σ) := R_ireti fi_130_25 rfl
theorem fi_131_0 : am_find 131 0 = some (.iload_n 1, 1, 0, 0, 0) := by decide +kernel
theorem fi_131_1 : am_find 131 1 = some (.iload_n 2, 1, 0, 0, 0) := by decide +kernel
theorem fi_131_2 : am_find 131 2 = some (.invokestatic 40, 3, 132, 2, 158) := by decide +kernel
theorem fi_131_5 : am_find 131 5 = some (.istore 5, 2, 0, 0, 0) := by decide +kernel
theorem fi_131_7 : am_find 131 7 = some (.iload 5, 2, 0, 0, 0) := by decide +kernel
theorem fi_131_9 : am_find 131 9 = some (.iload_n 2, 1, 0, 0, 0) := by decide +kernel
theorem fi_131_10 : am_find 131 10 = some (.invokestatic 44, 3, 133, 2, 159) := by decide +kernel
theorem fi_131_13 : am_find 131 13 = some (.istore 6, 2, 0, 0, 0) := by decide +kernel
theorem fi_131_15 : am_find 131 15 = some (.iload 6, 2, 0, 0, 0) := by decide +kernel
theorem fi_131_17 : am_find 131 17 = some (.ifCond .eq 10, 3, 0, 0, 0) := by decide +kernel
theorem fi_131_20 : am_find 131 20 = some (.iload 4, 2, 0, 0, 0) := by decide +kernel
theorem fi_131_22 : am_find 131 22 = some (.bipush 40, 2, 0, 40, 0) := by decide +kernel
theorem fi_131_24 : am_find 131 24 = some (.if_icmp .le 5, 3, 0, 0, 0) := by decide +kernel
theorem fi_131_27 : am_find 131 27 = some (.iconst 0, 1, 0, 0, 0) := by decide +kernel
theorem fi_131_28 : am_find 131 28 = some (.ireturn, 1, 0, 0, 0) := by decide +kernel
theorem fi_131_29 : am_find 131 29 = some (.aload_n 0, 1, 0, 0, 0) := by decide +kernel
theorem fi_131_30 : am_find 131 30 = some (.getfield 16, 3, 0, 0, 41) := by decide +kernel
theorem fi_131_33 : am_find 131 33 = some (.iload 6, 2, 0, 0, 0) := by decide +kernel
theorem fi_131_35 : am_find 131 35 = some (.invokevirtual 47, 3, 48, 1, 160) := by decide +kernel
theorem fi_131_38 : am_find 131 38 = some (.pop, 1, 0, 0, 0) := by decide +kernel
theorem fi_131_39 : am_find 131 39 = some (.aload_n 0, 1, 0, 0, 0) := by decide +kernel
theorem fi_131_40 : am_find 131 40 = some (.dup, 1, 0, 0, 0) := by decide +kernel
theorem fi_131_41 : am_find 131 41 = some (.getfield 23, 3, 0, 1, 92) := by decide +kernel
theorem fi_131_44 : am_find 131 44 = some (.iconst 1, 1, 0, 1, 0) := by decide +kernel
theorem fi_131_45 : am_find 131 45 = some (.iadd, 1, 0, 0, 0) := by decide +kernel
theorem fi_131_46 : am_find 131 46 = some (.putfield 23, 3, 0, 1, 92) := by decide +kernel
theorem fi_131_49 : am_find 131 49 = some (.iload 5, 2, 0, 0, 0) := by decide +kernel
theorem fi_131_51 : am_find 131 51 = some (.invokestatic 51, 3, 134, 1, 161) := by decide +kernel
theorem fi_131_54 : am_find 131 54 = some (.istore 7, 2, 0, 0, 0) := by decide +kernel
theorem fi_131_56 : am_find 131 56 = some (.iload 4, 2, 0, 0, 0) := by decide +kernel
theorem fi_131_58 : am_find 131 58 = some (.iconst 1, 1, 0, 1, 0) := by decide +kernel
theorem fi_131_59 : am_find 131 59 = some (.iadd, 1, 0, 0, 0) := by decide +kernel
theorem fi_131_60 : am_find 131 60 = some (.istore 8, 2, 0, 0, 0) := by decide +kernel
theorem fi_131_62 : am_find 131 62 = some (.iload 6, 2, 0, 0, 0) := by decide +kernel
theorem fi_131_64 : am_find 131 64 = some (.lookupswitch 221 #[(1, 84), (2, 91), (3, 109), (11, 124), (21, 137), (31, 149), (41, 163), (51, 189), (61, 205)], 84, 0, 0, 0) := by decide +kernel
theorem fi_131_148 : am_find 131 148 = some (.iload_n 3, 1, 0, 0, 0) := by decide +kernel
theorem fi_131_149 : am_find 131 149 = some (.aload_n 0, 1, 0, 0, 0) := by decide +kernel
theorem fi_131_150 : am_find 131 150 = some (.getfield 30, 3, 0, 3, 94) := by decide +kernel
theorem fi_131_153 : am_find 131 153 = some (.iadd, 1, 0, 0, 0) := by decide +kernel
theorem fi_131_154 : am_find 131 154 = some (.ireturn, 1, 0, 0, 0) := by decide +kernel
theorem fi_131_155 : am_find 131 155 = some (.aload_n 0, 1, 0, 0, 0) := by decide +kernel
theorem fi_131_156 : am_find 131 156 = some (.aload_n 0, 1, 0, 0, 0) := by decide +kernel
theorem fi_131_157 : am_find 131 157 = some (.getfield 27, 3, 0, 2, 93) := by decide +kernel
theorem fi_131_160 : am_find 131 160 = some (.iconst 0, 1, 0, 0, 0) := by decide +kernel
theorem fi_131_161 : am_find 131 161 = some (.iload_n 3, 1, 0, 0, 0) := by decide +kernel
theorem fi_131_162 : am_find 131 162 = some (.iload 8, 2, 0, 0, 0) := by decide +kernel
theorem fi_131_164 : am_find 131 164 = some (.invokevirtual 36, 3, 131, 4, 157) := by decide +kernel
theorem fi_131_167 : am_find 131 167 = some (.aload_n 0, 1, 0, 0, 0) := by decide +kernel
theorem fi_131_168 : am_find 131 168 = some (.getfield 33, 3, 0, 4, 95) := by decide +kernel
theorem fi_131_171 : am_find 131 171 = some (.isub, 1, 0, 0, 0) := by decide +kernel
theorem fi_131_172 : am_find 131 172 = some (.ireturn, 1, 0, 0, 0) := by decide +kernel
theorem fi_131_173 : am_find 131 173 = some (.aload_n 0, 1, 0, 0, 0) := by decide +kernel
theorem fi_131_174 : am_find 131 174 = some (.aload_n 0, 1, 0, 0, 0) := by decide +kernel
theorem fi_131_175 : am_find 131 175 = some (.getfield 27, 3, 0, 2, 93) := by decide +kernel
theorem fi_131_178 : am_find 131 178 = some (.iconst 1, 1, 0, 1, 0) := by decide +kernel
theorem fi_131_179 : am_find 131 179 = some (.iload_n 3, 1, 0, 0, 0) := by decide +kernel
theorem fi_131_180 : am_find 131 180 = some (.iload 8, 2, 0, 0, 0) := by decide +kernel
theorem fi_131_182 : am_find 131 182 = some (.invokevirtual 36, 3, 131, 4, 157) := by decide +kernel
theorem fi_131_185 : am_find 131 185 = some (.iconst 2, 1, 0, 2, 0) := by decide +kernel
theorem fi_131_186 : am_find 131 186 = some (.imul, 1, 0, 0, 0) := by decide +kernel
theorem fi_131_187 : am_find 131 187 = some (.ireturn, 1, 0, 0, 0) := by decide +kernel
theorem fi_131_188 : am_find 131 188 = some (.aload_n 0, 1, 0, 0, 0) := by decide +kernel
theorem fi_131_189 : am_find 131 189 = some (.iload 7, 2, 0, 0, 0) := by decide +kernel
theorem fi_131_191 : am_find 131 191 = some (.iconst 0, 1, 0, 0, 0) := by decide +kernel
theorem fi_131_192 : am_find 131 192 = some (.iload_n 3, 1, 0, 0, 0) := by decide +kernel
theorem fi_131_193 : am_find 131 193 = some (.iconst 3, 1, 0, 3, 0) := by decide +kernel
theorem fi_131_194 : am_find 131 194 = some (.imul, 1, 0, 0, 0) := by decide +kernel
theorem fi_131_195 : am_find 131 195 = some (.iload 8, 2, 0, 0, 0) := by decide +kernel
theorem fi_131_197 : am_find 131 197 = some (.invokevirtual 36, 3, 131, 4, 157) := by decide +kernel
theorem fi_131_200 : am_find 131 200 = some (.ireturn, 1, 0, 0, 0) := by decide +kernel
theorem fi_131_201 : am_find 131 201 = some (.aload_n 0, 1, 0, 0, 0) := by decide +kernel
theorem fi_131_202 : am_find 131 202 = some (.iload 7, 2, 0, 0, 0) := by decide +kernel
theorem fi_131_204 : am_find 131 204 = some (.iconst 1, 1, 0, 1, 0) := by decide +kernel
theorem fi_131_205 : am_find 131 205 = some (.iload_n 3, 1, 0, 0, 0) := by decide +kernel
theorem fi_131_206 : am_find 131 206 = some (.iload 8, 2, 0, 0, 0) := by decide +kernel
theorem fi_131_208 : am_find 131 208 = some (.invokevirtual 36, 3, 131, 4, 157) := by decide +kernel
theorem fi_131_211 : am_find 131 211 = some (.ineg, 1, 0, 0, 0) := by decide +kernel
theorem fi_131_212 : am_find 131 212 = some (.ireturn, 1, 0, 0, 0) := by decide +kernel
theorem fi_131_213 : am_find 131 213 = some (.aload_n 0, 1, 0, 0, 0) := by decide +kernel
theorem fi_131_214 : am_find 131 214 = some (.iload 7, 2, 0, 0, 0) := by decide +kernel
theorem fi_131_216 : am_find 131 216 = some (.iconst 2, 1, 0, 2, 0) := by decide +kernel
theorem fi_131_217 : am_find 131 217 = some (.iload_n 3, 1, 0, 0, 0) := by decide +kernel
theorem fi_131_218 : am_find 131 218 = some (.iload 8, 2, 0, 0, 0) := by decide +kernel
theorem fi_131_220 : am_find 131 220 = some (.invokevirtual 36, 3, 131, 4, 157) := by decide +kernel
theorem fi_131_223 : am_find 131 223 = some (.bipush 7, 2, 0, 7, 0) := by decide +kernel
theorem fi_131_225 : am_find 131 225 = some (.ixor, 1, 0, 0, 0) := by decide +kernel
theorem fi_131_226 : am_find 131 226 = some (.ireturn, 1, 0, 0, 0) := by decide +kernel
theorem fi_131_227 : am_find 131 227 = some (.aload_n 0, 1, 0, 0, 0) := by decide +kernel
theorem fi_131_228 : am_find 131 228 = some (.iload 7, 2, 0, 0, 0) := by decide +kernel
theorem fi_131_230 : am_find 131 230 = some (.iconst 2, 1, 0, 2, 0) := by decide +kernel
theorem fi_131_231 : am_find 131 231 = some (.iload_n 3, 1, 0, 0, 0) := by decide +kernel
theorem fi_131_232 : am_find 131 232 = some (.iconst 1, 1, 0, 1, 0) := by decide +kernel
theorem fi_131_233 : am_find 131 233 = some (.isub, 1, 0, 0, 0) := by decide +kernel
theorem fi_131_234 : am_find 131 234 = some (.iload 8, 2, 0, 0, 0) := by decide +kernel
theorem fi_131_236 : am_find 131 236 = some (.invokevirtual 36, 3, 131, 4, 157) := by decide +kernel
theorem fi_131_239 : am_find 131 239 = some (.aload_n 0, 1, 0, 0, 0) := by decide +kernel
theorem fi_131_240 : am_find 131 240 = some (.aload_n 0, 1, 0, 0, 0) := by decide +kernel
theorem fi_131_241 : am_find 131 241 = some (.getfield 27, 3, 0, 2, 93) := by decide +kernel
theorem fi_131_244 : am_find 131 244 = some (.iconst 0, 1, 0, 0, 0) := by decide +kernel
theorem fi_131_245 : am_find 131 245 = some (.iconst 2, 1, 0, 2, 0) := by decide +kernel
theorem fi_131_246 : am_find 131 246 = some (.iload 8, 2, 0, 0, 0) := by decide +kernel
theorem fi_131_248 : am_find 131 248 = some (.invokevirtual 36, 3, 131, 4, 157) := by decide +kernel
theorem fi_131_251 : am_find 131 251 = some (.iadd, 1, 0, 0, 0) := by decide +kernel
theorem fi_131_252 : am_find 131 252 = some (.ireturn, 1, 0, 0, 0) := by decide +kernel
theorem fi_131_253 : am_find 131 253 = some (.aload_n 0, 1, 0, 0, 0) := by decide +kernel
theorem fi_131_254 : am_find 131 254 = some (.iload 7, 2, 0, 0, 0) := by decide +kernel
theorem fi_131_256 : am_find 131 256 = some (.iconst 0, 1, 0, 0, 0) := by decide +kernel
theorem fi_131_257 : am_find 131 257 = some (.iload_n 3, 1, 0, 0, 0) := by decide +kernel
theorem fi_131_258 : am_find 131 258 = some (.iload 8, 2, 0, 0, 0) := by decide +kernel
theorem fi_131_260 : am_find 131 260 = some (.invokevirtual 36, 3, 131, 4, 157) := by decide +kernel
theorem fi_131_263 : am_find 131 263 = some (.aload_n 0, 1, 0, 0, 0) := by decide +kernel
theorem fi_131_264 : am_find 131 264 = some (.getfield 30, 3, 0, 3, 94) := by decide +kernel
theorem fi_131_267 : am_find 131 267 = some (.ixor, 1, 0, 0, 0) := by decide +kernel
theorem fi_131_268 : am_find 131 268 = some (.ireturn, 1, 0, 0, 0) := by decide +kernel
theorem fi_131_269 : am_find 131 269 = some (.aload_n 0, 1, 0, 0, 0) := by decide +kernel
theorem fi_131_270 : am_find 131 270 = some (.iload 7, 2, 0, 0, 0) := by decide +kernel
theorem fi_131_272 : am_find 131 272 = some (.iconst 1, 1, 0, 1, 0) := by decide +kernel
theorem fi_131_273 : am_find 131 273 = some (.iload_n 3, 1, 0, 0, 0) := by decide +kernel
theorem fi_131_274 : am_find 131 274 = some (.iload 8, 2, 0, 0, 0) := by decide +kernel
theorem fi_131_276 : am_find 131 276 = some (.invokevirtual 36, 3, 131, 4, 157) := by decide +kernel
theorem fi_131_279 : am_find 131 279 = some (.aload_n 0, 1, 0, 0, 0) := by decide +kernel
theorem fi_131_280 : am_find 131 280 = some (.getfield 33, 3, 0, 4, 95) := by decide +kernel
theorem fi_131_283 : am_find 131 283 = some (.iadd, 1, 0, 0, 0) := by decide +kernel
theorem fi_131_284 : am_find 131 284 = some (.ireturn, 1, 0, 0, 0) := by decide +kernel
theorem fi_131_285 : am_find 131 285 = some (.iconst 0, 1, 0, 0, 0) := by decide +kernel
theorem fi_131_286 : am_find 131 286 = some (.ireturn, 1, 0, 0, 0) := by decide +kernel
theorem b131_0 {d L : Nat} {σ : St} {Q : Option AV → AW → Prop} {x1 x2 : Int} {u0 u3 u4 u5 u6 u7 u8 : AV} : R (d + 1) 131 0 [u0, vI x1, vI x2, u3, u4, u5, u6, u7, u8] [] (WS L σ) Q = R d 132 0 [vI x1, vI x2, vX 9, vX 9] [] (WS L σ) (fun r w => R (d + 1) 131 5 [u0, vI x1, vI x2, u3, u4, u5, u6, u7, u8] (am_push r []) w Q) := K_iload_n fi_131_0 rfl <| K_iload_n fi_131_1 rfl <| R_invS fi_131_2 (by decide) (am_invS_of (Nat.le_of_ble_eq_true rfl) rfl (Nat.le_of_ble_eq_true rfl) (Nat.le_of_ble_eq_true rfl) rfl rfl)
theorem b131_5 {d L : Nat} {σ : St} {Q : Option AV → AW → Prop} {y0 x2 : Int} {u0 u1 u3 u4 u5 u6 u7 u8 : AV} : R (d + 1) 131 5 [u0, u1, vI x2, u3, u4, u5, u6, u7, u8] [vI y0] (WS L σ) Q = R d 133 0 [vI y0, vI x2, vX 9] [] (WS L σ) (fun r w => R (d + 1) 131 13 [u0, u1, vI x2, u3, u4, vI y0, u6, u7, u8] (am_push r []) w Q) := K_istore fi_131_5 (Nat.le_of_ble_eq_true rfl) rfl rfl <| K_iload fi_131_7 rfl <| K_iload_n fi_131_9 rfl <| R_invS fi_131_10 (by decide) (am_invS_of (Nat.le_of_ble_eq_true rfl) rfl (Nat.le_of_ble_eq_true rfl) (Nat.le_of_ble_eq_true rfl) rfl rfl)
theorem b131_13 {d L : Nat} {σ : St} {Q : Option AV → AW → Prop} {y0 : Int} {u0 u1 u2 u3 u4 u5 u6 u7 u8 : AV} : R d 131 13 [u0, u1, u2, u3, u4, u5, u6, u7, u8] [vI y0] (WS L σ) Q = if y0 = 0 then R d 131 27 [u0, u1, u2, u3, u4, u5, vI y0, u7, u8] [] (WS L σ) Q else R d 131 20 [u0, u1, u2, u3, u4, u5, vI y0, u7, u8] [] (WS L σ) Q := K_istore fi_131_13 (Nat.le_of_ble_eq_true rfl) rfl rfl <| K_iload fi_131_15 rfl <| R_if_eq fi_131_17 rfl
theorem b131_20 {d L : Nat} {σ : St} {Q : Option AV → AW → Prop} {x4 : Int} {u0 u1 u2 u3 u5 u6 u7 u8 : AV} : R d 131 20 [u0, u1, u2, u3, vI x4, u5, u6, u7, u8] [] (WS L σ) Q = if x4 ≤ 40 then R d 131 29 [u0, u1, u2, u3, vI x4, u5, u6, u7, u8] [] (WS L σ) Q else R d 131 27 [u0, u1, u2, u3, vI x4, u5, u6, u7, u8] [] (WS L σ) Q := K_iload fi_131_20 rfl <| K_bipush fi_131_22 <| R_icmp_le fi_131_24 rfl
theorem b131_27 {d L : Nat} {σ : St} {Q : Option AV → AW → Prop} {u0 u1 u2 u3 u4 u5 u6 u7 u8 : AV} : R d 131 27 [u0, u1, u2, u3, u4, u5, u6, u7, u8] [] (WS L σ) Q = Q (some (vI 0)) (WS L σ) := K_iconst fi_131_27 <| R_ireti fi_131_28 rfl
theorem b131_29 {d L : Nat} {σ : St} {Q : Option AV → AW → Prop} {x6 : Int} {u1 u2 u3 u4 u5 u7 u8 : AV} : R (d + 1) 131 29 [vR 150, u1, u2, u3, u4, u5, vI x6, u7, u8] [] (WS L σ) Q = R d 48 0 [vR 151, vI x6] [] (WS L σ) (fun r w => R (d + 1) 131 38 [vR 150, u1, u2, u3, u4, u5, vI x6, u7, u8] (am_push r []) w Q) := K_aload_n fi_131_29 rfl <| K_gf fi_131_30 kd_150 mk_150_0 <| K_iload fi_131_33 rfl <| R_invV fi_131_35 (am_invV_of rfl (kd_151) (Nat.le_of_ble_eq_true rfl) (Nat.le_of_ble_eq_true rfl) rfl rfl)
theorem b131_38 {d L : Nat} {σ : St} {Q : Option AV → AW → Prop} {y0 : Int} {u1 u2 u3 u4 u5 u6 u7 u8 : AV} : R d 131 38 [vR 150, u1, u2, u3, u4, u5, u6, u7, u8] [vI y0] (WS L σ) Q = R d 131 49 [vR 150, u1, u2, u3, u4, u5, u6, u7, u8] [] (WS L (st2 σ 150 1 (wr ((σ 150 1) + 1)))) Q := K_popi fi_131_38 <| K_aload_n fi_131_39 rfl <| K_dupr fi_131_40 <| K_gf fi_131_41 kd_150 mk_150_1 <| K_iconst fi_131_44 <| K_iadd fi_131_45 <| K_pf fi_131_46 kd_150 rfl rfl rfl rfl <| rfl
theorem b131_49 {d L : Nat} {σ : St} {Q : Option AV → AW → Prop} {x5 : Int} {u0 u1 u2 u3 u4 u6 u7 u8 : AV} : R (d + 1) 131 49 [u0, u1, u2, u3, u4, vI x5, u6, u7, u8] [] (WS L σ) Q = R d 134 0 [vI x5] [] (WS L σ) (fun r w => R (d + 1) 131 54 [u0, u1, u2, u3, u4, vI x5, u6, u7, u8] (am_push r []) w Q) := K_iload fi_131_49 rfl <| R_invS fi_131_51 (by decide) (am_invS_of (Nat.le_of_ble_eq_true rfl) rfl (Nat.le_of_ble_eq_true rfl) (Nat.le_of_ble_eq_true rfl) rfl rfl)
theorem sw131_54 {d L : Nat} {σ : St} {Q : Option AV → AW → Prop} {x : Int} {ls st : List AV} : R d 131 64 ls (vI x :: st) (WS L σ) Q = if x = 1 then R d 131 148 ls st (WS L σ) Q else if x = 2 then R d 131 155 ls st (WS L σ) Q else if x = 3 then R d 131 173 ls st (WS L σ) Q else if x = 11 then R d 131 188 ls st (WS L σ) Q else if x = 21 then R d 131 201 ls st (WS L σ) Q else if x = 31 then R d 131 213 ls st (WS L σ) Q else if x = 41 then R d 131 227 ls st (WS L σ) Q else if x = 51 then R d 131 253 ls st (WS L σ) Q else if x = 61 then R d 131 269 ls st (WS L σ) Q else R d 131 285 ls st (WS L σ) Q := by
  by_cases h1 : x = 1
  · subst h1; exact (R_lsw fi_131_64).trans (by simp [am_go, Op.lookupswitch.offset])
  by_cases h2 : x = 2
  · subst h2; exact (R_lsw fi_131_64).trans (by simp [am_go, Op.lookupswitch.offset])
  by_cases h3 : x = 3
  · subst h3; exact (R_lsw fi_131_64).trans (by simp [am_go, Op.lookupswitch.offset])
  by_cases h11 : x = 11
  · subst h11; exact (R_lsw fi_131_64).trans (by simp [am_go, Op.lookupswitch.offset])
  by_cases h21 : x = 21
  · subst h21; exact (R_lsw fi_131_64).trans (by simp [am_go, Op.lookupswitch.offset])
  by_cases h31 : x = 31
  · subst h31; exact (R_lsw fi_131_64).trans (by simp [am_go, Op.lookupswitch.offset])
  by_cases h41 : x = 41
  · subst h41; exact (R_lsw fi_131_64).trans (by simp [am_go, Op.lookupswitch.offset])
  by_cases h51 : x = 51
  · subst h51; exact (R_lsw fi_131_64).trans (by simp [am_go, Op.lookupswitch.offset])
  by_cases h61 : x = 61
  · subst h61; exact (R_lsw fi_131_64).trans (by simp [am_go, Op.lookupswitch.offset])
  rw [R_lsw fi_131_64]
  have e : am_go 64 (Op.lookupswitch.offset [(1, 84), (2, 91), (3, 109), (11, 124), (21, 137), (31, 149), (41, 163), (51, 189), (61, 205)] 221 x) = 285 := by
    simp [Op.lookupswitch.offset, am_go, h1, Ne.symm h1, h2, Ne.symm h2, h3, Ne.symm h3, h11, Ne.symm h11, h21, Ne.symm h21, h31, Ne.symm h31, h41, Ne.symm h41, h51, Ne.symm h51, h61, Ne.symm h61]
  rw [if_neg h1, if_neg h2, if_neg h3, if_neg h11, if_neg h21, if_neg h31, if_neg h41, if_neg h51, if_neg h61]
  exact congrArg (fun t => R d 131 t ls st (WS L σ) Q) e
theorem b131_54 {d L : Nat} {σ : St} {Q : Option AV → AW → Prop} {y0 x4 x6 : Int} {u0 u1 u2 u3 u5 u7 u8 : AV} : R d 131 54 [u0, u1, u2, u3, vI x4, u5, vI x6, u7, u8] [vI y0] (WS L σ) Q = if x6 = 1 then R d 131 148 [u0, u1, u2, u3, vI x4, u5, vI x6, vI y0, vI (wr (x4 + 1))] [] (WS L σ) Q else if x6 = 2 then R d 131 155 [u0, u1, u2, u3, vI x4, u5, vI x6, vI y0, vI (wr (x4 + 1))] [] (WS L σ) Q else if x6 = 3 then R d 131 173 [u0, u1, u2, u3, vI x4, u5, vI x6, vI y0, vI (wr (x4 + 1))] [] (WS L σ) Q else if x6 = 11 then R d 131 188 [u0, u1, u2, u3, vI x4, u5, vI x6, vI y0, vI (wr (x4 + 1))] [] (WS L σ) Q else if x6 = 21 then R d 131 201 [u0, u1, u2, u3, vI x4, u5, vI x6, vI y0, vI (wr (x4 + 1))] [] (WS L σ) Q else if x6 = 31 then R d 131 213 [u0, u1, u2, u3, vI x4, u5, vI x6, vI y0, vI (wr (x4 + 1))] [] (WS L σ) Q else if x6 = 41 then R d 131 227 [u0, u1, u2, u3, vI x4, u5, vI x6, vI y0, vI (wr (x4 + 1))] [] (WS L σ) Q else if x6 = 51 then R d 131 253 [u0, u1, u2, u3, vI x4, u5, vI x6, vI y0, vI (wr (x4 + 1))] [] (WS L σ) Q else if x6 = 61 then R d 131 269 [u0, u1, u2, u3, vI x4, u5, vI x6, vI y0, vI (wr (x4 + 1))] [] (WS L σ) Q else R d 131 285 [u0, u1, u2, u3, vI x4, u5, vI x6, vI y0, vI (wr (x4 + 1))] [] (WS L σ) Q := K_istore fi_131_54 (Nat.le_of_ble_eq_true rfl) rfl rfl <| K_iload fi_131_56 rfl <| K_iconst fi_131_58 <| K_iadd fi_131_59 <| K_istore fi_131_60 (Nat.le_of_ble_eq_true rfl) rfl rfl <| K_iload fi_131_62 rfl <| sw131_54
theorem b131_148 {d L : Nat} {σ : St} {Q : Option AV → AW → Prop} {x3 : Int} {u1 u2 u4 u5 u6 u7 u8 : AV} : R d 131 148 [vR 150, u1, u2, vI x3, u4, u5, u6, u7, u8] [] (WS L σ) Q = Q (some (vI (wr (x3 + (σ 150 3))))) (WS L σ) := K_iload_n fi_131_148 rfl <| K_aload_n fi_131_149 rfl <| K_gf fi_131_150 kd_150 mk_150_3 <| K_iadd fi_131_153 <| R_ireti fi_131_154 rfl
theorem b131_155 {d L : Nat} {σ : St} {Q : Option AV → AW → Prop} {x3 x8 : Int} {u1 u2 u4 u5 u6 u7 : AV} : R (d + 1) 131 155 [vR 150, u1, u2, vI x3, u4, u5, u6, u7, vI x8] [] (WS L σ) Q = R d 131 0 [vR 150, vI (σ 150 2), vI 0, vI x3, vI x8, vX 9, vX 9, vX 9, vX 9] [] (WS L σ) (fun r w => R (d + 1) 131 167 [vR 150, u1, u2, vI x3, u4, u5, u6, u7, vI x8] (am_push r []) w Q) := K_aload_n fi_131_155 rfl <| K_aload_n fi_131_156 rfl <| K_gf fi_131_157 kd_150 mk_150_2 <| K_iconst fi_131_160 <| K_iload_n fi_131_161 rfl <| K_iload fi_131_162 rfl <| R_invV fi_131_164 (am_invV_of rfl (kd_150) (Nat.le_of_ble_eq_true rfl) (Nat.le_of_ble_eq_true rfl) rfl rfl)
theorem b131_167 {d L : Nat} {σ : St} {Q : Option AV → AW → Prop} {y0 : Int} {u1 u2 u3 u4 u5 u6 u7 u8 : AV} : R d 131 167 [vR 150, u1, u2, u3, u4, u5, u6, u7, u8] [vI y0] (WS L σ) Q = Q (some (vI (wr (y0 - (σ 150 4))))) (WS L σ) := K_aload_n fi_131_167 rfl <| K_gf fi_131_168 kd_150 mk_150_4 <| K_isub fi_131_171 <| R_ireti fi_131_172 rfl
theorem b131_173 {d L : Nat} {σ : St} {Q : Option AV → AW → Prop} {x3 x8 : Int} {u1 u2 u4 u5 u6 u7 : AV} : R (d + 1) 131 173 [vR 150, u1, u2, vI x3, u4, u5, u6, u7, vI x8] [] (WS L σ) Q = R d 131 0 [vR 150, vI (σ 150 2), vI 1, vI x3, vI x8, vX 9, vX 9, vX 9, vX 9] [] (WS L σ) (fun r w => R (d + 1) 131 185 [vR 150, u1, u2, vI x3, u4, u5, u6, u7, vI x8] (am_push r []) w Q) := K_aload_n fi_131_173 rfl <| K_aload_n fi_131_174 rfl <| K_gf fi_131_175 kd_150 mk_150_2 <| K_iconst fi_131_178 <| K_iload_n fi_131_179 rfl <| K_iload fi_131_180 rfl <| R_invV fi_131_182 (am_invV_of rfl (kd_150) (Nat.le_of_ble_eq_true rfl) (Nat.le_of_ble_eq_true rfl) rfl rfl)
theorem b131_185 {d L : Nat} {σ : St} {Q : Option AV → AW → Prop} {y0 : Int} {u0 u1 u2 u3 u4 u5 u6 u7 u8 : AV} : R d 131 185 [u0, u1, u2, u3, u4, u5, u6, u7, u8] [vI y0] (WS L σ) Q = Q (some (vI (wr (y0 * 2)))) (WS L σ) := K_iconst fi_131_185 <| K_imul fi_131_186 <| R_ireti fi_131_187 rfl
theorem b131_188 {d L : Nat} {σ : St} {Q : Option AV → AW → Prop} {x7 x3 x8 : Int} {u1 u2 u4 u5 u6 : AV} : R (d + 1) 131 188 [vR 150, u1, u2, vI x3, u4, u5, u6, vI x7, vI x8] [] (WS L σ) Q = R d 131 0 [vR 150, vI x7, vI 0, vI (wr (x3 * 3)), vI x8, vX 9, vX 9, vX 9, vX 9] [] (WS L σ) (fun r w => R (d + 1) 131 200 [vR 150, u1, u2, vI x3, u4, u5, u6, vI x7, vI x8] (am_push r []) w Q) := K_aload_n fi_131_188 rfl <| K_iload fi_131_189 rfl <| K_iconst fi_131_191 <| K_iload_n fi_131_192 rfl <| K_iconst fi_131_193 <| K_imul fi_131_194 <| K_iload fi_131_195 rfl <| R_invV fi_131_197 (am_invV_of rfl (kd_150) (Nat.le_of_ble_eq_true rfl) (Nat.le_of_ble_eq_true rfl) rfl rfl)
theorem b131_200 {d L : Nat} {σ : St} {Q : Option AV → AW → Prop} {y0 : Int} {u0 u1 u2 u3 u4 u5 u6 u7 u8 : AV} : R d 131 200 [u0, u1, u2, u3, u4, u5, u6, u7, u8] [vI y0] (WS L σ) Q = Q (some (vI y0)) (WS L σ) := R_ireti fi_131_200 rfl
theorem b131_201 {d L : Nat} {σ : St} {Q : Option AV → AW → Prop} {x7 x3 x8 : Int} {u1 u2 u4 u5 u6 : AV} : R (d + 1) 131 201 [vR 150, u1, u2, vI x3, u4, u5, u6, vI x7, vI x8] [] (WS L σ) Q = R d 131 0 [vR 150, vI x7, vI 1, vI x3, vI x8, vX 9, vX 9, vX 9, vX 9] [] (WS L σ) (fun r w => R (d + 1) 131 211 [vR 150, u1, u2, vI x3, u4, u5, u6, vI x7, vI x8] (am_push r []) w Q) := K_aload_n fi_131_201 rfl <| K_iload fi_131_202 rfl <| K_iconst fi_131_204 <| K_iload_n fi_131_205 rfl <| K_iload fi_131_206 rfl <| R_invV fi_131_208 (am_invV_of rfl (kd_150) (Nat.le_of_ble_eq_true rfl) (Nat.le_of_ble_eq_true rfl) rfl rfl)
theorem b131_211 {d L : Nat} {σ : St} {Q : Option AV → AW → Prop} {y0 : Int} {u0 u1 u2 u3 u4 u5 u6 u7 u8 : AV} : R d 131 211 [u0, u1, u2, u3, u4, u5, u6, u7, u8] [vI y0] (WS L σ) Q = Q (some (vI (wr (-y0)))) (WS L σ) := K_ineg fi_131_211 <| R_ireti fi_131_212 rfl
theorem b131_213 {d L : Nat} {σ : St} {Q : Option AV → AW → Prop} {x7 x3 x8 : Int} {u1 u2 u4 u5 u6 : AV} : R (d + 1) 131 213 [vR 150, u1, u2, vI x3, u4, u5, u6, vI x7, vI x8] [] (WS L σ) Q = R d 131 0 [vR 150, vI x7, vI 2, vI x3, vI x8, vX 9, vX 9, vX 9, vX 9] [] (WS L σ) (fun r w => R (d + 1) 131 223 [vR 150, u1, u2, vI x3, u4, u5, u6, vI x7, vI x8] (am_push r []) w Q) := K_aload_n fi_131_213 rfl <| K_iload fi_131_214 rfl <| K_iconst fi_131_216 <| K_iload_n fi_131_217 rfl <| K_iload fi_131_218 rfl <| R_invV fi_131_220 (am_invV_of rfl (kd_150) (Nat.le_of_ble_eq_true rfl) (Nat.le_of_ble_eq_true rfl) rfl rfl)
theorem b131_223 {d L : Nat} {σ : St} {Q : Option AV → AW → Prop} {y0 : Int} {u0 u1 u2 u3 u4 u5 u6 u7 u8 : AV} : R d 131 223 [u0, u1, u2, u3, u4, u5, u6, u7, u8] [vI y0] (WS L σ) Q = Q (some (vI (i_xor y0 7))) (WS L σ) := K_bipush fi_131_223 <| K_ixor fi_131_225 <| R_ireti fi_131_226 rfl
theorem b131_227 {d L : Nat} {σ : St} {Q : Option AV → AW → Prop} {x7 x3 x8 : Int} {u1 u2 u4 u5 u6 : AV} : R (d + 1) 131 227 [vR 150, u1, u2, vI x3, u4, u5, u6, vI x7, vI x8] [] (WS L σ) Q = R d 131 0 [vR 150, vI x7, vI 2, vI (wr (x3 - 1)), vI x8, vX 9, vX 9, vX 9, vX 9] [] (WS L σ) (fun r w => R (d + 1) 131 239 [vR 150, u1, u2, vI x3, u4, u5, u6, vI x7, vI x8] (am_push r []) w Q) := K_aload_n fi_131_227 rfl <| K_iload fi_131_228 rfl <| K_iconst fi_131_230 <| K_iload_n fi_131_231 rfl <| K_iconst fi_131_232 <| K_isub fi_131_233 <| K_iload fi_131_234 rfl <| R_invV fi_131_236 (am_invV_of rfl (kd_150) (Nat.le_of_ble_eq_true rfl) (Nat.le_of_ble_eq_true rfl) rfl rfl)
theorem b131_239 {d L : Nat} {σ : St} {Q : Option AV → AW → Prop} {y0 x8 : Int} {u1 u2 u3 u4 u5 u6 u7 : AV} : R (d + 1) 131 239 [vR 150, u1, u2, u3, u4, u5, u6, u7, vI x8] [vI y0] (WS L σ) Q = R d 131 0 [vR 150, vI (σ 150 2), vI 0, vI 2, vI x8, vX 9, vX 9, vX 9, vX 9] [] (WS L σ) (fun r w => R (d + 1) 131 251 [vR 150, u1, u2, u3, u4, u5, u6, u7, vI x8] (am_push r [vI y0]) w Q) := K_aload_n fi_131_239 rfl <| K_aload_n fi_131_240 rfl <| K_gf fi_131_241 kd_150 mk_150_2 <| K_iconst fi_131_244 <| K_iconst fi_131_245 <| K_iload fi_131_246 rfl <| R_invV fi_131_248 (am_invV_of rfl (kd_150) (Nat.le_of_ble_eq_true rfl) (Nat.le_of_ble_eq_true rfl) rfl rfl)
theorem b131_251 {d L : Nat} {σ : St} {Q : Option AV → AW → Prop} {y0 y1 : Int} {u0 u1 u2 u3 u4 u5 u6 u7 u8 : AV} : R d 131 251 [u0, u1, u2, u3, u4, u5, u6, u7, u8] [vI y0, vI y1] (WS L σ) Q = Q (some (vI (wr (y1 + y0)))) (WS L σ) := K_iadd fi_131_251 <| R_ireti fi_131_252 rfl
theorem b131_253 {d L : Nat} {σ : St} {Q : Option AV → AW → Prop} {x7 x3 x8 : Int} {u1 u2 u4 u5 u6 : AV} : R (d + 1) 131 253 [vR 150, u1, u2, vI x3, u4, u5, u6, vI x7, vI x8] [] (WS L σ) Q = R d 131 0 [vR 150, vI x7, vI 0, vI x3, vI x8, vX 9, vX 9, vX 9, vX 9] [] (WS L σ) (fun r w => R (d + 1) 131 263 [vR 150, u1, u2, vI x3, u4, u5, u6, vI x7, vI x8] (am_push r []) w Q) := K_aload_n fi_131_253 rfl <| K_iload fi_131_254 rfl <| K_iconst fi_131_256 <| K_iload_n fi_131_257 rfl <| K_iload fi_131_258 rfl <| R_invV fi_131_260 (am_invV_of rfl (kd_150) (Nat.le_of_ble_eq_true rfl) (Nat.le_of_ble_eq_true rfl) rfl rfl)
theorem b131_263 {d L : Nat} {σ : St} {Q : Option AV → AW → Prop} {y0 : Int} {u1 u2 u3 u4 u5 u6 u7 u8 : AV} : R d 131 263 [vR 150, u1, u2, u3, u4, u5, u6, u7, u8] [vI y0] (WS L σ) Q = Q (some (vI (i_xor y0 (σ 150 3)))) (WS L σ) := K_aload_n fi_131_263 rfl <| K_gf fi_131_264 kd_150 mk_150_3 <| K_ixor fi_131_267 <| R_ireti fi_131_268 rfl
theorem b131_269 {d L : Nat} {σ : St} {Q : Option AV → AW → Prop} {x7 x3 x8 : Int} {u1 u2 u4 u5 u6 : AV} : R (d + 1) 131 269 [vR 150, u1, u2, vI x3, u4, u5, u6, vI x7, vI x8] [] (WS L σ) Q = R d 131 0 [vR 150, vI x7, vI 1, vI x3, vI x8, vX 9, vX 9, vX 9, vX 9] [] (WS L σ) (fun r w => R (d + 1) 131 279 [vR 150, u1, u2, vI x3, u4, u5, u6, vI x7, vI x8] (am_push r []) w Q) := K_aload_n fi_131_269 rfl <| K_iload fi_131_270 rfl <| K_iconst fi_131_272 <| K_iload_n fi_131_273 rfl <| K_iload fi_131_274 rfl <| R_invV fi_131_276 (am_invV_of rfl (kd_150) (Nat.le_of_ble_eq_true rfl) (Nat.le_of_ble_eq_true rfl) rfl rfl)
theorem b131_279 {d L : Nat} {σ : St} {Q : Option AV → AW → Prop} {y0 : Int} {u1 u2 u3 u4 u5 u6 u7 u8 : AV} : R d 131 279 [vR 150, u1, u2, u3, u4, u5, u6, u7, u8] [vI y0] (WS L σ) Q = Q (some (vI (wr (y0 + (σ 150 4))))) (WS L σ) := K_aload_n fi_131_279 rfl <| K_gf fi_131_280 kd_150 mk_150_4 <| K_iadd fi_131_283 <| R_ireti fi_131_284 rfl
theorem b131_285 {d L : Nat} {σ : St} {Q : Option AV → AW → Prop} {u0 u1 u2 u3 u4 u5 u6 u7 u8 : AV} : R d 131 285 [u0, u1, u2, u3, u4, u5, u6, u7, u8] [] (WS L σ) Q = Q (some (vI 0)) (WS L σ) := K_iconst fi_131_285 <| R_ireti fi_131_286 rfl
theorem fi_132_0 : am_find 132 0 = some (.iload_n 0, 1, 0, 0, 0) := by decide +kernel
theorem fi_132_1 : am_find 132 1 = some (.istore_n 2, 1, 0, 0, 0) := by decide +kernel
theorem fi_132_2 : am_find 132 2 = some (.iconst 0, 1, 0, 0, 0) := by decide +kernel
theorem fi_132_3 : am_find 132 3 = some (.istore_n 3, 1, 0, 0, 0) := by decide +kernel
theorem fi_132_4 : am_find 132 4 = some (.iload_n 3, 1, 0, 0, 0) := by decide +kernel
theorem fi_132_5 : am_find 132 5 = some (.bipush 7, 2, 0, 7, 0) := by decide +kernel
theorem fi_132_7 : am_find 132 7 = some (.if_icmp .ge 26, 3, 0, 0, 0) := by decide +kernel
theorem fi_132_10 : am_find 132 10 = some (.iload_n 2, 1, 0, 0, 0) := by decide +kernel
theorem fi_132_11 : am_find 132 11 = some (.ifCond .lt 22, 3, 0, 0, 0) := by decide +kernel
theorem fi_132_14 : am_find 132 14 = some (.iload_n 2, 1, 0, 0, 0) := by decide +kernel
theorem fi_132_15 : am_find 132 15 = some (.iload_n 1, 1, 0, 0, 0) := by decide +kernel
theorem fi_132_16 : am_find 132 16 = some (.invokestatic 44, 3, 133, 2, 159) := by decide +kernel
theorem fi_132_19 : am_find 132 19 = some (.ifCond .ne 14, 3, 0, 0, 0) := by decide +kernel
theorem fi_132_22 : am_find 132 22 = some (.iload_n 2, 1, 0, 0, 0) := by decide +kernel
theorem fi_132_23 : am_find 132 23 = some (.invokestatic 51, 3, 134, 1, 161) := by decide +kernel
theorem fi_132_26 : am_find 132 26 = some (.istore_n 2, 1, 0, 0, 0) := by decide +kernel
theorem fi_132_27 : am_find 132 27 = some (.iinc 3 1, 3, 0, 0, 0) := by decide +kernel
theorem fi_132_30 : am_find 132 30 = some (.goto (-26), 3, 0, 0, 0) := by decide +kernel
theorem fi_132_33 : am_find 132 33 = some (.iload_n 2, 1, 0, 0, 0) := by decide +kernel
theorem fi_132_34 : am_find 132 34 = some (.ireturn, 1, 0, 0, 0) := by decide +kernel
theorem b132_0 {d L : Nat} {σ : St} {Q : Option AV → AW → Prop} {x0 x1 : Int} {u2 u3 : AV} : R d 132 0 [vI x0, vI x1, u2, u3] [] (WS L σ) Q = R d 132 4 [vI x0, vI x1, vI x0, vI 0] [] (WS L σ) Q := K_iload_n fi_132_0 rfl <| K_istore_n fi_132_1 (Nat.le_of_ble_eq_true rfl) rfl rfl <| K_iconst fi_132_2 <| K_istore_n fi_132_3 (Nat.le_of_ble_eq_true rfl) rfl rfl <| rfl
theorem b132_4 {d L : Nat} {σ : St} {Q : Option AV → AW → Prop} {x3 : Int} {u0 u1 u2 : AV} : R d 132 4 [u0, u1, u2, vI x3] [] (WS L σ) Q = if 7 ≤ x3 then R d 132 33 [u0, u1, u2, vI x3] [] (WS L σ) Q else R d 132 10 [u0, u1, u2, vI x3] [] (WS L σ) Q := K_iload_n fi_132_4 rfl <| K_bipush fi_132_5 <| R_icmp_ge fi_132_7 rfl
theorem b132_10 {d L : Nat} {σ : St} {Q : Option AV → AW → Prop} {x2 : Int} {u0 u1 u3 : AV} : R d 132 10 [u0, u1, vI x2, u3] [] (WS L σ) Q = if x2 < 0 then R d 132 33 [u0, u1, vI x2, u3] [] (WS L σ) Q else R d 132 14 [u0, u1, vI x2, u3] [] (WS L σ) Q := K_iload_n fi_132_10 rfl <| R_if_lt fi_132_11 rfl
theorem b132_14 {d L : Nat} {σ : St} {Q : Option AV → AW → Prop} {x2 x1 : Int} {u0 u3 : AV} : R (d + 1) 132 14 [u0, vI x1, vI x2, u3] [] (WS L σ) Q = R d 133 0 [vI x2, vI x1, vX 9] [] (WS L σ) (fun r w => R (d + 1) 132 19 [u0, vI x1, vI x2, u3] (am_push r []) w Q) := K_iload_n fi_132_14 rfl <| K_iload_n fi_132_15 rfl <| R_invS fi_132_16 (by decide) (am_invS_of (Nat.le_of_ble_eq_true rfl) rfl (Nat.le_of_ble_eq_true rfl) (Nat.le_of_ble_eq_true rfl) rfl rfl)
theorem b132_19 {d L : Nat} {σ : St} {Q : Option AV → AW → Prop} {y0 : Int} {u0 u1 u2 u3 : AV} : R d 132 19 [u0, u1, u2, u3] [vI y0] (WS L σ) Q = if ¬ y0 = 0 then R d 132 33 [u0, u1, u2, u3] [] (WS L σ) Q else R d 132 22 [u0, u1, u2, u3] [] (WS L σ) Q := R_if_ne fi_132_19 rfl
theorem b132_22 {d L : Nat} {σ : St} {Q : Option AV → AW → Prop} {x2 : Int} {u0 u1 u3 : AV} : R (d + 1) 132 22 [u0, u1, vI x2, u3] [] (WS L σ) Q = R d 134 0 [vI x2] [] (WS L σ) (fun r w => R (d + 1) 132 26 [u0, u1, vI x2, u3] (am_push r []) w Q) := K_iload_n fi_132_22 rfl <| R_invS fi_132_23 (by decide) (am_invS_of (Nat.le_of_ble_eq_true rfl) rfl (Nat.le_of_ble_eq_true rfl) (Nat.le_of_ble_eq_true rfl) rfl rfl)
theorem b132_26 {d L : Nat} {σ : St} {Q : Option AV → AW → Prop} {y0 x1 x3 : Int} {u0 u2 : AV} (h1 : -2147483648 ≤ x3 + 1 ∧ x3 + 1 ≤ 2147483647) : R d 132 26 [u0, vI x1, u2, vI x3] [vI y0] (WS L σ) Q = R d 132 4 [u0, vI x1, vI y0, vI (x3 + 1)] [] (WS L σ) Q := K_istore_n fi_132_26 (Nat.le_of_ble_eq_true rfl) rfl rfl <| K_iincx fi_132_27 rfl (Nat.le_of_ble_eq_true rfl) rfl h1 rfl <| R_goto fi_132_30 rfl
theorem b132_33 {d L : Nat} {σ : St} {Q : Option AV → AW → Prop} {x2 : Int} {u0 u1 u3 : AV} : R d 132 33 [u0, u1, vI x2, u3] [] (WS L σ) Q = Q (some (vI x2)) (WS L σ) := K_iload_n fi_132_33 rfl <| R_ireti fi_132_34 rfl
theorem fi_133_0 : am_find 133 0 = some (.iload_n 0, 1, 0, 0, 0) := by decide +kernel
theorem fi_133_1 : am_find 133 1 = some (.iconst 3, 1, 0, 3, 0) := by decide +kernel
theorem fi_133_2 : am_find 133 2 = some (.imul, 1, 0, 0, 0) := by decide +kernel
theorem fi_133_3 : am_find 133 3 = some (.iload_n 1, 1, 0, 0, 0) := by decide +kernel
theorem fi_133_4 : am_find 133 4 = some (.iadd, 1, 0, 0, 0) := by decide +kernel
theorem fi_133_5 : am_find 133 5 = some (.istore_n 2, 1, 0, 0, 0) := by decide +kernel
theorem fi_133_6 : am_find 133 6 = some (.iload_n 1, 1, 0, 0, 0) := by decide +kernel
theorem fi_133_7 : am_find 133 7 = some (.iconst 3, 1, 0, 3, 0) := by decide +kernel
theorem fi_133_8 : am_find 133 8 = some (.invokestatic 54, 3, 13, 2, 162) := by decide +kernel
theorem fi_133_11 : am_find 133 11 = some (.ifCond .eq 22, 3, 0, 0, 0) := by decide +kernel
theorem fi_133_14 : am_find 133 14 = some (.iload_n 2, 1, 0, 0, 0) := by decide +kernel
theorem fi_133_15 : am_find 133 15 = some (.getstatic 58, 3, 1, 0, 998) := by decide +kernel
theorem fi_133_18 : am_find 133 18 = some (.arraylength, 1, 0, 0, 0) := by decide +kernel
theorem fi_133_19 : am_find 133 19 = some (.invokestatic 54, 3, 13, 2, 162) := by decide +kernel
theorem fi_133_22 : am_find 133 22 = some (.ifCond .eq 11, 3, 0, 0, 0) := by decide +kernel
theorem fi_133_25 : am_find 133 25 = some (.getstatic 58, 3, 1, 0, 998) := by decide +kernel
theorem fi_133_28 : am_find 133 28 = some (.iload_n 2, 1, 0, 0, 0) := by decide +kernel
theorem fi_133_29 : am_find 133 29 = some (.iaload, 1, 0, 0, 0) := by decide +kernel
theorem fi_133_30 : am_find 133 30 = some (.goto 4, 3, 0, 0, 0) := by decide +kernel
theorem fi_133_33 : am_find 133 33 = some (.iconst 0, 1, 0, 0, 0) := by decide +kernel
theorem fi_133_34 : am_find 133 34 = some (.ireturn, 1, 0, 0, 0) := by decide +kernel
theorem b133_0 {d L : Nat} {σ : St} {Q : Option AV → AW → Prop} {x0 x1 : Int} {u2 : AV} (h1 : -2147483648 ≤ x0 * 3 ∧ x0 * 3 ≤ 2147483647) (h2 : -2147483648 ≤ (x0 * 3) + x1 ∧ (x0 * 3) + x1 ≤ 2147483647) : R (d + 1) 133 0 [vI x0, vI x1, u2] [] (WS L σ) Q = R d 13 0 [vI x1, vI 3] [] (WS L σ) (fun r w => R (d + 1) 133 11 [vI x0, vI x1, vI ((x0 * 3) + x1)] (am_push r []) w Q) := K_iload_n fi_133_0 rfl <| K_iconst fi_133_1 <| K_imulx fi_133_2 h1 <| K_iload_n fi_133_3 rfl <| K_iaddx fi_133_4 h2 <| K_istore_n fi_133_5 (Nat.le_of_ble_eq_true rfl) rfl rfl <| K_iload_n fi_133_6 rfl <| K_iconst fi_133_7 <| R_invS fi_133_8 (by decide) (am_invS_of (Nat.le_of_ble_eq_true rfl) rfl (Nat.le_of_ble_eq_true rfl) (Nat.le_of_ble_eq_true rfl) rfl rfl)
theorem b133_11 {d L : Nat} {σ : St} {Q : Option AV → AW → Prop} {y0 : Int} {u0 u1 u2 : AV} : R d 133 11 [u0, u1, u2] [vI y0] (WS L σ) Q = if y0 = 0 then R d 133 33 [u0, u1, u2] [] (WS L σ) Q else R d 133 14 [u0, u1, u2] [] (WS L σ) Q := R_if_eq fi_133_11 rfl
theorem b133_14 {d L : Nat} {σ : St} {Q : Option AV → AW → Prop} {x2 : Int} {u0 u1 : AV} : R (d + 1) 133 14 [u0, u1, vI x2] [] (WS L σ) Q = R d 13 0 [vI x2, vI 21] [] (WS L σ) (fun r w => R (d + 1) 133 22 [u0, u1, vI x2] (am_push r []) w Q) := K_iload_n fi_133_14 rfl <| K_getstatic fi_133_15 <| K_alenx fi_133_18 (Or.inr (Or.inr (Or.inr (Or.inl kd_1)))) rfl <| R_invS fi_133_19 (by decide) (am_invS_of (Nat.le_of_ble_eq_true rfl) rfl (Nat.le_of_ble_eq_true rfl) (Nat.le_of_ble_eq_true rfl) rfl rfl)
theorem b133_22 {d L : Nat} {σ : St} {Q : Option AV → AW → Prop} {y0 : Int} {u0 u1 u2 : AV} : R d 133 22 [u0, u1, u2] [vI y0] (WS L σ) Q = if y0 = 0 then R d 133 33 [u0, u1, u2] [] (WS L σ) Q else R d 133 25 [u0, u1, u2] [] (WS L σ) Q := R_if_eq fi_133_22 rfl
theorem b133_25 {d L : Nat} {σ : St} {Q : Option AV → AW → Prop} {x2 : Int} {u0 u1 : AV} (h1 : 0 ≤ x2) (h2 : x2 < 21) : R d 133 25 [u0, u1, vI x2] [] (WS L σ) Q = R d 133 34 [u0, u1, vI x2] [vI (am_bodies.getD x2.toNat 0)] (WS L σ) Q := K_getstatic fi_133_25 <| K_iload_n fi_133_28 rfl <| K_iac fi_133_29 kd_1 rfl h1 h2 <| R_goto fi_133_30 rfl
theorem b133_33 {d L : Nat} {σ : St} {Q : Option AV → AW → Prop} {u0 u1 u2 : AV} : R d 133 33 [u0, u1, u2] [] (WS L σ) Q = R d 133 34 [u0, u1, u2] [vI 0] (WS L σ) Q := K_iconst fi_133_33 <| rfl
theorem b133_34 {d L : Nat} {σ : St} {Q : Option AV → AW → Prop} {y0 : Int} {u0 u1 u2 : AV} : R d 133 34 [u0, u1, u2] [vI y0] (WS L σ) Q = Q (some (vI y0)) (WS L σ) := R_ireti fi_133_34 rfl
theorem fi_134_0 : am_find 134 0 = some (.iload_n 0, 1, 0, 0, 0) := by decide +kernel
theorem fi_134_1 : am_find 134 1 = some (.getstatic 62, 3, 2, 0, 1003) := by decide +kernel
theorem fi_134_4 : am_find 134 4 = some (.arraylength, 1, 0, 0, 0) := by decide +kernel
theorem fi_134_5 : am_find 134 5 = some (.invokestatic 54, 3, 13, 2, 162) := by decide +kernel
theorem fi_134_8 : am_find 134 8 = some (.ifCond .eq 11, 3, 0, 0, 0) := by decide +kernel
theorem fi_134_11 : am_find 134 11 = some (.getstatic 62, 3, 2, 0, 1003) := by decide +kernel
theorem fi_134_14 : am_find 134 14 = some (.iload_n 0, 1, 0, 0, 0) := by decide +kernel
theorem fi_134_15 : am_find 134 15 = some (.iaload, 1, 0, 0, 0) := by decide +kernel
theorem fi_134_16 : am_find 134 16 = some (.goto 4, 3, 0, 0, 0) := by decide +kernel
theorem fi_134_19 : am_find 134 19 = some (.iconst (-1), 1, 0, (-1), 0) := by decide +kernel
theorem fi_134_20 : am_find 134 20 = some (.ireturn, 1, 0, 0, 0) := by decide +kernel
theorem b134_0 {d L : Nat} {σ : St} {Q : Option AV → AW → Prop} {x0 : Int} : R (d + 1) 134 0 [vI x0] [] (WS L σ) Q = R d 13 0 [vI x0, vI 7] [] (WS L σ) (fun r w => R (d + 1) 134 8 [vI x0] (am_push r []) w Q) := K_iload_n fi_134_0 rfl <| K_getstatic fi_134_1 <| K_alenx fi_134_4 (Or.inr (Or.inr (Or.inr (Or.inl kd_2)))) rfl <| R_invS fi_134_5 (by decide) (am_invS_of (Nat.le_of_ble_eq_true rfl) rfl (Nat.le_of_ble_eq_true rfl) (Nat.le_of_ble_eq_true rfl) rfl rfl)
theorem b134_8 {d L : Nat} {σ : St} {Q : Option AV → AW → Prop} {y0 : Int} {u0 : AV} : R d 134 8 [u0] [vI y0] (WS L σ) Q = if y0 = 0 then R d 134 19 [u0] [] (WS L σ) Q else R d 134 11 [u0] [] (WS L σ) Q := R_if_eq fi_134_8 rfl
theorem b134_11 {d L : Nat} {σ : St} {Q : Option AV → AW → Prop} {x0 : Int} (h1 : 0 ≤ x0) (h2 : x0 < 7) : R d 134 11 [vI x0] [] (WS L σ) Q = R d 134 20 [vI x0] [vI (am_above.getD x0.toNat 0)] (WS L σ) Q := K_getstatic fi_134_11 <| K_iload_n fi_134_14 rfl <| K_iac fi_134_15 kd_2 rfl h1 h2 <| R_goto fi_134_16 rfl
theorem b134_19 {d L : Nat} {σ : St} {Q : Option AV → AW → Prop} {u0 : AV} : R d 134 19 [u0] [] (WS L σ) Q = R d 134 20 [u0] [vI (-1)] (WS L σ) Q := K_iconst fi_134_19 <| rfl
theorem b134_20 {d L : Nat} {σ : St} {Q : Option AV → AW → Prop} {y0 : Int} {u0 : AV} : R d 134 20 [u0] [vI y0] (WS L σ) Q = Q (some (vI y0)) (WS L σ) := R_ireti fi_134_20 rfl
theorem fi_135_0 : am_find 135 0 = some (.iload_n 1, 1, 0, 0, 0) := by decide +kernel
theorem fi_135_1 : am_find 135 1 = some (.aload_n 0, 1, 0, 0, 0) := by decide +kernel
theorem fi_135_2 : am_find 135 2 = some (.getfield 68, 3, 9, 8, 8) := by decide +kernel
theorem fi_135_5 : am_find 135 5 = some (.getfield 275, 3, 0, 0, 96) := by decide +kernel
theorem fi_135_8 : am_find 135 8 = some (.getfield 102, 3, 5, 1, 54) := by decide +kernel
theorem fi_135_11 : am_find 135 11 = some (.invokestatic 72, 3, 13, 2, 14) := by decide +kernel
theorem fi_135_14 : am_find 135 14 = some (.ifCond .eq 17, 3, 0, 0, 0) := by decide +kernel
theorem fi_135_17 : am_find 135 17 = some (.aload_n 0, 1, 0, 0, 0) := by decide +kernel
theorem fi_135_18 : am_find 135 18 = some (.getfield 68, 3, 9, 8, 8) := by decide +kernel
theorem fi_135_21 : am_find 135 21 = some (.getfield 275, 3, 0, 0, 96) := by decide +kernel
theorem fi_135_24 : am_find 135 24 = some (.iload_n 1, 1, 0, 0, 0) := by decide +kernel
theorem fi_135_25 : am_find 135 25 = some (.invokevirtual 278, 3, 64, 1, 163) := by decide +kernel
theorem fi_135_28 : am_find 135 28 = some (.goto 4, 3, 0, 0, 0) := by decide +kernel
theorem fi_135_31 : am_find 135 31 = some (.iconst (-1), 1, 0, (-1), 0) := by decide +kernel
theorem fi_135_32 : am_find 135 32 = some (.ireturn, 1, 0, 0, 0) := by decide +kernel
theorem b135_0 {d L : Nat} {σ : St} {Q : Option AV → AW → Prop} {x1 : Int} : R (d + 1) 135 0 [vR 19, vI x1] [] (WS L σ) Q = R d 13 0 [vI x1, vI (σ 151 1)] [] (WS L σ) (fun r w => R (d + 1) 135 14 [vR 19, vI x1] (am_push r []) w Q) := K_iload_n fi_135_0 rfl <| K_aload_n fi_135_1 rfl <| K_gf fi_135_2 kd_19 mk_19_8 <| K_gf fi_135_5 kd_150 mk_150_0 <| K_gf fi_135_8 kd_151 mk_151_1 <| R_invS fi_135_11 (by decide) (am_invS_of (Nat.le_of_ble_eq_true rfl) rfl (Nat.le_of_ble_eq_true rfl) (Nat.le_of_ble_eq_true rfl) rfl rfl)
theorem b135_14 {d L : Nat} {σ : St} {Q : Option AV → AW → Prop} {y0 : Int} {u0 u1 : AV} : R d 135 14 [u0, u1] [vI y0] (WS L σ) Q = if y0 = 0 then R d 135 31 [u0, u1] [] (WS L σ) Q else R d 135 17 [u0, u1] [] (WS L σ) Q := R_if_eq fi_135_14 rfl
theorem b135_17 {d L : Nat} {σ : St} {Q : Option AV → AW → Prop} {x1 : Int} : R (d + 1) 135 17 [vR 19, vI x1] [] (WS L σ) Q = R d 64 0 [vR 151, vI x1] [] (WS L σ) (fun r w => R (d + 1) 135 28 [vR 19, vI x1] (am_push r []) w Q) := K_aload_n fi_135_17 rfl <| K_gf fi_135_18 kd_19 mk_19_8 <| K_gf fi_135_21 kd_150 mk_150_0 <| K_iload_n fi_135_24 rfl <| R_invV fi_135_25 (am_invV_of rfl (kd_151) (Nat.le_of_ble_eq_true rfl) (Nat.le_of_ble_eq_true rfl) rfl rfl)
theorem b135_28 {d L : Nat} {σ : St} {Q : Option AV → AW → Prop} {y0 : Int} {u0 u1 : AV} : R d 135 28 [u0, u1] [vI y0] (WS L σ) Q = R d 135 32 [u0, u1] [vI y0] (WS L σ) Q := R_goto fi_135_28 rfl
theorem b135_31 {d L : Nat} {σ : St} {Q : Option AV → AW → Prop} {u0 u1 : AV} : R d 135 31 [u0, u1] [] (WS L σ) Q = R d 135 32 [u0, u1] [vI (-1)] (WS L σ) Q := K_iconst fi_135_31 <| rfl
theorem b135_32 {d L : Nat} {σ : St} {Q : Option AV → AW → Prop} {y0 : Int} {u0 u1 : AV} : R d 135 32 [u0, u1] [vI y0] (WS L σ) Q = Q (some (vI y0)) (WS L σ) := R_ireti fi_135_32 rfl
theorem fi_136_0 : am_find 136 0 = some (.iload_n 1, 1, 0, 0, 0) := by decide +kernel
theorem fi_136_1 : am_find 136 1 = some (.iconst 3, 1, 0, 3, 0) := by decide +kernel
theorem fi_136_2 : am_find 136 2 = some (.invokestatic 72, 3, 13, 2, 14) := by decide +kernel
theorem fi_136_5 : am_find 136 5 = some (.ifCond .eq 12, 3, 0, 0, 0) := by decide +kernel
theorem fi_136_8 : am_find 136 8 = some (.iload_n 2, 1, 0, 0, 0) := by decide +kernel
theorem fi_136_9 : am_find 136 9 = some (.bipush 7, 2, 0, 7, 0) := by decide +kernel
theorem fi_136_11 : am_find 136 11 = some (.invokestatic 72, 3, 13, 2, 14) := by decide +kernel
theorem fi_136_14 : am_find 136 14 = some (.ifCond .ne 5, 3, 0, 0, 0) := by decide +kernel
theorem fi_136_17 : am_find 136 17 = some (.iconst (-1), 1, 0, (-1), 0) := by decide +kernel
theorem fi_136_18 : am_find 136 18 = some (.ireturn, 1, 0, 0, 0) := by decide +kernel
theorem fi_136_19 : am_find 136 19 = some (.aload_n 0, 1, 0, 0, 0) := by decide +kernel
theorem fi_136_20 : am_find 136 20 = some (.getfield 10, 3, 9, 0, 0) := by decide +kernel
theorem fi_136_23 : am_find 136 23 = some (.iload_n 1, 1, 0, 0, 0) := by decide +kernel
theorem fi_136_24 : am_find 136 24 = some (.invokevirtual 151, 3, 66, 1, 62) := by decide +kernel
theorem fi_136_27 : am_find 136 27 = some (.istore_n 3, 1, 0, 0, 0) := by decide +kernel
theorem fi_136_28 : am_find 136 28 = some (.iload_n 3, 1, 0, 0, 0) := by decide +kernel
theorem fi_136_29 : am_find 136 29 = some (.iload_n 2, 1, 0, 0, 0) := by decide +kernel
theorem fi_136_30 : am_find 136 30 = some (.invokestatic 281, 3, 137, 2, 164) := by decide +kernel
theorem fi_136_33 : am_find 136 33 = some (.ifCond .eq 7, 3, 0, 0, 0) := by decide +kernel
theorem fi_136_36 : am_find 136 36 = some (.iload_n 3, 1, 0, 0, 0) := by decide +kernel
theorem fi_136_37 : am_find 136 37 = some (.goto 5, 3, 0, 0, 0) := by decide +kernel
theorem fi_136_40 : am_find 136 40 = some (.bipush (-6), 2, 0, (-6), 0) := by decide +kernel
theorem fi_136_42 : am_find 136 42 = some (.ireturn, 1, 0, 0, 0) := by decide +kernel
theorem b136_0 {d L : Nat} {σ : St} {Q : Option AV → AW → Prop} {x1 : Int} {u0 u2 u3 : AV} : R (d + 1) 136 0 [u0, vI x1, u2, u3] [] (WS L σ) Q = R d 13 0 [vI x1, vI 3] [] (WS L σ) (fun r w => R (d + 1) 136 5 [u0, vI x1, u2, u3] (am_push r []) w Q) := K_iload_n fi_136_0 rfl <| K_iconst fi_136_1 <| R_invS fi_136_2 (by decide) (am_invS_of (Nat.le_of_ble_eq_true rfl) rfl (Nat.le_of_ble_eq_true rfl) (Nat.le_of_ble_eq_true rfl) rfl rfl)
theorem b136_5 {d L : Nat} {σ : St} {Q : Option AV → AW → Prop} {y0 : Int} {u0 u1 u2 u3 : AV} : R d 136 5 [u0, u1, u2, u3] [vI y0] (WS L σ) Q = if y0 = 0 then R d 136 17 [u0, u1, u2, u3] [] (WS L σ) Q else R d 136 8 [u0, u1, u2, u3] [] (WS L σ) Q := R_if_eq fi_136_5 rfl
theorem b136_8 {d L : Nat} {σ : St} {Q : Option AV → AW → Prop} {x2 : Int} {u0 u1 u3 : AV} : R (d + 1) 136 8 [u0, u1, vI x2, u3] [] (WS L σ) Q = R d 13 0 [vI x2, vI 7] [] (WS L σ) (fun r w => R (d + 1) 136 14 [u0, u1, vI x2, u3] (am_push r []) w Q) := K_iload_n fi_136_8 rfl <| K_bipush fi_136_9 <| R_invS fi_136_11 (by decide) (am_invS_of (Nat.le_of_ble_eq_true rfl) rfl (Nat.le_of_ble_eq_true rfl) (Nat.le_of_ble_eq_true rfl) rfl rfl)
theorem b136_14 {d L : Nat} {σ : St} {Q : Option AV → AW → Prop} {y0 : Int} {u0 u1 u2 u3 : AV} : R d 136 14 [u0, u1, u2, u3] [vI y0] (WS L σ) Q = if ¬ y0 = 0 then R d 136 19 [u0, u1, u2, u3] [] (WS L σ) Q else R d 136 17 [u0, u1, u2, u3] [] (WS L σ) Q := R_if_ne fi_136_14 rfl
theorem b136_17 {d L : Nat} {σ : St} {Q : Option AV → AW → Prop} {u0 u1 u2 u3 : AV} : R d 136 17 [u0, u1, u2, u3] [] (WS L σ) Q = Q (some (vI (-1))) (WS L σ) := K_iconst fi_136_17 <| R_ireti fi_136_18 rfl
theorem b136_19 {d L : Nat} {σ : St} {Q : Option AV → AW → Prop} {x1 : Int} {u2 u3 : AV} : R (d + 1) 136 19 [vR 19, vI x1, u2, u3] [] (WS L σ) Q = R d 66 0 [vR 20, vI x1] [] (WS L σ) (fun r w => R (d + 1) 136 27 [vR 19, vI x1, u2, u3] (am_push r []) w Q) := K_aload_n fi_136_19 rfl <| K_gf fi_136_20 kd_19 mk_19_0 <| K_iload_n fi_136_23 rfl <| R_invV fi_136_24 (am_invV_of rfl (kd_20) (Nat.le_of_ble_eq_true rfl) (Nat.le_of_ble_eq_true rfl) rfl rfl)
theorem b136_27 {d L : Nat} {σ : St} {Q : Option AV → AW → Prop} {y0 x2 : Int} {u0 u1 u3 : AV} : R (d + 1) 136 27 [u0, u1, vI x2, u3] [vI y0] (WS L σ) Q = R d 137 0 [vI y0, vI x2, vX 9, vX 9] [] (WS L σ) (fun r w => R (d + 1) 136 33 [u0, u1, vI x2, vI y0] (am_push r []) w Q) := K_istore_n fi_136_27 (Nat.le_of_ble_eq_true rfl) rfl rfl <| K_iload_n fi_136_28 rfl <| K_iload_n fi_136_29 rfl <| R_invS fi_136_30 (by decide) (am_invS_of (Nat.le_of_ble_eq_true rfl) rfl (Nat.le_of_ble_eq_true rfl) (Nat.le_of_ble_eq_true rfl) rfl rfl)
theorem b136_33 {d L : Nat} {σ : St} {Q : Option AV → AW → Prop} {y0 : Int} {u0 u1 u2 u3 : AV} : R d 136 33 [u0, u1, u2, u3] [vI y0] (WS L σ) Q = if y0 = 0 then R d 136 40 [u0, u1, u2, u3] [] (WS L σ) Q else R d 136 36 [u0, u1, u2, u3] [] (WS L σ) Q := R_if_eq fi_136_33 rfl
theorem b136_36 {d L : Nat} {σ : St} {Q : Option AV → AW → Prop} {x3 : Int} {u0 u1 u2 : AV} : R d 136 36 [u0, u1, u2, vI x3] [] (WS L σ) Q = R d 136 42 [u0, u1, u2, vI x3] [vI x3] (WS L σ) Q := K_iload_n fi_136_36 rfl <| R_goto fi_136_37 rfl
theorem b136_40 {d L : Nat} {σ : St} {Q : Option AV → AW → Prop} {u0 u1 u2 u3 : AV} : R d 136 40 [u0, u1, u2, u3] [] (WS L σ) Q = R d 136 42 [u0, u1, u2, u3] [vI (-6)] (WS L σ) Q := K_bipush fi_136_40 <| rfl
theorem b136_42 {d L : Nat} {σ : St} {Q : Option AV → AW → Prop} {y0 : Int} {u0 u1 u2 u3 : AV} : R d 136 42 [u0, u1, u2, u3] [vI y0] (WS L σ) Q = Q (some (vI y0)) (WS L σ) := R_ireti fi_136_42 rfl
theorem fi_137_0 : am_find 137 0 = some (.iload_n 0, 1, 0, 0, 0) := by decide +kernel
theorem fi_137_1 : am_find 137 1 = some (.istore_n 2, 1, 0, 0, 0) := by decide +kernel
theorem fi_137_2 : am_find 137 2 = some (.iconst 0, 1, 0, 0, 0) := by decide +kernel
theorem fi_137_3 : am_find 137 3 = some (.istore_n 3, 1, 0, 0, 0) := by decide +kernel
theorem fi_137_4 : am_find 137 4 = some (.iload_n 3, 1, 0, 0, 0) := by decide +kernel
theorem fi_137_5 : am_find 137 5 = some (.bipush 7, 2, 0, 7, 0) := by decide +kernel
theorem fi_137_7 : am_find 137 7 = some (.if_icmp .ge 19, 3, 0, 0, 0) := by decide +kernel
theorem fi_137_10 : am_find 137 10 = some (.iload_n 2, 1, 0, 0, 0) := by decide +kernel
theorem fi_137_11 : am_find 137 11 = some (.iload_n 1, 1, 0, 0, 0) := by decide +kernel
theorem fi_137_12 : am_find 137 12 = some (.if_icmp .eq 14, 3, 0, 0, 0) := by decide +kernel
theorem fi_137_15 : am_find 137 15 = some (.iload_n 2, 1, 0, 0, 0) := by decide +kernel
theorem fi_137_16 : am_find 137 16 = some (.invokestatic 51, 3, 134, 1, 161) := by decide +kernel
theorem fi_137_19 : am_find 137 19 = some (.istore_n 2, 1, 0, 0, 0) := by decide +kernel
theorem fi_137_20 : am_find 137 20 = some (.iinc 3 1, 3, 0, 0, 0) := by decide +kernel
theorem fi_137_23 : am_find 137 23 = some (.goto (-19), 3, 0, 0, 0) := by decide +kernel
theorem fi_137_26 : am_find 137 26 = some (.iload_n 2, 1, 0, 0, 0) := by decide +kernel
theorem fi_137_27 : am_find 137 27 = some (.iload_n 1, 1, 0, 0, 0) := by decide +kernel
theorem fi_137_28 : am_find 137 28 = some (.if_icmp .ne 7, 3, 0, 0, 0) := by decide +kernel
theorem fi_137_31 : am_find 137 31 = some (.iconst 1, 1, 0, 1, 0) := by decide +kernel
theorem fi_137_32 : am_find 137 32 = some (.goto 4, 3, 0, 0, 0) := by decide +kernel
theorem fi_137_35 : am_find 137 35 = some (.iconst 0, 1, 0, 0, 0) := by decide +kernel
theorem fi_137_36 : am_find 137 36 = some (.ireturn, 1, 1, 0, 0) := by decide +kernel
theorem b137_0 {d L : Nat} {σ : St} {Q : Option AV → AW → Prop} {x0 x1 : Int} {u2 u3 : AV} : R d 137 0 [vI x0, vI x1, u2, u3] [] (WS L σ) Q = R d 137 4 [vI x0, vI x1, vI x0, vI 0] [] (WS L σ) Q := K_iload_n fi_137_0 rfl <| K_istore_n fi_137_1 (Nat.le_of_ble_eq_true rfl) rfl rfl <| K_iconst fi_137_2 <| K_istore_n fi_137_3 (Nat.le_of_ble_eq_true rfl) rfl rfl <| rfl
theorem b137_4 {d L : Nat} {σ : St} {Q : Option AV → AW → Prop} {x3 : Int} {u0 u1 u2 : AV} : R d 137 4 [u0, u1, u2, vI x3] [] (WS L σ) Q = if 7 ≤ x3 then R d 137 26 [u0, u1, u2, vI x3] [] (WS L σ) Q else R d 137 10 [u0, u1, u2, vI x3] [] (WS L σ) Q := K_iload_n fi_137_4 rfl <| K_bipush fi_137_5 <| R_icmp_ge fi_137_7 rfl
theorem b137_10 {d L : Nat} {σ : St} {Q : Option AV → AW → Prop} {x2 x1 : Int} {u0 u3 : AV} : R d 137 10 [u0, vI x1, vI x2, u3] [] (WS L σ) Q = if x2 = x1 then R d 137 26 [u0, vI x1, vI x2, u3] [] (WS L σ) Q else R d 137 15 [u0, vI x1, vI x2, u3] [] (WS L σ) Q := K_iload_n fi_137_10 rfl <| K_iload_n fi_137_11 rfl <| R_icmp_eq fi_137_12 rfl
theorem b137_15 {d L : Nat} {σ : St} {Q : Option AV → AW → Prop} {x2 : Int} {u0 u1 u3 : AV} : R (d + 1) 137 15 [u0, u1, vI x2, u3] [] (WS L σ) Q = R d 134 0 [vI x2] [] (WS L σ) (fun r w => R (d + 1) 137 19 [u0, u1, vI x2, u3] (am_push r []) w Q) := K_iload_n fi_137_15 rfl <| R_invS fi_137_16 (by decide) (am_invS_of (Nat.le_of_ble_eq_true rfl) rfl (Nat.le_of_ble_eq_true rfl) (Nat.le_of_ble_eq_true rfl) rfl rfl)
theorem b137_19 {d L : Nat} {σ : St} {Q : Option AV → AW → Prop} {y0 x1 x3 : Int} {u0 u2 : AV} (h1 : -2147483648 ≤ x3 + 1 ∧ x3 + 1 ≤ 2147483647) : R d 137 19 [u0, vI x1, u2, vI x3] [vI y0] (WS L σ) Q = R d 137 4 [u0, vI x1, vI y0, vI (x3 + 1)] [] (WS L σ) Q := K_istore_n fi_137_19 (Nat.le_of_ble_eq_true rfl) rfl rfl <| K_iincx fi_137_20 rfl (Nat.le_of_ble_eq_true rfl) rfl h1 rfl <| R_goto fi_137_23 rfl
theorem b137_26 {d L : Nat} {σ : St} {Q : Option AV → AW → Prop} {x2 x1 : Int} {u0 u3 : AV} : R d 137 26 [u0, vI x1, vI x2, u3] [] (WS L σ) Q = if ¬ x2 = x1 then R d 137 35 [u0, vI x1, vI x2, u3] [] (WS L σ) Q else R d 137 31 [u0, vI x1, vI x2, u3] [] (WS L σ) Q := K_iload_n fi_137_26 rfl <| K_iload_n fi_137_27 rfl <| R_icmp_ne fi_137_28 rfl
theorem b137_31 {d L : Nat} {σ : St} {Q : Option AV → AW → Prop} {u0 u1 u2 u3 : AV} : R d 137 31 [u0, u1, u2, u3] [] (WS L σ) Q = R d 137 36 [u0, u1, u2, u3] [vI 1] (WS L σ) Q := K_iconst fi_137_31 <| R_goto fi_137_32 rfl
theorem b137_35 {d L : Nat} {σ : St} {Q : Option AV → AW → Prop} {u0 u1 u2 u3 : AV} : R d 137 35 [u0, u1, u2, u3] [] (WS L σ) Q = R d 137 36 [u0, u1, u2, u3] [vI 0] (WS L σ) Q := K_iconst fi_137_35 <| rfl
theorem b137_36 {d L : Nat} {σ : St} {Q : Option AV → AW → Prop} {y0 : Int} {u0 u1 u2 u3 : AV} (h1 : am_rfit 1 y0 = true) : R d 137 36 [u0, u1, u2, u3] [vI y0] (WS L σ) Q = Q (some (vI y0)) (WS L σ) := R_ireti fi_137_36 h1
theorem fi_138_0 : am_find 138 0 = some (.aload_n 0, 1, 0, 0, 0) := by decide +kernel
theorem fi_138_1 : am_find 138 1 = some (.getfield 16, 3, 9, 1, 1) := by decide +kernel
theorem fi_138_4 : am_find 138 4 = some (.aload_n 0, 1, 0, 0, 0) := by decide +kernel
theorem fi_138_5 : am_find 138 5 = some (.getfield 10, 3, 9, 0, 0) := by decide +kernel
theorem fi_138_8 : am_find 138 8 = some (.invokevirtual 284, 3, 139, 1, 165) := by decide +kernel
theorem fi_138_11 : am_find 138 11 = some (.aload_n 0, 1, 0, 0, 0) := by decide +kernel
theorem fi_138_12 : am_find 138 12 = some (.iconst 1, 1, 0, 1, 0) := by decide +kernel
theorem fi_138_13 : am_find 138 13 = some (.putfield 287, 3, 9, 9, 97) := by decide +kernel
theorem fi_138_16 : am_find 138 16 = some (.aload_n 0, 1, 0, 0, 0) := by decide +kernel
theorem fi_138_17 : am_find 138 17 = some (.getfield 10, 3, 9, 0, 0) := by decide +kernel
theorem fi_138_20 : am_find 138 20 = some (.getfield 76, 3, 8, 0, 42) := by decide +kernel
theorem fi_138_23 : am_find 138 23 = some (.ireturn, 1, 0, 0, 0) := by decide +kernel
theorem b138_0 {d L : Nat} {σ : St} {Q : Option AV → AW → Prop} : R (d + 1) 138 0 [vR 19] [] (WS L σ) Q = R d 139 0 [vR 77, vR 20] [] (WS L σ) (fun r w => R (d + 1) 138 11 [vR 19] (am_push r []) w Q) := K_aload_n fi_138_0 rfl <| K_gf fi_138_1 kd_19 mk_19_1 <| K_aload_n fi_138_4 rfl <| K_gf fi_138_5 kd_19 mk_19_0 <| R_invV fi_138_8 (am_invV_of rfl (kd_77) (Nat.le_of_ble_eq_true rfl) (Nat.le_of_ble_eq_true rfl) rfl rfl)
theorem b138_11 {d L : Nat} {σ : St} {Q : Option AV → AW → Prop} : R d 138 11 [vR 19] [] (WS L σ) Q = R d 138 16 [vR 19] [] (WS L (st2 σ 19 9 1)) Q := K_aload_n fi_138_11 rfl <| K_iconst fi_138_12 <| K_pfz fi_138_13 kd_19 rfl rfl rfl rfl rfl <| rfl
theorem b138_16 {d L : Nat} {σ : St} {Q : Option AV → AW → Prop} : R d 138 16 [vR 19] [] (WS L σ) Q = Q (some (vI (σ 20 0))) (WS L σ) := K_aload_n fi_138_16 rfl <| K_gf fi_138_17 kd_19 mk_19_0 <| K_gf fi_138_20 kd_20 mk_20_0 <| R_ireti fi_138_23 rfl
theorem fi_139_0 : am_find 139 0 = some (.aload_n 0, 1, 0, 0, 0) := by decide +kernel
theorem fi_139_1 : am_find 139 1 = some (.aload_n 1, 1, 0, 0, 0) := by decide +kernel
theorem fi_139_2 : am_find 139 2 = some (.getfield 69, 3, 8, 0, 43) := by decide +kernel
theorem fi_139_5 : am_find 139 5 = some (.putfield 69, 3, 8, 0, 43) := by decide +kernel
theorem fi_139_8 : am_find 139 8 = some (.aload_n 0, 1, 0, 0, 0) := by decide +kernel
theorem fi_139_9 : am_find 139 9 = some (.aload_n 1, 1, 0, 0, 0) := by decide +kernel
theorem fi_139_10 : am_find 139 10 = some (.getfield 9, 3, 8, 1, 9) := by decide +kernel
theorem fi_139_13 : am_find 139 13 = some (.putfield 9, 3, 8, 1, 9) := by decide +kernel
theorem fi_139_16 : am_find 139 16 = some (.aload_n 0, 1, 0, 0, 0) := by decide +kernel
theorem fi_139_17 : am_find 139 17 = some (.aload_n 1, 1, 0, 0, 0) := by decide +kernel
theorem fi_139_18 : am_find 139 18 = some (.getfield 72, 3, 8, 2, 57) := by decide +kernel
theorem fi_139_21 : am_find 139 21 = some (.putfield 72, 3, 8, 2, 57) := by decide +kernel
theorem fi_139_24 : am_find 139 24 = some (.aload_n 0, 1, 0, 0, 0) := by decide +kernel
theorem fi_139_25 : am_find 139 25 = some (.aload_n 1, 1, 0, 0, 0) := by decide +kernel
theorem fi_139_26 : am_find 139 26 = some (.getfield 15, 3, 8, 3, 10) := by decide +kernel
theorem fi_139_29 : am_find 139 29 = some (.putfield 15, 3, 8, 3, 10) := by decide +kernel
theorem fi_139_32 : am_find 139 32 = some (.aload_n 0, 1, 0, 0, 0) := by decide +kernel
theorem fi_139_33 : am_find 139 33 = some (.aload_n 1, 1, 0, 0, 0) := by decide +kernel
theorem fi_139_34 : am_find 139 34 = some (.getfield 75, 3, 8, 4, 65) := by decide +kernel
theorem fi_139_37 : am_find 139 37 = some (.putfield 75, 3, 8, 4, 65) := by decide +kernel
theorem fi_139_40 : am_find 139 40 = some (.aload_n 0, 1, 0, 0, 0) := by decide +kernel
theorem fi_139_41 : am_find 139 41 = some (.dup, 1, 0, 0, 0) := by decide +kernel
theorem fi_139_42 : am_find 139 42 = some (.getfield 78, 3, 8, 5, 98) := by decide +kernel
theorem fi_139_45 : am_find 139 45 = some (.iconst 1, 1, 0, 1, 0) := by decide +kernel
theorem fi_139_46 : am_find 139 46 = some (.iadd, 1, 0, 0, 0) := by decide +kernel
theorem fi_139_47 : am_find 139 47 = some (.putfield 78, 3, 8, 5, 98) := by decide +kernel
theorem fi_139_50 : am_find 139 50 = some (.aload_n 0, 1, 0, 0, 0) := by decide +kernel
theorem fi_139_51 : am_find 139 51 = some (.getfield 23, 3, 8, 6, 11) := by decide +kernel
theorem fi_139_54 : am_find 139 54 = some (.aload_n 1, 1, 0, 0, 0) := by decide +kernel
theorem fi_139_55 : am_find 139 55 = some (.getfield 23, 3, 8, 6, 11) := by decide +kernel
theorem fi_139_58 : am_find 139 58 = some (.invokevirtual 81, 3, 51, 1, 53) := by decide +kernel
theorem fi_139_61 : am_find 139 61 = some (.aload_n 0, 1, 0, 0, 0) := by decide +kernel
theorem fi_139_62 : am_find 139 62 = some (.getfield 27, 3, 8, 7, 12) := by decide +kernel
theorem fi_139_65 : am_find 139 65 = some (.aload_n 1, 1, 0, 0, 0) := by decide +kernel
theorem fi_139_66 : am_find 139 66 = some (.getfield 27, 3, 8, 7, 12) := by decide +kernel
theorem fi_139_69 : am_find 139 69 = some (.invokevirtual 81, 3, 51, 1, 53) := by decide +kernel
theorem fi_139_72 : am_find 139 72 = some (.aload_n 0, 1, 0, 0, 0) := by decide +kernel
theorem fi_139_73 : am_find 139 73 = some (.getfield 30, 3, 8, 8, 13) := by decide +kernel
theorem fi_139_76 : am_find 139 76 = some (.aload_n 1, 1, 0, 0, 0) := by decide +kernel
theorem fi_139_77 : am_find 139 77 = some (.getfield 30, 3, 8, 8, 13) := by decide +kernel
theorem fi_139_80 : am_find 139 80 = some (.invokevirtual 81, 3, 51, 1, 53) := by decide +kernel
theorem fi_139_83 : am_find 139 83 = some (.aload_n 1, 1, 0, 0, 0) := by decide +kernel
theorem fi_139_84 : am_find 139 84 = some (.getfield 33, 3, 8, 9, 14) := by decide +kernel
theorem fi_139_87 : am_find 139 87 = some (.aload_n 0, 1, 0, 0, 0) := by decide +kernel
theorem fi_139_88 : am_find 139 88 = some (.getfield 33, 3, 8, 9, 14) := by decide +kernel
theorem fi_139_91 : am_find 139 91 = some (.invokestatic 85, 3, 52, 2, 166) := by decide +kernel
theorem fi_139_94 : am_find 139 94 = some (.aload_n 1, 1, 0, 0, 0) := by decide +kernel
theorem fi_139_95 : am_find 139 95 = some (.getfield 37, 3, 8, 10, 15) := by decide +kernel
theorem fi_139_98 : am_find 139 98 = some (.aload_n 0, 1, 0, 0, 0) := by decide +kernel
theorem fi_139_99 : am_find 139 99 = some (.getfield 37, 3, 8, 10, 15) := by decide +kernel
theorem fi_139_102 : am_find 139 102 = some (.invokestatic 85, 3, 52, 2, 166) := by decide +kernel
theorem fi_139_105 : am_find 139 105 = some (.aload_n 1, 1, 0, 0, 0) := by decide +kernel
theorem fi_139_106 : am_find 139 106 = some (.getfield 40, 3, 8, 11, 16) := by decide +kernel
theorem fi_139_109 : am_find 139 109 = some (.aload_n 0, 1, 0, 0, 0) := by decide +kernel
theorem fi_139_110 : am_find 139 110 = some (.getfield 40, 3, 8, 11, 16) := by decide +kernel
theorem fi_139_113 : am_find 139 113 = some (.invokestatic 85, 3, 52, 2, 166) := by decide +kernel
theorem fi_139_116 : am_find 139 116 = some (.aload_n 1, 1, 0, 0, 0) := by decide +kernel
theorem fi_139_117 : am_find 139 117 = some (.getfield 43, 3, 8, 12, 17) := by decide +kernel
theorem fi_139_120 : am_find 139 120 = some (.aload_n 0, 1, 0, 0, 0) := by decide +kernel
theorem fi_139_121 : am_find 139 121 = some (.getfield 43, 3, 8, 12, 17) := by decide +kernel
theorem fi_139_124 : am_find 139 124 = some (.invokestatic 85, 3, 52, 2, 166) := by decide +kernel
theorem fi_139_127 : am_find 139 127 = some (.aload_n 1, 1, 0, 0, 0) := by decide +kernel
theorem fi_139_128 : am_find 139 128 = some (.getfield 46, 3, 8, 13, 18) := by decide +kernel
theorem fi_139_131 : am_find 139 131 = some (.aload_n 0, 1, 0, 0, 0) := by decide +kernel
theorem fi_139_132 : am_find 139 132 = some (.getfield 46, 3, 8, 13, 18) := by decide +kernel
theorem fi_139_135 : am_find 139 135 = some (.invokestatic 85, 3, 52, 2, 166) := by decide +kernel
theorem fi_139_138 : am_find 139 138 = some (.aload_n 1, 1, 0, 0, 0) := by decide +kernel
theorem fi_139_139 : am_find 139 139 = some (.getfield 53, 3, 8, 14, 19) := by decide +kernel
theorem fi_139_142 : am_find 139 142 = some (.aload_n 0, 1, 0, 0, 0) := by decide +kernel
theorem fi_139_143 : am_find 139 143 = some (.getfield 53, 3, 8, 14, 19) := by decide +kernel
theorem fi_139_146 : am_find 139 146 = some (.invokestatic 89, 3, 140, 2, 167) := by decide +kernel
theorem fi_139_149 : am_find 139 149 = some (.aload_n 1, 1, 0, 0, 0) := by decide +kernel
theorem fi_139_150 : am_find 139 150 = some (.getfield 57, 3, 8, 15, 20) := by decide +kernel
theorem fi_139_153 : am_find 139 153 = some (.aload_n 0, 1, 0, 0, 0) := by decide +kernel
theorem fi_139_154 : am_find 139 154 = some (.getfield 57, 3, 8, 15, 20) := by decide +kernel
theorem fi_139_157 : am_find 139 157 = some (.invokestatic 89, 3, 140, 2, 167) := by decide +kernel
theorem fi_139_160 : am_find 139 160 = some (.aload_n 1, 1, 0, 0, 0) := by decide +kernel
theorem fi_139_161 : am_find 139 161 = some (.getfield 60, 3, 8, 16, 21) := by decide +kernel
theorem fi_139_164 : am_find 139 164 = some (.aload_n 0, 1, 0, 0, 0) := by decide +kernel
theorem fi_139_165 : am_find 139 165 = some (.getfield 60, 3, 8, 16, 21) := by decide +kernel
theorem fi_139_168 : am_find 139 168 = some (.invokestatic 89, 3, 140, 2, 167) := by decide +kernel
theorem fi_139_171 : am_find 139 171 = some (.return_, 1, 0, 0, 0) := by decide +kernel
theorem b139_0a {d L : Nat} {σ : St} {Q : Option AV → AW → Prop} : R d 139 0 [vR 20, vR 77] [] (WS L σ) Q = R d 139 8 [vR 20, vR 77] [] (WS L (st2 σ 20 0 (σ 77 0))) Q := K_aload_n fi_139_0 rfl <| K_aload_n fi_139_1 rfl <| K_gf fi_139_2 kd_77 mk_77_0 <| K_pf fi_139_5 kd_20 rfl rfl rfl rfl <| rfl
theorem b139_8a {d L : Nat} {σ : St} {Q : Option AV → AW → Prop} : R d 139 8 [vR 20, vR 77] [] (WS L σ) Q = R d 139 16 [vR 20, vR 77] [] (WS L (st2 σ 20 1 (σ 77 1))) Q := K_aload_n fi_139_8 rfl <| K_aload_n fi_139_9 rfl <| K_gf fi_139_10 kd_77 mk_77_1 <| K_pf fi_139_13 kd_20 rfl rfl rfl rfl <| rfl
theorem b139_16a {d L : Nat} {σ : St} {Q : Option AV → AW → Prop} : R d 139 16 [vR 20, vR 77] [] (WS L σ) Q = R d 139 24 [vR 20, vR 77] [] (WS L (st2 σ 20 2 (σ 77 2))) Q := K_aload_n fi_139_16 rfl <| K_aload_n fi_139_17 rfl <| K_gf fi_139_18 kd_77 mk_77_2 <| K_pf fi_139_21 kd_20 rfl rfl rfl rfl <| rfl
theorem b139_24a {d L : Nat} {σ : St} {Q : Option AV → AW → Prop} : R d 139 24 [vR 20, vR 77] [] (WS L σ) Q = R d 139 32 [vR 20, vR 77] [] (WS L (st2 σ 20 3 (σ 77 3))) Q := K_aload_n fi_139_24 rfl <| K_aload_n fi_139_25 rfl <| K_gf fi_139_26 kd_77 mk_77_3 <| K_pf fi_139_29 kd_20 rfl rfl rfl rfl <| rfl
theorem b139_32a {d L : Nat} {σ : St} {Q : Option AV → AW → Prop} : R d 139 32 [vR 20, vR 77] [] (WS L σ) Q = R d 139 40 [vR 20, vR 77] [] (WS L (st2 σ 20 4 (σ 77 4))) Q := K_aload_n fi_139_32 rfl <| K_aload_n fi_139_33 rfl <| K_gf fi_139_34 kd_77 mk_77_4 <| K_pf fi_139_37 kd_20 rfl rfl rfl rfl <| rfl
theorem b139_40a {d L : Nat} {σ : St} {Q : Option AV → AW → Prop} {u1 : AV} (h1 : -2147483648 ≤ (σ 20 5) + 1 ∧ (σ 20 5) + 1 ≤ 2147483647) : R d 139 40 [vR 20, u1] [] (WS L σ) Q = R d 139 50 [vR 20, u1] [] (WS L (st2 σ 20 5 ((σ 20 5) + 1))) Q := K_aload_n fi_139_40 rfl <| K_dupr fi_139_41 <| K_gf fi_139_42 kd_20 mk_20_5 <| K_iconst fi_139_45 <| K_iaddx fi_139_46 h1 <| K_pf fi_139_47 kd_20 rfl rfl rfl rfl <| rfl
theorem b139_50a {d L : Nat} {σ : St} {Q : Option AV → AW → Prop} : R (d + 1) 139 50 [vR 20, vR 77] [] (WS L σ) Q = R d 51 0 [vR 21, vR 78] [] (WS L σ) (fun r w => R (d + 1) 139 61 [vR 20, vR 77] (am_push r []) w Q) := K_aload_n fi_139_50 rfl <| K_gf fi_139_51 kd_20 mk_20_6 <| K_aload_n fi_139_54 rfl <| K_gf fi_139_55 kd_77 mk_77_6 <| R_invV fi_139_58 (am_invV_of rfl (kd_21) (Nat.le_of_ble_eq_true rfl) (Nat.le_of_ble_eq_true rfl) rfl rfl)
theorem b139_61a {d L : Nat} {σ : St} {Q : Option AV → AW → Prop} : R (d + 1) 139 61 [vR 20, vR 77] [] (WS L σ) Q = R d 51 0 [vR 23, vR 80] [] (WS L σ) (fun r w => R (d + 1) 139 72 [vR 20, vR 77] (am_push r []) w Q) := K_aload_n fi_139_61 rfl <| K_gf fi_139_62 kd_20 mk_20_7 <| K_aload_n fi_139_65 rfl <| K_gf fi_139_66 kd_77 mk_77_7 <| R_invV fi_139_69 (am_invV_of rfl (kd_23) (Nat.le_of_ble_eq_true rfl) (Nat.le_of_ble_eq_true rfl) rfl rfl)
theorem b139_72a {d L : Nat} {σ : St} {Q : Option AV → AW → Prop} : R (d + 1) 139 72 [vR 20, vR 77] [] (WS L σ) Q = R d 51 0 [vR 25, vR 82] [] (WS L σ) (fun r w => R (d + 1) 139 83 [vR 20, vR 77] (am_push r []) w Q) := K_aload_n fi_139_72 rfl <| K_gf fi_139_73 kd_20 mk_20_8 <| K_aload_n fi_139_76 rfl <| K_gf fi_139_77 kd_77 mk_77_8 <| R_invV fi_139_80 (am_invV_of rfl (kd_25) (Nat.le_of_ble_eq_true rfl) (Nat.le_of_ble_eq_true rfl) rfl rfl)
theorem b139_83a {d L : Nat} {σ : St} {Q : Option AV → AW → Prop} : R (d + 1) 139 83 [vR 20, vR 77] [] (WS L σ) Q = R d 52 0 [vR 84, vR 27] [] (WS L σ) (fun r w => R (d + 1) 139 94 [vR 20, vR 77] (am_push r []) w Q) := K_aload_n fi_139_83 rfl <| K_gf fi_139_84 kd_77 mk_77_9 <| K_aload_n fi_139_87 rfl <| K_gf fi_139_88 kd_20 mk_20_9 <| R_invS fi_139_91 (by decide) (am_invS_of (Nat.le_of_ble_eq_true rfl) rfl (Nat.le_of_ble_eq_true rfl) (Nat.le_of_ble_eq_true rfl) rfl rfl)
theorem b139_94a {d L : Nat} {σ : St} {Q : Option AV → AW → Prop} : R (d + 1) 139 94 [vR 20, vR 77] [] (WS L σ) Q = R d 52 0 [vR 85, vR 28] [] (WS L σ) (fun r w => R (d + 1) 139 105 [vR 20, vR 77] (am_push r []) w Q) := K_aload_n fi_139_94 rfl <| K_gf fi_139_95 kd_77 mk_77_10 <| K_aload_n fi_139_98 rfl <| K_gf fi_139_99 kd_20 mk_20_10 <| R_invS fi_139_102 (by decide) (am_invS_of (Nat.le_of_ble_eq_true rfl) rfl (Nat.le_of_ble_eq_true rfl) (Nat.le_of_ble_eq_true rfl) rfl rfl)
theorem b139_105a {d L : Nat} {σ : St} {Q : Option AV → AW → Prop} : R (d + 1) 139 105 [vR 20, vR 77] [] (WS L σ) Q = R d 52 0 [vR 86, vR 29] [] (WS L σ) (fun r w => R (d + 1) 139 116 [vR 20, vR 77] (am_push r []) w Q) := K_aload_n fi_139_105 rfl <| K_gf fi_139_106 kd_77 mk_77_11 <| K_aload_n fi_139_109 rfl <| K_gf fi_139_110 kd_20 mk_20_11 <| R_invS fi_139_113 (by decide) (am_invS_of (Nat.le_of_ble_eq_true rfl) rfl (Nat.le_of_ble_eq_true rfl) (Nat.le_of_ble_eq_true rfl) rfl rfl)
theorem b139_116a {d L : Nat} {σ : St} {Q : Option AV → AW → Prop} : R (d + 1) 139 116 [vR 20, vR 77] [] (WS L σ) Q = R d 52 0 [vR 87, vR 30] [] (WS L σ) (fun r w => R (d + 1) 139 127 [vR 20, vR 77] (am_push r []) w Q) := K_aload_n fi_139_116 rfl <| K_gf fi_139_117 kd_77 mk_77_12 <| K_aload_n fi_139_120 rfl <| K_gf fi_139_121 kd_20 mk_20_12 <| R_invS fi_139_124 (by decide) (am_invS_of (Nat.le_of_ble_eq_true rfl) rfl (Nat.le_of_ble_eq_true rfl) (Nat.le_of_ble_eq_true rfl) rfl rfl)
theorem b139_127a {d L : Nat} {σ : St} {Q : Option AV → AW → Prop} : R (d + 1) 139 127 [vR 20, vR 77] [] (WS L σ) Q = R d 52 0 [vR 88, vR 31] [] (WS L σ) (fun r w => R (d + 1) 139 138 [vR 20, vR 77] (am_push r []) w Q) := K_aload_n fi_139_127 rfl <| K_gf fi_139_128 kd_77 mk_77_13 <| K_aload_n fi_139_131 rfl <| K_gf fi_139_132 kd_20 mk_20_13 <| R_invS fi_139_135 (by decide) (am_invS_of (Nat.le_of_ble_eq_true rfl) rfl (Nat.le_of_ble_eq_true rfl) (Nat.le_of_ble_eq_true rfl) rfl rfl)
theorem b139_138a {d L : Nat} {σ : St} {Q : Option AV → AW → Prop} : R (d + 1) 139 138 [vR 20, vR 77] [] (WS L σ) Q = R d 140 0 [vR 89, vR 32, vX 9] [] (WS L σ) (fun r w => R (d + 1) 139 149 [vR 20, vR 77] (am_push r []) w Q) := K_aload_n fi_139_138 rfl <| K_gf fi_139_139 kd_77 mk_77_14 <| K_aload_n fi_139_142 rfl <| K_gf fi_139_143 kd_20 mk_20_14 <| R_invS fi_139_146 (by decide) (am_invS_of (Nat.le_of_ble_eq_true rfl) rfl (Nat.le_of_ble_eq_true rfl) (Nat.le_of_ble_eq_true rfl) rfl rfl)
theorem b139_149a {d L : Nat} {σ : St} {Q : Option AV → AW → Prop} : R (d + 1) 139 149 [vR 20, vR 77] [] (WS L σ) Q = R d 140 0 [vR 102, vR 45, vX 9] [] (WS L σ) (fun r w => R (d + 1) 139 160 [vR 20, vR 77] (am_push r []) w Q) := K_aload_n fi_139_149 rfl <| K_gf fi_139_150 kd_77 mk_77_15 <| K_aload_n fi_139_153 rfl <| K_gf fi_139_154 kd_20 mk_20_15 <| R_invS fi_139_157 (by decide) (am_invS_of (Nat.le_of_ble_eq_true rfl) rfl (Nat.le_of_ble_eq_true rfl) (Nat.le_of_ble_eq_true rfl) rfl rfl)
theorem b139_160a {d L : Nat} {σ : St} {Q : Option AV → AW → Prop} : R (d + 1) 139 160 [vR 20, vR 77] [] (WS L σ) Q = R d 140 0 [vR 109, vR 52, vX 9] [] (WS L σ) (fun r w => R (d + 1) 139 171 [vR 20, vR 77] (am_push r []) w Q) := K_aload_n fi_139_160 rfl <| K_gf fi_139_161 kd_77 mk_77_16 <| K_aload_n fi_139_164 rfl <| K_gf fi_139_165 kd_20 mk_20_16 <| R_invS fi_139_168 (by decide) (am_invS_of (Nat.le_of_ble_eq_true rfl) rfl (Nat.le_of_ble_eq_true rfl) (Nat.le_of_ble_eq_true rfl) rfl rfl)
theorem b139_171a {d L : Nat} {σ : St} {Q : Option AV → AW → Prop} {u0 u1 : AV} : R d 139 171 [u0, u1] [] (WS L σ) Q = Q none (WS L σ) := R_return fi_139_171
theorem b139_0b {d L : Nat} {σ : St} {Q : Option AV → AW → Prop} : R d 139 0 [vR 77, vR 20] [] (WS L σ) Q = R d 139 8 [vR 77, vR 20] [] (WS L (st2 σ 77 0 (σ 20 0))) Q := K_aload_n fi_139_0 rfl <| K_aload_n fi_139_1 rfl <| K_gf fi_139_2 kd_20 mk_20_0 <| K_pf fi_139_5 kd_77 rfl rfl rfl rfl <| rfl
theorem b139_8b {d L : Nat} {σ : St} {Q : Option AV → AW → Prop} : R d 139 8 [vR 77, vR 20] [] (WS L σ) Q = R d 139 16 [vR 77, vR 20] [] (WS L (st2 σ 77 1 (σ 20 1))) Q := K_aload_n fi_139_8 rfl <| K_aload_n fi_139_9 rfl <| K_gf fi_139_10 kd_20 mk_20_1 <| K_pf fi_139_13 kd_77 rfl rfl rfl rfl <| rfl
theorem b139_16b {d L : Nat} {σ : St} {Q : Option AV → AW → Prop} : R d 139 16 [vR 77, vR 20] [] (WS L σ) Q = R d 139 24 [vR 77, vR 20] [] (WS L (st2 σ 77 2 (σ 20 2))) Q := K_aload_n fi_139_16 rfl <| K_aload_n fi_139_17 rfl <| K_gf fi_139_18 kd_20 mk_20_2 <| K_pf fi_139_21 kd_77 rfl rfl rfl rfl <| rfl
theorem b139_24b {d L : Nat} {σ : St} {Q : Option AV → AW → Prop} : R d 139 24 [vR 77, vR 20] [] (WS L σ) Q = R d 139 32 [vR 77, vR 20] [] (WS L (st2 σ 77 3 (σ 20 3))) Q := K_aload_n fi_139_24 rfl <| K_aload_n fi_139_25 rfl <| K_gf fi_139_26 kd_20 mk_20_3 <| K_pf fi_139_29 kd_77 rfl rfl rfl rfl <| rfl
theorem b139_32b {d L : Nat} {σ : St} {Q : Option AV → AW → Prop} : R d 139 32 [vR 77, vR 20] [] (WS L σ) Q = R d 139 40 [vR 77, vR 20] [] (WS L (st2 σ 77 4 (σ 20 4))) Q := K_aload_n fi_139_32 rfl <| K_aload_n fi_139_33 rfl <| K_gf fi_139_34 kd_20 mk_20_4 <| K_pf fi_139_37 kd_77 rfl rfl rfl rfl <| rfl
theorem b139_40b {d L : Nat} {σ : St} {Q : Option AV → AW → Prop} {u1 : AV} (h1 : -2147483648 ≤ (σ 77 5) + 1 ∧ (σ 77 5) + 1 ≤ 2147483647) : R d 139 40 [vR 77, u1] [] (WS L σ) Q = R d 139 50 [vR 77, u1] [] (WS L (st2 σ 77 5 ((σ 77 5) + 1))) Q := K_aload_n fi_139_40 rfl <| K_dupr fi_139_41 <| K_gf fi_139_42 kd_77 mk_77_5 <| K_iconst fi_139_45 <| K_iaddx fi_139_46 h1 <| K_pf fi_139_47 kd_77 rfl rfl rfl rfl <| rfl
theorem b139_50b {d L : Nat} {σ : St} {Q : Option AV → AW → Prop} : R (d + 1) 139 50 [vR 77, vR 20] [] (WS L σ) Q = R d 51 0 [vR 78, vR 21] [] (WS L σ) (fun r w => R (d + 1) 139 61 [vR 77, vR 20] (am_push r []) w Q) := K_aload_n fi_139_50 rfl <| K_gf fi_139_51 kd_77 mk_77_6 <| K_aload_n fi_139_54 rfl <| K_gf fi_139_55 kd_20 mk_20_6 <| R_invV fi_139_58 (am_invV_of rfl (kd_78) (Nat.le_of_ble_eq_true rfl) (Nat.le_of_ble_eq_true rfl) rfl rfl)
theorem b139_61b {d L : Nat} {σ : St} {Q : Option AV → AW → Prop} : R (d + 1) 139 61 [vR 77, vR 20] [] (WS L σ) Q = R d 51 0 [vR 80, vR 23] [] (WS L σ) (fun r w => R (d + 1) 139 72 [vR 77, vR 20] (am_push r []) w Q) := K_aload_n fi_139_61 rfl <| K_gf fi_139_62 kd_77 mk_77_7 <| K_aload_n fi_139_65 rfl <| K_gf fi_139_66 kd_20 mk_20_7 <| R_invV fi_139_69 (am_invV_of rfl (kd_80) (Nat.le_of_ble_eq_true rfl) (Nat.le_of_ble_eq_true rfl) rfl rfl)
theorem b139_72b {d L : Nat} {σ : St} {Q : Option AV → AW → Prop} : R (d + 1) 139 72 [vR 77, vR 20] [] (WS L σ) Q = R d 51 0 [vR 82, vR 25] [] (WS L σ) (fun r w => R (d + 1) 139 83 [vR 77, vR 20] (am_push r []) w Q) := K_aload_n fi_139_72 rfl <| K_gf fi_139_73 kd_77 mk_77_8 <| K_aload_n fi_139_76 rfl <| K_gf fi_139_77 kd_20 mk_20_8 <| R_invV fi_139_80 (am_invV_of rfl (kd_82) (Nat.le_of_ble_eq_true rfl) (Nat.le_of_ble_eq_true rfl) rfl rfl)
theorem b139_83b {d L : Nat} {σ : St} {Q : Option AV → AW → Prop} : R (d + 1) 139 83 [vR 77, vR 20] [] (WS L σ) Q = R d 52 0 [vR 27, vR 84] [] (WS L σ) (fun r w => R (d + 1) 139 94 [vR 77, vR 20] (am_push r []) w Q) := K_aload_n fi_139_83 rfl <| K_gf fi_139_84 kd_20 mk_20_9 <| K_aload_n fi_139_87 rfl <| K_gf fi_139_88 kd_77 mk_77_9 <| R_invS fi_139_91 (by decide) (am_invS_of (Nat.le_of_ble_eq_true rfl) rfl (Nat.le_of_ble_eq_true rfl) (Nat.le_of_ble_eq_true rfl) rfl rfl)
theorem b139_94b {d L : Nat} {σ : St} {Q : Option AV → AW → Prop} : R (d + 1) 139 94 [vR 77, vR 20] [] (WS L σ) Q = R d 52 0 [vR 28, vR 85] [] (WS L σ) (fun r w => R (d + 1) 139 105 [vR 77, vR 20] (am_push r []) w Q) := K_aload_n fi_139_94 rfl <| K_gf fi_139_95 kd_20 mk_20_10 <| K_aload_n fi_139_98 rfl <| K_gf fi_139_99 kd_77 mk_77_10 <| R_invS fi_139_102 (by decide) (am_invS_of (Nat.le_of_ble_eq_true rfl) rfl (Nat.le_of_ble_eq_true rfl) (Nat.le_of_ble_eq_true rfl) rfl rfl)
theorem b139_105b {d L : Nat} {σ : St} {Q : Option AV → AW → Prop} : R (d + 1) 139 105 [vR 77, vR 20] [] (WS L σ) Q = R d 52 0 [vR 29, vR 86] [] (WS L σ) (fun r w => R (d + 1) 139 116 [vR 77, vR 20] (am_push r []) w Q) := K_aload_n fi_139_105 rfl <| K_gf fi_139_106 kd_20 mk_20_11 <| K_aload_n fi_139_109 rfl <| K_gf fi_139_110 kd_77 mk_77_11 <| R_invS fi_139_113 (by decide) (am_invS_of (Nat.le_of_ble_eq_true rfl) rfl (Nat.le_of_ble_eq_true rfl) (Nat.le_of_ble_eq_true rfl) rfl rfl)
theorem b139_116b {d L : Nat} {σ : St} {Q : Option AV → AW → Prop} : R (d + 1) 139 116 [vR 77, vR 20] [] (WS L σ) Q = R d 52 0 [vR 30, vR 87] [] (WS L σ) (fun r w => R (d + 1) 139 127 [vR 77, vR 20] (am_push r []) w Q) := K_aload_n fi_139_116 rfl <| K_gf fi_139_117 kd_20 mk_20_12 <| K_aload_n fi_139_120 rfl <| K_gf fi_139_121 kd_77 mk_77_12 <| R_invS fi_139_124 (by decide) (am_invS_of (Nat.le_of_ble_eq_true rfl) rfl (Nat.le_of_ble_eq_true rfl) (Nat.le_of_ble_eq_true rfl) rfl rfl)
theorem b139_127b {d L : Nat} {σ : St} {Q : Option AV → AW → Prop} : R (d + 1) 139 127 [vR 77, vR 20] [] (WS L σ) Q = R d 52 0 [vR 31, vR 88] [] (WS L σ) (fun r w => R (d + 1) 139 138 [vR 77, vR 20] (am_push r []) w Q) := K_aload_n fi_139_127 rfl <| K_gf fi_139_128 kd_20 mk_20_13 <| K_aload_n fi_139_131 rfl <| K_gf fi_139_132 kd_77 mk_77_13 <| R_invS fi_139_135 (by decide) (am_invS_of (Nat.le_of_ble_eq_true rfl) rfl (Nat.le_of_ble_eq_true rfl) (Nat.le_of_ble_eq_true rfl) rfl rfl)
theorem b139_138b {d L : Nat} {σ : St} {Q : Option AV → AW → Prop} : R (d + 1) 139 138 [vR 77, vR 20] [] (WS L σ) Q = R d 140 0 [vR 32, vR 89, vX 9] [] (WS L σ) (fun r w => R (d + 1) 139 149 [vR 77, vR 20] (am_push r []) w Q) := K_aload_n fi_139_138 rfl <| K_gf fi_139_139 kd_20 mk_20_14 <| K_aload_n fi_139_142 rfl <| K_gf fi_139_143 kd_77 mk_77_14 <| R_invS fi_139_146 (by decide) (am_invS_of (Nat.le_of_ble_eq_true rfl) rfl (Nat.le_of_ble_eq_true rfl) (Nat.le_of_ble_eq_true rfl) rfl rfl)
theorem b139_149b {d L : Nat} {σ : St} {Q : Option AV → AW → Prop} : R (d + 1) 139 149 [vR 77, vR 20] [] (WS L σ) Q = R d 140 0 [vR 45, vR 102, vX 9] [] (WS L σ) (fun r w => R (d + 1) 139 160 [vR 77, vR 20] (am_push r []) w Q) := K_aload_n fi_139_149 rfl <| K_gf fi_139_150 kd_20 mk_20_15 <| K_aload_n fi_139_153 rfl <| K_gf fi_139_154 kd_77 mk_77_15 <| R_invS fi_139_157 (by decide) (am_invS_of (Nat.le_of_ble_eq_true rfl) rfl (Nat.le_of_ble_eq_true rfl) (Nat.le_of_ble_eq_true rfl) rfl rfl)
theorem b139_160b {d L : Nat} {σ : St} {Q : Option AV → AW → Prop} : R (d + 1) 139 160 [vR 77, vR 20] [] (WS L σ) Q = R d 140 0 [vR 52, vR 109, vX 9] [] (WS L σ) (fun r w => R (d + 1) 139 171 [vR 77, vR 20] (am_push r []) w Q) := K_aload_n fi_139_160 rfl <| K_gf fi_139_161 kd_20 mk_20_16 <| K_aload_n fi_139_164 rfl <| K_gf fi_139_165 kd_77 mk_77_16 <| R_invS fi_139_168 (by decide) (am_invS_of (Nat.le_of_ble_eq_true rfl) rfl (Nat.le_of_ble_eq_true rfl) (Nat.le_of_ble_eq_true rfl) rfl rfl)
theorem b139_171b {d L : Nat} {σ : St} {Q : Option AV → AW → Prop} {u0 u1 : AV} : R d 139 171 [u0, u1] [] (WS L σ) Q = Q none (WS L σ) := R_return fi_139_171
theorem fi_140_0 : am_find 140 0 = some (.iconst 0, 1, 0, 0, 0) := by decide +kernel
theorem fi_140_1 : am_find 140 1 = some (.istore_n 2, 1, 0, 0, 0) := by decide +kernel
theorem fi_140_2 : am_find 140 2 = some (.iload_n 2, 1, 0, 0, 0) := by decide +kernel
theorem fi_140_3 : am_find 140 3 = some (.aload_n 0, 1, 0, 0, 0) := by decide +kernel
theorem fi_140_4 : am_find 140 4 = some (.arraylength, 1, 0, 0, 0) := by decide +kernel
theorem fi_140_5 : am_find 140 5 = some (.if_icmp .ge 30, 3, 0, 0, 0) := by decide +kernel
theorem fi_140_8 : am_find 140 8 = some (.iload_n 2, 1, 0, 0, 0) := by decide +kernel
theorem fi_140_9 : am_find 140 9 = some (.aload_n 1, 1, 0, 0, 0) := by decide +kernel
theorem fi_140_10 : am_find 140 10 = some (.arraylength, 1, 0, 0, 0) := by decide +kernel
theorem fi_140_11 : am_find 140 11 = some (.if_icmp .ge 24, 3, 0, 0, 0) := by decide +kernel
theorem fi_140_14 : am_find 140 14 = some (.aload_n 1, 1, 0, 0, 0) := by decide +kernel
theorem fi_140_15 : am_find 140 15 = some (.iload_n 2, 1, 0, 0, 0) := by decide +kernel
theorem fi_140_16 : am_find 140 16 = some (.aaload, 1, 0, 0, 0) := by decide +kernel
theorem fi_140_17 : am_find 140 17 = some (.ifnull 12, 3, 0, 0, 0) := by decide +kernel
theorem fi_140_20 : am_find 140 20 = some (.aload_n 1, 1, 0, 0, 0) := by decide +kernel
theorem fi_140_21 : am_find 140 21 = some (.iload_n 2, 1, 0, 0, 0) := by decide +kernel
theorem fi_140_22 : am_find 140 22 = some (.aaload, 1, 0, 0, 0) := by decide +kernel
theorem fi_140_23 : am_find 140 23 = some (.aload_n 0, 1, 0, 0, 0) := by decide +kernel
theorem fi_140_24 : am_find 140 24 = some (.iload_n 2, 1, 0, 0, 0) := by decide +kernel
theorem fi_140_25 : am_find 140 25 = some (.aaload, 1, 0, 0, 0) := by decide +kernel
theorem fi_140_26 : am_find 140 26 = some (.invokevirtual 41, 3, 51, 1, 168) := by decide +kernel
theorem fi_140_29 : am_find 140 29 = some (.iinc 2 1, 3, 0, 0, 0) := by decide +kernel
theorem fi_140_32 : am_find 140 32 = some (.goto (-30), 3, 0, 0, 0) := by decide +kernel
theorem fi_140_35 : am_find 140 35 = some (.return_, 1, 0, 0, 0) := by decide +kernel
theorem b140_0a {d L : Nat} {σ : St} {Q : Option AV → AW → Prop} {u0 u2 : AV} : R d 140 0 [u0, vR 89, u2] [] (WS L σ) Q = R d 140 2 [u0, vR 89, vI 0] [] (WS L σ) Q := K_iconst fi_140_0 <| K_istore_n fi_140_1 (Nat.le_of_ble_eq_true rfl) rfl rfl <| rfl
theorem b140_2a {d L : Nat} {σ : St} {Q : Option AV → AW → Prop} {x2 : Int} {u1 : AV} : R d 140 2 [vR 32, u1, vI x2] [] (WS L σ) Q = if 6 ≤ x2 then R d 140 35 [vR 32, u1, vI x2] [] (WS L σ) Q else R d 140 8 [vR 32, u1, vI x2] [] (WS L σ) Q := K_iload_n fi_140_2 rfl <| K_aload_n fi_140_3 rfl <| K_alenx fi_140_4 (Or.inr (Or.inr (Or.inl kd_32))) rfl <| R_icmp_ge fi_140_5 rfl
theorem b140_8a {d L : Nat} {σ : St} {Q : Option AV → AW → Prop} {x2 : Int} {u0 : AV} : R d 140 8 [u0, vR 89, vI x2] [] (WS L σ) Q = if 6 ≤ x2 then R d 140 35 [u0, vR 89, vI x2] [] (WS L σ) Q else R d 140 14 [u0, vR 89, vI x2] [] (WS L σ) Q := K_iload_n fi_140_8 rfl <| K_aload_n fi_140_9 rfl <| K_alenx fi_140_10 (Or.inr (Or.inr (Or.inl kd_89))) rfl <| R_icmp_ge fi_140_11 rfl
theorem b140_14a {d L : Nat} {σ : St} {Q : Option AV → AW → Prop} {x2 : Int} {u0 : AV} (h1 : 0 ≤ x2) (h2 : x2 < 6) : R d 140 14 [u0, vR 89, vI x2] [] (WS L σ) Q = R d 140 20 [u0, vR 89, vI x2] [] (WS L σ) Q := K_aload_n fi_140_14 rfl <| K_iload_n fi_140_15 rfl <| K_aa fi_140_16 kd_89 h1 h2 (aa_89 h1 h2) <| R_ifnull fi_140_17
theorem b140_20a {d L : Nat} {σ : St} {Q : Option AV → AW → Prop} {x2 : Int} (h1 : 0 ≤ x2) (h2 : x2 < 6) (h3 : KD (90 + 2 * x2.toNat) = 5) : R (d + 1) 140 20 [vR 32, vR 89, vI x2] [] (WS L σ) Q = R d 51 0 [vR (90 + 2 * x2.toNat), vR (33 + 2 * x2.toNat)] [] (WS L σ) (fun r w => R (d + 1) 140 29 [vR 32, vR 89, vI x2] (am_push r []) w Q) := K_aload_n fi_140_20 rfl <| K_iload_n fi_140_21 rfl <| K_aa fi_140_22 kd_89 h1 h2 (aa_89 h1 h2) <| K_aload_n fi_140_23 rfl <| K_iload_n fi_140_24 rfl <| K_aa fi_140_25 kd_32 h1 h2 (aa_32 h1 h2) <| R_invV fi_140_26 (am_invV_of rfl (h3) (Nat.le_of_ble_eq_true rfl) (Nat.le_of_ble_eq_true rfl) rfl rfl)
theorem b140_29a {d L : Nat} {σ : St} {Q : Option AV → AW → Prop} {x2 : Int} {u0 : AV} (h1 : -2147483648 ≤ x2 + 1 ∧ x2 + 1 ≤ 2147483647) : R d 140 29 [u0, vR 89, vI x2] [] (WS L σ) Q = R d 140 2 [u0, vR 89, vI (x2 + 1)] [] (WS L σ) Q := K_iincx fi_140_29 rfl (Nat.le_of_ble_eq_true rfl) rfl h1 rfl <| R_goto fi_140_32 rfl
theorem b140_35a {d L : Nat} {σ : St} {Q : Option AV → AW → Prop} {u0 u1 u2 : AV} : R d 140 35 [u0, u1, u2] [] (WS L σ) Q = Q none (WS L σ) := R_return fi_140_35
theorem b140_0b {d L : Nat} {σ : St} {Q : Option AV → AW → Prop} {u0 u2 : AV} : R d 140 0 [u0, vR 32, u2] [] (WS L σ) Q = R d 140 2 [u0, vR 32, vI 0] [] (WS L σ) Q := K_iconst fi_140_0 <| K_istore_n fi_140_1 (Nat.le_of_ble_eq_true rfl) rfl rfl <| rfl
theorem b140_2b {d L : Nat} {σ : St} {Q : Option AV → AW → Prop} {x2 : Int} {u1 : AV} : R d 140 2 [vR 89, u1, vI x2] [] (WS L σ) Q = if 6 ≤ x2 then R d 140 35 [vR 89, u1, vI x2] [] (WS L σ) Q else R d 140 8 [vR 89, u1, vI x2] [] (WS L σ) Q := K_iload_n fi_140_2 rfl <| K_aload_n fi_140_3 rfl <| K_alenx fi_140_4 (Or.inr (Or.inr (Or.inl kd_89))) rfl <| R_icmp_ge fi_140_5 rfl
theorem b140_8b {d L : Nat} {σ : St} {Q : Option AV → AW → Prop} {x2 : Int} {u0 : AV} : R d 140 8 [u0, vR 32, vI x2] [] (WS L σ) Q = if 6 ≤ x2 then R d 140 35 [u0, vR 32, vI x2] [] (WS L σ) Q else R d 140 14 [u0, vR 32, vI x2] [] (WS L σ) Q := K_iload_n fi_140_8 rfl <| K_aload_n fi_140_9 rfl <| K_alenx fi_140_10 (Or.inr (Or.inr (Or.inl kd_32))) rfl <| R_icmp_ge fi_140_11 rfl
theorem b140_14b {d L : Nat} {σ : St} {Q : Option AV → AW → Prop} {x2 : Int} {u0 : AV} (h1 : 0 ≤ x2) (h2 : x2 < 6) : R d 140 14 [u0, vR 32, vI x2] [] (WS L σ) Q = R d 140 20 [u0, vR 32, vI x2] [] (WS L σ) Q := K_aload_n fi_140_14 rfl <| K_iload_n fi_140_15 rfl <| K_aa fi_140_16 kd_32 h1 h2 (aa_32 h1 h2) <| R_ifnull fi_140_17
theorem b140_20b {d L : Nat} {σ : St} {Q : Option AV → AW → Prop} {x2 : Int} (h1 : 0 ≤ x2) (h2 : x2 < 6) (h3 : KD (33 + 2 * x2.toNat) = 5) : R (d + 1) 140 20 [vR 89, vR 32, vI x2] [] (WS L σ) Q = R d 51 0 [vR (33 + 2 * x2.toNat), vR (90 + 2 * x2.toNat)] [] (WS L σ) (fun r w => R (d + 1) 140 29 [vR 89, vR 32, vI x2] (am_push r []) w Q) := K_aload_n fi_140_20 rfl <| K_iload_n fi_140_21 rfl <| K_aa fi_140_22 kd_32 h1 h2 (aa_32 h1 h2) <| K_aload_n fi_140_23 rfl <| K_iload_n fi_140_24 rfl <| K_aa fi_140_25 kd_89 h1 h2 (aa_89 h1 h2) <| R_invV fi_140_26 (am_invV_of rfl (h3) (Nat.le_of_ble_eq_true rfl) (Nat.le_of_ble_eq_true rfl) rfl rfl)
theorem b140_29b {d L : Nat} {σ : St} {Q : Option AV → AW → Prop} {x2 : Int} {u0 : AV} (h1 : -2147483648 ≤ x2 + 1 ∧ x2 + 1 ≤ 2147483647) : R d 140 29 [u0, vR 32, vI x2] [] (WS L σ) Q = R d 140 2 [u0, vR 32, vI (x2 + 1)] [] (WS L σ) Q := K_iincx fi_140_29 rfl (Nat.le_of_ble_eq_true rfl) rfl h1 rfl <| R_goto fi_140_32 rfl
theorem b140_35b {d L : Nat} {σ : St} {Q : Option AV → AW → Prop} {u0 u1 u2 : AV} : R d 140 35 [u0, u1, u2] [] (WS L σ) Q = Q none (WS L σ) := R_return fi_140_35
theorem b140_0c {d L : Nat} {σ : St} {Q : Option AV → AW → Prop} {u0 u2 : AV} : R d 140 0 [u0, vR 102, u2] [] (WS L σ) Q = R d 140 2 [u0, vR 102, vI 0] [] (WS L σ) Q := K_iconst fi_140_0 <| K_istore_n fi_140_1 (Nat.le_of_ble_eq_true rfl) rfl rfl <| rfl
theorem b140_2c {d L : Nat} {σ : St} {Q : Option AV → AW → Prop} {x2 : Int} {u1 : AV} : R d 140 2 [vR 45, u1, vI x2] [] (WS L σ) Q = if 3 ≤ x2 then R d 140 35 [vR 45, u1, vI x2] [] (WS L σ) Q else R d 140 8 [vR 45, u1, vI x2] [] (WS L σ) Q := K_iload_n fi_140_2 rfl <| K_aload_n fi_140_3 rfl <| K_alenx fi_140_4 (Or.inr (Or.inr (Or.inl kd_45))) rfl <| R_icmp_ge fi_140_5 rfl
theorem b140_8c {d L : Nat} {σ : St} {Q : Option AV → AW → Prop} {x2 : Int} {u0 : AV} : R d 140 8 [u0, vR 102, vI x2] [] (WS L σ) Q = if 3 ≤ x2 then R d 140 35 [u0, vR 102, vI x2] [] (WS L σ) Q else R d 140 14 [u0, vR 102, vI x2] [] (WS L σ) Q := K_iload_n fi_140_8 rfl <| K_aload_n fi_140_9 rfl <| K_alenx fi_140_10 (Or.inr (Or.inr (Or.inl kd_102))) rfl <| R_icmp_ge fi_140_11 rfl
theorem b140_14c {d L : Nat} {σ : St} {Q : Option AV → AW → Prop} {x2 : Int} {u0 : AV} (h1 : 0 ≤ x2) (h2 : x2 < 3) : R d 140 14 [u0, vR 102, vI x2] [] (WS L σ) Q = R d 140 20 [u0, vR 102, vI x2] [] (WS L σ) Q := K_aload_n fi_140_14 rfl <| K_iload_n fi_140_15 rfl <| K_aa fi_140_16 kd_102 h1 h2 (aa_102 h1 h2) <| R_ifnull fi_140_17
theorem b140_20c {d L : Nat} {σ : St} {Q : Option AV → AW → Prop} {x2 : Int} (h1 : 0 ≤ x2) (h2 : x2 < 3) (h3 : KD (103 + 2 * x2.toNat) = 5) : R (d + 1) 140 20 [vR 45, vR 102, vI x2] [] (WS L σ) Q = R d 51 0 [vR (103 + 2 * x2.toNat), vR (46 + 2 * x2.toNat)] [] (WS L σ) (fun r w => R (d + 1) 140 29 [vR 45, vR 102, vI x2] (am_push r []) w Q) := K_aload_n fi_140_20 rfl <| K_iload_n fi_140_21 rfl <| K_aa fi_140_22 kd_102 h1 h2 (aa_102 h1 h2) <| K_aload_n fi_140_23 rfl <| K_iload_n fi_140_24 rfl <| K_aa fi_140_25 kd_45 h1 h2 (aa_45 h1 h2) <| R_invV fi_140_26 (am_invV_of rfl (h3) (Nat.le_of_ble_eq_true rfl) (Nat.le_of_ble_eq_true rfl) rfl rfl)
theorem b140_29c {d L : Nat} {σ : St} {Q : Option AV → AW → Prop} {x2 : Int} {u0 : AV} (h1 : -2147483648 ≤ x2 + 1 ∧ x2 + 1 ≤ 2147483647) : R d 140 29 [u0, vR 102, vI x2] [] (WS L σ) Q = R d 140 2 [u0, vR 102, vI (x2 + 1)] [] (WS L σ) Q := K_iincx fi_140_29 rfl (Nat.le_of_ble_eq_true rfl) rfl h1 rfl <| R_goto fi_140_32 rfl
theorem b140_35c {d L : Nat} {σ : St} {Q : Option AV → AW → Prop} {u0 u1 u2 : AV} : R d 140 35 [u0, u1, u2] [] (WS L σ) Q = Q none (WS L σ) := R_return fi_140_35
theorem b140_0e {d L : Nat} {σ : St} {Q : Option AV → AW → Prop} {u0 u2 : AV} : R d 140 0 [u0, vR 45, u2] [] (WS L σ) Q = R d 140 2 [u0, vR 45, vI 0] [] (WS L σ) Q := K_iconst fi_140_0 <| K_istore_n fi_140_1 (Nat.le_of_ble_eq_true rfl) rfl rfl <| rfl
theorem b140_2e {d L : Nat} {σ : St} {Q : Option AV → AW → Prop} {x2 : Int} {u1 : AV} : R d 140 2 [vR 102, u1, vI x2] [] (WS L σ) Q = if 3 ≤ x2 then R d 140 35 [vR 102, u1, vI x2] [] (WS L σ) Q else R d 140 8 [vR 102, u1, vI x2] [] (WS L σ) Q := K_iload_n fi_140_2 rfl <| K_aload_n fi_140_3 rfl <| K_alenx fi_140_4 (Or.inr (Or.inr (Or.inl kd_102))) rfl <| R_icmp_ge fi_140_5 rfl
theorem b140_8e {d L : Nat} {σ : St} {Q : Option AV → AW → Prop} {x2 : Int} {u0 : AV} : R d 140 8 [u0, vR 45, vI x2] [] (WS L σ) Q = if 3 ≤ x2 then R d 140 35 [u0, vR 45, vI x2] [] (WS L σ) Q else R d 140 14 [u0, vR 45, vI x2] [] (WS L σ) Q := K_iload_n fi_140_8 rfl <| K_aload_n fi_140_9 rfl <| K_alenx fi_140_10 (Or.inr (Or.inr (Or.inl kd_45))) rfl <| R_icmp_ge fi_140_11 rfl
theorem b140_14e {d L : Nat} {σ : St} {Q : Option AV → AW → Prop} {x2 : Int} {u0 : AV} (h1 : 0 ≤ x2) (h2 : x2 < 3) : R d 140 14 [u0, vR 45, vI x2] [] (WS L σ) Q = R d 140 20 [u0, vR 45, vI x2] [] (WS L σ) Q := K_aload_n fi_140_14 rfl <| K_iload_n fi_140_15 rfl <| K_aa fi_140_16 kd_45 h1 h2 (aa_45 h1 h2) <| R_ifnull fi_140_17
theorem b140_20e {d L : Nat} {σ : St} {Q : Option AV → AW → Prop} {x2 : Int} (h1 : 0 ≤ x2) (h2 : x2 < 3) (h3 : KD (46 + 2 * x2.toNat) = 5) : R (d + 1) 140 20 [vR 102, vR 45, vI x2] [] (WS L σ) Q = R d 51 0 [vR (46 + 2 * x2.toNat), vR (103 + 2 * x2.toNat)] [] (WS L σ) (fun r w => R (d + 1) 140 29 [vR 102, vR 45, vI x2] (am_push r []) w Q) := K_aload_n fi_140_20 rfl <| K_iload_n fi_140_21 rfl <| K_aa fi_140_22 kd_45 h1 h2 (aa_45 h1 h2) <| K_aload_n fi_140_23 rfl <| K_iload_n fi_140_24 rfl <| K_aa fi_140_25 kd_102 h1 h2 (aa_102 h1 h2) <| R_invV fi_140_26 (am_invV_of rfl (h3) (Nat.le_of_ble_eq_true rfl) (Nat.le_of_ble_eq_true rfl) rfl rfl)
theorem b140_29e {d L : Nat} {σ : St} {Q : Option AV → AW → Prop} {x2 : Int} {u0 : AV} (h1 : -2147483648 ≤ x2 + 1 ∧ x2 + 1 ≤ 2147483647) : R d 140 29 [u0, vR 45, vI x2] [] (WS L σ) Q = R d 140 2 [u0, vR 45, vI (x2 + 1)] [] (WS L σ) Q := K_iincx fi_140_29 rfl (Nat.le_of_ble_eq_true rfl) rfl h1 rfl <| R_goto fi_140_32 rfl
theorem b140_35e {d L : Nat} {σ : St} {Q : Option AV → AW → Prop} {u0 u1 u2 : AV} : R d 140 35 [u0, u1, u2] [] (WS L σ) Q = Q none (WS L σ) := R_return fi_140_35
theorem b140_0f {d L : Nat} {σ : St} {Q : Option AV → AW → Prop} {u0 u2 : AV} : R d 140 0 [u0, vR 109, u2] [] (WS L σ) Q = R d 140 2 [u0, vR 109, vI 0] [] (WS L σ) Q := K_iconst fi_140_0 <| K_istore_n fi_140_1 (Nat.le_of_ble_eq_true rfl) rfl rfl <| rfl
theorem b140_2f {d L : Nat} {σ : St} {Q : Option AV → AW → Prop} {x2 : Int} {u1 : AV} : R d 140 2 [vR 52, u1, vI x2] [] (WS L σ) Q = if 12 ≤ x2 then R d 140 35 [vR 52, u1, vI x2] [] (WS L σ) Q else R d 140 8 [vR 52, u1, vI x2] [] (WS L σ) Q := K_iload_n fi_140_2 rfl <| K_aload_n fi_140_3 rfl <| K_alenx fi_140_4 (Or.inr (Or.inr (Or.inl kd_52))) rfl <| R_icmp_ge fi_140_5 rfl
theorem b140_8f {d L : Nat} {σ : St} {Q : Option AV → AW → Prop} {x2 : Int} {u0 : AV} : R d 140 8 [u0, vR 109, vI x2] [] (WS L σ) Q = if 12 ≤ x2 then R d 140 35 [u0, vR 109, vI x2] [] (WS L σ) Q else R d 140 14 [u0, vR 109, vI x2] [] (WS L σ) Q := K_iload_n fi_140_8 rfl <| K_aload_n fi_140_9 rfl <| K_alenx fi_140_10 (Or.inr (Or.inr (Or.inl kd_109))) rfl <| R_icmp_ge fi_140_11 rfl
theorem b140_14f {d L : Nat} {σ : St} {Q : Option AV → AW → Prop} {x2 : Int} {u0 : AV} (h1 : 0 ≤ x2) (h2 : x2 < 12) : R d 140 14 [u0, vR 109, vI x2] [] (WS L σ) Q = R d 140 20 [u0, vR 109, vI x2] [] (WS L σ) Q := K_aload_n fi_140_14 rfl <| K_iload_n fi_140_15 rfl <| K_aa fi_140_16 kd_109 h1 h2 (aa_109 h1 h2) <| R_ifnull fi_140_17
theorem b140_20f {d L : Nat} {σ : St} {Q : Option AV → AW → Prop} {x2 : Int} (h1 : 0 ≤ x2) (h2 : x2 < 12) (h3 : KD (110 + 2 * x2.toNat) = 5) : R (d + 1) 140 20 [vR 52, vR 109, vI x2] [] (WS L σ) Q = R d 51 0 [vR (110 + 2 * x2.toNat), vR (53 + 2 * x2.toNat)] [] (WS L σ) (fun r w => R (d + 1) 140 29 [vR 52, vR 109, vI x2] (am_push r []) w Q) := K_aload_n fi_140_20 rfl <| K_iload_n fi_140_21 rfl <| K_aa fi_140_22 kd_109 h1 h2 (aa_109 h1 h2) <| K_aload_n fi_140_23 rfl <| K_iload_n fi_140_24 rfl <| K_aa fi_140_25 kd_52 h1 h2 (aa_52 h1 h2) <| R_invV fi_140_26 (am_invV_of rfl (h3) (Nat.le_of_ble_eq_true rfl) (Nat.le_of_ble_eq_true rfl) rfl rfl)
theorem b140_29f {d L : Nat} {σ : St} {Q : Option AV → AW → Prop} {x2 : Int} {u0 : AV} (h1 : -2147483648 ≤ x2 + 1 ∧ x2 + 1 ≤ 2147483647) : R d 140 29 [u0, vR 109, vI x2] [] (WS L σ) Q = R d 140 2 [u0, vR 109, vI (x2 + 1)] [] (WS L σ) Q := K_iincx fi_140_29 rfl (Nat.le_of_ble_eq_true rfl) rfl h1 rfl <| R_goto fi_140_32 rfl
theorem b140_35f {d L : Nat} {σ : St} {Q : Option AV → AW → Prop} {u0 u1 u2 : AV} : R d 140 35 [u0, u1, u2] [] (WS L σ) Q = Q none (WS L σ) := R_return fi_140_35
theorem b140_0g {d L : Nat} {σ : St} {Q : Option AV → AW → Prop} {u0 u2 : AV} : R d 140 0 [u0, vR 52, u2] [] (WS L σ) Q = R d 140 2 [u0, vR 52, vI 0] [] (WS L σ) Q := K_iconst fi_140_0 <| K_istore_n fi_140_1 (Nat.le_of_ble_eq_true rfl) rfl rfl <| rfl
theorem b140_2g {d L : Nat} {σ : St} {Q : Option AV → AW → Prop} {x2 : Int} {u1 : AV} : R d 140 2 [vR 109, u1, vI x2] [] (WS L σ) Q = if 12 ≤ x2 then R d 140 35 [vR 109, u1, vI x2] [] (WS L σ) Q else R d 140 8 [vR 109, u1, vI x2] [] (WS L σ) Q := K_iload_n fi_140_2 rfl <| K_aload_n fi_140_3 rfl <| K_alenx fi_140_4 (Or.inr (Or.inr (Or.inl kd_109))) rfl <| R_icmp_ge fi_140_5 rfl
theorem b140_8g {d L : Nat} {σ : St} {Q : Option AV → AW → Prop} {x2 : Int} {u0 : AV} : R d 140 8 [u0, vR 52, vI x2] [] (WS L σ) Q = if 12 ≤ x2 then R d 140 35 [u0, vR 52, vI x2] [] (WS L σ) Q else R d 140 14 [u0, vR 52, vI x2] [] (WS L σ) Q := K_iload_n fi_140_8 rfl <| K_aload_n fi_140_9 rfl <| K_alenx fi_140_10 (Or.inr (Or.inr (Or.inl kd_52))) rfl <| R_icmp_ge fi_140_11 rfl
theorem b140_14g {d L : Nat} {σ : St} {Q : Option AV → AW → Prop} {x2 : Int} {u0 : AV} (h1 : 0 ≤ x2) (h2 : x2 < 12) : R d 140 14 [u0, vR 52, vI x2] [] (WS L σ) Q = R d 140 20 [u0, vR 52, vI x2] [] (WS L σ) Q := K_aload_n fi_140_14 rfl <| K_iload_n fi_140_15 rfl <| K_aa fi_140_16 kd_52 h1 h2 (aa_52 h1 h2) <| R_ifnull fi_140_17
theorem b140_20g {d L : Nat} {σ : St} {Q : Option AV → AW → Prop} {x2 : Int} (h1 : 0 ≤ x2) (h2 : x2 < 12) (h3 : KD (53 + 2 * x2.toNat) = 5) : R (d + 1) 140 20 [vR 109, vR 52, vI x2] [] (WS L σ) Q = R d 51 0 [vR (53 + 2 * x2.toNat), vR (110 + 2 * x2.toNat)] [] (WS L σ) (fun r w => R (d + 1) 140 29 [vR 109, vR 52, vI x2] (am_push r []) w Q) := K_aload_n fi_140_20 rfl <| K_iload_n fi_140_21 rfl <| K_aa fi_140_22 kd_52 h1 h2 (aa_52 h1 h2) <| K_aload_n fi_140_23 rfl <| K_iload_n fi_140_24 rfl <| K_aa fi_140_25 kd_109 h1 h2 (aa_109 h1 h2) <| R_invV fi_140_26 (am_invV_of rfl (h3) (Nat.le_of_ble_eq_true rfl) (Nat.le_of_ble_eq_true rfl) rfl rfl)
theorem b140_29g {d L : Nat} {σ : St} {Q : Option AV → AW → Prop} {x2 : Int} {u0 : AV} (h1 : -2147483648 ≤ x2 + 1 ∧ x2 + 1 ≤ 2147483647) : R d 140 29 [u0, vR 52, vI x2] [] (WS L σ) Q = R d 140 2 [u0, vR 52, vI (x2 + 1)] [] (WS L σ) Q := K_iincx fi_140_29 rfl (Nat.le_of_ble_eq_true rfl) rfl h1 rfl <| R_goto fi_140_32 rfl
theorem b140_35g {d L : Nat} {σ : St} {Q : Option AV → AW → Prop} {u0 u1 u2 : AV} : R d 140 35 [u0, u1, u2] [] (WS L σ) Q = Q none (WS L σ) := R_return fi_140_35
theorem fi_141_0 : am_find 141 0 = some (.aload_n 0, 1, 0, 0, 0) := by decide +kernel
theorem fi_141_1 : am_find 141 1 = some (.getfield 287, 3, 9, 9, 97) := by decide +kernel
theorem fi_141_4 : am_find 141 4 = some (.ifCond .ne 6, 3, 0, 0, 0) := by decide +kernel
theorem fi_141_7 : am_find 141 7 = some (.bipush (-3), 2, 0, (-3), 0) := by decide +kernel
theorem fi_141_9 : am_find 141 9 = some (.ireturn, 1, 0, 0, 0) := by decide +kernel
theorem fi_141_10 : am_find 141 10 = some (.aload_n 0, 1, 0, 0, 0) := by decide +kernel
theorem fi_141_11 : am_find 141 11 = some (.getfield 10, 3, 9, 0, 0) := by decide +kernel
theorem fi_141_14 : am_find 141 14 = some (.aload_n 0, 1, 0, 0, 0) := by decide +kernel
theorem fi_141_15 : am_find 141 15 = some (.getfield 16, 3, 9, 1, 1) := by decide +kernel
theorem fi_141_18 : am_find 141 18 = some (.invokevirtual 284, 3, 139, 1, 165) := by decide +kernel
theorem fi_141_21 : am_find 141 21 = some (.aload_n 0, 1, 0, 0, 0) := by decide +kernel
theorem fi_141_22 : am_find 141 22 = some (.getfield 10, 3, 9, 0, 0) := by decide +kernel
theorem fi_141_25 : am_find 141 25 = some (.getfield 76, 3, 8, 0, 42) := by decide +kernel
theorem fi_141_28 : am_find 141 28 = some (.ireturn, 1, 0, 0, 0) := by decide +kernel
theorem b141_0 {d L : Nat} {σ : St} {Q : Option AV → AW → Prop} : R d 141 0 [vR 19] [] (WS L σ) Q = if ¬ (σ 19 9) = 0 then R d 141 10 [vR 19] [] (WS L σ) Q else R d 141 7 [vR 19] [] (WS L σ) Q := K_aload_n fi_141_0 rfl <| K_gf fi_141_1 kd_19 mk_19_9 <| R_if_ne fi_141_4 rfl
theorem b141_7 {d L : Nat} {σ : St} {Q : Option AV → AW → Prop} {u0 : AV} : R d 141 7 [u0] [] (WS L σ) Q = Q (some (vI (-3))) (WS L σ) := K_bipush fi_141_7 <| R_ireti fi_141_9 rfl
theorem b141_10 {d L : Nat} {σ : St} {Q : Option AV → AW → Prop} : R (d + 1) 141 10 [vR 19] [] (WS L σ) Q = R d 139 0 [vR 20, vR 77] [] (WS L σ) (fun r w => R (d + 1) 141 21 [vR 19] (am_push r []) w Q) := K_aload_n fi_141_10 rfl <| K_gf fi_141_11 kd_19 mk_19_0 <| K_aload_n fi_141_14 rfl <| K_gf fi_141_15 kd_19 mk_19_1 <| R_invV fi_141_18 (am_invV_of rfl (kd_20) (Nat.le_of_ble_eq_true rfl) (Nat.le_of_ble_eq_true rfl) rfl rfl)
theorem b141_21 {d L : Nat} {σ : St} {Q : Option AV → AW → Prop} : R d 141 21 [vR 19] [] (WS L σ) Q = Q (some (vI (σ 20 0))) (WS L σ) := K_aload_n fi_141_21 rfl <| K_gf fi_141_22 kd_19 mk_19_0 <| K_gf fi_141_25 kd_20 mk_20_0 <| R_ireti fi_141_28 rfl
theorem fi_142_0 : am_find 142 0 = some (.iload_n 1, 1, 0, 0, 0) := by decide +kernel
theorem fi_142_1 : am_find 142 1 = some (.tableswitch 105 0 6 #[43, 51, 59, 67, 75, 86, 97], 43, 0, 0, 0) := by decide +kernel
theorem fi_142_44 : am_find 142 44 = some (.aload_n 0, 1, 0, 0, 0) := by decide +kernel
theorem fi_142_45 : am_find 142 45 = some (.getfield 10, 3, 9, 0, 0) := by decide +kernel
theorem fi_142_48 : am_find 142 48 = some (.getfield 76, 3, 8, 0, 42) := by decide +kernel
theorem fi_142_51 : am_find 142 51 = some (.ireturn, 1, 0, 0, 0) := by decide +kernel
theorem fi_142_52 : am_find 142 52 = some (.aload_n 0, 1, 0, 0, 0) := by decide +kernel
theorem fi_142_53 : am_find 142 53 = some (.getfield 10, 3, 9, 0, 0) := by decide +kernel
theorem fi_142_56 : am_find 142 56 = some (.getfield 111, 3, 8, 2, 56) := by decide +kernel
theorem fi_142_59 : am_find 142 59 = some (.ireturn, 1, 0, 0, 0) := by decide +kernel
theorem fi_142_60 : am_find 142 60 = some (.aload_n 0, 1, 0, 0, 0) := by decide +kernel
theorem fi_142_61 : am_find 142 61 = some (.getfield 10, 3, 9, 0, 0) := by decide +kernel
theorem fi_142_64 : am_find 142 64 = some (.getfield 92, 3, 8, 1, 52) := by decide +kernel
theorem fi_142_67 : am_find 142 67 = some (.ireturn, 1, 0, 0, 0) := by decide +kernel
theorem fi_142_68 : am_find 142 68 = some (.aload_n 0, 1, 0, 0, 0) := by decide +kernel
theorem fi_142_69 : am_find 142 69 = some (.getfield 10, 3, 9, 0, 0) := by decide +kernel
theorem fi_142_72 : am_find 142 72 = some (.getfield 291, 3, 8, 4, 99) := by decide +kernel
theorem fi_142_75 : am_find 142 75 = some (.ireturn, 1, 0, 0, 0) := by decide +kernel
theorem fi_142_76 : am_find 142 76 = some (.aload_n 0, 1, 0, 0, 0) := by decide +kernel
theorem fi_142_77 : am_find 142 77 = some (.getfield 10, 3, 9, 0, 0) := by decide +kernel
theorem fi_142_80 : am_find 142 80 = some (.invokevirtual 294, 3, 77, 0, 169) := by decide +kernel
theorem fi_142_83 : am_find 142 83 = some (.invokestatic 266, 3, 42, 1, 154) := by decide +kernel
theorem fi_142_86 : am_find 142 86 = some (.ireturn, 1, 0, 0, 0) := by decide +kernel
theorem fi_142_87 : am_find 142 87 = some (.aload_n 0, 1, 0, 0, 0) := by decide +kernel
theorem fi_142_88 : am_find 142 88 = some (.getfield 10, 3, 9, 0, 0) := by decide +kernel
theorem fi_142_91 : am_find 142 91 = some (.getfield 98, 3, 8, 6, 53) := by decide +kernel
theorem fi_142_94 : am_find 142 94 = some (.getfield 102, 3, 5, 1, 54) := by decide +kernel
theorem fi_142_97 : am_find 142 97 = some (.ireturn, 1, 0, 0, 0) := by decide +kernel
theorem fi_142_98 : am_find 142 98 = some (.aload_n 0, 1, 0, 0, 0) := by decide +kernel
theorem fi_142_99 : am_find 142 99 = some (.getfield 68, 3, 9, 8, 8) := by decide +kernel
theorem fi_142_102 : am_find 142 102 = some (.getfield 297, 3, 0, 1, 100) := by decide +kernel
theorem fi_142_105 : am_find 142 105 = some (.ireturn, 1, 0, 0, 0) := by decide +kernel
theorem fi_142_106 : am_find 142 106 = some (.iconst (-1), 1, 0, (-1), 0) := by decide +kernel
theorem fi_142_107 : am_find 142 107 = some (.ireturn, 1, 0, 0, 0) := by decide +kernel
theorem sw142_0 {d L : Nat} {σ : St} {Q : Option AV → AW → Prop} {x : Int} {ls st : List AV} : R d 142 1 ls (vI x :: st) (WS L σ) Q = if x = 0 then R d 142 44 ls st (WS L σ) Q else if x = 1 then R d 142 52 ls st (WS L σ) Q else if x = 2 then R d 142 60 ls st (WS L σ) Q else if x = 3 then R d 142 68 ls st (WS L σ) Q else if x = 4 then R d 142 76 ls st (WS L σ) Q else if x = 5 then R d 142 87 ls st (WS L σ) Q else if x = 6 then R d 142 98 ls st (WS L σ) Q else R d 142 106 ls st (WS L σ) Q := by
  by_cases h0 : x = 0
  · subst h0; exact (R_tsw (t := 44) fi_142_1 rfl).trans (by simp)
  by_cases h1 : x = 1
  · subst h1; exact (R_tsw (t := 52) fi_142_1 rfl).trans (by simp)
  by_cases h2 : x = 2
  · subst h2; exact (R_tsw (t := 60) fi_142_1 rfl).trans (by simp)
  by_cases h3 : x = 3
  · subst h3; exact (R_tsw (t := 68) fi_142_1 rfl).trans (by simp)
  by_cases h4 : x = 4
  · subst h4; exact (R_tsw (t := 76) fi_142_1 rfl).trans (by simp)
  by_cases h5 : x = 5
  · subst h5; exact (R_tsw (t := 87) fi_142_1 rfl).trans (by simp)
  by_cases h6 : x = 6
  · subst h6; exact (R_tsw (t := 98) fi_142_1 rfl).trans (by simp)
  rw [R_tsw (t := 106) fi_142_1 (by show (if x < 0 ∨ 6 < x then _ else _) = _; rw [if_pos (by omega)]; rfl)]
  rw [if_neg h0, if_neg h1, if_neg h2, if_neg h3, if_neg h4, if_neg h5, if_neg h6]
theorem b142_0 {d L : Nat} {σ : St} {Q : Option AV → AW → Prop} {x1 : Int} {u0 : AV} : R d 142 0 [u0, vI x1] [] (WS L σ) Q = if x1 = 0 then R d 142 44 [u0, vI x1] [] (WS L σ) Q else if x1 = 1 then R d 142 52 [u0, vI x1] [] (WS L σ) Q else if x1 = 2 then R d 142 60 [u0, vI x1] [] (WS L σ) Q else if x1 = 3 then R d 142 68 [u0, vI x1] [] (WS L σ) Q else if x1 = 4 then R d 142 76 [u0, vI x1] [] (WS L σ) Q else if x1 = 5 then R d 142 87 [u0, vI x1] [] (WS L σ) Q else if x1 = 6 then R d 142 98 [u0, vI x1] [] (WS L σ) Q else R d 142 106 [u0, vI x1] [] (WS L σ) Q := K_iload_n fi_142_0 rfl <| sw142_0
theorem b142_44 {d L : Nat} {σ : St} {Q : Option AV → AW → Prop} {u1 : AV} : R d 142 44 [vR 19, u1] [] (WS L σ) Q = Q (some (vI (σ 20 0))) (WS L σ) := K_aload_n fi_142_44 rfl <| K_gf fi_142_45 kd_19 mk_19_0 <| K_gf fi_142_48 kd_20 mk_20_0 <| R_ireti fi_142_51 rfl
theorem b142_52 {d L : Nat} {σ : St} {Q : Option AV → AW → Prop} {u1 : AV} : R d 142 52 [vR 19, u1] [] (WS L σ) Q = Q (some (vI (σ 20 2))) (WS L σ) := K_aload_n fi_142_52 rfl <| K_gf fi_142_53 kd_19 mk_19_0 <| K_gf fi_142_56 kd_20 mk_20_2 <| R_ireti fi_142_59 rfl
theorem b142_60 {d L : Nat} {σ : St} {Q : Option AV → AW → Prop} {u1 : AV} : R d 142 60 [vR 19, u1] [] (WS L σ) Q = Q (some (vI (σ 20 1))) (WS L σ) := K_aload_n fi_142_60 rfl <| K_gf fi_142_61 kd_19 mk_19_0 <| K_gf fi_142_64 kd_20 mk_20_1 <| R_ireti fi_142_67 rfl
theorem b142_68 {d L : Nat} {σ : St} {Q : Option AV → AW → Prop} {u1 : AV} : R d 142 68 [vR 19, u1] [] (WS L σ) Q = Q (some (vI (σ 20 4))) (WS L σ) := K_aload_n fi_142_68 rfl <| K_gf fi_142_69 kd_19 mk_19_0 <| K_gf fi_142_72 kd_20 mk_20_4 <| R_ireti fi_142_75 rfl
theorem b142_76 {d L : Nat} {σ : St} {Q : Option AV → AW → Prop} {u1 : AV} : R (d + 1) 142 76 [vR 19, u1] [] (WS L σ) Q = R d 77 0 [vR 20] [] (WS L σ) (fun r w => R (d + 1) 142 83 [vR 19, u1] (am_push r []) w Q) := K_aload_n fi_142_76 rfl <| K_gf fi_142_77 kd_19 mk_19_0 <| R_invV fi_142_80 (am_invV_of rfl (kd_20) (Nat.le_of_ble_eq_true rfl) (Nat.le_of_ble_eq_true rfl) rfl rfl)
theorem b142_83 {d L : Nat} {σ : St} {Q : Option AV → AW → Prop} {y0 : Int} {u0 u1 : AV} : R (d + 1) 142 83 [u0, u1] [vI y0] (WS L σ) Q = R d 42 0 [vI y0] [] (WS L σ) (fun r w => R (d + 1) 142 86 [u0, u1] (am_push r []) w Q) := R_invS fi_142_83 (by decide) (am_invS_of (Nat.le_of_ble_eq_true rfl) rfl (Nat.le_of_ble_eq_true rfl) (Nat.le_of_ble_eq_true rfl) rfl rfl)
theorem b142_86 {d L : Nat} {σ : St} {Q : Option AV → AW → Prop} {y0 : Int} {u0 u1 : AV} : R d 142 86 [u0, u1] [vI y0] (WS L σ) Q = Q (some (vI y0)) (WS L σ) := R_ireti fi_142_86 rfl
theorem b142_87 {d L : Nat} {σ : St} {Q : Option AV → AW → Prop} {u1 : AV} : R d 142 87 [vR 19, u1] [] (WS L σ) Q = Q (some (vI (σ 21 1))) (WS L σ) := K_aload_n fi_142_87 rfl <| K_gf fi_142_88 kd_19 mk_19_0 <| K_gf fi_142_91 kd_20 mk_20_6 <| K_gf fi_142_94 kd_21 mk_21_1 <| R_ireti fi_142_97 rfl
theorem b142_98 {d L : Nat} {σ : St} {Q : Option AV → AW → Prop} {u1 : AV} : R d 142 98 [vR 19, u1] [] (WS L σ) Q = Q (some (vI (σ 150 1))) (WS L σ) := K_aload_n fi_142_98 rfl <| K_gf fi_142_99 kd_19 mk_19_8 <| K_gf fi_142_102 kd_150 mk_150_1 <| R_ireti fi_142_105 rfl
theorem b142_106 {d L : Nat} {σ : St} {Q : Option AV → AW → Prop} {u0 u1 : AV} : R d 142 106 [u0, u1] [] (WS L σ) Q = Q (some (vI (-1))) (WS L σ) := K_iconst fi_142_106 <| R_ireti fi_142_107 rfl
