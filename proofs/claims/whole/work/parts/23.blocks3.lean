/-! block lemmas (printed by wip/whole/gen_blocks.py): methods 144 to 169 -/
theorem fi_144_0 : am_find 144 0 = some (.iload_n 1, 1, 0, 0, 0) := by decide +kernel
theorem fi_144_1 : am_find 144 1 = some (.iconst 0, 1, 0, 0, 0) := by decide +kernel
theorem fi_144_2 : am_find 144 2 = some (.iconst 3, 1, 0, 3, 0) := by decide +kernel
theorem fi_144_3 : am_find 144 3 = some (.invokestatic 49, 3, 145, 3, 170) := by decide +kernel
theorem fi_144_6 : am_find 144 6 = some (.ifCond .eq 12, 3, 0, 0, 0) := by decide +kernel
theorem fi_144_9 : am_find 144 9 = some (.iload_n 3, 1, 0, 0, 0) := by decide +kernel
theorem fi_144_10 : am_find 144 10 = some (.iconst (-1), 1, 0, (-1), 0) := by decide +kernel
theorem fi_144_11 : am_find 144 11 = some (.iconst 2, 1, 0, 2, 0) := by decide +kernel
theorem fi_144_12 : am_find 144 12 = some (.invokestatic 49, 3, 145, 3, 170) := by decide +kernel
theorem fi_144_15 : am_find 144 15 = some (.ifCond .ne 5, 3, 0, 0, 0) := by decide +kernel
theorem fi_144_18 : am_find 144 18 = some (.iconst (-1), 1, 0, (-1), 0) := by decide +kernel
theorem fi_144_19 : am_find 144 19 = some (.ireturn, 1, 0, 0, 0) := by decide +kernel
theorem fi_144_20 : am_find 144 20 = some (.iload_n 2, 1, 0, 0, 0) := by decide +kernel
theorem fi_144_21 : am_find 144 21 = some (.iconst 0, 1, 0, 0, 0) := by decide +kernel
theorem fi_144_22 : am_find 144 22 = some (.bipush 20, 2, 0, 20, 0) := by decide +kernel
theorem fi_144_24 : am_find 144 24 = some (.invokestatic 49, 3, 145, 3, 170) := by decide +kernel
theorem fi_144_27 : am_find 144 27 = some (.ifCond .ne 6, 3, 0, 0, 0) := by decide +kernel
theorem fi_144_30 : am_find 144 30 = some (.bipush (-2), 2, 0, (-2), 0) := by decide +kernel
theorem fi_144_32 : am_find 144 32 = some (.ireturn, 1, 0, 0, 0) := by decide +kernel
theorem fi_144_33 : am_find 144 33 = some (.aload_n 0, 1, 0, 0, 0) := by decide +kernel
theorem fi_144_34 : am_find 144 34 = some (.getfield 7, 3, 10, 1, 101) := by decide +kernel
theorem fi_144_37 : am_find 144 37 = some (.iconst 0, 1, 0, 0, 0) := by decide +kernel
theorem fi_144_38 : am_find 144 38 = some (.iaload, 1, 0, 0, 0) := by decide +kernel
theorem fi_144_39 : am_find 144 39 = some (.bipush 8, 2, 0, 8, 0) := by decide +kernel
theorem fi_144_41 : am_find 144 41 = some (.if_icmp .ne 6, 3, 0, 0, 0) := by decide +kernel
theorem fi_144_44 : am_find 144 44 = some (.bipush (-4), 2, 0, (-4), 0) := by decide +kernel
theorem fi_144_46 : am_find 144 46 = some (.ireturn, 1, 0, 0, 0) := by decide +kernel
theorem fi_144_47 : am_find 144 47 = some (.aload_n 0, 1, 0, 0, 0) := by decide +kernel
theorem fi_144_48 : am_find 144 48 = some (.getfield 7, 3, 10, 1, 101) := by decide +kernel
theorem fi_144_51 : am_find 144 51 = some (.iconst 0, 1, 0, 0, 0) := by decide +kernel
theorem fi_144_52 : am_find 144 52 = some (.iaload, 1, 0, 0, 0) := by decide +kernel
theorem fi_144_53 : am_find 144 53 = some (.istore 4, 2, 0, 0, 0) := by decide +kernel
theorem fi_144_55 : am_find 144 55 = some (.aload_n 0, 1, 0, 0, 0) := by decide +kernel
theorem fi_144_56 : am_find 144 56 = some (.getfield 7, 3, 10, 1, 101) := by decide +kernel
theorem fi_144_59 : am_find 144 59 = some (.sipush 130, 3, 0, 130, 0) := by decide +kernel
theorem fi_144_62 : am_find 144 62 = some (.iload 4, 2, 0, 0, 0) := by decide +kernel
theorem fi_144_64 : am_find 144 64 = some (.iadd, 1, 0, 0, 0) := by decide +kernel
theorem fi_144_65 : am_find 144 65 = some (.iload_n 1, 1, 0, 0, 0) := by decide +kernel
theorem fi_144_66 : am_find 144 66 = some (.iastore, 1, 0, 0, 0) := by decide +kernel
theorem fi_144_67 : am_find 144 67 = some (.aload_n 0, 1, 0, 0, 0) := by decide +kernel
theorem fi_144_68 : am_find 144 68 = some (.getfield 7, 3, 10, 1, 101) := by decide +kernel
theorem fi_144_71 : am_find 144 71 = some (.sipush 138, 3, 0, 138, 0) := by decide +kernel
theorem fi_144_74 : am_find 144 74 = some (.iload 4, 2, 0, 0, 0) := by decide +kernel
theorem fi_144_76 : am_find 144 76 = some (.iadd, 1, 0, 0, 0) := by decide +kernel
theorem fi_144_77 : am_find 144 77 = some (.iload_n 2, 1, 0, 0, 0) := by decide +kernel
theorem fi_144_78 : am_find 144 78 = some (.iastore, 1, 0, 0, 0) := by decide +kernel
theorem fi_144_79 : am_find 144 79 = some (.aload_n 0, 1, 0, 0, 0) := by decide +kernel
theorem fi_144_80 : am_find 144 80 = some (.getfield 7, 3, 10, 1, 101) := by decide +kernel
theorem fi_144_83 : am_find 144 83 = some (.sipush 146, 3, 0, 146, 0) := by decide +kernel
theorem fi_144_86 : am_find 144 86 = some (.iload 4, 2, 0, 0, 0) := by decide +kernel
theorem fi_144_88 : am_find 144 88 = some (.iadd, 1, 0, 0, 0) := by decide +kernel
theorem fi_144_89 : am_find 144 89 = some (.iload_n 3, 1, 0, 0, 0) := by decide +kernel
theorem fi_144_90 : am_find 144 90 = some (.iastore, 1, 0, 0, 0) := by decide +kernel
theorem fi_144_91 : am_find 144 91 = some (.aload_n 0, 1, 0, 0, 0) := by decide +kernel
theorem fi_144_92 : am_find 144 92 = some (.getfield 7, 3, 10, 1, 101) := by decide +kernel
theorem fi_144_95 : am_find 144 95 = some (.sipush 203, 3, 0, 203, 0) := by decide +kernel
theorem fi_144_98 : am_find 144 98 = some (.iload 4, 2, 0, 0, 0) := by decide +kernel
theorem fi_144_100 : am_find 144 100 = some (.iadd, 1, 0, 0, 0) := by decide +kernel
theorem fi_144_101 : am_find 144 101 = some (.iconst (-1), 1, 0, (-1), 0) := by decide +kernel
theorem fi_144_102 : am_find 144 102 = some (.iastore, 1, 0, 0, 0) := by decide +kernel
theorem fi_144_103 : am_find 144 103 = some (.aload_n 0, 1, 0, 0, 0) := by decide +kernel
theorem fi_144_104 : am_find 144 104 = some (.getfield 7, 3, 10, 1, 101) := by decide +kernel
theorem fi_144_107 : am_find 144 107 = some (.iconst 0, 1, 0, 0, 0) := by decide +kernel
theorem fi_144_108 : am_find 144 108 = some (.dup2, 1, 0, 0, 0) := by decide +kernel
theorem fi_144_109 : am_find 144 109 = some (.iaload, 1, 0, 0, 0) := by decide +kernel
theorem fi_144_110 : am_find 144 110 = some (.iconst 1, 1, 0, 1, 0) := by decide +kernel
theorem fi_144_111 : am_find 144 111 = some (.iadd, 1, 0, 0, 0) := by decide +kernel
theorem fi_144_112 : am_find 144 112 = some (.iastore, 1, 0, 0, 0) := by decide +kernel
theorem fi_144_113 : am_find 144 113 = some (.iload 4, 2, 0, 0, 0) := by decide +kernel
theorem fi_144_115 : am_find 144 115 = some (.ireturn, 1, 0, 0, 0) := by decide +kernel
theorem b144_0 {d L : Nat} {σ : St} {Q : Option AV → AW → Prop} {x1 : Int} {u0 u2 u3 u4 : AV} : R (d + 1) 144 0 [u0, vI x1, u2, u3, u4] [] (WS L σ) Q = R d 145 0 [vI x1, vI 0, vI 3] [] (WS L σ) (fun r w => R (d + 1) 144 6 [u0, vI x1, u2, u3, u4] (am_push r []) w Q) := K_iload_n fi_144_0 rfl <| K_iconst fi_144_1 <| K_iconst fi_144_2 <| R_invS fi_144_3 (by decide) (am_invS_of (Nat.le_of_ble_eq_true rfl) rfl (Nat.le_of_ble_eq_true rfl) (Nat.le_of_ble_eq_true rfl) rfl rfl)
theorem b144_6 {d L : Nat} {σ : St} {Q : Option AV → AW → Prop} {y0 : Int} {u0 u1 u2 u3 u4 : AV} : R d 144 6 [u0, u1, u2, u3, u4] [vI y0] (WS L σ) Q = if y0 = 0 then R d 144 18 [u0, u1, u2, u3, u4] [] (WS L σ) Q else R d 144 9 [u0, u1, u2, u3, u4] [] (WS L σ) Q := R_if_eq fi_144_6 rfl
theorem b144_9 {d L : Nat} {σ : St} {Q : Option AV → AW → Prop} {x3 : Int} {u0 u1 u2 u4 : AV} : R (d + 1) 144 9 [u0, u1, u2, vI x3, u4] [] (WS L σ) Q = R d 145 0 [vI x3, vI (-1), vI 2] [] (WS L σ) (fun r w => R (d + 1) 144 15 [u0, u1, u2, vI x3, u4] (am_push r []) w Q) := K_iload_n fi_144_9 rfl <| K_iconst fi_144_10 <| K_iconst fi_144_11 <| R_invS fi_144_12 (by decide) (am_invS_of (Nat.le_of_ble_eq_true rfl) rfl (Nat.le_of_ble_eq_true rfl) (Nat.le_of_ble_eq_true rfl) rfl rfl)
theorem b144_15 {d L : Nat} {σ : St} {Q : Option AV → AW → Prop} {y0 : Int} {u0 u1 u2 u3 u4 : AV} : R d 144 15 [u0, u1, u2, u3, u4] [vI y0] (WS L σ) Q = if ¬ y0 = 0 then R d 144 20 [u0, u1, u2, u3, u4] [] (WS L σ) Q else R d 144 18 [u0, u1, u2, u3, u4] [] (WS L σ) Q := R_if_ne fi_144_15 rfl
theorem b144_18 {d L : Nat} {σ : St} {Q : Option AV → AW → Prop} {u0 u1 u2 u3 u4 : AV} : R d 144 18 [u0, u1, u2, u3, u4] [] (WS L σ) Q = Q (some (vI (-1))) (WS L σ) := K_iconst fi_144_18 <| R_ireti fi_144_19 rfl
theorem b144_20 {d L : Nat} {σ : St} {Q : Option AV → AW → Prop} {x2 : Int} {u0 u1 u3 u4 : AV} : R (d + 1) 144 20 [u0, u1, vI x2, u3, u4] [] (WS L σ) Q = R d 145 0 [vI x2, vI 0, vI 20] [] (WS L σ) (fun r w => R (d + 1) 144 27 [u0, u1, vI x2, u3, u4] (am_push r []) w Q) := K_iload_n fi_144_20 rfl <| K_iconst fi_144_21 <| K_bipush fi_144_22 <| R_invS fi_144_24 (by decide) (am_invS_of (Nat.le_of_ble_eq_true rfl) rfl (Nat.le_of_ble_eq_true rfl) (Nat.le_of_ble_eq_true rfl) rfl rfl)
theorem b144_27 {d L : Nat} {σ : St} {Q : Option AV → AW → Prop} {y0 : Int} {u0 u1 u2 u3 u4 : AV} : R d 144 27 [u0, u1, u2, u3, u4] [vI y0] (WS L σ) Q = if ¬ y0 = 0 then R d 144 33 [u0, u1, u2, u3, u4] [] (WS L σ) Q else R d 144 30 [u0, u1, u2, u3, u4] [] (WS L σ) Q := R_if_ne fi_144_27 rfl
theorem b144_30 {d L : Nat} {σ : St} {Q : Option AV → AW → Prop} {u0 u1 u2 u3 u4 : AV} : R d 144 30 [u0, u1, u2, u3, u4] [] (WS L σ) Q = Q (some (vI (-2))) (WS L σ) := K_bipush fi_144_30 <| R_ireti fi_144_32 rfl
theorem b144_33 {d L : Nat} {σ : St} {Q : Option AV → AW → Prop} {u1 u2 u3 u4 : AV} : R d 144 33 [vR 153, u1, u2, u3, u4] [] (WS L σ) Q = if ¬ (σ 154 0) = 8 then R d 144 47 [vR 153, u1, u2, u3, u4] [] (WS L σ) Q else R d 144 44 [vR 153, u1, u2, u3, u4] [] (WS L σ) Q := K_aload_n fi_144_33 rfl <| K_gf fi_144_34 kd_153 mk_153_1 <| K_iconst fi_144_37 <| K_ia fi_144_38 kd_154 (by decide) (show (0 : Int) < 1580 by decide) <| K_bipush fi_144_39 <| R_icmp_ne fi_144_41 rfl
theorem b144_44 {d L : Nat} {σ : St} {Q : Option AV → AW → Prop} {u0 u1 u2 u3 u4 : AV} : R d 144 44 [u0, u1, u2, u3, u4] [] (WS L σ) Q = Q (some (vI (-4))) (WS L σ) := K_bipush fi_144_44 <| R_ireti fi_144_46 rfl
theorem b144_47 {d L : Nat} {σ : St} {Q : Option AV → AW → Prop} {x1 : Int} {u2 u3 u4 : AV} (h1 : -2147483648 ≤ 130 + (σ 154 0) ∧ 130 + (σ 154 0) ≤ 2147483647) (h2 : 0 ≤ 130 + (σ 154 0)) (h3 : (130 + (σ 154 0)) < 1580) : R d 144 47 [vR 153, vI x1, u2, u3, u4] [] (WS L σ) Q = R d 144 67 [vR 153, vI x1, u2, u3, vI (σ 154 0)] [] (WS L (st2 σ 154 (130 + (σ 154 0)) x1)) Q := K_aload_n fi_144_47 rfl <| K_gf fi_144_48 kd_153 mk_153_1 <| K_iconst fi_144_51 <| K_ia fi_144_52 kd_154 (by decide) (show (0 : Int) < 1580 by decide) <| K_istore fi_144_53 (Nat.le_of_ble_eq_true rfl) rfl rfl <| K_aload_n fi_144_55 rfl <| K_gf fi_144_56 kd_153 mk_153_1 <| K_sipush fi_144_59 <| K_iload fi_144_62 rfl <| K_iaddx fi_144_64 h1 <| K_iload_n fi_144_65 rfl <| K_is fi_144_66 kd_154 h2 h3 <| rfl
theorem b144_67 {d L : Nat} {σ : St} {Q : Option AV → AW → Prop} {x4 x2 : Int} {u1 u3 : AV} (h1 : -2147483648 ≤ 138 + x4 ∧ 138 + x4 ≤ 2147483647) (h2 : 0 ≤ 138 + x4) (h3 : (138 + x4) < 1580) : R d 144 67 [vR 153, u1, vI x2, u3, vI x4] [] (WS L σ) Q = R d 144 79 [vR 153, u1, vI x2, u3, vI x4] [] (WS L (st2 σ 154 (138 + x4) x2)) Q := K_aload_n fi_144_67 rfl <| K_gf fi_144_68 kd_153 mk_153_1 <| K_sipush fi_144_71 <| K_iload fi_144_74 rfl <| K_iaddx fi_144_76 h1 <| K_iload_n fi_144_77 rfl <| K_is fi_144_78 kd_154 h2 h3 <| rfl
theorem b144_79 {d L : Nat} {σ : St} {Q : Option AV → AW → Prop} {x4 x3 : Int} {u1 u2 : AV} (h1 : -2147483648 ≤ 146 + x4 ∧ 146 + x4 ≤ 2147483647) (h2 : 0 ≤ 146 + x4) (h3 : (146 + x4) < 1580) : R d 144 79 [vR 153, u1, u2, vI x3, vI x4] [] (WS L σ) Q = R d 144 91 [vR 153, u1, u2, vI x3, vI x4] [] (WS L (st2 σ 154 (146 + x4) x3)) Q := K_aload_n fi_144_79 rfl <| K_gf fi_144_80 kd_153 mk_153_1 <| K_sipush fi_144_83 <| K_iload fi_144_86 rfl <| K_iaddx fi_144_88 h1 <| K_iload_n fi_144_89 rfl <| K_is fi_144_90 kd_154 h2 h3 <| rfl
theorem b144_91 {d L : Nat} {σ : St} {Q : Option AV → AW → Prop} {x4 : Int} {u1 u2 u3 : AV} (h1 : -2147483648 ≤ 203 + x4 ∧ 203 + x4 ≤ 2147483647) (h2 : 0 ≤ 203 + x4) (h3 : (203 + x4) < 1580) : R d 144 91 [vR 153, u1, u2, u3, vI x4] [] (WS L σ) Q = R d 144 103 [vR 153, u1, u2, u3, vI x4] [] (WS L (st2 σ 154 (203 + x4) (-1))) Q := K_aload_n fi_144_91 rfl <| K_gf fi_144_92 kd_153 mk_153_1 <| K_sipush fi_144_95 <| K_iload fi_144_98 rfl <| K_iaddx fi_144_100 h1 <| K_iconst fi_144_101 <| K_is fi_144_102 kd_154 h2 h3 <| rfl
theorem b144_103 {d L : Nat} {σ : St} {Q : Option AV → AW → Prop} {u1 u2 u3 u4 : AV} (h1 : -2147483648 ≤ (σ 154 0) + 1 ∧ (σ 154 0) + 1 ≤ 2147483647) : R d 144 103 [vR 153, u1, u2, u3, u4] [] (WS L σ) Q = R d 144 113 [vR 153, u1, u2, u3, u4] [] (WS L (st2 σ 154 0 ((σ 154 0) + 1))) Q := K_aload_n fi_144_103 rfl <| K_gf fi_144_104 kd_153 mk_153_1 <| K_iconst fi_144_107 <| K_dup2 fi_144_108 <| K_ia fi_144_109 kd_154 (by decide) (show (0 : Int) < 1580 by decide) <| K_iconst fi_144_110 <| K_iaddx fi_144_111 h1 <| K_is fi_144_112 kd_154 (by decide) (show (0 : Int) < 1580 by decide) <| rfl
theorem b144_113 {d L : Nat} {σ : St} {Q : Option AV → AW → Prop} {x4 : Int} {u0 u1 u2 u3 : AV} : R d 144 113 [u0, u1, u2, u3, vI x4] [] (WS L σ) Q = Q (some (vI x4)) (WS L σ) := K_iload fi_144_113 rfl <| R_ireti fi_144_115 rfl
theorem fi_145_0 : am_find 145 0 = some (.iload_n 0, 1, 0, 0, 0) := by decide +kernel
theorem fi_145_1 : am_find 145 1 = some (.iload_n 1, 1, 0, 0, 0) := by decide +kernel
theorem fi_145_2 : am_find 145 2 = some (.if_icmp .lt 12, 3, 0, 0, 0) := by decide +kernel
theorem fi_145_5 : am_find 145 5 = some (.iload_n 0, 1, 0, 0, 0) := by decide +kernel
theorem fi_145_6 : am_find 145 6 = some (.iload_n 2, 1, 0, 0, 0) := by decide +kernel
theorem fi_145_7 : am_find 145 7 = some (.if_icmp .gt 7, 3, 0, 0, 0) := by decide +kernel
theorem fi_145_10 : am_find 145 10 = some (.iconst 1, 1, 0, 1, 0) := by decide +kernel
theorem fi_145_11 : am_find 145 11 = some (.goto 4, 3, 0, 0, 0) := by decide +kernel
theorem fi_145_14 : am_find 145 14 = some (.iconst 0, 1, 0, 0, 0) := by decide +kernel
theorem fi_145_15 : am_find 145 15 = some (.ireturn, 1, 1, 0, 0) := by decide +kernel
theorem b145_0 {d L : Nat} {σ : St} {Q : Option AV → AW → Prop} {x0 x1 : Int} {u2 : AV} : R d 145 0 [vI x0, vI x1, u2] [] (WS L σ) Q = if x0 < x1 then R d 145 14 [vI x0, vI x1, u2] [] (WS L σ) Q else R d 145 5 [vI x0, vI x1, u2] [] (WS L σ) Q := K_iload_n fi_145_0 rfl <| K_iload_n fi_145_1 rfl <| R_icmp_lt fi_145_2 rfl
theorem b145_5 {d L : Nat} {σ : St} {Q : Option AV → AW → Prop} {x0 x2 : Int} {u1 : AV} : R d 145 5 [vI x0, u1, vI x2] [] (WS L σ) Q = if x2 < x0 then R d 145 14 [vI x0, u1, vI x2] [] (WS L σ) Q else R d 145 10 [vI x0, u1, vI x2] [] (WS L σ) Q := K_iload_n fi_145_5 rfl <| K_iload_n fi_145_6 rfl <| R_icmp_gt fi_145_7 rfl
theorem b145_10 {d L : Nat} {σ : St} {Q : Option AV → AW → Prop} {u0 u1 u2 : AV} : R d 145 10 [u0, u1, u2] [] (WS L σ) Q = R d 145 15 [u0, u1, u2] [vI 1] (WS L σ) Q := K_iconst fi_145_10 <| R_goto fi_145_11 rfl
theorem b145_14 {d L : Nat} {σ : St} {Q : Option AV → AW → Prop} {u0 u1 u2 : AV} : R d 145 14 [u0, u1, u2] [] (WS L σ) Q = R d 145 15 [u0, u1, u2] [vI 0] (WS L σ) Q := K_iconst fi_145_14 <| rfl
theorem b145_15 {d L : Nat} {σ : St} {Q : Option AV → AW → Prop} {y0 : Int} {u0 u1 u2 : AV} (h1 : am_rfit 1 y0 = true) : R d 145 15 [u0, u1, u2] [vI y0] (WS L σ) Q = Q (some (vI y0)) (WS L σ) := R_ireti fi_145_15 h1
theorem fi_146_0 : am_find 146 0 = some (.aload_n 0, 1, 0, 0, 0) := by decide +kernel
theorem fi_146_1 : am_find 146 1 = some (.iload_n 1, 1, 0, 0, 0) := by decide +kernel
theorem fi_146_2 : am_find 146 2 = some (.invokevirtual 53, 3, 147, 1, 171) := by decide +kernel
theorem fi_146_5 : am_find 146 5 = some (.ifCond .ne 5, 3, 0, 0, 0) := by decide +kernel
theorem fi_146_8 : am_find 146 8 = some (.iconst (-1), 1, 0, (-1), 0) := by decide +kernel
theorem fi_146_9 : am_find 146 9 = some (.ireturn, 1, 0, 0, 0) := by decide +kernel
theorem fi_146_10 : am_find 146 10 = some (.iload_n 2, 1, 0, 0, 0) := by decide +kernel
theorem fi_146_11 : am_find 146 11 = some (.tableswitch 77 0 2 #[25, 36, 47], 25, 0, 0, 0) := by decide +kernel
theorem fi_146_36 : am_find 146 36 = some (.aload_n 0, 1, 0, 0, 0) := by decide +kernel
theorem fi_146_37 : am_find 146 37 = some (.getfield 7, 3, 10, 1, 101) := by decide +kernel
theorem fi_146_40 : am_find 146 40 = some (.sipush 130, 3, 0, 130, 0) := by decide +kernel
theorem fi_146_43 : am_find 146 43 = some (.iload_n 1, 1, 0, 0, 0) := by decide +kernel
theorem fi_146_44 : am_find 146 44 = some (.iadd, 1, 0, 0, 0) := by decide +kernel
theorem fi_146_45 : am_find 146 45 = some (.iaload, 1, 0, 0, 0) := by decide +kernel
theorem fi_146_46 : am_find 146 46 = some (.ireturn, 1, 0, 0, 0) := by decide +kernel
theorem fi_146_47 : am_find 146 47 = some (.aload_n 0, 1, 0, 0, 0) := by decide +kernel
theorem fi_146_48 : am_find 146 48 = some (.getfield 7, 3, 10, 1, 101) := by decide +kernel
theorem fi_146_51 : am_find 146 51 = some (.sipush 138, 3, 0, 138, 0) := by decide +kernel
theorem fi_146_54 : am_find 146 54 = some (.iload_n 1, 1, 0, 0, 0) := by decide +kernel
theorem fi_146_55 : am_find 146 55 = some (.iadd, 1, 0, 0, 0) := by decide +kernel
theorem fi_146_56 : am_find 146 56 = some (.iaload, 1, 0, 0, 0) := by decide +kernel
theorem fi_146_57 : am_find 146 57 = some (.ireturn, 1, 0, 0, 0) := by decide +kernel
theorem fi_146_58 : am_find 146 58 = some (.aload_n 0, 1, 0, 0, 0) := by decide +kernel
theorem fi_146_59 : am_find 146 59 = some (.getfield 7, 3, 10, 1, 101) := by decide +kernel
theorem fi_146_62 : am_find 146 62 = some (.sipush 146, 3, 0, 146, 0) := by decide +kernel
theorem fi_146_65 : am_find 146 65 = some (.iload_n 1, 1, 0, 0, 0) := by decide +kernel
theorem fi_146_66 : am_find 146 66 = some (.iadd, 1, 0, 0, 0) := by decide +kernel
theorem fi_146_67 : am_find 146 67 = some (.iaload, 1, 0, 0, 0) := by decide +kernel
theorem fi_146_68 : am_find 146 68 = some (.iconst (-1), 1, 0, (-1), 0) := by decide +kernel
theorem fi_146_69 : am_find 146 69 = some (.if_icmp .ne 8, 3, 0, 0, 0) := by decide +kernel
theorem fi_146_72 : am_find 146 72 = some (.bipush (-5), 2, 0, (-5), 0) := by decide +kernel
theorem fi_146_74 : am_find 146 74 = some (.goto 13, 3, 0, 0, 0) := by decide +kernel
theorem fi_146_77 : am_find 146 77 = some (.aload_n 0, 1, 0, 0, 0) := by decide +kernel
theorem fi_146_78 : am_find 146 78 = some (.getfield 7, 3, 10, 1, 101) := by decide +kernel
theorem fi_146_81 : am_find 146 81 = some (.sipush 146, 3, 0, 146, 0) := by decide +kernel
theorem fi_146_84 : am_find 146 84 = some (.iload_n 1, 1, 0, 0, 0) := by decide +kernel
theorem fi_146_85 : am_find 146 85 = some (.iadd, 1, 0, 0, 0) := by decide +kernel
theorem fi_146_86 : am_find 146 86 = some (.iaload, 1, 0, 0, 0) := by decide +kernel
theorem fi_146_87 : am_find 146 87 = some (.ireturn, 1, 0, 0, 0) := by decide +kernel
theorem fi_146_88 : am_find 146 88 = some (.iconst (-1), 1, 0, (-1), 0) := by decide +kernel
theorem fi_146_89 : am_find 146 89 = some (.ireturn, 1, 0, 0, 0) := by decide +kernel
theorem b146_0 {d L : Nat} {σ : St} {Q : Option AV → AW → Prop} {x1 : Int} {u2 : AV} : R (d + 1) 146 0 [vR 153, vI x1, u2] [] (WS L σ) Q = R d 147 0 [vR 153, vI x1] [] (WS L σ) (fun r w => R (d + 1) 146 5 [vR 153, vI x1, u2] (am_push r []) w Q) := K_aload_n fi_146_0 rfl <| K_iload_n fi_146_1 rfl <| R_invV fi_146_2 (am_invV_of rfl (kd_153) (Nat.le_of_ble_eq_true rfl) (Nat.le_of_ble_eq_true rfl) rfl rfl)
theorem b146_5 {d L : Nat} {σ : St} {Q : Option AV → AW → Prop} {y0 : Int} {u0 u1 u2 : AV} : R d 146 5 [u0, u1, u2] [vI y0] (WS L σ) Q = if ¬ y0 = 0 then R d 146 10 [u0, u1, u2] [] (WS L σ) Q else R d 146 8 [u0, u1, u2] [] (WS L σ) Q := R_if_ne fi_146_5 rfl
theorem b146_8 {d L : Nat} {σ : St} {Q : Option AV → AW → Prop} {u0 u1 u2 : AV} : R d 146 8 [u0, u1, u2] [] (WS L σ) Q = Q (some (vI (-1))) (WS L σ) := K_iconst fi_146_8 <| R_ireti fi_146_9 rfl
theorem sw146_10 {d L : Nat} {σ : St} {Q : Option AV → AW → Prop} {x : Int} {ls st : List AV} : R d 146 11 ls (vI x :: st) (WS L σ) Q = if x = 0 then R d 146 36 ls st (WS L σ) Q else if x = 1 then R d 146 47 ls st (WS L σ) Q else if x = 2 then R d 146 58 ls st (WS L σ) Q else R d 146 88 ls st (WS L σ) Q := by
  by_cases h0 : x = 0
  · subst h0; exact (R_tsw (t := 36) fi_146_11 rfl).trans (by simp)
  by_cases h1 : x = 1
  · subst h1; exact (R_tsw (t := 47) fi_146_11 rfl).trans (by simp)
  by_cases h2 : x = 2
  · subst h2; exact (R_tsw (t := 58) fi_146_11 rfl).trans (by simp)
  rw [R_tsw (t := 88) fi_146_11 (by show (if x < 0 ∨ 2 < x then _ else _) = _; rw [if_pos (by omega)]; rfl)]
  rw [if_neg h0, if_neg h1, if_neg h2]
theorem b146_10 {d L : Nat} {σ : St} {Q : Option AV → AW → Prop} {x2 : Int} {u0 u1 : AV} : R d 146 10 [u0, u1, vI x2] [] (WS L σ) Q = if x2 = 0 then R d 146 36 [u0, u1, vI x2] [] (WS L σ) Q else if x2 = 1 then R d 146 47 [u0, u1, vI x2] [] (WS L σ) Q else if x2 = 2 then R d 146 58 [u0, u1, vI x2] [] (WS L σ) Q else R d 146 88 [u0, u1, vI x2] [] (WS L σ) Q := K_iload_n fi_146_10 rfl <| sw146_10
theorem b146_36 {d L : Nat} {σ : St} {Q : Option AV → AW → Prop} {x1 : Int} {u2 : AV} (h1 : -2147483648 ≤ 130 + x1 ∧ 130 + x1 ≤ 2147483647) (h2 : 0 ≤ 130 + x1) (h3 : (130 + x1) < 1580) : R d 146 36 [vR 153, vI x1, u2] [] (WS L σ) Q = Q (some (vI (σ 154 (130 + x1)))) (WS L σ) := K_aload_n fi_146_36 rfl <| K_gf fi_146_37 kd_153 mk_153_1 <| K_sipush fi_146_40 <| K_iload_n fi_146_43 rfl <| K_iaddx fi_146_44 h1 <| K_ia fi_146_45 kd_154 h2 h3 <| R_ireti fi_146_46 rfl
theorem b146_47 {d L : Nat} {σ : St} {Q : Option AV → AW → Prop} {x1 : Int} {u2 : AV} (h1 : -2147483648 ≤ 138 + x1 ∧ 138 + x1 ≤ 2147483647) (h2 : 0 ≤ 138 + x1) (h3 : (138 + x1) < 1580) : R d 146 47 [vR 153, vI x1, u2] [] (WS L σ) Q = Q (some (vI (σ 154 (138 + x1)))) (WS L σ) := K_aload_n fi_146_47 rfl <| K_gf fi_146_48 kd_153 mk_153_1 <| K_sipush fi_146_51 <| K_iload_n fi_146_54 rfl <| K_iaddx fi_146_55 h1 <| K_ia fi_146_56 kd_154 h2 h3 <| R_ireti fi_146_57 rfl
theorem b146_58 {d L : Nat} {σ : St} {Q : Option AV → AW → Prop} {x1 : Int} {u2 : AV} (h1 : -2147483648 ≤ 146 + x1 ∧ 146 + x1 ≤ 2147483647) (h2 : 0 ≤ 146 + x1) (h3 : (146 + x1) < 1580) : R d 146 58 [vR 153, vI x1, u2] [] (WS L σ) Q = if ¬ (σ 154 (146 + x1)) = (-1) then R d 146 77 [vR 153, vI x1, u2] [] (WS L σ) Q else R d 146 72 [vR 153, vI x1, u2] [] (WS L σ) Q := K_aload_n fi_146_58 rfl <| K_gf fi_146_59 kd_153 mk_153_1 <| K_sipush fi_146_62 <| K_iload_n fi_146_65 rfl <| K_iaddx fi_146_66 h1 <| K_ia fi_146_67 kd_154 h2 h3 <| K_iconst fi_146_68 <| R_icmp_ne fi_146_69 rfl
theorem b146_72 {d L : Nat} {σ : St} {Q : Option AV → AW → Prop} {u0 u1 u2 : AV} : R d 146 72 [u0, u1, u2] [] (WS L σ) Q = R d 146 87 [u0, u1, u2] [vI (-5)] (WS L σ) Q := K_bipush fi_146_72 <| R_goto fi_146_74 rfl
theorem b146_77 {d L : Nat} {σ : St} {Q : Option AV → AW → Prop} {x1 : Int} {u2 : AV} (h1 : -2147483648 ≤ 146 + x1 ∧ 146 + x1 ≤ 2147483647) (h2 : 0 ≤ 146 + x1) (h3 : (146 + x1) < 1580) : R d 146 77 [vR 153, vI x1, u2] [] (WS L σ) Q = R d 146 87 [vR 153, vI x1, u2] [vI (σ 154 (146 + x1))] (WS L σ) Q := K_aload_n fi_146_77 rfl <| K_gf fi_146_78 kd_153 mk_153_1 <| K_sipush fi_146_81 <| K_iload_n fi_146_84 rfl <| K_iaddx fi_146_85 h1 <| K_ia fi_146_86 kd_154 h2 h3 <| rfl
theorem b146_87 {d L : Nat} {σ : St} {Q : Option AV → AW → Prop} {y0 : Int} {u0 u1 u2 : AV} : R d 146 87 [u0, u1, u2] [vI y0] (WS L σ) Q = Q (some (vI y0)) (WS L σ) := R_ireti fi_146_87 rfl
theorem b146_88 {d L : Nat} {σ : St} {Q : Option AV → AW → Prop} {u0 u1 u2 : AV} : R d 146 88 [u0, u1, u2] [] (WS L σ) Q = Q (some (vI (-1))) (WS L σ) := K_iconst fi_146_88 <| R_ireti fi_146_89 rfl
theorem fi_147_0 : am_find 147 0 = some (.iload_n 1, 1, 0, 0, 0) := by decide +kernel
theorem fi_147_1 : am_find 147 1 = some (.iconst 0, 1, 0, 0, 0) := by decide +kernel
theorem fi_147_2 : am_find 147 2 = some (.aload_n 0, 1, 0, 0, 0) := by decide +kernel
theorem fi_147_3 : am_find 147 3 = some (.getfield 7, 3, 10, 1, 101) := by decide +kernel
theorem fi_147_6 : am_find 147 6 = some (.iconst 0, 1, 0, 0, 0) := by decide +kernel
theorem fi_147_7 : am_find 147 7 = some (.iaload, 1, 0, 0, 0) := by decide +kernel
theorem fi_147_8 : am_find 147 8 = some (.iconst 1, 1, 0, 1, 0) := by decide +kernel
theorem fi_147_9 : am_find 147 9 = some (.isub, 1, 0, 0, 0) := by decide +kernel
theorem fi_147_10 : am_find 147 10 = some (.invokestatic 49, 3, 145, 3, 170) := by decide +kernel
theorem fi_147_13 : am_find 147 13 = some (.ireturn, 1, 1, 0, 0) := by decide +kernel
theorem b147_0 {d L : Nat} {σ : St} {Q : Option AV → AW → Prop} {x1 : Int} (h1 : -2147483648 ≤ (σ 154 0) - 1 ∧ (σ 154 0) - 1 ≤ 2147483647) : R (d + 1) 147 0 [vR 153, vI x1] [] (WS L σ) Q = R d 145 0 [vI x1, vI 0, vI ((σ 154 0) - 1)] [] (WS L σ) (fun r w => R (d + 1) 147 13 [vR 153, vI x1] (am_push r []) w Q) := K_iload_n fi_147_0 rfl <| K_iconst fi_147_1 <| K_aload_n fi_147_2 rfl <| K_gf fi_147_3 kd_153 mk_153_1 <| K_iconst fi_147_6 <| K_ia fi_147_7 kd_154 (by decide) (show (0 : Int) < 1580 by decide) <| K_iconst fi_147_8 <| K_isubx fi_147_9 h1 <| R_invS fi_147_10 (by decide) (am_invS_of (Nat.le_of_ble_eq_true rfl) rfl (Nat.le_of_ble_eq_true rfl) (Nat.le_of_ble_eq_true rfl) rfl rfl)
theorem b147_13 {d L : Nat} {σ : St} {Q : Option AV → AW → Prop} {y0 : Int} {u0 u1 : AV} (h1 : am_rfit 1 y0 = true) : R d 147 13 [u0, u1] [vI y0] (WS L σ) Q = Q (some (vI y0)) (WS L σ) := R_ireti fi_147_13 h1
theorem fi_148_0 : am_find 148 0 = some (.iload_n 1, 1, 0, 0, 0) := by decide +kernel
theorem fi_148_1 : am_find 148 1 = some (.iconst 2, 1, 0, 2, 0) := by decide +kernel
theorem fi_148_2 : am_find 148 2 = some (.iconst 3, 1, 0, 3, 0) := by decide +kernel
theorem fi_148_3 : am_find 148 3 = some (.invokestatic 49, 3, 145, 3, 170) := by decide +kernel
theorem fi_148_6 : am_find 148 6 = some (.ifCond .ne 6, 3, 0, 0, 0) := by decide +kernel
theorem fi_148_9 : am_find 148 9 = some (.bipush (-2), 2, 0, (-2), 0) := by decide +kernel
theorem fi_148_11 : am_find 148 11 = some (.ireturn, 1, 0, 0, 0) := by decide +kernel
theorem fi_148_12 : am_find 148 12 = some (.aload_n 0, 1, 0, 0, 0) := by decide +kernel
theorem fi_148_13 : am_find 148 13 = some (.getfield 7, 3, 10, 1, 101) := by decide +kernel
theorem fi_148_16 : am_find 148 16 = some (.iconst 2, 1, 0, 2, 0) := by decide +kernel
theorem fi_148_17 : am_find 148 17 = some (.iaload, 1, 0, 0, 0) := by decide +kernel
theorem fi_148_18 : am_find 148 18 = some (.istore_n 2, 1, 0, 0, 0) := by decide +kernel
theorem fi_148_19 : am_find 148 19 = some (.aload_n 0, 1, 0, 0, 0) := by decide +kernel
theorem fi_148_20 : am_find 148 20 = some (.getfield 7, 3, 10, 1, 101) := by decide +kernel
theorem fi_148_23 : am_find 148 23 = some (.iconst 2, 1, 0, 2, 0) := by decide +kernel
theorem fi_148_24 : am_find 148 24 = some (.iload_n 1, 1, 0, 0, 0) := by decide +kernel
theorem fi_148_25 : am_find 148 25 = some (.iastore, 1, 0, 0, 0) := by decide +kernel
theorem fi_148_26 : am_find 148 26 = some (.aload_n 0, 1, 0, 0, 0) := by decide +kernel
theorem fi_148_27 : am_find 148 27 = some (.invokevirtual 57, 3, 149, 0, 172) := by decide +kernel
theorem fi_148_30 : am_find 148 30 = some (.iload_n 2, 1, 0, 0, 0) := by decide +kernel
theorem fi_148_31 : am_find 148 31 = some (.ireturn, 1, 0, 0, 0) := by decide +kernel
theorem b148_0 {d L : Nat} {σ : St} {Q : Option AV → AW → Prop} {x1 : Int} {u0 u2 : AV} : R (d + 1) 148 0 [u0, vI x1, u2] [] (WS L σ) Q = R d 145 0 [vI x1, vI 2, vI 3] [] (WS L σ) (fun r w => R (d + 1) 148 6 [u0, vI x1, u2] (am_push r []) w Q) := K_iload_n fi_148_0 rfl <| K_iconst fi_148_1 <| K_iconst fi_148_2 <| R_invS fi_148_3 (by decide) (am_invS_of (Nat.le_of_ble_eq_true rfl) rfl (Nat.le_of_ble_eq_true rfl) (Nat.le_of_ble_eq_true rfl) rfl rfl)
theorem b148_6 {d L : Nat} {σ : St} {Q : Option AV → AW → Prop} {y0 : Int} {u0 u1 u2 : AV} : R d 148 6 [u0, u1, u2] [vI y0] (WS L σ) Q = if ¬ y0 = 0 then R d 148 12 [u0, u1, u2] [] (WS L σ) Q else R d 148 9 [u0, u1, u2] [] (WS L σ) Q := R_if_ne fi_148_6 rfl
theorem b148_9 {d L : Nat} {σ : St} {Q : Option AV → AW → Prop} {u0 u1 u2 : AV} : R d 148 9 [u0, u1, u2] [] (WS L σ) Q = Q (some (vI (-2))) (WS L σ) := K_bipush fi_148_9 <| R_ireti fi_148_11 rfl
theorem b148_12 {d L : Nat} {σ : St} {Q : Option AV → AW → Prop} {x1 : Int} {u2 : AV} : R d 148 12 [vR 153, vI x1, u2] [] (WS L σ) Q = R d 148 26 [vR 153, vI x1, vI (σ 154 2)] [] (WS L (st2 σ 154 2 x1)) Q := K_aload_n fi_148_12 rfl <| K_gf fi_148_13 kd_153 mk_153_1 <| K_iconst fi_148_16 <| K_ia fi_148_17 kd_154 (by decide) (show (2 : Int) < 1580 by decide) <| K_istore_n fi_148_18 (Nat.le_of_ble_eq_true rfl) rfl rfl <| K_aload_n fi_148_19 rfl <| K_gf fi_148_20 kd_153 mk_153_1 <| K_iconst fi_148_23 <| K_iload_n fi_148_24 rfl <| K_is fi_148_25 kd_154 (by decide) (show (2 : Int) < 1580 by decide) <| rfl
theorem b148_26 {d L : Nat} {σ : St} {Q : Option AV → AW → Prop} {u1 u2 : AV} : R (d + 1) 148 26 [vR 153, u1, u2] [] (WS L σ) Q = R d 149 0 [vR 153, vX 9] [] (WS L σ) (fun r w => R (d + 1) 148 30 [vR 153, u1, u2] (am_push r []) w Q) := K_aload_n fi_148_26 rfl <| R_invV fi_148_27 (am_invV_of rfl (kd_153) (Nat.le_of_ble_eq_true rfl) (Nat.le_of_ble_eq_true rfl) rfl rfl)
theorem b148_30 {d L : Nat} {σ : St} {Q : Option AV → AW → Prop} {x2 : Int} {u0 u1 : AV} : R d 148 30 [u0, u1, vI x2] [] (WS L σ) Q = Q (some (vI x2)) (WS L σ) := K_iload_n fi_148_30 rfl <| R_ireti fi_148_31 rfl
theorem fi_149_0 : am_find 149 0 = some (.iconst 0, 1, 0, 0, 0) := by decide +kernel
theorem fi_149_1 : am_find 149 1 = some (.istore_n 1, 1, 0, 0, 0) := by decide +kernel
theorem fi_149_2 : am_find 149 2 = some (.iload_n 1, 1, 0, 0, 0) := by decide +kernel
theorem fi_149_3 : am_find 149 3 = some (.bipush 8, 2, 0, 8, 0) := by decide +kernel
theorem fi_149_5 : am_find 149 5 = some (.if_icmp .ge 20, 3, 0, 0, 0) := by decide +kernel
theorem fi_149_8 : am_find 149 8 = some (.aload_n 0, 1, 0, 0, 0) := by decide +kernel
theorem fi_149_9 : am_find 149 9 = some (.getfield 7, 3, 10, 1, 101) := by decide +kernel
theorem fi_149_12 : am_find 149 12 = some (.sipush 203, 3, 0, 203, 0) := by decide +kernel
theorem fi_149_15 : am_find 149 15 = some (.iload_n 1, 1, 0, 0, 0) := by decide +kernel
theorem fi_149_16 : am_find 149 16 = some (.iadd, 1, 0, 0, 0) := by decide +kernel
theorem fi_149_17 : am_find 149 17 = some (.iconst (-1), 1, 0, (-1), 0) := by decide +kernel
theorem fi_149_18 : am_find 149 18 = some (.iastore, 1, 0, 0, 0) := by decide +kernel
theorem fi_149_19 : am_find 149 19 = some (.iinc 1 1, 3, 0, 0, 0) := by decide +kernel
theorem fi_149_22 : am_find 149 22 = some (.goto (-20), 3, 0, 0, 0) := by decide +kernel
theorem fi_149_25 : am_find 149 25 = some (.return_, 1, 0, 0, 0) := by decide +kernel
theorem b149_0 {d L : Nat} {σ : St} {Q : Option AV → AW → Prop} {u0 u1 : AV} : R d 149 0 [u0, u1] [] (WS L σ) Q = R d 149 2 [u0, vI 0] [] (WS L σ) Q := K_iconst fi_149_0 <| K_istore_n fi_149_1 (Nat.le_of_ble_eq_true rfl) rfl rfl <| rfl
theorem b149_2 {d L : Nat} {σ : St} {Q : Option AV → AW → Prop} {x1 : Int} {u0 : AV} : R d 149 2 [u0, vI x1] [] (WS L σ) Q = if 8 ≤ x1 then R d 149 25 [u0, vI x1] [] (WS L σ) Q else R d 149 8 [u0, vI x1] [] (WS L σ) Q := K_iload_n fi_149_2 rfl <| K_bipush fi_149_3 <| R_icmp_ge fi_149_5 rfl
theorem b149_8 {d L : Nat} {σ : St} {Q : Option AV → AW → Prop} {x1 : Int} (h1 : -2147483648 ≤ 203 + x1 ∧ 203 + x1 ≤ 2147483647) (h2 : 0 ≤ 203 + x1) (h3 : (203 + x1) < 1580) : R d 149 8 [vR 153, vI x1] [] (WS L σ) Q = R d 149 19 [vR 153, vI x1] [] (WS L (st2 σ 154 (203 + x1) (-1))) Q := K_aload_n fi_149_8 rfl <| K_gf fi_149_9 kd_153 mk_153_1 <| K_sipush fi_149_12 <| K_iload_n fi_149_15 rfl <| K_iaddx fi_149_16 h1 <| K_iconst fi_149_17 <| K_is fi_149_18 kd_154 h2 h3 <| rfl
theorem b149_19 {d L : Nat} {σ : St} {Q : Option AV → AW → Prop} {x1 : Int} {u0 : AV} (h1 : -2147483648 ≤ x1 + 1 ∧ x1 + 1 ≤ 2147483647) : R d 149 19 [u0, vI x1] [] (WS L σ) Q = R d 149 2 [u0, vI (x1 + 1)] [] (WS L σ) Q := K_iincx fi_149_19 rfl (Nat.le_of_ble_eq_true rfl) rfl h1 rfl <| R_goto fi_149_22 rfl
theorem b149_25 {d L : Nat} {σ : St} {Q : Option AV → AW → Prop} {u0 u1 : AV} : R d 149 25 [u0, u1] [] (WS L σ) Q = Q none (WS L σ) := R_return fi_149_25
theorem fi_150_0 : am_find 150 0 = some (.iload_n 3, 1, 0, 0, 0) := by decide +kernel
theorem fi_150_1 : am_find 150 1 = some (.iconst 1, 1, 0, 1, 0) := by decide +kernel
theorem fi_150_2 : am_find 150 2 = some (.bipush 8, 2, 0, 8, 0) := by decide +kernel
theorem fi_150_4 : am_find 150 4 = some (.invokestatic 49, 3, 145, 3, 170) := by decide +kernel
theorem fi_150_7 : am_find 150 7 = some (.ifCond .ne 6, 3, 0, 0, 0) := by decide +kernel
theorem fi_150_10 : am_find 150 10 = some (.bipush (-2), 2, 0, (-2), 0) := by decide +kernel
theorem fi_150_12 : am_find 150 12 = some (.ireturn, 1, 0, 0, 0) := by decide +kernel
theorem fi_150_13 : am_find 150 13 = some (.aload_n 0, 1, 0, 0, 0) := by decide +kernel
theorem fi_150_14 : am_find 150 14 = some (.getfield 7, 3, 10, 1, 101) := by decide +kernel
theorem fi_150_17 : am_find 150 17 = some (.bipush 7, 2, 0, 7, 0) := by decide +kernel
theorem fi_150_19 : am_find 150 19 = some (.iaload, 1, 0, 0, 0) := by decide +kernel
theorem fi_150_20 : am_find 150 20 = some (.iload_n 3, 1, 0, 0, 0) := by decide +kernel
theorem fi_150_21 : am_find 150 21 = some (.iadd, 1, 0, 0, 0) := by decide +kernel
theorem fi_150_22 : am_find 150 22 = some (.bipush 120, 2, 0, 120, 0) := by decide +kernel
theorem fi_150_24 : am_find 150 24 = some (.if_icmp .le 6, 3, 0, 0, 0) := by decide +kernel
theorem fi_150_27 : am_find 150 27 = some (.bipush (-4), 2, 0, (-4), 0) := by decide +kernel
theorem fi_150_29 : am_find 150 29 = some (.ireturn, 1, 0, 0, 0) := by decide +kernel
theorem fi_150_30 : am_find 150 30 = some (.iload_n 3, 1, 0, 0, 0) := by decide +kernel
theorem fi_150_31 : am_find 150 31 = some (.iconst 1, 1, 0, 1, 0) := by decide +kernel
theorem fi_150_32 : am_find 150 32 = some (.isub, 1, 0, 0, 0) := by decide +kernel
theorem fi_150_33 : am_find 150 33 = some (.istore 4, 2, 0, 0, 0) := by decide +kernel
theorem fi_150_35 : am_find 150 35 = some (.iload 4, 2, 0, 0, 0) := by decide +kernel
theorem fi_150_37 : am_find 150 37 = some (.ifCond .lt 47, 3, 0, 0, 0) := by decide +kernel
theorem fi_150_40 : am_find 150 40 = some (.aload_n 0, 1, 0, 0, 0) := by decide +kernel
theorem fi_150_41 : am_find 150 41 = some (.getfield 7, 3, 10, 1, 101) := by decide +kernel
theorem fi_150_44 : am_find 150 44 = some (.bipush 10, 2, 0, 10, 0) := by decide +kernel
theorem fi_150_46 : am_find 150 46 = some (.aload_n 0, 1, 0, 0, 0) := by decide +kernel
theorem fi_150_47 : am_find 150 47 = some (.getfield 7, 3, 10, 1, 101) := by decide +kernel
theorem fi_150_50 : am_find 150 50 = some (.bipush 7, 2, 0, 7, 0) := by decide +kernel
theorem fi_150_52 : am_find 150 52 = some (.iaload, 1, 0, 0, 0) := by decide +kernel
theorem fi_150_53 : am_find 150 53 = some (.iadd, 1, 0, 0, 0) := by decide +kernel
theorem fi_150_54 : am_find 150 54 = some (.lload_n 1, 1, 0, 0, 0) := by decide +kernel
theorem fi_150_55 : am_find 150 55 = some (.bipush 8, 2, 0, 8, 0) := by decide +kernel
theorem fi_150_57 : am_find 150 57 = some (.iload 4, 2, 0, 0, 0) := by decide +kernel
theorem fi_150_59 : am_find 150 59 = some (.imul, 1, 0, 0, 0) := by decide +kernel
theorem fi_150_60 : am_find 150 60 = some (.lshr, 1, 0, 0, 0) := by decide +kernel
theorem fi_150_61 : am_find 150 61 = some (.ldc2_w 60, 3, 0, 255, 1162) := by decide +kernel
theorem fi_150_64 : am_find 150 64 = some (.land, 1, 0, 0, 0) := by decide +kernel
theorem fi_150_65 : am_find 150 65 = some (.l2i, 1, 0, 0, 0) := by decide +kernel
theorem fi_150_66 : am_find 150 66 = some (.iastore, 1, 0, 0, 0) := by decide +kernel
theorem fi_150_67 : am_find 150 67 = some (.aload_n 0, 1, 0, 0, 0) := by decide +kernel
theorem fi_150_68 : am_find 150 68 = some (.getfield 7, 3, 10, 1, 101) := by decide +kernel
theorem fi_150_71 : am_find 150 71 = some (.bipush 7, 2, 0, 7, 0) := by decide +kernel
theorem fi_150_73 : am_find 150 73 = some (.dup2, 1, 0, 0, 0) := by decide +kernel
theorem fi_150_74 : am_find 150 74 = some (.iaload, 1, 0, 0, 0) := by decide +kernel
theorem fi_150_75 : am_find 150 75 = some (.iconst 1, 1, 0, 1, 0) := by decide +kernel
theorem fi_150_76 : am_find 150 76 = some (.iadd, 1, 0, 0, 0) := by decide +kernel
theorem fi_150_77 : am_find 150 77 = some (.iastore, 1, 0, 0, 0) := by decide +kernel
theorem fi_150_78 : am_find 150 78 = some (.iinc 4 (-1), 3, 0, 0, 0) := by decide +kernel
theorem fi_150_81 : am_find 150 81 = some (.goto (-46), 3, 0, 0, 0) := by decide +kernel
theorem fi_150_84 : am_find 150 84 = some (.aload_n 0, 1, 0, 0, 0) := by decide +kernel
theorem fi_150_85 : am_find 150 85 = some (.getfield 7, 3, 10, 1, 101) := by decide +kernel
theorem fi_150_88 : am_find 150 88 = some (.bipush 7, 2, 0, 7, 0) := by decide +kernel
theorem fi_150_90 : am_find 150 90 = some (.iaload, 1, 0, 0, 0) := by decide +kernel
theorem fi_150_91 : am_find 150 91 = some (.ireturn, 1, 0, 0, 0) := by decide +kernel
theorem b150_0 {d L : Nat} {σ : St} {Q : Option AV → AW → Prop} {x3 : Int} {u0 u1 u2 u4 : AV} : R (d + 1) 150 0 [u0, u1, u2, vI x3, u4] [] (WS L σ) Q = R d 145 0 [vI x3, vI 1, vI 8] [] (WS L σ) (fun r w => R (d + 1) 150 7 [u0, u1, u2, vI x3, u4] (am_push r []) w Q) := K_iload_n fi_150_0 rfl <| K_iconst fi_150_1 <| K_bipush fi_150_2 <| R_invS fi_150_4 (by decide) (am_invS_of (Nat.le_of_ble_eq_true rfl) rfl (Nat.le_of_ble_eq_true rfl) (Nat.le_of_ble_eq_true rfl) rfl rfl)
theorem b150_7 {d L : Nat} {σ : St} {Q : Option AV → AW → Prop} {y0 : Int} {u0 u1 u2 u3 u4 : AV} : R d 150 7 [u0, u1, u2, u3, u4] [vI y0] (WS L σ) Q = if ¬ y0 = 0 then R d 150 13 [u0, u1, u2, u3, u4] [] (WS L σ) Q else R d 150 10 [u0, u1, u2, u3, u4] [] (WS L σ) Q := R_if_ne fi_150_7 rfl
theorem b150_10 {d L : Nat} {σ : St} {Q : Option AV → AW → Prop} {u0 u1 u2 u3 u4 : AV} : R d 150 10 [u0, u1, u2, u3, u4] [] (WS L σ) Q = Q (some (vI (-2))) (WS L σ) := K_bipush fi_150_10 <| R_ireti fi_150_12 rfl
theorem b150_13 {d L : Nat} {σ : St} {Q : Option AV → AW → Prop} {x3 : Int} {u1 u2 u4 : AV} (h1 : -2147483648 ≤ (σ 154 7) + x3 ∧ (σ 154 7) + x3 ≤ 2147483647) : R d 150 13 [vR 153, u1, u2, vI x3, u4] [] (WS L σ) Q = if ((σ 154 7) + x3) ≤ 120 then R d 150 30 [vR 153, u1, u2, vI x3, u4] [] (WS L σ) Q else R d 150 27 [vR 153, u1, u2, vI x3, u4] [] (WS L σ) Q := K_aload_n fi_150_13 rfl <| K_gf fi_150_14 kd_153 mk_153_1 <| K_bipush fi_150_17 <| K_ia fi_150_19 kd_154 (by decide) (show (7 : Int) < 1580 by decide) <| K_iload_n fi_150_20 rfl <| K_iaddx fi_150_21 h1 <| K_bipush fi_150_22 <| R_icmp_le fi_150_24 rfl
theorem b150_27 {d L : Nat} {σ : St} {Q : Option AV → AW → Prop} {u0 u1 u2 u3 u4 : AV} : R d 150 27 [u0, u1, u2, u3, u4] [] (WS L σ) Q = Q (some (vI (-4))) (WS L σ) := K_bipush fi_150_27 <| R_ireti fi_150_29 rfl
theorem b150_30 {d L : Nat} {σ : St} {Q : Option AV → AW → Prop} {x3 : Int} {u0 u1 u2 u4 : AV} (h1 : -2147483648 ≤ x3 - 1 ∧ x3 - 1 ≤ 2147483647) : R d 150 30 [u0, u1, u2, vI x3, u4] [] (WS L σ) Q = R d 150 35 [u0, u1, u2, vI x3, vI (x3 - 1)] [] (WS L σ) Q := K_iload_n fi_150_30 rfl <| K_iconst fi_150_31 <| K_isubx fi_150_32 h1 <| K_istore fi_150_33 (Nat.le_of_ble_eq_true rfl) rfl rfl <| rfl
theorem b150_35 {d L : Nat} {σ : St} {Q : Option AV → AW → Prop} {x4 : Int} {u0 u1 u2 u3 : AV} : R d 150 35 [u0, u1, u2, u3, vI x4] [] (WS L σ) Q = if x4 < 0 then R d 150 84 [u0, u1, u2, u3, vI x4] [] (WS L σ) Q else R d 150 40 [u0, u1, u2, u3, vI x4] [] (WS L σ) Q := K_iload fi_150_35 rfl <| R_if_lt fi_150_37 rfl
theorem b150_40 {d L : Nat} {σ : St} {Q : Option AV → AW → Prop} {x4 : Int} {x1 : Int64} {u2 u3 : AV} (h1 : -2147483648 ≤ 10 + (σ 154 7) ∧ 10 + (σ 154 7) ≤ 2147483647) (h2 : -2147483648 ≤ 8 * x4 ∧ 8 * x4 ≤ 2147483647) (h3 : 0 ≤ 10 + (σ 154 7)) (h4 : (10 + (σ 154 7)) < 1580) : R d 150 40 [vR 153, vL x1, u2, u3, vI x4] [] (WS L σ) Q = R d 150 67 [vR 153, vL x1, u2, u3, vI x4] [] (WS L (st2 σ 154 (10 + (σ 154 7)) (l_i ((l_shr x1 (8 * x4)) &&& (Int64.ofInt 255))))) Q := K_aload_n fi_150_40 rfl <| K_gf fi_150_41 kd_153 mk_153_1 <| K_bipush fi_150_44 <| K_aload_n fi_150_46 rfl <| K_gf fi_150_47 kd_153 mk_153_1 <| K_bipush fi_150_50 <| K_ia fi_150_52 kd_154 (by decide) (show (7 : Int) < 1580 by decide) <| K_iaddx fi_150_53 h1 <| K_lload_n fi_150_54 rfl <| K_bipush fi_150_55 <| K_iload fi_150_57 rfl <| K_imulx fi_150_59 h2 <| K_lshr fi_150_60 <| K_ldc2 fi_150_61 <| K_land fi_150_64 <| K_l2i fi_150_65 <| K_is fi_150_66 kd_154 h3 h4 <| rfl
theorem b150_67 {d L : Nat} {σ : St} {Q : Option AV → AW → Prop} {u1 u2 u3 u4 : AV} (h1 : -2147483648 ≤ (σ 154 7) + 1 ∧ (σ 154 7) + 1 ≤ 2147483647) : R d 150 67 [vR 153, u1, u2, u3, u4] [] (WS L σ) Q = R d 150 78 [vR 153, u1, u2, u3, u4] [] (WS L (st2 σ 154 7 ((σ 154 7) + 1))) Q := K_aload_n fi_150_67 rfl <| K_gf fi_150_68 kd_153 mk_153_1 <| K_bipush fi_150_71 <| K_dup2 fi_150_73 <| K_ia fi_150_74 kd_154 (by decide) (show (7 : Int) < 1580 by decide) <| K_iconst fi_150_75 <| K_iaddx fi_150_76 h1 <| K_is fi_150_77 kd_154 (by decide) (show (7 : Int) < 1580 by decide) <| rfl
theorem b150_78 {d L : Nat} {σ : St} {Q : Option AV → AW → Prop} {x4 : Int} {u0 u1 u2 u3 : AV} (h1 : -2147483648 ≤ x4 + (-1) ∧ x4 + (-1) ≤ 2147483647) : R d 150 78 [u0, u1, u2, u3, vI x4] [] (WS L σ) Q = R d 150 35 [u0, u1, u2, u3, vI (x4 + (-1))] [] (WS L σ) Q := K_iincx fi_150_78 rfl (Nat.le_of_ble_eq_true rfl) rfl h1 rfl <| R_goto fi_150_81 rfl
theorem b150_84 {d L : Nat} {σ : St} {Q : Option AV → AW → Prop} {u1 u2 u3 u4 : AV} : R d 150 84 [vR 153, u1, u2, u3, u4] [] (WS L σ) Q = Q (some (vI (σ 154 7))) (WS L σ) := K_aload_n fi_150_84 rfl <| K_gf fi_150_85 kd_153 mk_153_1 <| K_bipush fi_150_88 <| K_ia fi_150_90 kd_154 (by decide) (show (7 : Int) < 1580 by decide) <| R_ireti fi_150_91 rfl
theorem fi_151_0 : am_find 151 0 = some (.aload_n 0, 1, 0, 0, 0) := by decide +kernel
theorem fi_151_1 : am_find 151 1 = some (.getfield 7, 3, 10, 1, 101) := by decide +kernel
theorem fi_151_4 : am_find 151 4 = some (.iconst 1, 1, 0, 1, 0) := by decide +kernel
theorem fi_151_5 : am_find 151 5 = some (.iaload, 1, 0, 0, 0) := by decide +kernel
theorem fi_151_6 : am_find 151 6 = some (.bipush 6, 2, 0, 6, 0) := by decide +kernel
theorem fi_151_8 : am_find 151 8 = some (.if_icmp .ne 6, 3, 0, 0, 0) := by decide +kernel
theorem fi_151_11 : am_find 151 11 = some (.bipush (-4), 2, 0, (-4), 0) := by decide +kernel
theorem fi_151_13 : am_find 151 13 = some (.ireturn, 1, 0, 0, 0) := by decide +kernel
theorem fi_151_14 : am_find 151 14 = some (.aload_n 0, 1, 0, 0, 0) := by decide +kernel
theorem fi_151_15 : am_find 151 15 = some (.aload_n 0, 1, 0, 0, 0) := by decide +kernel
theorem fi_151_16 : am_find 151 16 = some (.getfield 7, 3, 10, 1, 101) := by decide +kernel
theorem fi_151_19 : am_find 151 19 = some (.iconst 1, 1, 0, 1, 0) := by decide +kernel
theorem fi_151_20 : am_find 151 20 = some (.iaload, 1, 0, 0, 0) := by decide +kernel
theorem fi_151_21 : am_find 151 21 = some (.putfield 89, 3, 10, 4, 112) := by decide +kernel
theorem fi_151_24 : am_find 151 24 = some (.aload_n 0, 1, 0, 0, 0) := by decide +kernel
theorem fi_151_25 : am_find 151 25 = some (.aload_n 0, 1, 0, 0, 0) := by decide +kernel
theorem fi_151_26 : am_find 151 26 = some (.getfield 7, 3, 10, 1, 101) := by decide +kernel
theorem fi_151_29 : am_find 151 29 = some (.bipush 7, 2, 0, 7, 0) := by decide +kernel
theorem fi_151_31 : am_find 151 31 = some (.iaload, 1, 0, 0, 0) := by decide +kernel
theorem fi_151_32 : am_find 151 32 = some (.putfield 65, 3, 10, 6, 113) := by decide +kernel
theorem fi_151_35 : am_find 151 35 = some (.aload_n 0, 1, 0, 0, 0) := by decide +kernel
theorem fi_151_36 : am_find 151 36 = some (.getfield 7, 3, 10, 1, 101) := by decide +kernel
theorem fi_151_39 : am_find 151 39 = some (.bipush 7, 2, 0, 7, 0) := by decide +kernel
theorem fi_151_41 : am_find 151 41 = some (.iconst 0, 1, 0, 0, 0) := by decide +kernel
theorem fi_151_42 : am_find 151 42 = some (.iastore, 1, 0, 0, 0) := by decide +kernel
theorem fi_151_43 : am_find 151 43 = some (.aload_n 0, 1, 0, 0, 0) := by decide +kernel
theorem fi_151_44 : am_find 151 44 = some (.getfield 7, 3, 10, 1, 101) := by decide +kernel
theorem fi_151_47 : am_find 151 47 = some (.sipush 211, 3, 0, 211, 0) := by decide +kernel
theorem fi_151_50 : am_find 151 50 = some (.aload_n 0, 1, 0, 0, 0) := by decide +kernel
theorem fi_151_51 : am_find 151 51 = some (.getfield 89, 3, 10, 4, 112) := by decide +kernel
theorem fi_151_54 : am_find 151 54 = some (.iadd, 1, 0, 0, 0) := by decide +kernel
theorem fi_151_55 : am_find 151 55 = some (.iconst 0, 1, 0, 0, 0) := by decide +kernel
theorem fi_151_56 : am_find 151 56 = some (.iastore, 1, 0, 0, 0) := by decide +kernel
theorem fi_151_57 : am_find 151 57 = some (.aload_n 0, 1, 0, 0, 0) := by decide +kernel
theorem fi_151_58 : am_find 151 58 = some (.getfield 7, 3, 10, 1, 101) := by decide +kernel
theorem fi_151_61 : am_find 151 61 = some (.sipush 397, 3, 0, 397, 0) := by decide +kernel
theorem fi_151_64 : am_find 151 64 = some (.aload_n 0, 1, 0, 0, 0) := by decide +kernel
theorem fi_151_65 : am_find 151 65 = some (.getfield 89, 3, 10, 4, 112) := by decide +kernel
theorem fi_151_68 : am_find 151 68 = some (.iadd, 1, 0, 0, 0) := by decide +kernel
theorem fi_151_69 : am_find 151 69 = some (.iconst 0, 1, 0, 0, 0) := by decide +kernel
theorem fi_151_70 : am_find 151 70 = some (.iastore, 1, 0, 0, 0) := by decide +kernel
theorem fi_151_71 : am_find 151 71 = some (.aload_n 0, 1, 0, 0, 0) := by decide +kernel
theorem fi_151_72 : am_find 151 72 = some (.getfield 7, 3, 10, 1, 101) := by decide +kernel
theorem fi_151_75 : am_find 151 75 = some (.sipush 523, 3, 0, 523, 0) := by decide +kernel
theorem fi_151_78 : am_find 151 78 = some (.aload_n 0, 1, 0, 0, 0) := by decide +kernel
theorem fi_151_79 : am_find 151 79 = some (.getfield 89, 3, 10, 4, 112) := by decide +kernel
theorem fi_151_82 : am_find 151 82 = some (.iadd, 1, 0, 0, 0) := by decide +kernel
theorem fi_151_83 : am_find 151 83 = some (.iconst 0, 1, 0, 0, 0) := by decide +kernel
theorem fi_151_84 : am_find 151 84 = some (.iastore, 1, 0, 0, 0) := by decide +kernel
theorem fi_151_85 : am_find 151 85 = some (.aload_n 0, 1, 0, 0, 0) := by decide +kernel
theorem fi_151_86 : am_find 151 86 = some (.iconst 0, 1, 0, 0, 0) := by decide +kernel
theorem fi_151_87 : am_find 151 87 = some (.putfield 62, 3, 10, 5, 114) := by decide +kernel
theorem fi_151_90 : am_find 151 90 = some (.aload_n 0, 1, 0, 0, 0) := by decide +kernel
theorem fi_151_91 : am_find 151 91 = some (.iconst 0, 1, 0, 0, 0) := by decide +kernel
theorem fi_151_92 : am_find 151 92 = some (.putfield 68, 3, 10, 7, 115) := by decide +kernel
theorem fi_151_95 : am_find 151 95 = some (.aload_n 0, 1, 0, 0, 0) := by decide +kernel
theorem fi_151_96 : am_find 151 96 = some (.iconst 0, 1, 0, 0, 0) := by decide +kernel
theorem fi_151_97 : am_find 151 97 = some (.putfield 92, 3, 10, 8, 116) := by decide +kernel
theorem fi_151_100 : am_find 151 100 = some (.iconst 1, 1, 0, 1, 0) := by decide +kernel
theorem fi_151_101 : am_find 151 101 = some (.istore_n 1, 1, 0, 0, 0) := by decide +kernel
theorem fi_151_102 : am_find 151 102 = some (.aload_n 0, 1, 0, 0, 0) := by decide +kernel
theorem fi_151_103 : am_find 151 103 = some (.invokevirtual 141, 3, 152, 0, 173) := by decide +kernel
theorem fi_151_106 : am_find 151 106 = some (.aload_n 0, 1, 0, 0, 0) := by decide +kernel
theorem fi_151_107 : am_find 151 107 = some (.getfield 68, 3, 10, 7, 115) := by decide +kernel
theorem fi_151_110 : am_find 151 110 = some (.ifCond .ne 38, 3, 0, 0, 0) := by decide +kernel
theorem fi_151_113 : am_find 151 113 = some (.iload_n 1, 1, 0, 0, 0) := by decide +kernel
theorem fi_151_114 : am_find 151 114 = some (.bipush 10, 2, 0, 10, 0) := by decide +kernel
theorem fi_151_116 : am_find 151 116 = some (.if_icmp .ge 32, 3, 0, 0, 0) := by decide +kernel
theorem fi_151_119 : am_find 151 119 = some (.aload_n 0, 1, 0, 0, 0) := by decide +kernel
theorem fi_151_120 : am_find 151 120 = some (.invokevirtual 72, 3, 153, 0, 174) := by decide +kernel
theorem fi_151_123 : am_find 151 123 = some (.bipush 59, 2, 0, 59, 0) := by decide +kernel
theorem fi_151_125 : am_find 151 125 = some (.if_icmp .ne 23, 3, 0, 0, 0) := by decide +kernel
theorem fi_151_128 : am_find 151 128 = some (.aload_n 0, 1, 0, 0, 0) := by decide +kernel
theorem fi_151_129 : am_find 151 129 = some (.dup, 1, 0, 0, 0) := by decide +kernel
theorem fi_151_130 : am_find 151 130 = some (.getfield 62, 3, 10, 5, 114) := by decide +kernel
theorem fi_151_133 : am_find 151 133 = some (.iconst 1, 1, 0, 1, 0) := by decide +kernel
theorem fi_151_134 : am_find 151 134 = some (.iadd, 1, 0, 0, 0) := by decide +kernel
theorem fi_151_135 : am_find 151 135 = some (.putfield 62, 3, 10, 5, 114) := by decide +kernel
theorem fi_151_138 : am_find 151 138 = some (.aload_n 0, 1, 0, 0, 0) := by decide +kernel
theorem fi_151_139 : am_find 151 139 = some (.invokevirtual 141, 3, 152, 0, 173) := by decide +kernel
theorem fi_151_142 : am_find 151 142 = some (.iinc 1 1, 3, 0, 0, 0) := by decide +kernel
theorem fi_151_145 : am_find 151 145 = some (.goto (-39), 3, 0, 0, 0) := by decide +kernel
theorem fi_151_148 : am_find 151 148 = some (.aload_n 0, 1, 0, 0, 0) := by decide +kernel
theorem fi_151_149 : am_find 151 149 = some (.getfield 68, 3, 10, 7, 115) := by decide +kernel
theorem fi_151_152 : am_find 151 152 = some (.ifCond .ne 14, 3, 0, 0, 0) := by decide +kernel
theorem fi_151_155 : am_find 151 155 = some (.aload_n 0, 1, 0, 0, 0) := by decide +kernel
theorem fi_151_156 : am_find 151 156 = some (.getfield 62, 3, 10, 5, 114) := by decide +kernel
theorem fi_151_159 : am_find 151 159 = some (.aload_n 0, 1, 0, 0, 0) := by decide +kernel
theorem fi_151_160 : am_find 151 160 = some (.getfield 65, 3, 10, 6, 113) := by decide +kernel
theorem fi_151_163 : am_find 151 163 = some (.if_icmp .eq 11, 3, 0, 0, 0) := by decide +kernel
theorem fi_151_166 : am_find 151 166 = some (.bipush (-10), 2, 0, (-10), 0) := by decide +kernel
theorem fi_151_168 : am_find 151 168 = some (.aload_n 0, 1, 0, 0, 0) := by decide +kernel
theorem fi_151_169 : am_find 151 169 = some (.getfield 62, 3, 10, 5, 114) := by decide +kernel
theorem fi_151_172 : am_find 151 172 = some (.isub, 1, 0, 0, 0) := by decide +kernel
theorem fi_151_173 : am_find 151 173 = some (.ireturn, 1, 0, 0, 0) := by decide +kernel
theorem fi_151_174 : am_find 151 174 = some (.aload_n 0, 1, 0, 0, 0) := by decide +kernel
theorem fi_151_175 : am_find 151 175 = some (.getfield 7, 3, 10, 1, 101) := by decide +kernel
theorem fi_151_178 : am_find 151 178 = some (.iconst 1, 1, 0, 1, 0) := by decide +kernel
theorem fi_151_179 : am_find 151 179 = some (.dup2, 1, 0, 0, 0) := by decide +kernel
theorem fi_151_180 : am_find 151 180 = some (.iaload, 1, 0, 0, 0) := by decide +kernel
theorem fi_151_181 : am_find 151 181 = some (.iconst 1, 1, 0, 1, 0) := by decide +kernel
theorem fi_151_182 : am_find 151 182 = some (.iadd, 1, 0, 0, 0) := by decide +kernel
theorem fi_151_183 : am_find 151 183 = some (.iastore, 1, 0, 0, 0) := by decide +kernel
theorem fi_151_184 : am_find 151 184 = some (.aload_n 0, 1, 0, 0, 0) := by decide +kernel
theorem fi_151_185 : am_find 151 185 = some (.getfield 89, 3, 10, 4, 112) := by decide +kernel
theorem fi_151_188 : am_find 151 188 = some (.ireturn, 1, 0, 0, 0) := by decide +kernel
theorem b151_0 {d L : Nat} {σ : St} {Q : Option AV → AW → Prop} {u1 : AV} : R d 151 0 [vR 153, u1] [] (WS L σ) Q = if ¬ (σ 154 1) = 6 then R d 151 14 [vR 153, u1] [] (WS L σ) Q else R d 151 11 [vR 153, u1] [] (WS L σ) Q := K_aload_n fi_151_0 rfl <| K_gf fi_151_1 kd_153 mk_153_1 <| K_iconst fi_151_4 <| K_ia fi_151_5 kd_154 (by decide) (show (1 : Int) < 1580 by decide) <| K_bipush fi_151_6 <| R_icmp_ne fi_151_8 rfl
theorem b151_11 {d L : Nat} {σ : St} {Q : Option AV → AW → Prop} {u0 u1 : AV} : R d 151 11 [u0, u1] [] (WS L σ) Q = Q (some (vI (-4))) (WS L σ) := K_bipush fi_151_11 <| R_ireti fi_151_13 rfl
theorem b151_14 {d L : Nat} {σ : St} {Q : Option AV → AW → Prop} {u1 : AV} : R d 151 14 [vR 153, u1] [] (WS L σ) Q = R d 151 24 [vR 153, u1] [] (WS L (st2 σ 153 4 (σ 154 1))) Q := K_aload_n fi_151_14 rfl <| K_aload_n fi_151_15 rfl <| K_gf fi_151_16 kd_153 mk_153_1 <| K_iconst fi_151_19 <| K_ia fi_151_20 kd_154 (by decide) (show (1 : Int) < 1580 by decide) <| K_pf fi_151_21 kd_153 rfl rfl rfl rfl <| rfl
theorem b151_24 {d L : Nat} {σ : St} {Q : Option AV → AW → Prop} {u1 : AV} : R d 151 24 [vR 153, u1] [] (WS L σ) Q = R d 151 35 [vR 153, u1] [] (WS L (st2 σ 153 6 (σ 154 7))) Q := K_aload_n fi_151_24 rfl <| K_aload_n fi_151_25 rfl <| K_gf fi_151_26 kd_153 mk_153_1 <| K_bipush fi_151_29 <| K_ia fi_151_31 kd_154 (by decide) (show (7 : Int) < 1580 by decide) <| K_pf fi_151_32 kd_153 rfl rfl rfl rfl <| rfl
theorem b151_35 {d L : Nat} {σ : St} {Q : Option AV → AW → Prop} {u1 : AV} : R d 151 35 [vR 153, u1] [] (WS L σ) Q = R d 151 43 [vR 153, u1] [] (WS L (st2 σ 154 7 0)) Q := K_aload_n fi_151_35 rfl <| K_gf fi_151_36 kd_153 mk_153_1 <| K_bipush fi_151_39 <| K_iconst fi_151_41 <| K_is fi_151_42 kd_154 (by decide) (show (7 : Int) < 1580 by decide) <| rfl
theorem b151_43 {d L : Nat} {σ : St} {Q : Option AV → AW → Prop} {u1 : AV} (h1 : -2147483648 ≤ 211 + (σ 153 4) ∧ 211 + (σ 153 4) ≤ 2147483647) (h2 : 0 ≤ 211 + (σ 153 4)) (h3 : (211 + (σ 153 4)) < 1580) : R d 151 43 [vR 153, u1] [] (WS L σ) Q = R d 151 57 [vR 153, u1] [] (WS L (st2 σ 154 (211 + (σ 153 4)) 0)) Q := K_aload_n fi_151_43 rfl <| K_gf fi_151_44 kd_153 mk_153_1 <| K_sipush fi_151_47 <| K_aload_n fi_151_50 rfl <| K_gf fi_151_51 kd_153 mk_153_4 <| K_iaddx fi_151_54 h1 <| K_iconst fi_151_55 <| K_is fi_151_56 kd_154 h2 h3 <| rfl
theorem b151_57 {d L : Nat} {σ : St} {Q : Option AV → AW → Prop} {u1 : AV} (h1 : -2147483648 ≤ 397 + (σ 153 4) ∧ 397 + (σ 153 4) ≤ 2147483647) (h2 : 0 ≤ 397 + (σ 153 4)) (h3 : (397 + (σ 153 4)) < 1580) : R d 151 57 [vR 153, u1] [] (WS L σ) Q = R d 151 71 [vR 153, u1] [] (WS L (st2 σ 154 (397 + (σ 153 4)) 0)) Q := K_aload_n fi_151_57 rfl <| K_gf fi_151_58 kd_153 mk_153_1 <| K_sipush fi_151_61 <| K_aload_n fi_151_64 rfl <| K_gf fi_151_65 kd_153 mk_153_4 <| K_iaddx fi_151_68 h1 <| K_iconst fi_151_69 <| K_is fi_151_70 kd_154 h2 h3 <| rfl
theorem b151_71 {d L : Nat} {σ : St} {Q : Option AV → AW → Prop} {u1 : AV} (h1 : -2147483648 ≤ 523 + (σ 153 4) ∧ 523 + (σ 153 4) ≤ 2147483647) (h2 : 0 ≤ 523 + (σ 153 4)) (h3 : (523 + (σ 153 4)) < 1580) : R d 151 71 [vR 153, u1] [] (WS L σ) Q = R d 151 85 [vR 153, u1] [] (WS L (st2 σ 154 (523 + (σ 153 4)) 0)) Q := K_aload_n fi_151_71 rfl <| K_gf fi_151_72 kd_153 mk_153_1 <| K_sipush fi_151_75 <| K_aload_n fi_151_78 rfl <| K_gf fi_151_79 kd_153 mk_153_4 <| K_iaddx fi_151_82 h1 <| K_iconst fi_151_83 <| K_is fi_151_84 kd_154 h2 h3 <| rfl
theorem b151_85 {d L : Nat} {σ : St} {Q : Option AV → AW → Prop} {u1 : AV} : R d 151 85 [vR 153, u1] [] (WS L σ) Q = R d 151 90 [vR 153, u1] [] (WS L (st2 σ 153 5 0)) Q := K_aload_n fi_151_85 rfl <| K_iconst fi_151_86 <| K_pf fi_151_87 kd_153 rfl rfl rfl rfl <| rfl
theorem b151_90 {d L : Nat} {σ : St} {Q : Option AV → AW → Prop} {u1 : AV} : R d 151 90 [vR 153, u1] [] (WS L σ) Q = R d 151 95 [vR 153, u1] [] (WS L (st2 σ 153 7 0)) Q := K_aload_n fi_151_90 rfl <| K_iconst fi_151_91 <| K_pfz fi_151_92 kd_153 rfl rfl rfl rfl rfl <| rfl
theorem b151_95 {d L : Nat} {σ : St} {Q : Option AV → AW → Prop} {u1 : AV} : R d 151 95 [vR 153, u1] [] (WS L σ) Q = R d 151 100 [vR 153, u1] [] (WS L (st2 σ 153 8 0)) Q := K_aload_n fi_151_95 rfl <| K_iconst fi_151_96 <| K_pf fi_151_97 kd_153 rfl rfl rfl rfl <| rfl
theorem b151_100 {d L : Nat} {σ : St} {Q : Option AV → AW → Prop} {u1 : AV} : R (d + 1) 151 100 [vR 153, u1] [] (WS L σ) Q = R d 152 0 [vR 153] [] (WS L σ) (fun r w => R (d + 1) 151 106 [vR 153, vI 1] (am_push r []) w Q) := K_iconst fi_151_100 <| K_istore_n fi_151_101 (Nat.le_of_ble_eq_true rfl) rfl rfl <| K_aload_n fi_151_102 rfl <| R_invV fi_151_103 (am_invV_of rfl (kd_153) (Nat.le_of_ble_eq_true rfl) (Nat.le_of_ble_eq_true rfl) rfl rfl)
theorem b151_106 {d L : Nat} {σ : St} {Q : Option AV → AW → Prop} {u1 : AV} : R d 151 106 [vR 153, u1] [] (WS L σ) Q = if ¬ (σ 153 7) = 0 then R d 151 148 [vR 153, u1] [] (WS L σ) Q else R d 151 113 [vR 153, u1] [] (WS L σ) Q := K_aload_n fi_151_106 rfl <| K_gf fi_151_107 kd_153 mk_153_7 <| R_if_ne fi_151_110 rfl
theorem b151_113 {d L : Nat} {σ : St} {Q : Option AV → AW → Prop} {x1 : Int} {u0 : AV} : R d 151 113 [u0, vI x1] [] (WS L σ) Q = if 10 ≤ x1 then R d 151 148 [u0, vI x1] [] (WS L σ) Q else R d 151 119 [u0, vI x1] [] (WS L σ) Q := K_iload_n fi_151_113 rfl <| K_bipush fi_151_114 <| R_icmp_ge fi_151_116 rfl
theorem b151_119 {d L : Nat} {σ : St} {Q : Option AV → AW → Prop} {u1 : AV} : R (d + 1) 151 119 [vR 153, u1] [] (WS L σ) Q = R d 153 0 [vR 153] [] (WS L σ) (fun r w => R (d + 1) 151 123 [vR 153, u1] (am_push r []) w Q) := K_aload_n fi_151_119 rfl <| R_invV fi_151_120 (am_invV_of rfl (kd_153) (Nat.le_of_ble_eq_true rfl) (Nat.le_of_ble_eq_true rfl) rfl rfl)
theorem b151_123 {d L : Nat} {σ : St} {Q : Option AV → AW → Prop} {y0 : Int} {u0 u1 : AV} : R d 151 123 [u0, u1] [vI y0] (WS L σ) Q = if ¬ y0 = 59 then R d 151 148 [u0, u1] [] (WS L σ) Q else R d 151 128 [u0, u1] [] (WS L σ) Q := K_bipush fi_151_123 <| R_icmp_ne fi_151_125 rfl
theorem b151_128 {d L : Nat} {σ : St} {Q : Option AV → AW → Prop} {u1 : AV} (h1 : -2147483648 ≤ (σ 153 5) + 1 ∧ (σ 153 5) + 1 ≤ 2147483647) : R d 151 128 [vR 153, u1] [] (WS L σ) Q = R d 151 138 [vR 153, u1] [] (WS L (st2 σ 153 5 ((σ 153 5) + 1))) Q := K_aload_n fi_151_128 rfl <| K_dupr fi_151_129 <| K_gf fi_151_130 kd_153 mk_153_5 <| K_iconst fi_151_133 <| K_iaddx fi_151_134 h1 <| K_pf fi_151_135 kd_153 rfl rfl rfl rfl <| rfl
theorem b151_138 {d L : Nat} {σ : St} {Q : Option AV → AW → Prop} {u1 : AV} : R (d + 1) 151 138 [vR 153, u1] [] (WS L σ) Q = R d 152 0 [vR 153] [] (WS L σ) (fun r w => R (d + 1) 151 142 [vR 153, u1] (am_push r []) w Q) := K_aload_n fi_151_138 rfl <| R_invV fi_151_139 (am_invV_of rfl (kd_153) (Nat.le_of_ble_eq_true rfl) (Nat.le_of_ble_eq_true rfl) rfl rfl)
theorem b151_142 {d L : Nat} {σ : St} {Q : Option AV → AW → Prop} {x1 : Int} {u0 : AV} (h1 : -2147483648 ≤ x1 + 1 ∧ x1 + 1 ≤ 2147483647) : R d 151 142 [u0, vI x1] [] (WS L σ) Q = R d 151 106 [u0, vI (x1 + 1)] [] (WS L σ) Q := K_iincx fi_151_142 rfl (Nat.le_of_ble_eq_true rfl) rfl h1 rfl <| R_goto fi_151_145 rfl
theorem b151_148 {d L : Nat} {σ : St} {Q : Option AV → AW → Prop} {u1 : AV} : R d 151 148 [vR 153, u1] [] (WS L σ) Q = if ¬ (σ 153 7) = 0 then R d 151 166 [vR 153, u1] [] (WS L σ) Q else R d 151 155 [vR 153, u1] [] (WS L σ) Q := K_aload_n fi_151_148 rfl <| K_gf fi_151_149 kd_153 mk_153_7 <| R_if_ne fi_151_152 rfl
theorem b151_155 {d L : Nat} {σ : St} {Q : Option AV → AW → Prop} {u1 : AV} : R d 151 155 [vR 153, u1] [] (WS L σ) Q = if (σ 153 5) = (σ 153 6) then R d 151 174 [vR 153, u1] [] (WS L σ) Q else R d 151 166 [vR 153, u1] [] (WS L σ) Q := K_aload_n fi_151_155 rfl <| K_gf fi_151_156 kd_153 mk_153_5 <| K_aload_n fi_151_159 rfl <| K_gf fi_151_160 kd_153 mk_153_6 <| R_icmp_eq fi_151_163 rfl
theorem b151_166 {d L : Nat} {σ : St} {Q : Option AV → AW → Prop} {u1 : AV} (h1 : -2147483648 ≤ (-10) - (σ 153 5) ∧ (-10) - (σ 153 5) ≤ 2147483647) : R d 151 166 [vR 153, u1] [] (WS L σ) Q = Q (some (vI ((-10) - (σ 153 5)))) (WS L σ) := K_bipush fi_151_166 <| K_aload_n fi_151_168 rfl <| K_gf fi_151_169 kd_153 mk_153_5 <| K_isubx fi_151_172 h1 <| R_ireti fi_151_173 rfl
theorem b151_174 {d L : Nat} {σ : St} {Q : Option AV → AW → Prop} {u1 : AV} (h1 : -2147483648 ≤ (σ 154 1) + 1 ∧ (σ 154 1) + 1 ≤ 2147483647) : R d 151 174 [vR 153, u1] [] (WS L σ) Q = R d 151 184 [vR 153, u1] [] (WS L (st2 σ 154 1 ((σ 154 1) + 1))) Q := K_aload_n fi_151_174 rfl <| K_gf fi_151_175 kd_153 mk_153_1 <| K_iconst fi_151_178 <| K_dup2 fi_151_179 <| K_ia fi_151_180 kd_154 (by decide) (show (1 : Int) < 1580 by decide) <| K_iconst fi_151_181 <| K_iaddx fi_151_182 h1 <| K_is fi_151_183 kd_154 (by decide) (show (1 : Int) < 1580 by decide) <| rfl
theorem b151_184 {d L : Nat} {σ : St} {Q : Option AV → AW → Prop} {u1 : AV} : R d 151 184 [vR 153, u1] [] (WS L σ) Q = Q (some (vI (σ 153 4))) (WS L σ) := K_aload_n fi_151_184 rfl <| K_gf fi_151_185 kd_153 mk_153_4 <| R_ireti fi_151_188 rfl
theorem fi_152_0 : am_find 152 0 = some (.aload_n 0, 1, 0, 0, 0) := by decide +kernel
theorem fi_152_1 : am_find 152 1 = some (.invokevirtual 72, 3, 153, 0, 174) := by decide +kernel
theorem fi_152_4 : am_find 152 4 = some (.lookupswitch 57 #[(98, 43), (108, 50), (109, 36)], 36, 0, 0, 0) := by decide +kernel
theorem fi_152_40 : am_find 152 40 = some (.aload_n 0, 1, 0, 0, 0) := by decide +kernel
theorem fi_152_41 : am_find 152 41 = some (.invokevirtual 132, 3, 154, 0, 175) := by decide +kernel
theorem fi_152_44 : am_find 152 44 = some (.goto 22, 3, 0, 0, 0) := by decide +kernel
theorem fi_152_47 : am_find 152 47 = some (.aload_n 0, 1, 0, 0, 0) := by decide +kernel
theorem fi_152_48 : am_find 152 48 = some (.invokevirtual 135, 3, 163, 0, 176) := by decide +kernel
theorem fi_152_51 : am_find 152 51 = some (.goto 15, 3, 0, 0, 0) := by decide +kernel
theorem fi_152_54 : am_find 152 54 = some (.aload_n 0, 1, 0, 0, 0) := by decide +kernel
theorem fi_152_55 : am_find 152 55 = some (.invokevirtual 138, 3, 165, 0, 177) := by decide +kernel
theorem fi_152_58 : am_find 152 58 = some (.goto 8, 3, 0, 0, 0) := by decide +kernel
theorem fi_152_61 : am_find 152 61 = some (.aload_n 0, 1, 0, 0, 0) := by decide +kernel
theorem fi_152_62 : am_find 152 62 = some (.iconst 1, 1, 0, 1, 0) := by decide +kernel
theorem fi_152_63 : am_find 152 63 = some (.putfield 68, 3, 10, 7, 115) := by decide +kernel
theorem fi_152_66 : am_find 152 66 = some (.return_, 1, 0, 0, 0) := by decide +kernel
theorem b152_0 {d L : Nat} {σ : St} {Q : Option AV → AW → Prop} : R (d + 1) 152 0 [vR 153] [] (WS L σ) Q = R d 153 0 [vR 153] [] (WS L σ) (fun r w => R (d + 1) 152 4 [vR 153] (am_push r []) w Q) := K_aload_n fi_152_0 rfl <| R_invV fi_152_1 (am_invV_of rfl (kd_153) (Nat.le_of_ble_eq_true rfl) (Nat.le_of_ble_eq_true rfl) rfl rfl)
theorem sw152_4 {d L : Nat} {σ : St} {Q : Option AV → AW → Prop} {x : Int} {ls st : List AV} : R d 152 4 ls (vI x :: st) (WS L σ) Q = if x = 98 then R d 152 47 ls st (WS L σ) Q else if x = 108 then R d 152 54 ls st (WS L σ) Q else if x = 109 then R d 152 40 ls st (WS L σ) Q else R d 152 61 ls st (WS L σ) Q := by
  by_cases h98 : x = 98
  · subst h98; exact (R_lsw fi_152_4).trans (by simp [am_go, Op.lookupswitch.offset])
  by_cases h108 : x = 108
  · subst h108; exact (R_lsw fi_152_4).trans (by simp [am_go, Op.lookupswitch.offset])
  by_cases h109 : x = 109
  · subst h109; exact (R_lsw fi_152_4).trans (by simp [am_go, Op.lookupswitch.offset])
  rw [R_lsw fi_152_4]
  have e : am_go 4 (Op.lookupswitch.offset [(98, 43), (108, 50), (109, 36)] 57 x) = 61 := by
    simp [Op.lookupswitch.offset, am_go, h98, Ne.symm h98, h108, Ne.symm h108, h109, Ne.symm h109]
  rw [if_neg h98, if_neg h108, if_neg h109]
  exact congrArg (fun t => R d 152 t ls st (WS L σ) Q) e
theorem b152_4 {d L : Nat} {σ : St} {Q : Option AV → AW → Prop} {y0 : Int} {u0 : AV} : R d 152 4 [u0] [vI y0] (WS L σ) Q = if y0 = 98 then R d 152 47 [u0] [] (WS L σ) Q else if y0 = 108 then R d 152 54 [u0] [] (WS L σ) Q else if y0 = 109 then R d 152 40 [u0] [] (WS L σ) Q else R d 152 61 [u0] [] (WS L σ) Q := sw152_4
theorem b152_40 {d L : Nat} {σ : St} {Q : Option AV → AW → Prop} : R (d + 1) 152 40 [vR 153] [] (WS L σ) Q = R d 154 0 [vR 153, vX 9] [] (WS L σ) (fun r w => R (d + 1) 152 44 [vR 153] (am_push r []) w Q) := K_aload_n fi_152_40 rfl <| R_invV fi_152_41 (am_invV_of rfl (kd_153) (Nat.le_of_ble_eq_true rfl) (Nat.le_of_ble_eq_true rfl) rfl rfl)
theorem b152_44 {d L : Nat} {σ : St} {Q : Option AV → AW → Prop} {u0 : AV} : R d 152 44 [u0] [] (WS L σ) Q = R d 152 66 [u0] [] (WS L σ) Q := R_goto fi_152_44 rfl
theorem b152_47 {d L : Nat} {σ : St} {Q : Option AV → AW → Prop} : R (d + 1) 152 47 [vR 153] [] (WS L σ) Q = R d 163 0 [vR 153, vX 9, vX 9, vX 9, vX 9] [] (WS L σ) (fun r w => R (d + 1) 152 51 [vR 153] (am_push r []) w Q) := K_aload_n fi_152_47 rfl <| R_invV fi_152_48 (am_invV_of rfl (kd_153) (Nat.le_of_ble_eq_true rfl) (Nat.le_of_ble_eq_true rfl) rfl rfl)
theorem b152_51 {d L : Nat} {σ : St} {Q : Option AV → AW → Prop} {u0 : AV} : R d 152 51 [u0] [] (WS L σ) Q = R d 152 66 [u0] [] (WS L σ) Q := R_goto fi_152_51 rfl
theorem b152_54 {d L : Nat} {σ : St} {Q : Option AV → AW → Prop} : R (d + 1) 152 54 [vR 153] [] (WS L σ) Q = R d 165 0 [vR 153, vX 9, vX 9, vX 9] [] (WS L σ) (fun r w => R (d + 1) 152 58 [vR 153] (am_push r []) w Q) := K_aload_n fi_152_54 rfl <| R_invV fi_152_55 (am_invV_of rfl (kd_153) (Nat.le_of_ble_eq_true rfl) (Nat.le_of_ble_eq_true rfl) rfl rfl)
theorem b152_58 {d L : Nat} {σ : St} {Q : Option AV → AW → Prop} {u0 : AV} : R d 152 58 [u0] [] (WS L σ) Q = R d 152 66 [u0] [] (WS L σ) Q := R_goto fi_152_58 rfl
theorem b152_61 {d L : Nat} {σ : St} {Q : Option AV → AW → Prop} : R d 152 61 [vR 153] [] (WS L σ) Q = R d 152 66 [vR 153] [] (WS L (st2 σ 153 7 1)) Q := K_aload_n fi_152_61 rfl <| K_iconst fi_152_62 <| K_pfz fi_152_63 kd_153 rfl rfl rfl rfl rfl <| rfl
theorem b152_66 {d L : Nat} {σ : St} {Q : Option AV → AW → Prop} {u0 : AV} : R d 152 66 [u0] [] (WS L σ) Q = Q none (WS L σ) := R_return fi_152_66
theorem fi_153_0 : am_find 153 0 = some (.aload_n 0, 1, 0, 0, 0) := by decide +kernel
theorem fi_153_1 : am_find 153 1 = some (.getfield 62, 3, 10, 5, 114) := by decide +kernel
theorem fi_153_4 : am_find 153 4 = some (.aload_n 0, 1, 0, 0, 0) := by decide +kernel
theorem fi_153_5 : am_find 153 5 = some (.getfield 65, 3, 10, 6, 113) := by decide +kernel
theorem fi_153_8 : am_find 153 8 = some (.if_icmp .ge 18, 3, 0, 0, 0) := by decide +kernel
theorem fi_153_11 : am_find 153 11 = some (.aload_n 0, 1, 0, 0, 0) := by decide +kernel
theorem fi_153_12 : am_find 153 12 = some (.getfield 7, 3, 10, 1, 101) := by decide +kernel
theorem fi_153_15 : am_find 153 15 = some (.bipush 10, 2, 0, 10, 0) := by decide +kernel
theorem fi_153_17 : am_find 153 17 = some (.aload_n 0, 1, 0, 0, 0) := by decide +kernel
theorem fi_153_18 : am_find 153 18 = some (.getfield 62, 3, 10, 5, 114) := by decide +kernel
theorem fi_153_21 : am_find 153 21 = some (.iadd, 1, 0, 0, 0) := by decide +kernel
theorem fi_153_22 : am_find 153 22 = some (.iaload, 1, 0, 0, 0) := by decide +kernel
theorem fi_153_23 : am_find 153 23 = some (.goto 4, 3, 0, 0, 0) := by decide +kernel
theorem fi_153_26 : am_find 153 26 = some (.iconst (-1), 1, 0, (-1), 0) := by decide +kernel
theorem fi_153_27 : am_find 153 27 = some (.ireturn, 1, 0, 0, 0) := by decide +kernel
theorem b153_0 {d L : Nat} {σ : St} {Q : Option AV → AW → Prop} : R d 153 0 [vR 153] [] (WS L σ) Q = if (σ 153 6) ≤ (σ 153 5) then R d 153 26 [vR 153] [] (WS L σ) Q else R d 153 11 [vR 153] [] (WS L σ) Q := K_aload_n fi_153_0 rfl <| K_gf fi_153_1 kd_153 mk_153_5 <| K_aload_n fi_153_4 rfl <| K_gf fi_153_5 kd_153 mk_153_6 <| R_icmp_ge fi_153_8 rfl
theorem b153_11 {d L : Nat} {σ : St} {Q : Option AV → AW → Prop} (h1 : -2147483648 ≤ 10 + (σ 153 5) ∧ 10 + (σ 153 5) ≤ 2147483647) (h2 : 0 ≤ 10 + (σ 153 5)) (h3 : (10 + (σ 153 5)) < 1580) : R d 153 11 [vR 153] [] (WS L σ) Q = R d 153 27 [vR 153] [vI (σ 154 (10 + (σ 153 5)))] (WS L σ) Q := K_aload_n fi_153_11 rfl <| K_gf fi_153_12 kd_153 mk_153_1 <| K_bipush fi_153_15 <| K_aload_n fi_153_17 rfl <| K_gf fi_153_18 kd_153 mk_153_5 <| K_iaddx fi_153_21 h1 <| K_ia fi_153_22 kd_154 h2 h3 <| R_goto fi_153_23 rfl
theorem b153_26 {d L : Nat} {σ : St} {Q : Option AV → AW → Prop} {u0 : AV} : R d 153 26 [u0] [] (WS L σ) Q = R d 153 27 [u0] [vI (-1)] (WS L σ) Q := K_iconst fi_153_26 <| rfl
theorem b153_27 {d L : Nat} {σ : St} {Q : Option AV → AW → Prop} {y0 : Int} {u0 : AV} : R d 153 27 [u0] [vI y0] (WS L σ) Q = Q (some (vI y0)) (WS L σ) := R_ireti fi_153_27 rfl
theorem fi_154_0 : am_find 154 0 = some (.aload_n 0, 1, 0, 0, 0) := by decide +kernel
theorem fi_154_1 : am_find 154 1 = some (.ldc 118, 2, 1, 6, 1179) := by decide +kernel
theorem fi_154_3 : am_find 154 3 = some (.invokevirtual 120, 3, 155, 1, 178) := by decide +kernel
theorem fi_154_6 : am_find 154 6 = some (.aload_n 0, 1, 0, 0, 0) := by decide +kernel
theorem fi_154_7 : am_find 154 7 = some (.invokevirtual 112, 3, 157, 0, 179) := by decide +kernel
theorem fi_154_10 : am_find 154 10 = some (.istore_n 1, 1, 0, 0, 0) := by decide +kernel
theorem fi_154_11 : am_find 154 11 = some (.aload_n 0, 1, 0, 0, 0) := by decide +kernel
theorem fi_154_12 : am_find 154 12 = some (.bipush 32, 2, 0, 32, 0) := by decide +kernel
theorem fi_154_14 : am_find 154 14 = some (.invokevirtual 85, 3, 156, 1, 180) := by decide +kernel
theorem fi_154_17 : am_find 154 17 = some (.aload_n 0, 1, 0, 0, 0) := by decide +kernel
theorem fi_154_18 : am_find 154 18 = some (.invokevirtual 101, 3, 158, 0, 181) := by decide +kernel
theorem fi_154_21 : am_find 154 21 = some (.aload_n 0, 1, 0, 0, 0) := by decide +kernel
theorem fi_154_22 : am_find 154 22 = some (.bipush (-10), 2, 0, (-10), 0) := by decide +kernel
theorem fi_154_24 : am_find 154 24 = some (.iload_n 1, 1, 0, 0, 0) := by decide +kernel
theorem fi_154_25 : am_find 154 25 = some (.isub, 1, 0, 0, 0) := by decide +kernel
theorem fi_154_26 : am_find 154 26 = some (.invokevirtual 98, 3, 161, 1, 182) := by decide +kernel
theorem fi_154_29 : am_find 154 29 = some (.return_, 1, 0, 0, 0) := by decide +kernel
theorem b154_0 {d L : Nat} {σ : St} {Q : Option AV → AW → Prop} {u1 : AV} : R (d + 1) 154 0 [vR 153, u1] [] (WS L σ) Q = R d 155 0 [vR 153, vR 6, vX 9] [] (WS L σ) (fun r w => R (d + 1) 154 6 [vR 153, u1] (am_push r []) w Q) := K_aload_n fi_154_0 rfl <| K_ldcs fi_154_1 <| R_invV fi_154_3 (am_invV_of rfl (kd_153) (Nat.le_of_ble_eq_true rfl) (Nat.le_of_ble_eq_true rfl) rfl rfl)
theorem b154_6 {d L : Nat} {σ : St} {Q : Option AV → AW → Prop} {u1 : AV} : R (d + 1) 154 6 [vR 153, u1] [] (WS L σ) Q = R d 157 0 [vR 153, vX 9, vX 9] [] (WS L σ) (fun r w => R (d + 1) 154 10 [vR 153, u1] (am_push r []) w Q) := K_aload_n fi_154_6 rfl <| R_invV fi_154_7 (am_invV_of rfl (kd_153) (Nat.le_of_ble_eq_true rfl) (Nat.le_of_ble_eq_true rfl) rfl rfl)
theorem b154_10 {d L : Nat} {σ : St} {Q : Option AV → AW → Prop} {y0 : Int} {u1 : AV} : R (d + 1) 154 10 [vR 153, u1] [vI y0] (WS L σ) Q = R d 156 0 [vR 153, vI 32] [] (WS L σ) (fun r w => R (d + 1) 154 17 [vR 153, vI y0] (am_push r []) w Q) := K_istore_n fi_154_10 (Nat.le_of_ble_eq_true rfl) rfl rfl <| K_aload_n fi_154_11 rfl <| K_bipush fi_154_12 <| R_invV fi_154_14 (am_invV_of rfl (kd_153) (Nat.le_of_ble_eq_true rfl) (Nat.le_of_ble_eq_true rfl) rfl rfl)
theorem b154_17 {d L : Nat} {σ : St} {Q : Option AV → AW → Prop} {u1 : AV} : R (d + 1) 154 17 [vR 153, u1] [] (WS L σ) Q = R d 158 0 [vR 153] [] (WS L σ) (fun r w => R (d + 1) 154 21 [vR 153, u1] (am_push r []) w Q) := K_aload_n fi_154_17 rfl <| R_invV fi_154_18 (am_invV_of rfl (kd_153) (Nat.le_of_ble_eq_true rfl) (Nat.le_of_ble_eq_true rfl) rfl rfl)
theorem b154_21 {d L : Nat} {σ : St} {Q : Option AV → AW → Prop} {x1 : Int} (h1 : -2147483648 ≤ (-10) - x1 ∧ (-10) - x1 ≤ 2147483647) : R (d + 1) 154 21 [vR 153, vI x1] [] (WS L σ) Q = R d 161 0 [vR 153, vI ((-10) - x1)] [] (WS L σ) (fun r w => R (d + 1) 154 29 [vR 153, vI x1] (am_push r []) w Q) := K_aload_n fi_154_21 rfl <| K_bipush fi_154_22 <| K_iload_n fi_154_24 rfl <| K_isubx fi_154_25 h1 <| R_invV fi_154_26 (am_invV_of rfl (kd_153) (Nat.le_of_ble_eq_true rfl) (Nat.le_of_ble_eq_true rfl) rfl rfl)
theorem b154_29 {d L : Nat} {σ : St} {Q : Option AV → AW → Prop} {u0 u1 : AV} : R d 154 29 [u0, u1] [] (WS L σ) Q = Q none (WS L σ) := R_return fi_154_29
theorem fi_155_0 : am_find 155 0 = some (.iconst 0, 1, 0, 0, 0) := by decide +kernel
theorem fi_155_1 : am_find 155 1 = some (.istore_n 2, 1, 0, 0, 0) := by decide +kernel
theorem fi_155_2 : am_find 155 2 = some (.iload_n 2, 1, 0, 0, 0) := by decide +kernel
theorem fi_155_3 : am_find 155 3 = some (.aload_n 1, 1, 0, 0, 0) := by decide +kernel
theorem fi_155_4 : am_find 155 4 = some (.invokevirtual 76, 3, 22, 0, 183) := by decide +kernel
theorem fi_155_7 : am_find 155 7 = some (.if_icmp .ge 18, 3, 0, 0, 0) := by decide +kernel
theorem fi_155_10 : am_find 155 10 = some (.aload_n 0, 1, 0, 0, 0) := by decide +kernel
theorem fi_155_11 : am_find 155 11 = some (.aload_n 1, 1, 0, 0, 0) := by decide +kernel
theorem fi_155_12 : am_find 155 12 = some (.iload_n 2, 1, 0, 0, 0) := by decide +kernel
theorem fi_155_13 : am_find 155 13 = some (.invokevirtual 81, 3, 24, 1, 184) := by decide +kernel
theorem fi_155_16 : am_find 155 16 = some (.invokevirtual 85, 3, 156, 1, 180) := by decide +kernel
theorem fi_155_19 : am_find 155 19 = some (.iinc 2 1, 3, 0, 0, 0) := by decide +kernel
theorem fi_155_22 : am_find 155 22 = some (.goto (-20), 3, 0, 0, 0) := by decide +kernel
theorem fi_155_25 : am_find 155 25 = some (.return_, 1, 0, 0, 0) := by decide +kernel
theorem b155_0a {d L : Nat} {σ : St} {Q : Option AV → AW → Prop} {u0 u2 : AV} : R d 155 0 [u0, vR 6, u2] [] (WS L σ) Q = R d 155 2 [u0, vR 6, vI 0] [] (WS L σ) Q := K_iconst fi_155_0 <| K_istore_n fi_155_1 (Nat.le_of_ble_eq_true rfl) rfl rfl <| rfl
theorem b155_2a {d L : Nat} {σ : St} {Q : Option AV → AW → Prop} {x2 : Int} {u0 : AV} : R (d + 1) 155 2 [u0, vR 6, vI x2] [] (WS L σ) Q = R d 22 0 [vR 6] [] (WS L σ) (fun r w => R (d + 1) 155 7 [u0, vR 6, vI x2] (am_push r [vI x2]) w Q) := K_iload_n fi_155_2 rfl <| K_aload_n fi_155_3 rfl <| R_invV fi_155_4 (am_invV_of rfl (kd_6) (Nat.le_of_ble_eq_true rfl) (Nat.le_of_ble_eq_true rfl) rfl rfl)
theorem b155_7a {d L : Nat} {σ : St} {Q : Option AV → AW → Prop} {y0 y1 : Int} {u0 u1 u2 : AV} : R d 155 7 [u0, u1, u2] [vI y0, vI y1] (WS L σ) Q = if y0 ≤ y1 then R d 155 25 [u0, u1, u2] [] (WS L σ) Q else R d 155 10 [u0, u1, u2] [] (WS L σ) Q := R_icmp_ge fi_155_7 rfl
theorem b155_10a {d L : Nat} {σ : St} {Q : Option AV → AW → Prop} {x2 : Int} : R (d + 1) 155 10 [vR 153, vR 6, vI x2] [] (WS L σ) Q = R d 24 0 [vR 6, vI x2] [] (WS L σ) (fun r w => R (d + 1) 155 16 [vR 153, vR 6, vI x2] (am_push r [vR 153]) w Q) := K_aload_n fi_155_10 rfl <| K_aload_n fi_155_11 rfl <| K_iload_n fi_155_12 rfl <| R_invV fi_155_13 (am_invV_of rfl (kd_6) (Nat.le_of_ble_eq_true rfl) (Nat.le_of_ble_eq_true rfl) rfl rfl)
theorem b155_16a {d L : Nat} {σ : St} {Q : Option AV → AW → Prop} {y0 : Int} {u0 u1 u2 : AV} : R (d + 1) 155 16 [u0, u1, u2] [vI y0, vR 153] (WS L σ) Q = R d 156 0 [vR 153, vI y0] [] (WS L σ) (fun r w => R (d + 1) 155 19 [u0, u1, u2] (am_push r []) w Q) := R_invV fi_155_16 (am_invV_of rfl (kd_153) (Nat.le_of_ble_eq_true rfl) (Nat.le_of_ble_eq_true rfl) rfl rfl)
theorem b155_19a {d L : Nat} {σ : St} {Q : Option AV → AW → Prop} {x2 : Int} {u0 : AV} (h1 : -2147483648 ≤ x2 + 1 ∧ x2 + 1 ≤ 2147483647) : R d 155 19 [u0, vR 6, vI x2] [] (WS L σ) Q = R d 155 2 [u0, vR 6, vI (x2 + 1)] [] (WS L σ) Q := K_iincx fi_155_19 rfl (Nat.le_of_ble_eq_true rfl) rfl h1 rfl <| R_goto fi_155_22 rfl
theorem b155_25a {d L : Nat} {σ : St} {Q : Option AV → AW → Prop} {u0 u1 u2 : AV} : R d 155 25 [u0, u1, u2] [] (WS L σ) Q = Q none (WS L σ) := R_return fi_155_25
theorem b155_0b {d L : Nat} {σ : St} {Q : Option AV → AW → Prop} {u0 u2 : AV} : R d 155 0 [u0, vR 9, u2] [] (WS L σ) Q = R d 155 2 [u0, vR 9, vI 0] [] (WS L σ) Q := K_iconst fi_155_0 <| K_istore_n fi_155_1 (Nat.le_of_ble_eq_true rfl) rfl rfl <| rfl
theorem b155_2b {d L : Nat} {σ : St} {Q : Option AV → AW → Prop} {x2 : Int} {u0 : AV} : R (d + 1) 155 2 [u0, vR 9, vI x2] [] (WS L σ) Q = R d 22 0 [vR 9] [] (WS L σ) (fun r w => R (d + 1) 155 7 [u0, vR 9, vI x2] (am_push r [vI x2]) w Q) := K_iload_n fi_155_2 rfl <| K_aload_n fi_155_3 rfl <| R_invV fi_155_4 (am_invV_of rfl (kd_9) (Nat.le_of_ble_eq_true rfl) (Nat.le_of_ble_eq_true rfl) rfl rfl)
theorem b155_7b {d L : Nat} {σ : St} {Q : Option AV → AW → Prop} {y0 y1 : Int} {u0 u1 u2 : AV} : R d 155 7 [u0, u1, u2] [vI y0, vI y1] (WS L σ) Q = if y0 ≤ y1 then R d 155 25 [u0, u1, u2] [] (WS L σ) Q else R d 155 10 [u0, u1, u2] [] (WS L σ) Q := R_icmp_ge fi_155_7 rfl
theorem b155_10b {d L : Nat} {σ : St} {Q : Option AV → AW → Prop} {x2 : Int} : R (d + 1) 155 10 [vR 153, vR 9, vI x2] [] (WS L σ) Q = R d 24 0 [vR 9, vI x2] [] (WS L σ) (fun r w => R (d + 1) 155 16 [vR 153, vR 9, vI x2] (am_push r [vR 153]) w Q) := K_aload_n fi_155_10 rfl <| K_aload_n fi_155_11 rfl <| K_iload_n fi_155_12 rfl <| R_invV fi_155_13 (am_invV_of rfl (kd_9) (Nat.le_of_ble_eq_true rfl) (Nat.le_of_ble_eq_true rfl) rfl rfl)
theorem b155_16b {d L : Nat} {σ : St} {Q : Option AV → AW → Prop} {y0 : Int} {u0 u1 u2 : AV} : R (d + 1) 155 16 [u0, u1, u2] [vI y0, vR 153] (WS L σ) Q = R d 156 0 [vR 153, vI y0] [] (WS L σ) (fun r w => R (d + 1) 155 19 [u0, u1, u2] (am_push r []) w Q) := R_invV fi_155_16 (am_invV_of rfl (kd_153) (Nat.le_of_ble_eq_true rfl) (Nat.le_of_ble_eq_true rfl) rfl rfl)
theorem b155_19b {d L : Nat} {σ : St} {Q : Option AV → AW → Prop} {x2 : Int} {u0 : AV} (h1 : -2147483648 ≤ x2 + 1 ∧ x2 + 1 ≤ 2147483647) : R d 155 19 [u0, vR 9, vI x2] [] (WS L σ) Q = R d 155 2 [u0, vR 9, vI (x2 + 1)] [] (WS L σ) Q := K_iincx fi_155_19 rfl (Nat.le_of_ble_eq_true rfl) rfl h1 rfl <| R_goto fi_155_22 rfl
theorem b155_25b {d L : Nat} {σ : St} {Q : Option AV → AW → Prop} {u0 u1 u2 : AV} : R d 155 25 [u0, u1, u2] [] (WS L σ) Q = Q none (WS L σ) := R_return fi_155_25
theorem b155_0c {d L : Nat} {σ : St} {Q : Option AV → AW → Prop} {u0 u2 : AV} : R d 155 0 [u0, vR 10, u2] [] (WS L σ) Q = R d 155 2 [u0, vR 10, vI 0] [] (WS L σ) Q := K_iconst fi_155_0 <| K_istore_n fi_155_1 (Nat.le_of_ble_eq_true rfl) rfl rfl <| rfl
theorem b155_2c {d L : Nat} {σ : St} {Q : Option AV → AW → Prop} {x2 : Int} {u0 : AV} : R (d + 1) 155 2 [u0, vR 10, vI x2] [] (WS L σ) Q = R d 22 0 [vR 10] [] (WS L σ) (fun r w => R (d + 1) 155 7 [u0, vR 10, vI x2] (am_push r [vI x2]) w Q) := K_iload_n fi_155_2 rfl <| K_aload_n fi_155_3 rfl <| R_invV fi_155_4 (am_invV_of rfl (kd_10) (Nat.le_of_ble_eq_true rfl) (Nat.le_of_ble_eq_true rfl) rfl rfl)
theorem b155_7c {d L : Nat} {σ : St} {Q : Option AV → AW → Prop} {y0 y1 : Int} {u0 u1 u2 : AV} : R d 155 7 [u0, u1, u2] [vI y0, vI y1] (WS L σ) Q = if y0 ≤ y1 then R d 155 25 [u0, u1, u2] [] (WS L σ) Q else R d 155 10 [u0, u1, u2] [] (WS L σ) Q := R_icmp_ge fi_155_7 rfl
theorem b155_10c {d L : Nat} {σ : St} {Q : Option AV → AW → Prop} {x2 : Int} : R (d + 1) 155 10 [vR 153, vR 10, vI x2] [] (WS L σ) Q = R d 24 0 [vR 10, vI x2] [] (WS L σ) (fun r w => R (d + 1) 155 16 [vR 153, vR 10, vI x2] (am_push r [vR 153]) w Q) := K_aload_n fi_155_10 rfl <| K_aload_n fi_155_11 rfl <| K_iload_n fi_155_12 rfl <| R_invV fi_155_13 (am_invV_of rfl (kd_10) (Nat.le_of_ble_eq_true rfl) (Nat.le_of_ble_eq_true rfl) rfl rfl)
theorem b155_16c {d L : Nat} {σ : St} {Q : Option AV → AW → Prop} {y0 : Int} {u0 u1 u2 : AV} : R (d + 1) 155 16 [u0, u1, u2] [vI y0, vR 153] (WS L σ) Q = R d 156 0 [vR 153, vI y0] [] (WS L σ) (fun r w => R (d + 1) 155 19 [u0, u1, u2] (am_push r []) w Q) := R_invV fi_155_16 (am_invV_of rfl (kd_153) (Nat.le_of_ble_eq_true rfl) (Nat.le_of_ble_eq_true rfl) rfl rfl)
theorem b155_19c {d L : Nat} {σ : St} {Q : Option AV → AW → Prop} {x2 : Int} {u0 : AV} (h1 : -2147483648 ≤ x2 + 1 ∧ x2 + 1 ≤ 2147483647) : R d 155 19 [u0, vR 10, vI x2] [] (WS L σ) Q = R d 155 2 [u0, vR 10, vI (x2 + 1)] [] (WS L σ) Q := K_iincx fi_155_19 rfl (Nat.le_of_ble_eq_true rfl) rfl h1 rfl <| R_goto fi_155_22 rfl
theorem b155_25c {d L : Nat} {σ : St} {Q : Option AV → AW → Prop} {u0 u1 u2 : AV} : R d 155 25 [u0, u1, u2] [] (WS L σ) Q = Q none (WS L σ) := R_return fi_155_25
theorem fi_156_0 : am_find 156 0 = some (.aload_n 0, 1, 0, 0, 0) := by decide +kernel
theorem fi_156_1 : am_find 156 1 = some (.aload_n 0, 1, 0, 0, 0) := by decide +kernel
theorem fi_156_2 : am_find 156 2 = some (.getfield 68, 3, 10, 7, 115) := by decide +kernel
theorem fi_156_5 : am_find 156 5 = some (.ifCond .ne 11, 3, 0, 0, 0) := by decide +kernel
theorem fi_156_8 : am_find 156 8 = some (.aload_n 0, 1, 0, 0, 0) := by decide +kernel
theorem fi_156_9 : am_find 156 9 = some (.invokevirtual 72, 3, 153, 0, 174) := by decide +kernel
theorem fi_156_12 : am_find 156 12 = some (.iload_n 1, 1, 0, 0, 0) := by decide +kernel
theorem fi_156_13 : am_find 156 13 = some (.if_icmp .eq 7, 3, 0, 0, 0) := by decide +kernel
theorem fi_156_16 : am_find 156 16 = some (.iconst 1, 1, 0, 1, 0) := by decide +kernel
theorem fi_156_17 : am_find 156 17 = some (.goto 4, 3, 0, 0, 0) := by decide +kernel
theorem fi_156_20 : am_find 156 20 = some (.iconst 0, 1, 0, 0, 0) := by decide +kernel
theorem fi_156_21 : am_find 156 21 = some (.putfield 68, 3, 10, 7, 115) := by decide +kernel
theorem fi_156_24 : am_find 156 24 = some (.aload_n 0, 1, 0, 0, 0) := by decide +kernel
theorem fi_156_25 : am_find 156 25 = some (.dup, 1, 0, 0, 0) := by decide +kernel
theorem fi_156_26 : am_find 156 26 = some (.getfield 62, 3, 10, 5, 114) := by decide +kernel
theorem fi_156_29 : am_find 156 29 = some (.aload_n 0, 1, 0, 0, 0) := by decide +kernel
theorem fi_156_30 : am_find 156 30 = some (.getfield 68, 3, 10, 7, 115) := by decide +kernel
theorem fi_156_33 : am_find 156 33 = some (.ifCond .eq 7, 3, 0, 0, 0) := by decide +kernel
theorem fi_156_36 : am_find 156 36 = some (.iconst 0, 1, 0, 0, 0) := by decide +kernel
theorem fi_156_37 : am_find 156 37 = some (.goto 4, 3, 0, 0, 0) := by decide +kernel
theorem fi_156_40 : am_find 156 40 = some (.iconst 1, 1, 0, 1, 0) := by decide +kernel
theorem fi_156_41 : am_find 156 41 = some (.iadd, 1, 0, 0, 0) := by decide +kernel
theorem fi_156_42 : am_find 156 42 = some (.putfield 62, 3, 10, 5, 114) := by decide +kernel
theorem fi_156_45 : am_find 156 45 = some (.return_, 1, 0, 0, 0) := by decide +kernel
theorem b156_0 {d L : Nat} {σ : St} {Q : Option AV → AW → Prop} {u1 : AV} : R d 156 0 [vR 153, u1] [] (WS L σ) Q = if ¬ (σ 153 7) = 0 then R d 156 16 [vR 153, u1] [vR 153] (WS L σ) Q else R d 156 8 [vR 153, u1] [vR 153] (WS L σ) Q := K_aload_n fi_156_0 rfl <| K_aload_n fi_156_1 rfl <| K_gf fi_156_2 kd_153 mk_153_7 <| R_if_ne fi_156_5 rfl
theorem b156_8 {d L : Nat} {σ : St} {Q : Option AV → AW → Prop} {u1 : AV} : R (d + 1) 156 8 [vR 153, u1] [vR 153] (WS L σ) Q = R d 153 0 [vR 153] [] (WS L σ) (fun r w => R (d + 1) 156 12 [vR 153, u1] (am_push r [vR 153]) w Q) := K_aload_n fi_156_8 rfl <| R_invV fi_156_9 (am_invV_of rfl (kd_153) (Nat.le_of_ble_eq_true rfl) (Nat.le_of_ble_eq_true rfl) rfl rfl)
theorem b156_12 {d L : Nat} {σ : St} {Q : Option AV → AW → Prop} {y0 x1 : Int} {u0 : AV} : R d 156 12 [u0, vI x1] [vI y0, vR 153] (WS L σ) Q = if y0 = x1 then R d 156 20 [u0, vI x1] [vR 153] (WS L σ) Q else R d 156 16 [u0, vI x1] [vR 153] (WS L σ) Q := K_iload_n fi_156_12 rfl <| R_icmp_eq fi_156_13 rfl
theorem b156_16 {d L : Nat} {σ : St} {Q : Option AV → AW → Prop} {u0 u1 : AV} : R d 156 16 [u0, u1] [vR 153] (WS L σ) Q = R d 156 21 [u0, u1] [vI 1, vR 153] (WS L σ) Q := K_iconst fi_156_16 <| R_goto fi_156_17 rfl
theorem b156_20 {d L : Nat} {σ : St} {Q : Option AV → AW → Prop} {u0 u1 : AV} : R d 156 20 [u0, u1] [vR 153] (WS L σ) Q = R d 156 21 [u0, u1] [vI 0, vR 153] (WS L σ) Q := K_iconst fi_156_20 <| rfl
theorem b156_21 {d L : Nat} {σ : St} {Q : Option AV → AW → Prop} {y0 : Int} {u0 u1 : AV} (h1 : am_bit y0 = true) : R d 156 21 [u0, u1] [vI y0, vR 153] (WS L σ) Q = R d 156 24 [u0, u1] [] (WS L (st2 σ 153 7 y0)) Q := K_pfz fi_156_21 kd_153 rfl rfl h1 rfl rfl <| rfl
theorem b156_24 {d L : Nat} {σ : St} {Q : Option AV → AW → Prop} {u1 : AV} : R d 156 24 [vR 153, u1] [] (WS L σ) Q = if (σ 153 7) = 0 then R d 156 40 [vR 153, u1] [vI (σ 153 5), vR 153] (WS L σ) Q else R d 156 36 [vR 153, u1] [vI (σ 153 5), vR 153] (WS L σ) Q := K_aload_n fi_156_24 rfl <| K_dupr fi_156_25 <| K_gf fi_156_26 kd_153 mk_153_5 <| K_aload_n fi_156_29 rfl <| K_gf fi_156_30 kd_153 mk_153_7 <| R_if_eq fi_156_33 rfl
theorem b156_36 {d L : Nat} {σ : St} {Q : Option AV → AW → Prop} {y0 : Int} {u0 u1 : AV} : R d 156 36 [u0, u1] [vI y0, vR 153] (WS L σ) Q = R d 156 41 [u0, u1] [vI 0, vI y0, vR 153] (WS L σ) Q := K_iconst fi_156_36 <| R_goto fi_156_37 rfl
theorem b156_40 {d L : Nat} {σ : St} {Q : Option AV → AW → Prop} {y0 : Int} {u0 u1 : AV} : R d 156 40 [u0, u1] [vI y0, vR 153] (WS L σ) Q = R d 156 41 [u0, u1] [vI 1, vI y0, vR 153] (WS L σ) Q := K_iconst fi_156_40 <| rfl
theorem b156_41 {d L : Nat} {σ : St} {Q : Option AV → AW → Prop} {y0 y1 : Int} {u0 u1 : AV} (h1 : -2147483648 ≤ y1 + y0 ∧ y1 + y0 ≤ 2147483647) : R d 156 41 [u0, u1] [vI y0, vI y1, vR 153] (WS L σ) Q = R d 156 45 [u0, u1] [] (WS L (st2 σ 153 5 (y1 + y0))) Q := K_iaddx fi_156_41 h1 <| K_pf fi_156_42 kd_153 rfl rfl rfl rfl <| rfl
theorem b156_45 {d L : Nat} {σ : St} {Q : Option AV → AW → Prop} {u0 u1 : AV} : R d 156 45 [u0, u1] [] (WS L σ) Q = Q none (WS L σ) := R_return fi_156_45
theorem fi_157_0 : am_find 157 0 = some (.aload_n 0, 1, 0, 0, 0) := by decide +kernel
theorem fi_157_1 : am_find 157 1 = some (.aload_n 0, 1, 0, 0, 0) := by decide +kernel
theorem fi_157_2 : am_find 157 2 = some (.getfield 68, 3, 10, 7, 115) := by decide +kernel
theorem fi_157_5 : am_find 157 5 = some (.ifCond .ne 17, 3, 0, 0, 0) := by decide +kernel
theorem fi_157_8 : am_find 157 8 = some (.aload_n 0, 1, 0, 0, 0) := by decide +kernel
theorem fi_157_9 : am_find 157 9 = some (.invokevirtual 72, 3, 153, 0, 174) := by decide +kernel
theorem fi_157_12 : am_find 157 12 = some (.bipush 48, 2, 0, 48, 0) := by decide +kernel
theorem fi_157_14 : am_find 157 14 = some (.bipush 57, 2, 0, 57, 0) := by decide +kernel
theorem fi_157_16 : am_find 157 16 = some (.invokestatic 49, 3, 145, 3, 170) := by decide +kernel
theorem fi_157_19 : am_find 157 19 = some (.ifCond .ne 7, 3, 0, 0, 0) := by decide +kernel
theorem fi_157_22 : am_find 157 22 = some (.iconst 1, 1, 0, 1, 0) := by decide +kernel
theorem fi_157_23 : am_find 157 23 = some (.goto 4, 3, 0, 0, 0) := by decide +kernel
theorem fi_157_26 : am_find 157 26 = some (.iconst 0, 1, 0, 0, 0) := by decide +kernel
theorem fi_157_27 : am_find 157 27 = some (.putfield 68, 3, 10, 7, 115) := by decide +kernel
theorem fi_157_30 : am_find 157 30 = some (.iconst 0, 1, 0, 0, 0) := by decide +kernel
theorem fi_157_31 : am_find 157 31 = some (.istore_n 1, 1, 0, 0, 0) := by decide +kernel
theorem fi_157_32 : am_find 157 32 = some (.iconst 0, 1, 0, 0, 0) := by decide +kernel
theorem fi_157_33 : am_find 157 33 = some (.istore_n 2, 1, 0, 0, 0) := by decide +kernel
theorem fi_157_34 : am_find 157 34 = some (.iload_n 2, 1, 0, 0, 0) := by decide +kernel
theorem fi_157_35 : am_find 157 35 = some (.iconst 2, 1, 0, 2, 0) := by decide +kernel
theorem fi_157_36 : am_find 157 36 = some (.if_icmp .ge 61, 3, 0, 0, 0) := by decide +kernel
theorem fi_157_39 : am_find 157 39 = some (.aload_n 0, 1, 0, 0, 0) := by decide +kernel
theorem fi_157_40 : am_find 157 40 = some (.getfield 68, 3, 10, 7, 115) := by decide +kernel
theorem fi_157_43 : am_find 157 43 = some (.ifCond .ne 54, 3, 0, 0, 0) := by decide +kernel
theorem fi_157_46 : am_find 157 46 = some (.aload_n 0, 1, 0, 0, 0) := by decide +kernel
theorem fi_157_47 : am_find 157 47 = some (.invokevirtual 72, 3, 153, 0, 174) := by decide +kernel
theorem fi_157_50 : am_find 157 50 = some (.bipush 48, 2, 0, 48, 0) := by decide +kernel
theorem fi_157_52 : am_find 157 52 = some (.bipush 57, 2, 0, 57, 0) := by decide +kernel
theorem fi_157_54 : am_find 157 54 = some (.invokestatic 49, 3, 145, 3, 170) := by decide +kernel
theorem fi_157_57 : am_find 157 57 = some (.ifCond .eq 40, 3, 0, 0, 0) := by decide +kernel
theorem fi_157_60 : am_find 157 60 = some (.iload_n 2, 1, 0, 0, 0) := by decide +kernel
theorem fi_157_61 : am_find 157 61 = some (.ifCond .eq 7, 3, 0, 0, 0) := by decide +kernel
theorem fi_157_64 : am_find 157 64 = some (.iload_n 1, 1, 0, 0, 0) := by decide +kernel
theorem fi_157_65 : am_find 157 65 = some (.ifCond .le 32, 3, 0, 0, 0) := by decide +kernel
theorem fi_157_68 : am_find 157 68 = some (.bipush 10, 2, 0, 10, 0) := by decide +kernel
theorem fi_157_70 : am_find 157 70 = some (.iload_n 1, 1, 0, 0, 0) := by decide +kernel
theorem fi_157_71 : am_find 157 71 = some (.imul, 1, 0, 0, 0) := by decide +kernel
theorem fi_157_72 : am_find 157 72 = some (.aload_n 0, 1, 0, 0, 0) := by decide +kernel
theorem fi_157_73 : am_find 157 73 = some (.invokevirtual 72, 3, 153, 0, 174) := by decide +kernel
theorem fi_157_76 : am_find 157 76 = some (.iadd, 1, 0, 0, 0) := by decide +kernel
theorem fi_157_77 : am_find 157 77 = some (.bipush 48, 2, 0, 48, 0) := by decide +kernel
theorem fi_157_79 : am_find 157 79 = some (.isub, 1, 0, 0, 0) := by decide +kernel
theorem fi_157_80 : am_find 157 80 = some (.istore_n 1, 1, 0, 0, 0) := by decide +kernel
theorem fi_157_81 : am_find 157 81 = some (.aload_n 0, 1, 0, 0, 0) := by decide +kernel
theorem fi_157_82 : am_find 157 82 = some (.dup, 1, 0, 0, 0) := by decide +kernel
theorem fi_157_83 : am_find 157 83 = some (.getfield 62, 3, 10, 5, 114) := by decide +kernel
theorem fi_157_86 : am_find 157 86 = some (.iconst 1, 1, 0, 1, 0) := by decide +kernel
theorem fi_157_87 : am_find 157 87 = some (.iadd, 1, 0, 0, 0) := by decide +kernel
theorem fi_157_88 : am_find 157 88 = some (.putfield 62, 3, 10, 5, 114) := by decide +kernel
theorem fi_157_91 : am_find 157 91 = some (.iinc 2 1, 3, 0, 0, 0) := by decide +kernel
theorem fi_157_94 : am_find 157 94 = some (.goto (-60), 3, 0, 0, 0) := by decide +kernel
theorem fi_157_97 : am_find 157 97 = some (.iload_n 1, 1, 0, 0, 0) := by decide +kernel
theorem fi_157_98 : am_find 157 98 = some (.ireturn, 1, 0, 0, 0) := by decide +kernel
theorem b157_0 {d L : Nat} {σ : St} {Q : Option AV → AW → Prop} {u1 u2 : AV} : R d 157 0 [vR 153, u1, u2] [] (WS L σ) Q = if ¬ (σ 153 7) = 0 then R d 157 22 [vR 153, u1, u2] [vR 153] (WS L σ) Q else R d 157 8 [vR 153, u1, u2] [vR 153] (WS L σ) Q := K_aload_n fi_157_0 rfl <| K_aload_n fi_157_1 rfl <| K_gf fi_157_2 kd_153 mk_153_7 <| R_if_ne fi_157_5 rfl
theorem b157_8 {d L : Nat} {σ : St} {Q : Option AV → AW → Prop} {u1 u2 : AV} : R (d + 1) 157 8 [vR 153, u1, u2] [vR 153] (WS L σ) Q = R d 153 0 [vR 153] [] (WS L σ) (fun r w => R (d + 1) 157 12 [vR 153, u1, u2] (am_push r [vR 153]) w Q) := K_aload_n fi_157_8 rfl <| R_invV fi_157_9 (am_invV_of rfl (kd_153) (Nat.le_of_ble_eq_true rfl) (Nat.le_of_ble_eq_true rfl) rfl rfl)
theorem b157_12 {d L : Nat} {σ : St} {Q : Option AV → AW → Prop} {y0 : Int} {u0 u1 u2 : AV} : R (d + 1) 157 12 [u0, u1, u2] [vI y0, vR 153] (WS L σ) Q = R d 145 0 [vI y0, vI 48, vI 57] [] (WS L σ) (fun r w => R (d + 1) 157 19 [u0, u1, u2] (am_push r [vR 153]) w Q) := K_bipush fi_157_12 <| K_bipush fi_157_14 <| R_invS fi_157_16 (by decide) (am_invS_of (Nat.le_of_ble_eq_true rfl) rfl (Nat.le_of_ble_eq_true rfl) (Nat.le_of_ble_eq_true rfl) rfl rfl)
theorem b157_19 {d L : Nat} {σ : St} {Q : Option AV → AW → Prop} {y0 : Int} {u0 u1 u2 : AV} : R d 157 19 [u0, u1, u2] [vI y0, vR 153] (WS L σ) Q = if ¬ y0 = 0 then R d 157 26 [u0, u1, u2] [vR 153] (WS L σ) Q else R d 157 22 [u0, u1, u2] [vR 153] (WS L σ) Q := R_if_ne fi_157_19 rfl
theorem b157_22 {d L : Nat} {σ : St} {Q : Option AV → AW → Prop} {u0 u1 u2 : AV} : R d 157 22 [u0, u1, u2] [vR 153] (WS L σ) Q = R d 157 27 [u0, u1, u2] [vI 1, vR 153] (WS L σ) Q := K_iconst fi_157_22 <| R_goto fi_157_23 rfl
theorem b157_26 {d L : Nat} {σ : St} {Q : Option AV → AW → Prop} {u0 u1 u2 : AV} : R d 157 26 [u0, u1, u2] [vR 153] (WS L σ) Q = R d 157 27 [u0, u1, u2] [vI 0, vR 153] (WS L σ) Q := K_iconst fi_157_26 <| rfl
theorem b157_27 {d L : Nat} {σ : St} {Q : Option AV → AW → Prop} {y0 : Int} {u0 u1 u2 : AV} (h1 : am_bit y0 = true) : R d 157 27 [u0, u1, u2] [vI y0, vR 153] (WS L σ) Q = R d 157 30 [u0, u1, u2] [] (WS L (st2 σ 153 7 y0)) Q := K_pfz fi_157_27 kd_153 rfl rfl h1 rfl rfl <| rfl
theorem b157_30 {d L : Nat} {σ : St} {Q : Option AV → AW → Prop} {u0 u1 u2 : AV} : R d 157 30 [u0, u1, u2] [] (WS L σ) Q = R d 157 34 [u0, vI 0, vI 0] [] (WS L σ) Q := K_iconst fi_157_30 <| K_istore_n fi_157_31 (Nat.le_of_ble_eq_true rfl) rfl rfl <| K_iconst fi_157_32 <| K_istore_n fi_157_33 (Nat.le_of_ble_eq_true rfl) rfl rfl <| rfl
theorem b157_34 {d L : Nat} {σ : St} {Q : Option AV → AW → Prop} {x2 : Int} {u0 u1 : AV} : R d 157 34 [u0, u1, vI x2] [] (WS L σ) Q = if 2 ≤ x2 then R d 157 97 [u0, u1, vI x2] [] (WS L σ) Q else R d 157 39 [u0, u1, vI x2] [] (WS L σ) Q := K_iload_n fi_157_34 rfl <| K_iconst fi_157_35 <| R_icmp_ge fi_157_36 rfl
theorem b157_39 {d L : Nat} {σ : St} {Q : Option AV → AW → Prop} {u1 u2 : AV} : R d 157 39 [vR 153, u1, u2] [] (WS L σ) Q = if ¬ (σ 153 7) = 0 then R d 157 97 [vR 153, u1, u2] [] (WS L σ) Q else R d 157 46 [vR 153, u1, u2] [] (WS L σ) Q := K_aload_n fi_157_39 rfl <| K_gf fi_157_40 kd_153 mk_153_7 <| R_if_ne fi_157_43 rfl
theorem b157_46 {d L : Nat} {σ : St} {Q : Option AV → AW → Prop} {u1 u2 : AV} : R (d + 1) 157 46 [vR 153, u1, u2] [] (WS L σ) Q = R d 153 0 [vR 153] [] (WS L σ) (fun r w => R (d + 1) 157 50 [vR 153, u1, u2] (am_push r []) w Q) := K_aload_n fi_157_46 rfl <| R_invV fi_157_47 (am_invV_of rfl (kd_153) (Nat.le_of_ble_eq_true rfl) (Nat.le_of_ble_eq_true rfl) rfl rfl)
theorem b157_50 {d L : Nat} {σ : St} {Q : Option AV → AW → Prop} {y0 : Int} {u0 u1 u2 : AV} : R (d + 1) 157 50 [u0, u1, u2] [vI y0] (WS L σ) Q = R d 145 0 [vI y0, vI 48, vI 57] [] (WS L σ) (fun r w => R (d + 1) 157 57 [u0, u1, u2] (am_push r []) w Q) := K_bipush fi_157_50 <| K_bipush fi_157_52 <| R_invS fi_157_54 (by decide) (am_invS_of (Nat.le_of_ble_eq_true rfl) rfl (Nat.le_of_ble_eq_true rfl) (Nat.le_of_ble_eq_true rfl) rfl rfl)
theorem b157_57 {d L : Nat} {σ : St} {Q : Option AV → AW → Prop} {y0 : Int} {u0 u1 u2 : AV} : R d 157 57 [u0, u1, u2] [vI y0] (WS L σ) Q = if y0 = 0 then R d 157 97 [u0, u1, u2] [] (WS L σ) Q else R d 157 60 [u0, u1, u2] [] (WS L σ) Q := R_if_eq fi_157_57 rfl
theorem b157_60 {d L : Nat} {σ : St} {Q : Option AV → AW → Prop} {x2 : Int} {u0 u1 : AV} : R d 157 60 [u0, u1, vI x2] [] (WS L σ) Q = if x2 = 0 then R d 157 68 [u0, u1, vI x2] [] (WS L σ) Q else R d 157 64 [u0, u1, vI x2] [] (WS L σ) Q := K_iload_n fi_157_60 rfl <| R_if_eq fi_157_61 rfl
theorem b157_64 {d L : Nat} {σ : St} {Q : Option AV → AW → Prop} {x1 : Int} {u0 u2 : AV} : R d 157 64 [u0, vI x1, u2] [] (WS L σ) Q = if x1 ≤ 0 then R d 157 97 [u0, vI x1, u2] [] (WS L σ) Q else R d 157 68 [u0, vI x1, u2] [] (WS L σ) Q := K_iload_n fi_157_64 rfl <| R_if_le fi_157_65 rfl
theorem b157_68 {d L : Nat} {σ : St} {Q : Option AV → AW → Prop} {x1 : Int} {u2 : AV} (h1 : -2147483648 ≤ 10 * x1 ∧ 10 * x1 ≤ 2147483647) : R (d + 1) 157 68 [vR 153, vI x1, u2] [] (WS L σ) Q = R d 153 0 [vR 153] [] (WS L σ) (fun r w => R (d + 1) 157 76 [vR 153, vI x1, u2] (am_push r [vI (10 * x1)]) w Q) := K_bipush fi_157_68 <| K_iload_n fi_157_70 rfl <| K_imulx fi_157_71 h1 <| K_aload_n fi_157_72 rfl <| R_invV fi_157_73 (am_invV_of rfl (kd_153) (Nat.le_of_ble_eq_true rfl) (Nat.le_of_ble_eq_true rfl) rfl rfl)
theorem b157_76 {d L : Nat} {σ : St} {Q : Option AV → AW → Prop} {y0 y1 : Int} {u1 u2 : AV} (h1 : -2147483648 ≤ y1 + y0 ∧ y1 + y0 ≤ 2147483647) (h2 : -2147483648 ≤ (y1 + y0) - 48 ∧ (y1 + y0) - 48 ≤ 2147483647) (h3 : -2147483648 ≤ (σ 153 5) + 1 ∧ (σ 153 5) + 1 ≤ 2147483647) : R d 157 76 [vR 153, u1, u2] [vI y0, vI y1] (WS L σ) Q = R d 157 91 [vR 153, vI ((y1 + y0) - 48), u2] [] (WS L (st2 σ 153 5 ((σ 153 5) + 1))) Q := K_iaddx fi_157_76 h1 <| K_bipush fi_157_77 <| K_isubx fi_157_79 h2 <| K_istore_n fi_157_80 (Nat.le_of_ble_eq_true rfl) rfl rfl <| K_aload_n fi_157_81 rfl <| K_dupr fi_157_82 <| K_gf fi_157_83 kd_153 mk_153_5 <| K_iconst fi_157_86 <| K_iaddx fi_157_87 h3 <| K_pf fi_157_88 kd_153 rfl rfl rfl rfl <| rfl
theorem b157_91 {d L : Nat} {σ : St} {Q : Option AV → AW → Prop} {x2 x1 : Int} {u0 : AV} (h1 : -2147483648 ≤ x2 + 1 ∧ x2 + 1 ≤ 2147483647) : R d 157 91 [u0, vI x1, vI x2] [] (WS L σ) Q = R d 157 34 [u0, vI x1, vI (x2 + 1)] [] (WS L σ) Q := K_iincx fi_157_91 rfl (Nat.le_of_ble_eq_true rfl) rfl h1 rfl <| R_goto fi_157_94 rfl
theorem b157_97 {d L : Nat} {σ : St} {Q : Option AV → AW → Prop} {x1 : Int} {u0 u2 : AV} : R d 157 97 [u0, vI x1, u2] [] (WS L σ) Q = Q (some (vI x1)) (WS L σ) := K_iload_n fi_157_97 rfl <| R_ireti fi_157_98 rfl
theorem fi_158_0 : am_find 158 0 = some (.aload_n 0, 1, 0, 0, 0) := by decide +kernel
theorem fi_158_1 : am_find 158 1 = some (.invokevirtual 115, 3, 159, 0, 185) := by decide +kernel
theorem fi_158_4 : am_find 158 4 = some (.aload_n 0, 1, 0, 0, 0) := by decide +kernel
theorem fi_158_5 : am_find 158 5 = some (.getfield 68, 3, 10, 7, 115) := by decide +kernel
theorem fi_158_8 : am_find 158 8 = some (.ifCond .ne 35, 3, 0, 0, 0) := by decide +kernel
theorem fi_158_11 : am_find 158 11 = some (.aload_n 0, 1, 0, 0, 0) := by decide +kernel
theorem fi_158_12 : am_find 158 12 = some (.invokevirtual 72, 3, 153, 0, 174) := by decide +kernel
theorem fi_158_15 : am_find 158 15 = some (.bipush 124, 2, 0, 124, 0) := by decide +kernel
theorem fi_158_17 : am_find 158 17 = some (.if_icmp .ne 26, 3, 0, 0, 0) := by decide +kernel
theorem fi_158_20 : am_find 158 20 = some (.aload_n 0, 1, 0, 0, 0) := by decide +kernel
theorem fi_158_21 : am_find 158 21 = some (.dup, 1, 0, 0, 0) := by decide +kernel
theorem fi_158_22 : am_find 158 22 = some (.getfield 62, 3, 10, 5, 114) := by decide +kernel
theorem fi_158_25 : am_find 158 25 = some (.iconst 1, 1, 0, 1, 0) := by decide +kernel
theorem fi_158_26 : am_find 158 26 = some (.iadd, 1, 0, 0, 0) := by decide +kernel
theorem fi_158_27 : am_find 158 27 = some (.putfield 62, 3, 10, 5, 114) := by decide +kernel
theorem fi_158_30 : am_find 158 30 = some (.aload_n 0, 1, 0, 0, 0) := by decide +kernel
theorem fi_158_31 : am_find 158 31 = some (.invokevirtual 115, 3, 159, 0, 185) := by decide +kernel
theorem fi_158_34 : am_find 158 34 = some (.aload_n 0, 1, 0, 0, 0) := by decide +kernel
theorem fi_158_35 : am_find 158 35 = some (.bipush (-3), 2, 0, (-3), 0) := by decide +kernel
theorem fi_158_37 : am_find 158 37 = some (.invokevirtual 98, 3, 161, 1, 182) := by decide +kernel
theorem fi_158_40 : am_find 158 40 = some (.goto (-36), 3, 0, 0, 0) := by decide +kernel
theorem fi_158_43 : am_find 158 43 = some (.return_, 1, 0, 0, 0) := by decide +kernel
theorem b158_0 {d L : Nat} {σ : St} {Q : Option AV → AW → Prop} : R (d + 1) 158 0 [vR 153] [] (WS L σ) Q = R d 159 0 [vR 153] [] (WS L σ) (fun r w => R (d + 1) 158 4 [vR 153] (am_push r []) w Q) := K_aload_n fi_158_0 rfl <| R_invV fi_158_1 (am_invV_of rfl (kd_153) (Nat.le_of_ble_eq_true rfl) (Nat.le_of_ble_eq_true rfl) rfl rfl)
theorem b158_4 {d L : Nat} {σ : St} {Q : Option AV → AW → Prop} : R d 158 4 [vR 153] [] (WS L σ) Q = if ¬ (σ 153 7) = 0 then R d 158 43 [vR 153] [] (WS L σ) Q else R d 158 11 [vR 153] [] (WS L σ) Q := K_aload_n fi_158_4 rfl <| K_gf fi_158_5 kd_153 mk_153_7 <| R_if_ne fi_158_8 rfl
theorem b158_11 {d L : Nat} {σ : St} {Q : Option AV → AW → Prop} : R (d + 1) 158 11 [vR 153] [] (WS L σ) Q = R d 153 0 [vR 153] [] (WS L σ) (fun r w => R (d + 1) 158 15 [vR 153] (am_push r []) w Q) := K_aload_n fi_158_11 rfl <| R_invV fi_158_12 (am_invV_of rfl (kd_153) (Nat.le_of_ble_eq_true rfl) (Nat.le_of_ble_eq_true rfl) rfl rfl)
theorem b158_15 {d L : Nat} {σ : St} {Q : Option AV → AW → Prop} {y0 : Int} {u0 : AV} : R d 158 15 [u0] [vI y0] (WS L σ) Q = if ¬ y0 = 124 then R d 158 43 [u0] [] (WS L σ) Q else R d 158 20 [u0] [] (WS L σ) Q := K_bipush fi_158_15 <| R_icmp_ne fi_158_17 rfl
theorem b158_20 {d L : Nat} {σ : St} {Q : Option AV → AW → Prop} (h1 : -2147483648 ≤ (σ 153 5) + 1 ∧ (σ 153 5) + 1 ≤ 2147483647) : R d 158 20 [vR 153] [] (WS L σ) Q = R d 158 30 [vR 153] [] (WS L (st2 σ 153 5 ((σ 153 5) + 1))) Q := K_aload_n fi_158_20 rfl <| K_dupr fi_158_21 <| K_gf fi_158_22 kd_153 mk_153_5 <| K_iconst fi_158_25 <| K_iaddx fi_158_26 h1 <| K_pf fi_158_27 kd_153 rfl rfl rfl rfl <| rfl
theorem b158_30 {d L : Nat} {σ : St} {Q : Option AV → AW → Prop} : R (d + 1) 158 30 [vR 153] [] (WS L σ) Q = R d 159 0 [vR 153] [] (WS L σ) (fun r w => R (d + 1) 158 34 [vR 153] (am_push r []) w Q) := K_aload_n fi_158_30 rfl <| R_invV fi_158_31 (am_invV_of rfl (kd_153) (Nat.le_of_ble_eq_true rfl) (Nat.le_of_ble_eq_true rfl) rfl rfl)
theorem b158_34 {d L : Nat} {σ : St} {Q : Option AV → AW → Prop} : R (d + 1) 158 34 [vR 153] [] (WS L σ) Q = R d 161 0 [vR 153, vI (-3)] [] (WS L σ) (fun r w => R (d + 1) 158 40 [vR 153] (am_push r []) w Q) := K_aload_n fi_158_34 rfl <| K_bipush fi_158_35 <| R_invV fi_158_37 (am_invV_of rfl (kd_153) (Nat.le_of_ble_eq_true rfl) (Nat.le_of_ble_eq_true rfl) rfl rfl)
theorem b158_40 {d L : Nat} {σ : St} {Q : Option AV → AW → Prop} {u0 : AV} : R d 158 40 [u0] [] (WS L σ) Q = R d 158 4 [u0] [] (WS L σ) Q := R_goto fi_158_40 rfl
theorem b158_43 {d L : Nat} {σ : St} {Q : Option AV → AW → Prop} {u0 : AV} : R d 158 43 [u0] [] (WS L σ) Q = Q none (WS L σ) := R_return fi_158_43
theorem fi_159_0 : am_find 159 0 = some (.aload_n 0, 1, 0, 0, 0) := by decide +kernel
theorem fi_159_1 : am_find 159 1 = some (.invokevirtual 95, 3, 160, 0, 186) := by decide +kernel
theorem fi_159_4 : am_find 159 4 = some (.aload_n 0, 1, 0, 0, 0) := by decide +kernel
theorem fi_159_5 : am_find 159 5 = some (.getfield 68, 3, 10, 7, 115) := by decide +kernel
theorem fi_159_8 : am_find 159 8 = some (.ifCond .ne 35, 3, 0, 0, 0) := by decide +kernel
theorem fi_159_11 : am_find 159 11 = some (.aload_n 0, 1, 0, 0, 0) := by decide +kernel
theorem fi_159_12 : am_find 159 12 = some (.invokevirtual 72, 3, 153, 0, 174) := by decide +kernel
theorem fi_159_15 : am_find 159 15 = some (.bipush 38, 2, 0, 38, 0) := by decide +kernel
theorem fi_159_17 : am_find 159 17 = some (.if_icmp .ne 26, 3, 0, 0, 0) := by decide +kernel
theorem fi_159_20 : am_find 159 20 = some (.aload_n 0, 1, 0, 0, 0) := by decide +kernel
theorem fi_159_21 : am_find 159 21 = some (.dup, 1, 0, 0, 0) := by decide +kernel
theorem fi_159_22 : am_find 159 22 = some (.getfield 62, 3, 10, 5, 114) := by decide +kernel
theorem fi_159_25 : am_find 159 25 = some (.iconst 1, 1, 0, 1, 0) := by decide +kernel
theorem fi_159_26 : am_find 159 26 = some (.iadd, 1, 0, 0, 0) := by decide +kernel
theorem fi_159_27 : am_find 159 27 = some (.putfield 62, 3, 10, 5, 114) := by decide +kernel
theorem fi_159_30 : am_find 159 30 = some (.aload_n 0, 1, 0, 0, 0) := by decide +kernel
theorem fi_159_31 : am_find 159 31 = some (.invokevirtual 95, 3, 160, 0, 186) := by decide +kernel
theorem fi_159_34 : am_find 159 34 = some (.aload_n 0, 1, 0, 0, 0) := by decide +kernel
theorem fi_159_35 : am_find 159 35 = some (.bipush (-2), 2, 0, (-2), 0) := by decide +kernel
theorem fi_159_37 : am_find 159 37 = some (.invokevirtual 98, 3, 161, 1, 182) := by decide +kernel
theorem fi_159_40 : am_find 159 40 = some (.goto (-36), 3, 0, 0, 0) := by decide +kernel
theorem fi_159_43 : am_find 159 43 = some (.return_, 1, 0, 0, 0) := by decide +kernel
theorem b159_0 {d L : Nat} {σ : St} {Q : Option AV → AW → Prop} : R (d + 1) 159 0 [vR 153] [] (WS L σ) Q = R d 160 0 [vR 153, vX 9, vX 9, vX 9, vX 9] [] (WS L σ) (fun r w => R (d + 1) 159 4 [vR 153] (am_push r []) w Q) := K_aload_n fi_159_0 rfl <| R_invV fi_159_1 (am_invV_of rfl (kd_153) (Nat.le_of_ble_eq_true rfl) (Nat.le_of_ble_eq_true rfl) rfl rfl)
theorem b159_4 {d L : Nat} {σ : St} {Q : Option AV → AW → Prop} : R d 159 4 [vR 153] [] (WS L σ) Q = if ¬ (σ 153 7) = 0 then R d 159 43 [vR 153] [] (WS L σ) Q else R d 159 11 [vR 153] [] (WS L σ) Q := K_aload_n fi_159_4 rfl <| K_gf fi_159_5 kd_153 mk_153_7 <| R_if_ne fi_159_8 rfl
theorem b159_11 {d L : Nat} {σ : St} {Q : Option AV → AW → Prop} : R (d + 1) 159 11 [vR 153] [] (WS L σ) Q = R d 153 0 [vR 153] [] (WS L σ) (fun r w => R (d + 1) 159 15 [vR 153] (am_push r []) w Q) := K_aload_n fi_159_11 rfl <| R_invV fi_159_12 (am_invV_of rfl (kd_153) (Nat.le_of_ble_eq_true rfl) (Nat.le_of_ble_eq_true rfl) rfl rfl)
theorem b159_15 {d L : Nat} {σ : St} {Q : Option AV → AW → Prop} {y0 : Int} {u0 : AV} : R d 159 15 [u0] [vI y0] (WS L σ) Q = if ¬ y0 = 38 then R d 159 43 [u0] [] (WS L σ) Q else R d 159 20 [u0] [] (WS L σ) Q := K_bipush fi_159_15 <| R_icmp_ne fi_159_17 rfl
theorem b159_20 {d L : Nat} {σ : St} {Q : Option AV → AW → Prop} (h1 : -2147483648 ≤ (σ 153 5) + 1 ∧ (σ 153 5) + 1 ≤ 2147483647) : R d 159 20 [vR 153] [] (WS L σ) Q = R d 159 30 [vR 153] [] (WS L (st2 σ 153 5 ((σ 153 5) + 1))) Q := K_aload_n fi_159_20 rfl <| K_dupr fi_159_21 <| K_gf fi_159_22 kd_153 mk_153_5 <| K_iconst fi_159_25 <| K_iaddx fi_159_26 h1 <| K_pf fi_159_27 kd_153 rfl rfl rfl rfl <| rfl
theorem b159_30 {d L : Nat} {σ : St} {Q : Option AV → AW → Prop} : R (d + 1) 159 30 [vR 153] [] (WS L σ) Q = R d 160 0 [vR 153, vX 9, vX 9, vX 9, vX 9] [] (WS L σ) (fun r w => R (d + 1) 159 34 [vR 153] (am_push r []) w Q) := K_aload_n fi_159_30 rfl <| R_invV fi_159_31 (am_invV_of rfl (kd_153) (Nat.le_of_ble_eq_true rfl) (Nat.le_of_ble_eq_true rfl) rfl rfl)
theorem b159_34 {d L : Nat} {σ : St} {Q : Option AV → AW → Prop} : R (d + 1) 159 34 [vR 153] [] (WS L σ) Q = R d 161 0 [vR 153, vI (-2)] [] (WS L σ) (fun r w => R (d + 1) 159 40 [vR 153] (am_push r []) w Q) := K_aload_n fi_159_34 rfl <| K_bipush fi_159_35 <| R_invV fi_159_37 (am_invV_of rfl (kd_153) (Nat.le_of_ble_eq_true rfl) (Nat.le_of_ble_eq_true rfl) rfl rfl)
theorem b159_40 {d L : Nat} {σ : St} {Q : Option AV → AW → Prop} {u0 : AV} : R d 159 40 [u0] [] (WS L σ) Q = R d 159 4 [u0] [] (WS L σ) Q := R_goto fi_159_40 rfl
theorem b159_43 {d L : Nat} {σ : St} {Q : Option AV → AW → Prop} {u0 : AV} : R d 159 43 [u0] [] (WS L σ) Q = Q none (WS L σ) := R_return fi_159_43
theorem fi_160_0 : am_find 160 0 = some (.aload_n 0, 1, 0, 0, 0) := by decide +kernel
theorem fi_160_1 : am_find 160 1 = some (.getfield 68, 3, 10, 7, 115) := by decide +kernel
theorem fi_160_4 : am_find 160 4 = some (.ifCond .eq 4, 3, 0, 0, 0) := by decide +kernel
theorem fi_160_7 : am_find 160 7 = some (.return_, 1, 0, 0, 0) := by decide +kernel
theorem fi_160_8 : am_find 160 8 = some (.aload_n 0, 1, 0, 0, 0) := by decide +kernel
theorem fi_160_9 : am_find 160 9 = some (.invokevirtual 72, 3, 153, 0, 174) := by decide +kernel
theorem fi_160_12 : am_find 160 12 = some (.istore_n 1, 1, 0, 0, 0) := by decide +kernel
theorem fi_160_13 : am_find 160 13 = some (.iload_n 1, 1, 0, 0, 0) := by decide +kernel
theorem fi_160_14 : am_find 160 14 = some (.bipush 33, 2, 0, 33, 0) := by decide +kernel
theorem fi_160_16 : am_find 160 16 = some (.if_icmp .eq 9, 3, 0, 0, 0) := by decide +kernel
theorem fi_160_19 : am_find 160 19 = some (.iload_n 1, 1, 0, 0, 0) := by decide +kernel
theorem fi_160_20 : am_find 160 20 = some (.bipush 40, 2, 0, 40, 0) := by decide +kernel
theorem fi_160_22 : am_find 160 22 = some (.if_icmp .ne 90, 3, 0, 0, 0) := by decide +kernel
theorem fi_160_25 : am_find 160 25 = some (.aload_n 0, 1, 0, 0, 0) := by decide +kernel
theorem fi_160_26 : am_find 160 26 = some (.aload_n 0, 1, 0, 0, 0) := by decide +kernel
theorem fi_160_27 : am_find 160 27 = some (.getfield 92, 3, 10, 8, 116) := by decide +kernel
theorem fi_160_30 : am_find 160 30 = some (.iconst 5, 1, 0, 5, 0) := by decide +kernel
theorem fi_160_31 : am_find 160 31 = some (.if_icmp .ne 7, 3, 0, 0, 0) := by decide +kernel
theorem fi_160_34 : am_find 160 34 = some (.iconst 1, 1, 0, 1, 0) := by decide +kernel
theorem fi_160_35 : am_find 160 35 = some (.goto 4, 3, 0, 0, 0) := by decide +kernel
theorem fi_160_38 : am_find 160 38 = some (.iconst 0, 1, 0, 0, 0) := by decide +kernel
theorem fi_160_39 : am_find 160 39 = some (.putfield 68, 3, 10, 7, 115) := by decide +kernel
theorem fi_160_42 : am_find 160 42 = some (.aload_n 0, 1, 0, 0, 0) := by decide +kernel
theorem fi_160_43 : am_find 160 43 = some (.dup, 1, 0, 0, 0) := by decide +kernel
theorem fi_160_44 : am_find 160 44 = some (.getfield 92, 3, 10, 8, 116) := by decide +kernel
theorem fi_160_47 : am_find 160 47 = some (.iconst 1, 1, 0, 1, 0) := by decide +kernel
theorem fi_160_48 : am_find 160 48 = some (.iadd, 1, 0, 0, 0) := by decide +kernel
theorem fi_160_49 : am_find 160 49 = some (.putfield 92, 3, 10, 8, 116) := by decide +kernel
theorem fi_160_52 : am_find 160 52 = some (.aload_n 0, 1, 0, 0, 0) := by decide +kernel
theorem fi_160_53 : am_find 160 53 = some (.dup, 1, 0, 0, 0) := by decide +kernel
theorem fi_160_54 : am_find 160 54 = some (.getfield 62, 3, 10, 5, 114) := by decide +kernel
theorem fi_160_57 : am_find 160 57 = some (.aload_n 0, 1, 0, 0, 0) := by decide +kernel
theorem fi_160_58 : am_find 160 58 = some (.getfield 68, 3, 10, 7, 115) := by decide +kernel
theorem fi_160_61 : am_find 160 61 = some (.ifCond .eq 7, 3, 0, 0, 0) := by decide +kernel
theorem fi_160_64 : am_find 160 64 = some (.iconst 0, 1, 0, 0, 0) := by decide +kernel
theorem fi_160_65 : am_find 160 65 = some (.goto 4, 3, 0, 0, 0) := by decide +kernel
theorem fi_160_68 : am_find 160 68 = some (.iconst 1, 1, 0, 1, 0) := by decide +kernel
theorem fi_160_69 : am_find 160 69 = some (.iadd, 1, 0, 0, 0) := by decide +kernel
theorem fi_160_70 : am_find 160 70 = some (.putfield 62, 3, 10, 5, 114) := by decide +kernel
theorem fi_160_73 : am_find 160 73 = some (.iload_n 1, 1, 0, 0, 0) := by decide +kernel
theorem fi_160_74 : am_find 160 74 = some (.bipush 33, 2, 0, 33, 0) := by decide +kernel
theorem fi_160_76 : am_find 160 76 = some (.if_icmp .ne 15, 3, 0, 0, 0) := by decide +kernel
theorem fi_160_79 : am_find 160 79 = some (.aload_n 0, 1, 0, 0, 0) := by decide +kernel
theorem fi_160_80 : am_find 160 80 = some (.invokevirtual 95, 3, 160, 0, 186) := by decide +kernel
theorem fi_160_83 : am_find 160 83 = some (.aload_n 0, 1, 0, 0, 0) := by decide +kernel
theorem fi_160_84 : am_find 160 84 = some (.iconst (-1), 1, 0, (-1), 0) := by decide +kernel
theorem fi_160_85 : am_find 160 85 = some (.invokevirtual 98, 3, 161, 1, 182) := by decide +kernel
theorem fi_160_88 : am_find 160 88 = some (.goto 13, 3, 0, 0, 0) := by decide +kernel
theorem fi_160_91 : am_find 160 91 = some (.aload_n 0, 1, 0, 0, 0) := by decide +kernel
theorem fi_160_92 : am_find 160 92 = some (.invokevirtual 101, 3, 158, 0, 181) := by decide +kernel
theorem fi_160_95 : am_find 160 95 = some (.aload_n 0, 1, 0, 0, 0) := by decide +kernel
theorem fi_160_96 : am_find 160 96 = some (.bipush 41, 2, 0, 41, 0) := by decide +kernel
theorem fi_160_98 : am_find 160 98 = some (.invokevirtual 85, 3, 156, 1, 180) := by decide +kernel
theorem fi_160_101 : am_find 160 101 = some (.aload_n 0, 1, 0, 0, 0) := by decide +kernel
theorem fi_160_102 : am_find 160 102 = some (.dup, 1, 0, 0, 0) := by decide +kernel
theorem fi_160_103 : am_find 160 103 = some (.getfield 92, 3, 10, 8, 116) := by decide +kernel
theorem fi_160_106 : am_find 160 106 = some (.iconst 1, 1, 0, 1, 0) := by decide +kernel
theorem fi_160_107 : am_find 160 107 = some (.isub, 1, 0, 0, 0) := by decide +kernel
theorem fi_160_108 : am_find 160 108 = some (.putfield 92, 3, 10, 8, 116) := by decide +kernel
theorem fi_160_111 : am_find 160 111 = some (.return_, 1, 0, 0, 0) := by decide +kernel
theorem fi_160_112 : am_find 160 112 = some (.aload_n 0, 1, 0, 0, 0) := by decide +kernel
theorem fi_160_113 : am_find 160 113 = some (.ldc 104, 2, 1, 7, 1210) := by decide +kernel
theorem fi_160_115 : am_find 160 115 = some (.invokevirtual 106, 3, 162, 1, 187) := by decide +kernel
theorem fi_160_118 : am_find 160 118 = some (.istore_n 2, 1, 0, 0, 0) := by decide +kernel
theorem fi_160_119 : am_find 160 119 = some (.aload_n 0, 1, 0, 0, 0) := by decide +kernel
theorem fi_160_120 : am_find 160 120 = some (.iload_n 2, 1, 0, 0, 0) := by decide +kernel
theorem fi_160_121 : am_find 160 121 = some (.iconst (-1), 1, 0, (-1), 0) := by decide +kernel
theorem fi_160_122 : am_find 160 122 = some (.if_icmp .ne 7, 3, 0, 0, 0) := by decide +kernel
theorem fi_160_125 : am_find 160 125 = some (.iconst 1, 1, 0, 1, 0) := by decide +kernel
theorem fi_160_126 : am_find 160 126 = some (.goto 4, 3, 0, 0, 0) := by decide +kernel
theorem fi_160_129 : am_find 160 129 = some (.iconst 0, 1, 0, 0, 0) := by decide +kernel
theorem fi_160_130 : am_find 160 130 = some (.putfield 68, 3, 10, 7, 115) := by decide +kernel
theorem fi_160_133 : am_find 160 133 = some (.aload_n 0, 1, 0, 0, 0) := by decide +kernel
theorem fi_160_134 : am_find 160 134 = some (.getfield 68, 3, 10, 7, 115) := by decide +kernel
theorem fi_160_137 : am_find 160 137 = some (.ifCond .eq 7, 3, 0, 0, 0) := by decide +kernel
theorem fi_160_140 : am_find 160 140 = some (.iconst 0, 1, 0, 0, 0) := by decide +kernel
theorem fi_160_141 : am_find 160 141 = some (.goto 9, 3, 0, 0, 0) := by decide +kernel
theorem fi_160_144 : am_find 160 144 = some (.aload_n 0, 1, 0, 0, 0) := by decide +kernel
theorem fi_160_145 : am_find 160 145 = some (.ldc 110, 2, 1, 8, 1215) := by decide +kernel
theorem fi_160_147 : am_find 160 147 = some (.invokevirtual 106, 3, 162, 1, 187) := by decide +kernel
theorem fi_160_150 : am_find 160 150 = some (.istore_n 3, 1, 0, 0, 0) := by decide +kernel
theorem fi_160_151 : am_find 160 151 = some (.aload_n 0, 1, 0, 0, 0) := by decide +kernel
theorem fi_160_152 : am_find 160 152 = some (.aload_n 0, 1, 0, 0, 0) := by decide +kernel
theorem fi_160_153 : am_find 160 153 = some (.getfield 68, 3, 10, 7, 115) := by decide +kernel
theorem fi_160_156 : am_find 160 156 = some (.ifCond .ne 8, 3, 0, 0, 0) := by decide +kernel
theorem fi_160_159 : am_find 160 159 = some (.iload_n 3, 1, 0, 0, 0) := by decide +kernel
theorem fi_160_160 : am_find 160 160 = some (.iconst (-1), 1, 0, (-1), 0) := by decide +kernel
theorem fi_160_161 : am_find 160 161 = some (.if_icmp .ne 7, 3, 0, 0, 0) := by decide +kernel
theorem fi_160_164 : am_find 160 164 = some (.iconst 1, 1, 0, 1, 0) := by decide +kernel
theorem fi_160_165 : am_find 160 165 = some (.goto 4, 3, 0, 0, 0) := by decide +kernel
theorem fi_160_168 : am_find 160 168 = some (.iconst 0, 1, 0, 0, 0) := by decide +kernel
theorem fi_160_169 : am_find 160 169 = some (.putfield 68, 3, 10, 7, 115) := by decide +kernel
theorem fi_160_172 : am_find 160 172 = some (.aload_n 0, 1, 0, 0, 0) := by decide +kernel
theorem fi_160_173 : am_find 160 173 = some (.invokevirtual 112, 3, 157, 0, 179) := by decide +kernel
theorem fi_160_176 : am_find 160 176 = some (.istore 4, 2, 0, 0, 0) := by decide +kernel
theorem fi_160_178 : am_find 160 178 = some (.aload_n 0, 1, 0, 0, 0) := by decide +kernel
theorem fi_160_179 : am_find 160 179 = some (.iload_n 2, 1, 0, 0, 0) := by decide +kernel
theorem fi_160_180 : am_find 160 180 = some (.iconst 4, 1, 0, 4, 0) := by decide +kernel
theorem fi_160_181 : am_find 160 181 = some (.iload_n 3, 1, 0, 0, 0) := by decide +kernel
theorem fi_160_182 : am_find 160 182 = some (.imul, 1, 0, 0, 0) := by decide +kernel
theorem fi_160_183 : am_find 160 183 = some (.iadd, 1, 0, 0, 0) := by decide +kernel
theorem fi_160_184 : am_find 160 184 = some (.bipush 16, 2, 0, 16, 0) := by decide +kernel
theorem fi_160_186 : am_find 160 186 = some (.iload 4, 2, 0, 0, 0) := by decide +kernel
theorem fi_160_188 : am_find 160 188 = some (.imul, 1, 0, 0, 0) := by decide +kernel
theorem fi_160_189 : am_find 160 189 = some (.iadd, 1, 0, 0, 0) := by decide +kernel
theorem fi_160_190 : am_find 160 190 = some (.invokevirtual 98, 3, 161, 1, 182) := by decide +kernel
theorem fi_160_193 : am_find 160 193 = some (.return_, 1, 0, 0, 0) := by decide +kernel
theorem b160_0 {d L : Nat} {σ : St} {Q : Option AV → AW → Prop} {u1 u2 u3 u4 : AV} : R d 160 0 [vR 153, u1, u2, u3, u4] [] (WS L σ) Q = if (σ 153 7) = 0 then R d 160 8 [vR 153, u1, u2, u3, u4] [] (WS L σ) Q else R d 160 7 [vR 153, u1, u2, u3, u4] [] (WS L σ) Q := K_aload_n fi_160_0 rfl <| K_gf fi_160_1 kd_153 mk_153_7 <| R_if_eq fi_160_4 rfl
theorem b160_7 {d L : Nat} {σ : St} {Q : Option AV → AW → Prop} {u0 u1 u2 u3 u4 : AV} : R d 160 7 [u0, u1, u2, u3, u4] [] (WS L σ) Q = Q none (WS L σ) := R_return fi_160_7
theorem b160_8 {d L : Nat} {σ : St} {Q : Option AV → AW → Prop} {u1 u2 u3 u4 : AV} : R (d + 1) 160 8 [vR 153, u1, u2, u3, u4] [] (WS L σ) Q = R d 153 0 [vR 153] [] (WS L σ) (fun r w => R (d + 1) 160 12 [vR 153, u1, u2, u3, u4] (am_push r []) w Q) := K_aload_n fi_160_8 rfl <| R_invV fi_160_9 (am_invV_of rfl (kd_153) (Nat.le_of_ble_eq_true rfl) (Nat.le_of_ble_eq_true rfl) rfl rfl)
theorem b160_12 {d L : Nat} {σ : St} {Q : Option AV → AW → Prop} {y0 : Int} {u0 u1 u2 u3 u4 : AV} : R d 160 12 [u0, u1, u2, u3, u4] [vI y0] (WS L σ) Q = if y0 = 33 then R d 160 25 [u0, vI y0, u2, u3, u4] [] (WS L σ) Q else R d 160 19 [u0, vI y0, u2, u3, u4] [] (WS L σ) Q := K_istore_n fi_160_12 (Nat.le_of_ble_eq_true rfl) rfl rfl <| K_iload_n fi_160_13 rfl <| K_bipush fi_160_14 <| R_icmp_eq fi_160_16 rfl
theorem b160_19 {d L : Nat} {σ : St} {Q : Option AV → AW → Prop} {x1 : Int} {u0 u2 u3 u4 : AV} : R d 160 19 [u0, vI x1, u2, u3, u4] [] (WS L σ) Q = if ¬ x1 = 40 then R d 160 112 [u0, vI x1, u2, u3, u4] [] (WS L σ) Q else R d 160 25 [u0, vI x1, u2, u3, u4] [] (WS L σ) Q := K_iload_n fi_160_19 rfl <| K_bipush fi_160_20 <| R_icmp_ne fi_160_22 rfl
theorem b160_25 {d L : Nat} {σ : St} {Q : Option AV → AW → Prop} {u1 u2 u3 u4 : AV} : R d 160 25 [vR 153, u1, u2, u3, u4] [] (WS L σ) Q = if ¬ (σ 153 8) = 5 then R d 160 38 [vR 153, u1, u2, u3, u4] [vR 153] (WS L σ) Q else R d 160 34 [vR 153, u1, u2, u3, u4] [vR 153] (WS L σ) Q := K_aload_n fi_160_25 rfl <| K_aload_n fi_160_26 rfl <| K_gf fi_160_27 kd_153 mk_153_8 <| K_iconst fi_160_30 <| R_icmp_ne fi_160_31 rfl
theorem b160_34 {d L : Nat} {σ : St} {Q : Option AV → AW → Prop} {u0 u1 u2 u3 u4 : AV} : R d 160 34 [u0, u1, u2, u3, u4] [vR 153] (WS L σ) Q = R d 160 39 [u0, u1, u2, u3, u4] [vI 1, vR 153] (WS L σ) Q := K_iconst fi_160_34 <| R_goto fi_160_35 rfl
theorem b160_38 {d L : Nat} {σ : St} {Q : Option AV → AW → Prop} {u0 u1 u2 u3 u4 : AV} : R d 160 38 [u0, u1, u2, u3, u4] [vR 153] (WS L σ) Q = R d 160 39 [u0, u1, u2, u3, u4] [vI 0, vR 153] (WS L σ) Q := K_iconst fi_160_38 <| rfl
theorem b160_39 {d L : Nat} {σ : St} {Q : Option AV → AW → Prop} {y0 : Int} {u0 u1 u2 u3 u4 : AV} (h1 : am_bit y0 = true) : R d 160 39 [u0, u1, u2, u3, u4] [vI y0, vR 153] (WS L σ) Q = R d 160 42 [u0, u1, u2, u3, u4] [] (WS L (st2 σ 153 7 y0)) Q := K_pfz fi_160_39 kd_153 rfl rfl h1 rfl rfl <| rfl
theorem b160_42 {d L : Nat} {σ : St} {Q : Option AV → AW → Prop} {u1 u2 u3 u4 : AV} (h1 : -2147483648 ≤ (σ 153 8) + 1 ∧ (σ 153 8) + 1 ≤ 2147483647) : R d 160 42 [vR 153, u1, u2, u3, u4] [] (WS L σ) Q = R d 160 52 [vR 153, u1, u2, u3, u4] [] (WS L (st2 σ 153 8 ((σ 153 8) + 1))) Q := K_aload_n fi_160_42 rfl <| K_dupr fi_160_43 <| K_gf fi_160_44 kd_153 mk_153_8 <| K_iconst fi_160_47 <| K_iaddx fi_160_48 h1 <| K_pf fi_160_49 kd_153 rfl rfl rfl rfl <| rfl
theorem b160_52 {d L : Nat} {σ : St} {Q : Option AV → AW → Prop} {u1 u2 u3 u4 : AV} : R d 160 52 [vR 153, u1, u2, u3, u4] [] (WS L σ) Q = if (σ 153 7) = 0 then R d 160 68 [vR 153, u1, u2, u3, u4] [vI (σ 153 5), vR 153] (WS L σ) Q else R d 160 64 [vR 153, u1, u2, u3, u4] [vI (σ 153 5), vR 153] (WS L σ) Q := K_aload_n fi_160_52 rfl <| K_dupr fi_160_53 <| K_gf fi_160_54 kd_153 mk_153_5 <| K_aload_n fi_160_57 rfl <| K_gf fi_160_58 kd_153 mk_153_7 <| R_if_eq fi_160_61 rfl
theorem b160_64 {d L : Nat} {σ : St} {Q : Option AV → AW → Prop} {y0 : Int} {u0 u1 u2 u3 u4 : AV} : R d 160 64 [u0, u1, u2, u3, u4] [vI y0, vR 153] (WS L σ) Q = R d 160 69 [u0, u1, u2, u3, u4] [vI 0, vI y0, vR 153] (WS L σ) Q := K_iconst fi_160_64 <| R_goto fi_160_65 rfl
theorem b160_68 {d L : Nat} {σ : St} {Q : Option AV → AW → Prop} {y0 : Int} {u0 u1 u2 u3 u4 : AV} : R d 160 68 [u0, u1, u2, u3, u4] [vI y0, vR 153] (WS L σ) Q = R d 160 69 [u0, u1, u2, u3, u4] [vI 1, vI y0, vR 153] (WS L σ) Q := K_iconst fi_160_68 <| rfl
theorem b160_69 {d L : Nat} {σ : St} {Q : Option AV → AW → Prop} {y0 y1 : Int} {u0 u1 u2 u3 u4 : AV} (h1 : -2147483648 ≤ y1 + y0 ∧ y1 + y0 ≤ 2147483647) : R d 160 69 [u0, u1, u2, u3, u4] [vI y0, vI y1, vR 153] (WS L σ) Q = R d 160 73 [u0, u1, u2, u3, u4] [] (WS L (st2 σ 153 5 (y1 + y0))) Q := K_iaddx fi_160_69 h1 <| K_pf fi_160_70 kd_153 rfl rfl rfl rfl <| rfl
theorem b160_73 {d L : Nat} {σ : St} {Q : Option AV → AW → Prop} {x1 : Int} {u0 u2 u3 u4 : AV} : R d 160 73 [u0, vI x1, u2, u3, u4] [] (WS L σ) Q = if ¬ x1 = 33 then R d 160 91 [u0, vI x1, u2, u3, u4] [] (WS L σ) Q else R d 160 79 [u0, vI x1, u2, u3, u4] [] (WS L σ) Q := K_iload_n fi_160_73 rfl <| K_bipush fi_160_74 <| R_icmp_ne fi_160_76 rfl
theorem b160_79 {d L : Nat} {σ : St} {Q : Option AV → AW → Prop} {u1 u2 u3 u4 : AV} : R (d + 1) 160 79 [vR 153, u1, u2, u3, u4] [] (WS L σ) Q = R d 160 0 [vR 153, vX 9, vX 9, vX 9, vX 9] [] (WS L σ) (fun r w => R (d + 1) 160 83 [vR 153, u1, u2, u3, u4] (am_push r []) w Q) := K_aload_n fi_160_79 rfl <| R_invV fi_160_80 (am_invV_of rfl (kd_153) (Nat.le_of_ble_eq_true rfl) (Nat.le_of_ble_eq_true rfl) rfl rfl)
theorem b160_83 {d L : Nat} {σ : St} {Q : Option AV → AW → Prop} {u1 u2 u3 u4 : AV} : R (d + 1) 160 83 [vR 153, u1, u2, u3, u4] [] (WS L σ) Q = R d 161 0 [vR 153, vI (-1)] [] (WS L σ) (fun r w => R (d + 1) 160 88 [vR 153, u1, u2, u3, u4] (am_push r []) w Q) := K_aload_n fi_160_83 rfl <| K_iconst fi_160_84 <| R_invV fi_160_85 (am_invV_of rfl (kd_153) (Nat.le_of_ble_eq_true rfl) (Nat.le_of_ble_eq_true rfl) rfl rfl)
theorem b160_88 {d L : Nat} {σ : St} {Q : Option AV → AW → Prop} {u0 u1 u2 u3 u4 : AV} : R d 160 88 [u0, u1, u2, u3, u4] [] (WS L σ) Q = R d 160 101 [u0, u1, u2, u3, u4] [] (WS L σ) Q := R_goto fi_160_88 rfl
theorem b160_91 {d L : Nat} {σ : St} {Q : Option AV → AW → Prop} {u1 u2 u3 u4 : AV} : R (d + 1) 160 91 [vR 153, u1, u2, u3, u4] [] (WS L σ) Q = R d 158 0 [vR 153] [] (WS L σ) (fun r w => R (d + 1) 160 95 [vR 153, u1, u2, u3, u4] (am_push r []) w Q) := K_aload_n fi_160_91 rfl <| R_invV fi_160_92 (am_invV_of rfl (kd_153) (Nat.le_of_ble_eq_true rfl) (Nat.le_of_ble_eq_true rfl) rfl rfl)
theorem b160_95 {d L : Nat} {σ : St} {Q : Option AV → AW → Prop} {u1 u2 u3 u4 : AV} : R (d + 1) 160 95 [vR 153, u1, u2, u3, u4] [] (WS L σ) Q = R d 156 0 [vR 153, vI 41] [] (WS L σ) (fun r w => R (d + 1) 160 101 [vR 153, u1, u2, u3, u4] (am_push r []) w Q) := K_aload_n fi_160_95 rfl <| K_bipush fi_160_96 <| R_invV fi_160_98 (am_invV_of rfl (kd_153) (Nat.le_of_ble_eq_true rfl) (Nat.le_of_ble_eq_true rfl) rfl rfl)
theorem b160_101 {d L : Nat} {σ : St} {Q : Option AV → AW → Prop} {u1 u2 u3 u4 : AV} (h1 : -2147483648 ≤ (σ 153 8) - 1 ∧ (σ 153 8) - 1 ≤ 2147483647) : R d 160 101 [vR 153, u1, u2, u3, u4] [] (WS L σ) Q = R d 160 111 [vR 153, u1, u2, u3, u4] [] (WS L (st2 σ 153 8 ((σ 153 8) - 1))) Q := K_aload_n fi_160_101 rfl <| K_dupr fi_160_102 <| K_gf fi_160_103 kd_153 mk_153_8 <| K_iconst fi_160_106 <| K_isubx fi_160_107 h1 <| K_pf fi_160_108 kd_153 rfl rfl rfl rfl <| rfl
theorem b160_111 {d L : Nat} {σ : St} {Q : Option AV → AW → Prop} {u0 u1 u2 u3 u4 : AV} : R d 160 111 [u0, u1, u2, u3, u4] [] (WS L σ) Q = Q none (WS L σ) := R_return fi_160_111
theorem b160_112 {d L : Nat} {σ : St} {Q : Option AV → AW → Prop} {u1 u2 u3 u4 : AV} : R (d + 1) 160 112 [vR 153, u1, u2, u3, u4] [] (WS L σ) Q = R d 162 0 [vR 153, vR 7, vX 9] [] (WS L σ) (fun r w => R (d + 1) 160 118 [vR 153, u1, u2, u3, u4] (am_push r []) w Q) := K_aload_n fi_160_112 rfl <| K_ldcs fi_160_113 <| R_invV fi_160_115 (am_invV_of rfl (kd_153) (Nat.le_of_ble_eq_true rfl) (Nat.le_of_ble_eq_true rfl) rfl rfl)
theorem b160_118 {d L : Nat} {σ : St} {Q : Option AV → AW → Prop} {y0 x1 : Int} {u2 u3 u4 : AV} : R d 160 118 [vR 153, vI x1, u2, u3, u4] [vI y0] (WS L σ) Q = if ¬ y0 = (-1) then R d 160 129 [vR 153, vI x1, vI y0, u3, u4] [vR 153] (WS L σ) Q else R d 160 125 [vR 153, vI x1, vI y0, u3, u4] [vR 153] (WS L σ) Q := K_istore_n fi_160_118 (Nat.le_of_ble_eq_true rfl) rfl rfl <| K_aload_n fi_160_119 rfl <| K_iload_n fi_160_120 rfl <| K_iconst fi_160_121 <| R_icmp_ne fi_160_122 rfl
theorem b160_125 {d L : Nat} {σ : St} {Q : Option AV → AW → Prop} {u0 u1 u2 u3 u4 : AV} : R d 160 125 [u0, u1, u2, u3, u4] [vR 153] (WS L σ) Q = R d 160 130 [u0, u1, u2, u3, u4] [vI 1, vR 153] (WS L σ) Q := K_iconst fi_160_125 <| R_goto fi_160_126 rfl
theorem b160_129 {d L : Nat} {σ : St} {Q : Option AV → AW → Prop} {u0 u1 u2 u3 u4 : AV} : R d 160 129 [u0, u1, u2, u3, u4] [vR 153] (WS L σ) Q = R d 160 130 [u0, u1, u2, u3, u4] [vI 0, vR 153] (WS L σ) Q := K_iconst fi_160_129 <| rfl
theorem b160_130 {d L : Nat} {σ : St} {Q : Option AV → AW → Prop} {y0 : Int} {u0 u1 u2 u3 u4 : AV} (h1 : am_bit y0 = true) : R d 160 130 [u0, u1, u2, u3, u4] [vI y0, vR 153] (WS L σ) Q = R d 160 133 [u0, u1, u2, u3, u4] [] (WS L (st2 σ 153 7 y0)) Q := K_pfz fi_160_130 kd_153 rfl rfl h1 rfl rfl <| rfl
theorem b160_133 {d L : Nat} {σ : St} {Q : Option AV → AW → Prop} {u1 u2 u3 u4 : AV} : R d 160 133 [vR 153, u1, u2, u3, u4] [] (WS L σ) Q = if (σ 153 7) = 0 then R d 160 144 [vR 153, u1, u2, u3, u4] [] (WS L σ) Q else R d 160 140 [vR 153, u1, u2, u3, u4] [] (WS L σ) Q := K_aload_n fi_160_133 rfl <| K_gf fi_160_134 kd_153 mk_153_7 <| R_if_eq fi_160_137 rfl
theorem b160_140 {d L : Nat} {σ : St} {Q : Option AV → AW → Prop} {u0 u1 u2 u3 u4 : AV} : R d 160 140 [u0, u1, u2, u3, u4] [] (WS L σ) Q = R d 160 150 [u0, u1, u2, u3, u4] [vI 0] (WS L σ) Q := K_iconst fi_160_140 <| R_goto fi_160_141 rfl
theorem b160_144 {d L : Nat} {σ : St} {Q : Option AV → AW → Prop} {u1 u2 u3 u4 : AV} : R (d + 1) 160 144 [vR 153, u1, u2, u3, u4] [] (WS L σ) Q = R d 162 0 [vR 153, vR 8, vX 9] [] (WS L σ) (fun r w => R (d + 1) 160 150 [vR 153, u1, u2, u3, u4] (am_push r []) w Q) := K_aload_n fi_160_144 rfl <| K_ldcs fi_160_145 <| R_invV fi_160_147 (am_invV_of rfl (kd_153) (Nat.le_of_ble_eq_true rfl) (Nat.le_of_ble_eq_true rfl) rfl rfl)
theorem b160_150 {d L : Nat} {σ : St} {Q : Option AV → AW → Prop} {y0 : Int} {u1 u2 u3 u4 : AV} : R d 160 150 [vR 153, u1, u2, u3, u4] [vI y0] (WS L σ) Q = if ¬ (σ 153 7) = 0 then R d 160 164 [vR 153, u1, u2, vI y0, u4] [vR 153] (WS L σ) Q else R d 160 159 [vR 153, u1, u2, vI y0, u4] [vR 153] (WS L σ) Q := K_istore_n fi_160_150 (Nat.le_of_ble_eq_true rfl) rfl rfl <| K_aload_n fi_160_151 rfl <| K_aload_n fi_160_152 rfl <| K_gf fi_160_153 kd_153 mk_153_7 <| R_if_ne fi_160_156 rfl
theorem b160_159 {d L : Nat} {σ : St} {Q : Option AV → AW → Prop} {x3 : Int} {u0 u1 u2 u4 : AV} : R d 160 159 [u0, u1, u2, vI x3, u4] [vR 153] (WS L σ) Q = if ¬ x3 = (-1) then R d 160 168 [u0, u1, u2, vI x3, u4] [vR 153] (WS L σ) Q else R d 160 164 [u0, u1, u2, vI x3, u4] [vR 153] (WS L σ) Q := K_iload_n fi_160_159 rfl <| K_iconst fi_160_160 <| R_icmp_ne fi_160_161 rfl
theorem b160_164 {d L : Nat} {σ : St} {Q : Option AV → AW → Prop} {u0 u1 u2 u3 u4 : AV} : R d 160 164 [u0, u1, u2, u3, u4] [vR 153] (WS L σ) Q = R d 160 169 [u0, u1, u2, u3, u4] [vI 1, vR 153] (WS L σ) Q := K_iconst fi_160_164 <| R_goto fi_160_165 rfl
theorem b160_168 {d L : Nat} {σ : St} {Q : Option AV → AW → Prop} {u0 u1 u2 u3 u4 : AV} : R d 160 168 [u0, u1, u2, u3, u4] [vR 153] (WS L σ) Q = R d 160 169 [u0, u1, u2, u3, u4] [vI 0, vR 153] (WS L σ) Q := K_iconst fi_160_168 <| rfl
theorem b160_169 {d L : Nat} {σ : St} {Q : Option AV → AW → Prop} {y0 : Int} {u0 u1 u2 u3 u4 : AV} (h1 : am_bit y0 = true) : R d 160 169 [u0, u1, u2, u3, u4] [vI y0, vR 153] (WS L σ) Q = R d 160 172 [u0, u1, u2, u3, u4] [] (WS L (st2 σ 153 7 y0)) Q := K_pfz fi_160_169 kd_153 rfl rfl h1 rfl rfl <| rfl
theorem b160_172 {d L : Nat} {σ : St} {Q : Option AV → AW → Prop} {u1 u2 u3 u4 : AV} : R (d + 1) 160 172 [vR 153, u1, u2, u3, u4] [] (WS L σ) Q = R d 157 0 [vR 153, vX 9, vX 9] [] (WS L σ) (fun r w => R (d + 1) 160 176 [vR 153, u1, u2, u3, u4] (am_push r []) w Q) := K_aload_n fi_160_172 rfl <| R_invV fi_160_173 (am_invV_of rfl (kd_153) (Nat.le_of_ble_eq_true rfl) (Nat.le_of_ble_eq_true rfl) rfl rfl)
theorem b160_176 {d L : Nat} {σ : St} {Q : Option AV → AW → Prop} {y0 x2 x3 : Int} {u1 u4 : AV} (h1 : -2147483648 ≤ 4 * x3 ∧ 4 * x3 ≤ 2147483647) (h2 : -2147483648 ≤ x2 + (4 * x3) ∧ x2 + (4 * x3) ≤ 2147483647) (h3 : -2147483648 ≤ 16 * y0 ∧ 16 * y0 ≤ 2147483647) (h4 : -2147483648 ≤ (x2 + (4 * x3)) + (16 * y0) ∧ (x2 + (4 * x3)) + (16 * y0) ≤ 2147483647) : R (d + 1) 160 176 [vR 153, u1, vI x2, vI x3, u4] [vI y0] (WS L σ) Q = R d 161 0 [vR 153, vI ((x2 + (4 * x3)) + (16 * y0))] [] (WS L σ) (fun r w => R (d + 1) 160 193 [vR 153, u1, vI x2, vI x3, vI y0] (am_push r []) w Q) := K_istore fi_160_176 (Nat.le_of_ble_eq_true rfl) rfl rfl <| K_aload_n fi_160_178 rfl <| K_iload_n fi_160_179 rfl <| K_iconst fi_160_180 <| K_iload_n fi_160_181 rfl <| K_imulx fi_160_182 h1 <| K_iaddx fi_160_183 h2 <| K_bipush fi_160_184 <| K_iload fi_160_186 rfl <| K_imulx fi_160_188 h3 <| K_iaddx fi_160_189 h4 <| R_invV fi_160_190 (am_invV_of rfl (kd_153) (Nat.le_of_ble_eq_true rfl) (Nat.le_of_ble_eq_true rfl) rfl rfl)
theorem b160_193 {d L : Nat} {σ : St} {Q : Option AV → AW → Prop} {u0 u1 u2 u3 u4 : AV} : R d 160 193 [u0, u1, u2, u3, u4] [] (WS L σ) Q = Q none (WS L σ) := R_return fi_160_193
theorem fi_161_0 : am_find 161 0 = some (.aload_n 0, 1, 0, 0, 0) := by decide +kernel
theorem fi_161_1 : am_find 161 1 = some (.getfield 68, 3, 10, 7, 115) := by decide +kernel
theorem fi_161_4 : am_find 161 4 = some (.ifCond .ne 52, 3, 0, 0, 0) := by decide +kernel
theorem fi_161_7 : am_find 161 7 = some (.aload_n 0, 1, 0, 0, 0) := by decide +kernel
theorem fi_161_8 : am_find 161 8 = some (.getfield 7, 3, 10, 1, 101) := by decide +kernel
theorem fi_161_11 : am_find 161 11 = some (.sipush 529, 3, 0, 529, 0) := by decide +kernel
theorem fi_161_14 : am_find 161 14 = some (.sipush 140, 3, 0, 140, 0) := by decide +kernel
theorem fi_161_17 : am_find 161 17 = some (.aload_n 0, 1, 0, 0, 0) := by decide +kernel
theorem fi_161_18 : am_find 161 18 = some (.getfield 89, 3, 10, 4, 112) := by decide +kernel
theorem fi_161_21 : am_find 161 21 = some (.imul, 1, 0, 0, 0) := by decide +kernel
theorem fi_161_22 : am_find 161 22 = some (.iadd, 1, 0, 0, 0) := by decide +kernel
theorem fi_161_23 : am_find 161 23 = some (.aload_n 0, 1, 0, 0, 0) := by decide +kernel
theorem fi_161_24 : am_find 161 24 = some (.getfield 7, 3, 10, 1, 101) := by decide +kernel
theorem fi_161_27 : am_find 161 27 = some (.sipush 523, 3, 0, 523, 0) := by decide +kernel
theorem fi_161_30 : am_find 161 30 = some (.aload_n 0, 1, 0, 0, 0) := by decide +kernel
theorem fi_161_31 : am_find 161 31 = some (.getfield 89, 3, 10, 4, 112) := by decide +kernel
theorem fi_161_34 : am_find 161 34 = some (.iadd, 1, 0, 0, 0) := by decide +kernel
theorem fi_161_35 : am_find 161 35 = some (.iaload, 1, 0, 0, 0) := by decide +kernel
theorem fi_161_36 : am_find 161 36 = some (.iadd, 1, 0, 0, 0) := by decide +kernel
theorem fi_161_37 : am_find 161 37 = some (.iload_n 1, 1, 0, 0, 0) := by decide +kernel
theorem fi_161_38 : am_find 161 38 = some (.iastore, 1, 0, 0, 0) := by decide +kernel
theorem fi_161_39 : am_find 161 39 = some (.aload_n 0, 1, 0, 0, 0) := by decide +kernel
theorem fi_161_40 : am_find 161 40 = some (.getfield 7, 3, 10, 1, 101) := by decide +kernel
theorem fi_161_43 : am_find 161 43 = some (.sipush 523, 3, 0, 523, 0) := by decide +kernel
theorem fi_161_46 : am_find 161 46 = some (.aload_n 0, 1, 0, 0, 0) := by decide +kernel
theorem fi_161_47 : am_find 161 47 = some (.getfield 89, 3, 10, 4, 112) := by decide +kernel
theorem fi_161_50 : am_find 161 50 = some (.iadd, 1, 0, 0, 0) := by decide +kernel
theorem fi_161_51 : am_find 161 51 = some (.dup2, 1, 0, 0, 0) := by decide +kernel
theorem fi_161_52 : am_find 161 52 = some (.iaload, 1, 0, 0, 0) := by decide +kernel
theorem fi_161_53 : am_find 161 53 = some (.iconst 1, 1, 0, 1, 0) := by decide +kernel
theorem fi_161_54 : am_find 161 54 = some (.iadd, 1, 0, 0, 0) := by decide +kernel
theorem fi_161_55 : am_find 161 55 = some (.iastore, 1, 0, 0, 0) := by decide +kernel
theorem fi_161_56 : am_find 161 56 = some (.return_, 1, 0, 0, 0) := by decide +kernel
theorem b161_0 {d L : Nat} {σ : St} {Q : Option AV → AW → Prop} {u1 : AV} : R d 161 0 [vR 153, u1] [] (WS L σ) Q = if ¬ (σ 153 7) = 0 then R d 161 56 [vR 153, u1] [] (WS L σ) Q else R d 161 7 [vR 153, u1] [] (WS L σ) Q := K_aload_n fi_161_0 rfl <| K_gf fi_161_1 kd_153 mk_153_7 <| R_if_ne fi_161_4 rfl
theorem b161_7 {d L : Nat} {σ : St} {Q : Option AV → AW → Prop} {x1 : Int} (h1 : -2147483648 ≤ 140 * (σ 153 4) ∧ 140 * (σ 153 4) ≤ 2147483647) (h2 : -2147483648 ≤ 529 + (140 * (σ 153 4)) ∧ 529 + (140 * (σ 153 4)) ≤ 2147483647) (h3 : -2147483648 ≤ 523 + (σ 153 4) ∧ 523 + (σ 153 4) ≤ 2147483647) (h4 : 0 ≤ 523 + (σ 153 4)) (h5 : (523 + (σ 153 4)) < 1580) (h6 : -2147483648 ≤ (529 + (140 * (σ 153 4))) + (σ 154 (523 + (σ 153 4))) ∧ (529 + (140 * (σ 153 4))) + (σ 154 (523 + (σ 153 4))) ≤ 2147483647) (h7 : 0 ≤ (529 + (140 * (σ 153 4))) + (σ 154 (523 + (σ 153 4)))) (h8 : ((529 + (140 * (σ 153 4))) + (σ 154 (523 + (σ 153 4)))) < 1580) : R d 161 7 [vR 153, vI x1] [] (WS L σ) Q = R d 161 39 [vR 153, vI x1] [] (WS L (st2 σ 154 ((529 + (140 * (σ 153 4))) + (σ 154 (523 + (σ 153 4)))) x1)) Q := K_aload_n fi_161_7 rfl <| K_gf fi_161_8 kd_153 mk_153_1 <| K_sipush fi_161_11 <| K_sipush fi_161_14 <| K_aload_n fi_161_17 rfl <| K_gf fi_161_18 kd_153 mk_153_4 <| K_imulx fi_161_21 h1 <| K_iaddx fi_161_22 h2 <| K_aload_n fi_161_23 rfl <| K_gf fi_161_24 kd_153 mk_153_1 <| K_sipush fi_161_27 <| K_aload_n fi_161_30 rfl <| K_gf fi_161_31 kd_153 mk_153_4 <| K_iaddx fi_161_34 h3 <| K_ia fi_161_35 kd_154 h4 h5 <| K_iaddx fi_161_36 h6 <| K_iload_n fi_161_37 rfl <| K_is fi_161_38 kd_154 h7 h8 <| rfl
theorem b161_39 {d L : Nat} {σ : St} {Q : Option AV → AW → Prop} {u1 : AV} (h1 : -2147483648 ≤ 523 + (σ 153 4) ∧ 523 + (σ 153 4) ≤ 2147483647) (h2 : 0 ≤ 523 + (σ 153 4)) (h3 : (523 + (σ 153 4)) < 1580) (h4 : -2147483648 ≤ (σ 154 (523 + (σ 153 4))) + 1 ∧ (σ 154 (523 + (σ 153 4))) + 1 ≤ 2147483647) : R d 161 39 [vR 153, u1] [] (WS L σ) Q = R d 161 56 [vR 153, u1] [] (WS L (st2 σ 154 (523 + (σ 153 4)) ((σ 154 (523 + (σ 153 4))) + 1))) Q := K_aload_n fi_161_39 rfl <| K_gf fi_161_40 kd_153 mk_153_1 <| K_sipush fi_161_43 <| K_aload_n fi_161_46 rfl <| K_gf fi_161_47 kd_153 mk_153_4 <| K_iaddx fi_161_50 h1 <| K_dup2 fi_161_51 <| K_ia fi_161_52 kd_154 h2 h3 <| K_iconst fi_161_53 <| K_iaddx fi_161_54 h4 <| K_is fi_161_55 kd_154 h2 h3 <| rfl
theorem b161_56 {d L : Nat} {σ : St} {Q : Option AV → AW → Prop} {u0 u1 : AV} : R d 161 56 [u0, u1] [] (WS L σ) Q = Q none (WS L σ) := R_return fi_161_56
theorem fi_162_0 : am_find 162 0 = some (.iconst 0, 1, 0, 0, 0) := by decide +kernel
theorem fi_162_1 : am_find 162 1 = some (.istore_n 2, 1, 0, 0, 0) := by decide +kernel
theorem fi_162_2 : am_find 162 2 = some (.iload_n 2, 1, 0, 0, 0) := by decide +kernel
theorem fi_162_3 : am_find 162 3 = some (.aload_n 1, 1, 0, 0, 0) := by decide +kernel
theorem fi_162_4 : am_find 162 4 = some (.invokevirtual 76, 3, 22, 0, 183) := by decide +kernel
theorem fi_162_7 : am_find 162 7 = some (.if_icmp .ge 33, 3, 0, 0, 0) := by decide +kernel
theorem fi_162_10 : am_find 162 10 = some (.aload_n 0, 1, 0, 0, 0) := by decide +kernel
theorem fi_162_11 : am_find 162 11 = some (.invokevirtual 72, 3, 153, 0, 174) := by decide +kernel
theorem fi_162_14 : am_find 162 14 = some (.aload_n 1, 1, 0, 0, 0) := by decide +kernel
theorem fi_162_15 : am_find 162 15 = some (.iload_n 2, 1, 0, 0, 0) := by decide +kernel
theorem fi_162_16 : am_find 162 16 = some (.invokevirtual 81, 3, 24, 1, 184) := by decide +kernel
theorem fi_162_19 : am_find 162 19 = some (.if_icmp .ne 15, 3, 0, 0, 0) := by decide +kernel
theorem fi_162_22 : am_find 162 22 = some (.aload_n 0, 1, 0, 0, 0) := by decide +kernel
theorem fi_162_23 : am_find 162 23 = some (.dup, 1, 0, 0, 0) := by decide +kernel
theorem fi_162_24 : am_find 162 24 = some (.getfield 62, 3, 10, 5, 114) := by decide +kernel
theorem fi_162_27 : am_find 162 27 = some (.iconst 1, 1, 0, 1, 0) := by decide +kernel
theorem fi_162_28 : am_find 162 28 = some (.iadd, 1, 0, 0, 0) := by decide +kernel
theorem fi_162_29 : am_find 162 29 = some (.putfield 62, 3, 10, 5, 114) := by decide +kernel
theorem fi_162_32 : am_find 162 32 = some (.iload_n 2, 1, 0, 0, 0) := by decide +kernel
theorem fi_162_33 : am_find 162 33 = some (.ireturn, 1, 0, 0, 0) := by decide +kernel
theorem fi_162_34 : am_find 162 34 = some (.iinc 2 1, 3, 0, 0, 0) := by decide +kernel
theorem fi_162_37 : am_find 162 37 = some (.goto (-35), 3, 0, 0, 0) := by decide +kernel
theorem fi_162_40 : am_find 162 40 = some (.iconst (-1), 1, 0, (-1), 0) := by decide +kernel
theorem fi_162_41 : am_find 162 41 = some (.ireturn, 1, 0, 0, 0) := by decide +kernel
theorem b162_0a {d L : Nat} {σ : St} {Q : Option AV → AW → Prop} {u0 u2 : AV} : R d 162 0 [u0, vR 7, u2] [] (WS L σ) Q = R d 162 2 [u0, vR 7, vI 0] [] (WS L σ) Q := K_iconst fi_162_0 <| K_istore_n fi_162_1 (Nat.le_of_ble_eq_true rfl) rfl rfl <| rfl
theorem b162_2a {d L : Nat} {σ : St} {Q : Option AV → AW → Prop} {x2 : Int} {u0 : AV} : R (d + 1) 162 2 [u0, vR 7, vI x2] [] (WS L σ) Q = R d 22 0 [vR 7] [] (WS L σ) (fun r w => R (d + 1) 162 7 [u0, vR 7, vI x2] (am_push r [vI x2]) w Q) := K_iload_n fi_162_2 rfl <| K_aload_n fi_162_3 rfl <| R_invV fi_162_4 (am_invV_of rfl (kd_7) (Nat.le_of_ble_eq_true rfl) (Nat.le_of_ble_eq_true rfl) rfl rfl)
theorem b162_7a {d L : Nat} {σ : St} {Q : Option AV → AW → Prop} {y0 y1 : Int} {u0 u1 u2 : AV} : R d 162 7 [u0, u1, u2] [vI y0, vI y1] (WS L σ) Q = if y0 ≤ y1 then R d 162 40 [u0, u1, u2] [] (WS L σ) Q else R d 162 10 [u0, u1, u2] [] (WS L σ) Q := R_icmp_ge fi_162_7 rfl
theorem b162_10a {d L : Nat} {σ : St} {Q : Option AV → AW → Prop} {u1 u2 : AV} : R (d + 1) 162 10 [vR 153, u1, u2] [] (WS L σ) Q = R d 153 0 [vR 153] [] (WS L σ) (fun r w => R (d + 1) 162 14 [vR 153, u1, u2] (am_push r []) w Q) := K_aload_n fi_162_10 rfl <| R_invV fi_162_11 (am_invV_of rfl (kd_153) (Nat.le_of_ble_eq_true rfl) (Nat.le_of_ble_eq_true rfl) rfl rfl)
theorem b162_14a {d L : Nat} {σ : St} {Q : Option AV → AW → Prop} {y0 x2 : Int} {u0 : AV} : R (d + 1) 162 14 [u0, vR 7, vI x2] [vI y0] (WS L σ) Q = R d 24 0 [vR 7, vI x2] [] (WS L σ) (fun r w => R (d + 1) 162 19 [u0, vR 7, vI x2] (am_push r [vI y0]) w Q) := K_aload_n fi_162_14 rfl <| K_iload_n fi_162_15 rfl <| R_invV fi_162_16 (am_invV_of rfl (kd_7) (Nat.le_of_ble_eq_true rfl) (Nat.le_of_ble_eq_true rfl) rfl rfl)
theorem b162_19a {d L : Nat} {σ : St} {Q : Option AV → AW → Prop} {y0 y1 : Int} {u0 u1 u2 : AV} : R d 162 19 [u0, u1, u2] [vI y0, vI y1] (WS L σ) Q = if ¬ y1 = y0 then R d 162 34 [u0, u1, u2] [] (WS L σ) Q else R d 162 22 [u0, u1, u2] [] (WS L σ) Q := R_icmp_ne fi_162_19 rfl
theorem b162_22a {d L : Nat} {σ : St} {Q : Option AV → AW → Prop} {u1 u2 : AV} (h1 : -2147483648 ≤ (σ 153 5) + 1 ∧ (σ 153 5) + 1 ≤ 2147483647) : R d 162 22 [vR 153, u1, u2] [] (WS L σ) Q = R d 162 32 [vR 153, u1, u2] [] (WS L (st2 σ 153 5 ((σ 153 5) + 1))) Q := K_aload_n fi_162_22 rfl <| K_dupr fi_162_23 <| K_gf fi_162_24 kd_153 mk_153_5 <| K_iconst fi_162_27 <| K_iaddx fi_162_28 h1 <| K_pf fi_162_29 kd_153 rfl rfl rfl rfl <| rfl
theorem b162_32a {d L : Nat} {σ : St} {Q : Option AV → AW → Prop} {x2 : Int} {u0 u1 : AV} : R d 162 32 [u0, u1, vI x2] [] (WS L σ) Q = Q (some (vI x2)) (WS L σ) := K_iload_n fi_162_32 rfl <| R_ireti fi_162_33 rfl
theorem b162_34a {d L : Nat} {σ : St} {Q : Option AV → AW → Prop} {x2 : Int} {u0 : AV} (h1 : -2147483648 ≤ x2 + 1 ∧ x2 + 1 ≤ 2147483647) : R d 162 34 [u0, vR 7, vI x2] [] (WS L σ) Q = R d 162 2 [u0, vR 7, vI (x2 + 1)] [] (WS L σ) Q := K_iincx fi_162_34 rfl (Nat.le_of_ble_eq_true rfl) rfl h1 rfl <| R_goto fi_162_37 rfl
theorem b162_40a {d L : Nat} {σ : St} {Q : Option AV → AW → Prop} {u0 u1 u2 : AV} : R d 162 40 [u0, u1, u2] [] (WS L σ) Q = Q (some (vI (-1))) (WS L σ) := K_iconst fi_162_40 <| R_ireti fi_162_41 rfl
theorem b162_0b {d L : Nat} {σ : St} {Q : Option AV → AW → Prop} {u0 u2 : AV} : R d 162 0 [u0, vR 8, u2] [] (WS L σ) Q = R d 162 2 [u0, vR 8, vI 0] [] (WS L σ) Q := K_iconst fi_162_0 <| K_istore_n fi_162_1 (Nat.le_of_ble_eq_true rfl) rfl rfl <| rfl
theorem b162_2b {d L : Nat} {σ : St} {Q : Option AV → AW → Prop} {x2 : Int} {u0 : AV} : R (d + 1) 162 2 [u0, vR 8, vI x2] [] (WS L σ) Q = R d 22 0 [vR 8] [] (WS L σ) (fun r w => R (d + 1) 162 7 [u0, vR 8, vI x2] (am_push r [vI x2]) w Q) := K_iload_n fi_162_2 rfl <| K_aload_n fi_162_3 rfl <| R_invV fi_162_4 (am_invV_of rfl (kd_8) (Nat.le_of_ble_eq_true rfl) (Nat.le_of_ble_eq_true rfl) rfl rfl)
theorem b162_7b {d L : Nat} {σ : St} {Q : Option AV → AW → Prop} {y0 y1 : Int} {u0 u1 u2 : AV} : R d 162 7 [u0, u1, u2] [vI y0, vI y1] (WS L σ) Q = if y0 ≤ y1 then R d 162 40 [u0, u1, u2] [] (WS L σ) Q else R d 162 10 [u0, u1, u2] [] (WS L σ) Q := R_icmp_ge fi_162_7 rfl
theorem b162_10b {d L : Nat} {σ : St} {Q : Option AV → AW → Prop} {u1 u2 : AV} : R (d + 1) 162 10 [vR 153, u1, u2] [] (WS L σ) Q = R d 153 0 [vR 153] [] (WS L σ) (fun r w => R (d + 1) 162 14 [vR 153, u1, u2] (am_push r []) w Q) := K_aload_n fi_162_10 rfl <| R_invV fi_162_11 (am_invV_of rfl (kd_153) (Nat.le_of_ble_eq_true rfl) (Nat.le_of_ble_eq_true rfl) rfl rfl)
theorem b162_14b {d L : Nat} {σ : St} {Q : Option AV → AW → Prop} {y0 x2 : Int} {u0 : AV} : R (d + 1) 162 14 [u0, vR 8, vI x2] [vI y0] (WS L σ) Q = R d 24 0 [vR 8, vI x2] [] (WS L σ) (fun r w => R (d + 1) 162 19 [u0, vR 8, vI x2] (am_push r [vI y0]) w Q) := K_aload_n fi_162_14 rfl <| K_iload_n fi_162_15 rfl <| R_invV fi_162_16 (am_invV_of rfl (kd_8) (Nat.le_of_ble_eq_true rfl) (Nat.le_of_ble_eq_true rfl) rfl rfl)
theorem b162_19b {d L : Nat} {σ : St} {Q : Option AV → AW → Prop} {y0 y1 : Int} {u0 u1 u2 : AV} : R d 162 19 [u0, u1, u2] [vI y0, vI y1] (WS L σ) Q = if ¬ y1 = y0 then R d 162 34 [u0, u1, u2] [] (WS L σ) Q else R d 162 22 [u0, u1, u2] [] (WS L σ) Q := R_icmp_ne fi_162_19 rfl
theorem b162_22b {d L : Nat} {σ : St} {Q : Option AV → AW → Prop} {u1 u2 : AV} (h1 : -2147483648 ≤ (σ 153 5) + 1 ∧ (σ 153 5) + 1 ≤ 2147483647) : R d 162 22 [vR 153, u1, u2] [] (WS L σ) Q = R d 162 32 [vR 153, u1, u2] [] (WS L (st2 σ 153 5 ((σ 153 5) + 1))) Q := K_aload_n fi_162_22 rfl <| K_dupr fi_162_23 <| K_gf fi_162_24 kd_153 mk_153_5 <| K_iconst fi_162_27 <| K_iaddx fi_162_28 h1 <| K_pf fi_162_29 kd_153 rfl rfl rfl rfl <| rfl
theorem b162_32b {d L : Nat} {σ : St} {Q : Option AV → AW → Prop} {x2 : Int} {u0 u1 : AV} : R d 162 32 [u0, u1, vI x2] [] (WS L σ) Q = Q (some (vI x2)) (WS L σ) := K_iload_n fi_162_32 rfl <| R_ireti fi_162_33 rfl
theorem b162_34b {d L : Nat} {σ : St} {Q : Option AV → AW → Prop} {x2 : Int} {u0 : AV} (h1 : -2147483648 ≤ x2 + 1 ∧ x2 + 1 ≤ 2147483647) : R d 162 34 [u0, vR 8, vI x2] [] (WS L σ) Q = R d 162 2 [u0, vR 8, vI (x2 + 1)] [] (WS L σ) Q := K_iincx fi_162_34 rfl (Nat.le_of_ble_eq_true rfl) rfl h1 rfl <| R_goto fi_162_37 rfl
theorem b162_40b {d L : Nat} {σ : St} {Q : Option AV → AW → Prop} {u0 u1 u2 : AV} : R d 162 40 [u0, u1, u2] [] (WS L σ) Q = Q (some (vI (-1))) (WS L σ) := K_iconst fi_162_40 <| R_ireti fi_162_41 rfl
theorem fi_163_0 : am_find 163 0 = some (.aload_n 0, 1, 0, 0, 0) := by decide +kernel
theorem fi_163_1 : am_find 163 1 = some (.ldc 124, 2, 1, 9, 1220) := by decide +kernel
theorem fi_163_3 : am_find 163 3 = some (.invokevirtual 120, 3, 155, 1, 178) := by decide +kernel
theorem fi_163_6 : am_find 163 6 = some (.aload_n 0, 1, 0, 0, 0) := by decide +kernel
theorem fi_163_7 : am_find 163 7 = some (.invokevirtual 112, 3, 157, 0, 179) := by decide +kernel
theorem fi_163_10 : am_find 163 10 = some (.istore_n 1, 1, 0, 0, 0) := by decide +kernel
theorem fi_163_11 : am_find 163 11 = some (.aload_n 0, 1, 0, 0, 0) := by decide +kernel
theorem fi_163_12 : am_find 163 12 = some (.bipush 32, 2, 0, 32, 0) := by decide +kernel
theorem fi_163_14 : am_find 163 14 = some (.invokevirtual 85, 3, 156, 1, 180) := by decide +kernel
theorem fi_163_17 : am_find 163 17 = some (.aload_n 0, 1, 0, 0, 0) := by decide +kernel
theorem fi_163_18 : am_find 163 18 = some (.bipush 7, 2, 0, 7, 0) := by decide +kernel
theorem fi_163_20 : am_find 163 20 = some (.invokevirtual 126, 3, 164, 1, 188) := by decide +kernel
theorem fi_163_23 : am_find 163 23 = some (.istore_n 2, 1, 0, 0, 0) := by decide +kernel
theorem fi_163_24 : am_find 163 24 = some (.aload_n 0, 1, 0, 0, 0) := by decide +kernel
theorem fi_163_25 : am_find 163 25 = some (.bipush 32, 2, 0, 32, 0) := by decide +kernel
theorem fi_163_27 : am_find 163 27 = some (.invokevirtual 85, 3, 156, 1, 180) := by decide +kernel
theorem fi_163_30 : am_find 163 30 = some (.aload_n 0, 1, 0, 0, 0) := by decide +kernel
theorem fi_163_31 : am_find 163 31 = some (.bipush 7, 2, 0, 7, 0) := by decide +kernel
theorem fi_163_33 : am_find 163 33 = some (.invokevirtual 126, 3, 164, 1, 188) := by decide +kernel
theorem fi_163_36 : am_find 163 36 = some (.istore_n 3, 1, 0, 0, 0) := by decide +kernel
theorem fi_163_37 : am_find 163 37 = some (.aload_n 0, 1, 0, 0, 0) := by decide +kernel
theorem fi_163_38 : am_find 163 38 = some (.getfield 68, 3, 10, 7, 115) := by decide +kernel
theorem fi_163_41 : am_find 163 41 = some (.ifCond .ne 77, 3, 0, 0, 0) := by decide +kernel
theorem fi_163_44 : am_find 163 44 = some (.sipush 217, 3, 0, 217, 0) := by decide +kernel
theorem fi_163_47 : am_find 163 47 = some (.iconst 3, 1, 0, 3, 0) := by decide +kernel
theorem fi_163_48 : am_find 163 48 = some (.bipush 10, 2, 0, 10, 0) := by decide +kernel
theorem fi_163_50 : am_find 163 50 = some (.aload_n 0, 1, 0, 0, 0) := by decide +kernel
theorem fi_163_51 : am_find 163 51 = some (.getfield 89, 3, 10, 4, 112) := by decide +kernel
theorem fi_163_54 : am_find 163 54 = some (.imul, 1, 0, 0, 0) := by decide +kernel
theorem fi_163_55 : am_find 163 55 = some (.aload_n 0, 1, 0, 0, 0) := by decide +kernel
theorem fi_163_56 : am_find 163 56 = some (.getfield 7, 3, 10, 1, 101) := by decide +kernel
theorem fi_163_59 : am_find 163 59 = some (.sipush 211, 3, 0, 211, 0) := by decide +kernel
theorem fi_163_62 : am_find 163 62 = some (.aload_n 0, 1, 0, 0, 0) := by decide +kernel
theorem fi_163_63 : am_find 163 63 = some (.getfield 89, 3, 10, 4, 112) := by decide +kernel
theorem fi_163_66 : am_find 163 66 = some (.iadd, 1, 0, 0, 0) := by decide +kernel
theorem fi_163_67 : am_find 163 67 = some (.iaload, 1, 0, 0, 0) := by decide +kernel
theorem fi_163_68 : am_find 163 68 = some (.iadd, 1, 0, 0, 0) := by decide +kernel
theorem fi_163_69 : am_find 163 69 = some (.imul, 1, 0, 0, 0) := by decide +kernel
theorem fi_163_70 : am_find 163 70 = some (.iadd, 1, 0, 0, 0) := by decide +kernel
theorem fi_163_71 : am_find 163 71 = some (.istore 4, 2, 0, 0, 0) := by decide +kernel
theorem fi_163_73 : am_find 163 73 = some (.aload_n 0, 1, 0, 0, 0) := by decide +kernel
theorem fi_163_74 : am_find 163 74 = some (.getfield 7, 3, 10, 1, 101) := by decide +kernel
theorem fi_163_77 : am_find 163 77 = some (.iload 4, 2, 0, 0, 0) := by decide +kernel
theorem fi_163_79 : am_find 163 79 = some (.iload_n 1, 1, 0, 0, 0) := by decide +kernel
theorem fi_163_80 : am_find 163 80 = some (.iastore, 1, 0, 0, 0) := by decide +kernel
theorem fi_163_81 : am_find 163 81 = some (.aload_n 0, 1, 0, 0, 0) := by decide +kernel
theorem fi_163_82 : am_find 163 82 = some (.getfield 7, 3, 10, 1, 101) := by decide +kernel
theorem fi_163_85 : am_find 163 85 = some (.iload 4, 2, 0, 0, 0) := by decide +kernel
theorem fi_163_87 : am_find 163 87 = some (.iconst 1, 1, 0, 1, 0) := by decide +kernel
theorem fi_163_88 : am_find 163 88 = some (.iadd, 1, 0, 0, 0) := by decide +kernel
theorem fi_163_89 : am_find 163 89 = some (.iload_n 2, 1, 0, 0, 0) := by decide +kernel
theorem fi_163_90 : am_find 163 90 = some (.iastore, 1, 0, 0, 0) := by decide +kernel
theorem fi_163_91 : am_find 163 91 = some (.aload_n 0, 1, 0, 0, 0) := by decide +kernel
theorem fi_163_92 : am_find 163 92 = some (.getfield 7, 3, 10, 1, 101) := by decide +kernel
theorem fi_163_95 : am_find 163 95 = some (.iload 4, 2, 0, 0, 0) := by decide +kernel
theorem fi_163_97 : am_find 163 97 = some (.iconst 2, 1, 0, 2, 0) := by decide +kernel
theorem fi_163_98 : am_find 163 98 = some (.iadd, 1, 0, 0, 0) := by decide +kernel
theorem fi_163_99 : am_find 163 99 = some (.iload_n 3, 1, 0, 0, 0) := by decide +kernel
theorem fi_163_100 : am_find 163 100 = some (.iastore, 1, 0, 0, 0) := by decide +kernel
theorem fi_163_101 : am_find 163 101 = some (.aload_n 0, 1, 0, 0, 0) := by decide +kernel
theorem fi_163_102 : am_find 163 102 = some (.getfield 7, 3, 10, 1, 101) := by decide +kernel
theorem fi_163_105 : am_find 163 105 = some (.sipush 211, 3, 0, 211, 0) := by decide +kernel
theorem fi_163_108 : am_find 163 108 = some (.aload_n 0, 1, 0, 0, 0) := by decide +kernel
theorem fi_163_109 : am_find 163 109 = some (.getfield 89, 3, 10, 4, 112) := by decide +kernel
theorem fi_163_112 : am_find 163 112 = some (.iadd, 1, 0, 0, 0) := by decide +kernel
theorem fi_163_113 : am_find 163 113 = some (.dup2, 1, 0, 0, 0) := by decide +kernel
theorem fi_163_114 : am_find 163 114 = some (.iaload, 1, 0, 0, 0) := by decide +kernel
theorem fi_163_115 : am_find 163 115 = some (.iconst 1, 1, 0, 1, 0) := by decide +kernel
theorem fi_163_116 : am_find 163 116 = some (.iadd, 1, 0, 0, 0) := by decide +kernel
theorem fi_163_117 : am_find 163 117 = some (.iastore, 1, 0, 0, 0) := by decide +kernel
theorem fi_163_118 : am_find 163 118 = some (.return_, 1, 0, 0, 0) := by decide +kernel
theorem b163_0 {d L : Nat} {σ : St} {Q : Option AV → AW → Prop} {u1 u2 u3 u4 : AV} : R (d + 1) 163 0 [vR 153, u1, u2, u3, u4] [] (WS L σ) Q = R d 155 0 [vR 153, vR 9, vX 9] [] (WS L σ) (fun r w => R (d + 1) 163 6 [vR 153, u1, u2, u3, u4] (am_push r []) w Q) := K_aload_n fi_163_0 rfl <| K_ldcs fi_163_1 <| R_invV fi_163_3 (am_invV_of rfl (kd_153) (Nat.le_of_ble_eq_true rfl) (Nat.le_of_ble_eq_true rfl) rfl rfl)
theorem b163_6 {d L : Nat} {σ : St} {Q : Option AV → AW → Prop} {u1 u2 u3 u4 : AV} : R (d + 1) 163 6 [vR 153, u1, u2, u3, u4] [] (WS L σ) Q = R d 157 0 [vR 153, vX 9, vX 9] [] (WS L σ) (fun r w => R (d + 1) 163 10 [vR 153, u1, u2, u3, u4] (am_push r []) w Q) := K_aload_n fi_163_6 rfl <| R_invV fi_163_7 (am_invV_of rfl (kd_153) (Nat.le_of_ble_eq_true rfl) (Nat.le_of_ble_eq_true rfl) rfl rfl)
theorem b163_10 {d L : Nat} {σ : St} {Q : Option AV → AW → Prop} {y0 : Int} {u1 u2 u3 u4 : AV} : R (d + 1) 163 10 [vR 153, u1, u2, u3, u4] [vI y0] (WS L σ) Q = R d 156 0 [vR 153, vI 32] [] (WS L σ) (fun r w => R (d + 1) 163 17 [vR 153, vI y0, u2, u3, u4] (am_push r []) w Q) := K_istore_n fi_163_10 (Nat.le_of_ble_eq_true rfl) rfl rfl <| K_aload_n fi_163_11 rfl <| K_bipush fi_163_12 <| R_invV fi_163_14 (am_invV_of rfl (kd_153) (Nat.le_of_ble_eq_true rfl) (Nat.le_of_ble_eq_true rfl) rfl rfl)
theorem b163_17 {d L : Nat} {σ : St} {Q : Option AV → AW → Prop} {u1 u2 u3 u4 : AV} : R (d + 1) 163 17 [vR 153, u1, u2, u3, u4] [] (WS L σ) Q = R d 164 0 [vR 153, vI 7, vX 9] [] (WS L σ) (fun r w => R (d + 1) 163 23 [vR 153, u1, u2, u3, u4] (am_push r []) w Q) := K_aload_n fi_163_17 rfl <| K_bipush fi_163_18 <| R_invV fi_163_20 (am_invV_of rfl (kd_153) (Nat.le_of_ble_eq_true rfl) (Nat.le_of_ble_eq_true rfl) rfl rfl)
theorem b163_23 {d L : Nat} {σ : St} {Q : Option AV → AW → Prop} {y0 x1 : Int} {u2 u3 u4 : AV} : R (d + 1) 163 23 [vR 153, vI x1, u2, u3, u4] [vI y0] (WS L σ) Q = R d 156 0 [vR 153, vI 32] [] (WS L σ) (fun r w => R (d + 1) 163 30 [vR 153, vI x1, vI y0, u3, u4] (am_push r []) w Q) := K_istore_n fi_163_23 (Nat.le_of_ble_eq_true rfl) rfl rfl <| K_aload_n fi_163_24 rfl <| K_bipush fi_163_25 <| R_invV fi_163_27 (am_invV_of rfl (kd_153) (Nat.le_of_ble_eq_true rfl) (Nat.le_of_ble_eq_true rfl) rfl rfl)
theorem b163_30 {d L : Nat} {σ : St} {Q : Option AV → AW → Prop} {u1 u2 u3 u4 : AV} : R (d + 1) 163 30 [vR 153, u1, u2, u3, u4] [] (WS L σ) Q = R d 164 0 [vR 153, vI 7, vX 9] [] (WS L σ) (fun r w => R (d + 1) 163 36 [vR 153, u1, u2, u3, u4] (am_push r []) w Q) := K_aload_n fi_163_30 rfl <| K_bipush fi_163_31 <| R_invV fi_163_33 (am_invV_of rfl (kd_153) (Nat.le_of_ble_eq_true rfl) (Nat.le_of_ble_eq_true rfl) rfl rfl)
theorem b163_36 {d L : Nat} {σ : St} {Q : Option AV → AW → Prop} {y0 : Int} {u1 u2 u3 u4 : AV} : R d 163 36 [vR 153, u1, u2, u3, u4] [vI y0] (WS L σ) Q = if ¬ (σ 153 7) = 0 then R d 163 118 [vR 153, u1, u2, vI y0, u4] [] (WS L σ) Q else R d 163 44 [vR 153, u1, u2, vI y0, u4] [] (WS L σ) Q := K_istore_n fi_163_36 (Nat.le_of_ble_eq_true rfl) rfl rfl <| K_aload_n fi_163_37 rfl <| K_gf fi_163_38 kd_153 mk_153_7 <| R_if_ne fi_163_41 rfl
theorem b163_44 {d L : Nat} {σ : St} {Q : Option AV → AW → Prop} {x1 : Int} {u2 u3 u4 : AV} (h1 : -2147483648 ≤ 10 * (σ 153 4) ∧ 10 * (σ 153 4) ≤ 2147483647) (h2 : -2147483648 ≤ 211 + (σ 153 4) ∧ 211 + (σ 153 4) ≤ 2147483647) (h3 : 0 ≤ 211 + (σ 153 4)) (h4 : (211 + (σ 153 4)) < 1580) (h5 : -2147483648 ≤ (10 * (σ 153 4)) + (σ 154 (211 + (σ 153 4))) ∧ (10 * (σ 153 4)) + (σ 154 (211 + (σ 153 4))) ≤ 2147483647) (h6 : -2147483648 ≤ 3 * ((10 * (σ 153 4)) + (σ 154 (211 + (σ 153 4)))) ∧ 3 * ((10 * (σ 153 4)) + (σ 154 (211 + (σ 153 4)))) ≤ 2147483647) (h7 : -2147483648 ≤ 217 + (3 * ((10 * (σ 153 4)) + (σ 154 (211 + (σ 153 4))))) ∧ 217 + (3 * ((10 * (σ 153 4)) + (σ 154 (211 + (σ 153 4))))) ≤ 2147483647) (h8 : 0 ≤ 217 + (3 * ((10 * (σ 153 4)) + (σ 154 (211 + (σ 153 4)))))) (h9 : (217 + (3 * ((10 * (σ 153 4)) + (σ 154 (211 + (σ 153 4)))))) < 1580) : R d 163 44 [vR 153, vI x1, u2, u3, u4] [] (WS L σ) Q = R d 163 81 [vR 153, vI x1, u2, u3, vI (217 + (3 * ((10 * (σ 153 4)) + (σ 154 (211 + (σ 153 4))))))] [] (WS L (st2 σ 154 (217 + (3 * ((10 * (σ 153 4)) + (σ 154 (211 + (σ 153 4)))))) x1)) Q := K_sipush fi_163_44 <| K_iconst fi_163_47 <| K_bipush fi_163_48 <| K_aload_n fi_163_50 rfl <| K_gf fi_163_51 kd_153 mk_153_4 <| K_imulx fi_163_54 h1 <| K_aload_n fi_163_55 rfl <| K_gf fi_163_56 kd_153 mk_153_1 <| K_sipush fi_163_59 <| K_aload_n fi_163_62 rfl <| K_gf fi_163_63 kd_153 mk_153_4 <| K_iaddx fi_163_66 h2 <| K_ia fi_163_67 kd_154 h3 h4 <| K_iaddx fi_163_68 h5 <| K_imulx fi_163_69 h6 <| K_iaddx fi_163_70 h7 <| K_istore fi_163_71 (Nat.le_of_ble_eq_true rfl) rfl rfl <| K_aload_n fi_163_73 rfl <| K_gf fi_163_74 kd_153 mk_153_1 <| K_iload fi_163_77 rfl <| K_iload_n fi_163_79 rfl <| K_is fi_163_80 kd_154 h8 h9 <| rfl
theorem b163_81 {d L : Nat} {σ : St} {Q : Option AV → AW → Prop} {x4 x2 : Int} {u1 u3 : AV} (h1 : -2147483648 ≤ x4 + 1 ∧ x4 + 1 ≤ 2147483647) (h2 : 0 ≤ x4 + 1) (h3 : (x4 + 1) < 1580) : R d 163 81 [vR 153, u1, vI x2, u3, vI x4] [] (WS L σ) Q = R d 163 91 [vR 153, u1, vI x2, u3, vI x4] [] (WS L (st2 σ 154 (x4 + 1) x2)) Q := K_aload_n fi_163_81 rfl <| K_gf fi_163_82 kd_153 mk_153_1 <| K_iload fi_163_85 rfl <| K_iconst fi_163_87 <| K_iaddx fi_163_88 h1 <| K_iload_n fi_163_89 rfl <| K_is fi_163_90 kd_154 h2 h3 <| rfl
theorem b163_91 {d L : Nat} {σ : St} {Q : Option AV → AW → Prop} {x4 x3 : Int} {u1 u2 : AV} (h1 : -2147483648 ≤ x4 + 2 ∧ x4 + 2 ≤ 2147483647) (h2 : 0 ≤ x4 + 2) (h3 : (x4 + 2) < 1580) : R d 163 91 [vR 153, u1, u2, vI x3, vI x4] [] (WS L σ) Q = R d 163 101 [vR 153, u1, u2, vI x3, vI x4] [] (WS L (st2 σ 154 (x4 + 2) x3)) Q := K_aload_n fi_163_91 rfl <| K_gf fi_163_92 kd_153 mk_153_1 <| K_iload fi_163_95 rfl <| K_iconst fi_163_97 <| K_iaddx fi_163_98 h1 <| K_iload_n fi_163_99 rfl <| K_is fi_163_100 kd_154 h2 h3 <| rfl
theorem b163_101 {d L : Nat} {σ : St} {Q : Option AV → AW → Prop} {u1 u2 u3 u4 : AV} (h1 : -2147483648 ≤ 211 + (σ 153 4) ∧ 211 + (σ 153 4) ≤ 2147483647) (h2 : 0 ≤ 211 + (σ 153 4)) (h3 : (211 + (σ 153 4)) < 1580) (h4 : -2147483648 ≤ (σ 154 (211 + (σ 153 4))) + 1 ∧ (σ 154 (211 + (σ 153 4))) + 1 ≤ 2147483647) : R d 163 101 [vR 153, u1, u2, u3, u4] [] (WS L σ) Q = R d 163 118 [vR 153, u1, u2, u3, u4] [] (WS L (st2 σ 154 (211 + (σ 153 4)) ((σ 154 (211 + (σ 153 4))) + 1))) Q := K_aload_n fi_163_101 rfl <| K_gf fi_163_102 kd_153 mk_153_1 <| K_sipush fi_163_105 <| K_aload_n fi_163_108 rfl <| K_gf fi_163_109 kd_153 mk_153_4 <| K_iaddx fi_163_112 h1 <| K_dup2 fi_163_113 <| K_ia fi_163_114 kd_154 h2 h3 <| K_iconst fi_163_115 <| K_iaddx fi_163_116 h4 <| K_is fi_163_117 kd_154 h2 h3 <| rfl
theorem b163_118 {d L : Nat} {σ : St} {Q : Option AV → AW → Prop} {u0 u1 u2 u3 u4 : AV} : R d 163 118 [u0, u1, u2, u3, u4] [] (WS L σ) Q = Q none (WS L σ) := R_return fi_163_118
theorem fi_164_0 : am_find 164 0 = some (.aload_n 0, 1, 0, 0, 0) := by decide +kernel
theorem fi_164_1 : am_find 164 1 = some (.aload_n 0, 1, 0, 0, 0) := by decide +kernel
theorem fi_164_2 : am_find 164 2 = some (.getfield 68, 3, 10, 7, 115) := by decide +kernel
theorem fi_164_5 : am_find 164 5 = some (.ifCond .ne 19, 3, 0, 0, 0) := by decide +kernel
theorem fi_164_8 : am_find 164 8 = some (.aload_n 0, 1, 0, 0, 0) := by decide +kernel
theorem fi_164_9 : am_find 164 9 = some (.invokevirtual 72, 3, 153, 0, 174) := by decide +kernel
theorem fi_164_12 : am_find 164 12 = some (.bipush 48, 2, 0, 48, 0) := by decide +kernel
theorem fi_164_14 : am_find 164 14 = some (.bipush 48, 2, 0, 48, 0) := by decide +kernel
theorem fi_164_16 : am_find 164 16 = some (.iload_n 1, 1, 0, 0, 0) := by decide +kernel
theorem fi_164_17 : am_find 164 17 = some (.iadd, 1, 0, 0, 0) := by decide +kernel
theorem fi_164_18 : am_find 164 18 = some (.invokestatic 49, 3, 145, 3, 170) := by decide +kernel
theorem fi_164_21 : am_find 164 21 = some (.ifCond .ne 7, 3, 0, 0, 0) := by decide +kernel
theorem fi_164_24 : am_find 164 24 = some (.iconst 1, 1, 0, 1, 0) := by decide +kernel
theorem fi_164_25 : am_find 164 25 = some (.goto 4, 3, 0, 0, 0) := by decide +kernel
theorem fi_164_28 : am_find 164 28 = some (.iconst 0, 1, 0, 0, 0) := by decide +kernel
theorem fi_164_29 : am_find 164 29 = some (.putfield 68, 3, 10, 7, 115) := by decide +kernel
theorem fi_164_32 : am_find 164 32 = some (.aload_n 0, 1, 0, 0, 0) := by decide +kernel
theorem fi_164_33 : am_find 164 33 = some (.getfield 68, 3, 10, 7, 115) := by decide +kernel
theorem fi_164_36 : am_find 164 36 = some (.ifCond .eq 7, 3, 0, 0, 0) := by decide +kernel
theorem fi_164_39 : am_find 164 39 = some (.iconst 0, 1, 0, 0, 0) := by decide +kernel
theorem fi_164_40 : am_find 164 40 = some (.goto 10, 3, 0, 0, 0) := by decide +kernel
theorem fi_164_43 : am_find 164 43 = some (.aload_n 0, 1, 0, 0, 0) := by decide +kernel
theorem fi_164_44 : am_find 164 44 = some (.invokevirtual 72, 3, 153, 0, 174) := by decide +kernel
theorem fi_164_47 : am_find 164 47 = some (.bipush 48, 2, 0, 48, 0) := by decide +kernel
theorem fi_164_49 : am_find 164 49 = some (.isub, 1, 0, 0, 0) := by decide +kernel
theorem fi_164_50 : am_find 164 50 = some (.istore_n 2, 1, 0, 0, 0) := by decide +kernel
theorem fi_164_51 : am_find 164 51 = some (.aload_n 0, 1, 0, 0, 0) := by decide +kernel
theorem fi_164_52 : am_find 164 52 = some (.dup, 1, 0, 0, 0) := by decide +kernel
theorem fi_164_53 : am_find 164 53 = some (.getfield 62, 3, 10, 5, 114) := by decide +kernel
theorem fi_164_56 : am_find 164 56 = some (.aload_n 0, 1, 0, 0, 0) := by decide +kernel
theorem fi_164_57 : am_find 164 57 = some (.getfield 68, 3, 10, 7, 115) := by decide +kernel
theorem fi_164_60 : am_find 164 60 = some (.ifCond .eq 7, 3, 0, 0, 0) := by decide +kernel
theorem fi_164_63 : am_find 164 63 = some (.iconst 0, 1, 0, 0, 0) := by decide +kernel
theorem fi_164_64 : am_find 164 64 = some (.goto 4, 3, 0, 0, 0) := by decide +kernel
theorem fi_164_67 : am_find 164 67 = some (.iconst 1, 1, 0, 1, 0) := by decide +kernel
theorem fi_164_68 : am_find 164 68 = some (.iadd, 1, 0, 0, 0) := by decide +kernel
theorem fi_164_69 : am_find 164 69 = some (.putfield 62, 3, 10, 5, 114) := by decide +kernel
theorem fi_164_72 : am_find 164 72 = some (.iload_n 2, 1, 0, 0, 0) := by decide +kernel
theorem fi_164_73 : am_find 164 73 = some (.ireturn, 1, 0, 0, 0) := by decide +kernel
theorem b164_0 {d L : Nat} {σ : St} {Q : Option AV → AW → Prop} {u1 u2 : AV} : R d 164 0 [vR 153, u1, u2] [] (WS L σ) Q = if ¬ (σ 153 7) = 0 then R d 164 24 [vR 153, u1, u2] [vR 153] (WS L σ) Q else R d 164 8 [vR 153, u1, u2] [vR 153] (WS L σ) Q := K_aload_n fi_164_0 rfl <| K_aload_n fi_164_1 rfl <| K_gf fi_164_2 kd_153 mk_153_7 <| R_if_ne fi_164_5 rfl
theorem b164_8 {d L : Nat} {σ : St} {Q : Option AV → AW → Prop} {u1 u2 : AV} : R (d + 1) 164 8 [vR 153, u1, u2] [vR 153] (WS L σ) Q = R d 153 0 [vR 153] [] (WS L σ) (fun r w => R (d + 1) 164 12 [vR 153, u1, u2] (am_push r [vR 153]) w Q) := K_aload_n fi_164_8 rfl <| R_invV fi_164_9 (am_invV_of rfl (kd_153) (Nat.le_of_ble_eq_true rfl) (Nat.le_of_ble_eq_true rfl) rfl rfl)
theorem b164_12 {d L : Nat} {σ : St} {Q : Option AV → AW → Prop} {y0 x1 : Int} {u0 u2 : AV} (h1 : -2147483648 ≤ 48 + x1 ∧ 48 + x1 ≤ 2147483647) : R (d + 1) 164 12 [u0, vI x1, u2] [vI y0, vR 153] (WS L σ) Q = R d 145 0 [vI y0, vI 48, vI (48 + x1)] [] (WS L σ) (fun r w => R (d + 1) 164 21 [u0, vI x1, u2] (am_push r [vR 153]) w Q) := K_bipush fi_164_12 <| K_bipush fi_164_14 <| K_iload_n fi_164_16 rfl <| K_iaddx fi_164_17 h1 <| R_invS fi_164_18 (by decide) (am_invS_of (Nat.le_of_ble_eq_true rfl) rfl (Nat.le_of_ble_eq_true rfl) (Nat.le_of_ble_eq_true rfl) rfl rfl)
theorem b164_21 {d L : Nat} {σ : St} {Q : Option AV → AW → Prop} {y0 : Int} {u0 u1 u2 : AV} : R d 164 21 [u0, u1, u2] [vI y0, vR 153] (WS L σ) Q = if ¬ y0 = 0 then R d 164 28 [u0, u1, u2] [vR 153] (WS L σ) Q else R d 164 24 [u0, u1, u2] [vR 153] (WS L σ) Q := R_if_ne fi_164_21 rfl
theorem b164_24 {d L : Nat} {σ : St} {Q : Option AV → AW → Prop} {u0 u1 u2 : AV} : R d 164 24 [u0, u1, u2] [vR 153] (WS L σ) Q = R d 164 29 [u0, u1, u2] [vI 1, vR 153] (WS L σ) Q := K_iconst fi_164_24 <| R_goto fi_164_25 rfl
theorem b164_28 {d L : Nat} {σ : St} {Q : Option AV → AW → Prop} {u0 u1 u2 : AV} : R d 164 28 [u0, u1, u2] [vR 153] (WS L σ) Q = R d 164 29 [u0, u1, u2] [vI 0, vR 153] (WS L σ) Q := K_iconst fi_164_28 <| rfl
theorem b164_29 {d L : Nat} {σ : St} {Q : Option AV → AW → Prop} {y0 : Int} {u0 u1 u2 : AV} (h1 : am_bit y0 = true) : R d 164 29 [u0, u1, u2] [vI y0, vR 153] (WS L σ) Q = R d 164 32 [u0, u1, u2] [] (WS L (st2 σ 153 7 y0)) Q := K_pfz fi_164_29 kd_153 rfl rfl h1 rfl rfl <| rfl
theorem b164_32 {d L : Nat} {σ : St} {Q : Option AV → AW → Prop} {u1 u2 : AV} : R d 164 32 [vR 153, u1, u2] [] (WS L σ) Q = if (σ 153 7) = 0 then R d 164 43 [vR 153, u1, u2] [] (WS L σ) Q else R d 164 39 [vR 153, u1, u2] [] (WS L σ) Q := K_aload_n fi_164_32 rfl <| K_gf fi_164_33 kd_153 mk_153_7 <| R_if_eq fi_164_36 rfl
theorem b164_39 {d L : Nat} {σ : St} {Q : Option AV → AW → Prop} {u0 u1 u2 : AV} : R d 164 39 [u0, u1, u2] [] (WS L σ) Q = R d 164 50 [u0, u1, u2] [vI 0] (WS L σ) Q := K_iconst fi_164_39 <| R_goto fi_164_40 rfl
theorem b164_43 {d L : Nat} {σ : St} {Q : Option AV → AW → Prop} {u1 u2 : AV} : R (d + 1) 164 43 [vR 153, u1, u2] [] (WS L σ) Q = R d 153 0 [vR 153] [] (WS L σ) (fun r w => R (d + 1) 164 47 [vR 153, u1, u2] (am_push r []) w Q) := K_aload_n fi_164_43 rfl <| R_invV fi_164_44 (am_invV_of rfl (kd_153) (Nat.le_of_ble_eq_true rfl) (Nat.le_of_ble_eq_true rfl) rfl rfl)
theorem b164_47 {d L : Nat} {σ : St} {Q : Option AV → AW → Prop} {y0 : Int} {u0 u1 u2 : AV} (h1 : -2147483648 ≤ y0 - 48 ∧ y0 - 48 ≤ 2147483647) : R d 164 47 [u0, u1, u2] [vI y0] (WS L σ) Q = R d 164 50 [u0, u1, u2] [vI (y0 - 48)] (WS L σ) Q := K_bipush fi_164_47 <| K_isubx fi_164_49 h1 <| rfl
theorem b164_50 {d L : Nat} {σ : St} {Q : Option AV → AW → Prop} {y0 x1 : Int} {u2 : AV} : R d 164 50 [vR 153, vI x1, u2] [vI y0] (WS L σ) Q = if (σ 153 7) = 0 then R d 164 67 [vR 153, vI x1, vI y0] [vI (σ 153 5), vR 153] (WS L σ) Q else R d 164 63 [vR 153, vI x1, vI y0] [vI (σ 153 5), vR 153] (WS L σ) Q := K_istore_n fi_164_50 (Nat.le_of_ble_eq_true rfl) rfl rfl <| K_aload_n fi_164_51 rfl <| K_dupr fi_164_52 <| K_gf fi_164_53 kd_153 mk_153_5 <| K_aload_n fi_164_56 rfl <| K_gf fi_164_57 kd_153 mk_153_7 <| R_if_eq fi_164_60 rfl
theorem b164_63 {d L : Nat} {σ : St} {Q : Option AV → AW → Prop} {y0 : Int} {u0 u1 u2 : AV} : R d 164 63 [u0, u1, u2] [vI y0, vR 153] (WS L σ) Q = R d 164 68 [u0, u1, u2] [vI 0, vI y0, vR 153] (WS L σ) Q := K_iconst fi_164_63 <| R_goto fi_164_64 rfl
theorem b164_67 {d L : Nat} {σ : St} {Q : Option AV → AW → Prop} {y0 : Int} {u0 u1 u2 : AV} : R d 164 67 [u0, u1, u2] [vI y0, vR 153] (WS L σ) Q = R d 164 68 [u0, u1, u2] [vI 1, vI y0, vR 153] (WS L σ) Q := K_iconst fi_164_67 <| rfl
theorem b164_68 {d L : Nat} {σ : St} {Q : Option AV → AW → Prop} {y0 y1 : Int} {u0 u1 u2 : AV} (h1 : -2147483648 ≤ y1 + y0 ∧ y1 + y0 ≤ 2147483647) : R d 164 68 [u0, u1, u2] [vI y0, vI y1, vR 153] (WS L σ) Q = R d 164 72 [u0, u1, u2] [] (WS L (st2 σ 153 5 (y1 + y0))) Q := K_iaddx fi_164_68 h1 <| K_pf fi_164_69 kd_153 rfl rfl rfl rfl <| rfl
theorem b164_72 {d L : Nat} {σ : St} {Q : Option AV → AW → Prop} {x2 : Int} {u0 u1 : AV} : R d 164 72 [u0, u1, vI x2] [] (WS L σ) Q = Q (some (vI x2)) (WS L σ) := K_iload_n fi_164_72 rfl <| R_ireti fi_164_73 rfl
theorem fi_165_0 : am_find 165 0 = some (.aload_n 0, 1, 0, 0, 0) := by decide +kernel
theorem fi_165_1 : am_find 165 1 = some (.ldc 130, 2, 1, 10, 1229) := by decide +kernel
theorem fi_165_3 : am_find 165 3 = some (.invokevirtual 120, 3, 155, 1, 178) := by decide +kernel
theorem fi_165_6 : am_find 165 6 = some (.aload_n 0, 1, 0, 0, 0) := by decide +kernel
theorem fi_165_7 : am_find 165 7 = some (.invokevirtual 112, 3, 157, 0, 179) := by decide +kernel
theorem fi_165_10 : am_find 165 10 = some (.istore_n 1, 1, 0, 0, 0) := by decide +kernel
theorem fi_165_11 : am_find 165 11 = some (.aload_n 0, 1, 0, 0, 0) := by decide +kernel
theorem fi_165_12 : am_find 165 12 = some (.bipush 32, 2, 0, 32, 0) := by decide +kernel
theorem fi_165_14 : am_find 165 14 = some (.invokevirtual 85, 3, 156, 1, 180) := by decide +kernel
theorem fi_165_17 : am_find 165 17 = some (.aload_n 0, 1, 0, 0, 0) := by decide +kernel
theorem fi_165_18 : am_find 165 18 = some (.iconst 3, 1, 0, 3, 0) := by decide +kernel
theorem fi_165_19 : am_find 165 19 = some (.invokevirtual 126, 3, 164, 1, 188) := by decide +kernel
theorem fi_165_22 : am_find 165 22 = some (.istore_n 2, 1, 0, 0, 0) := by decide +kernel
theorem fi_165_23 : am_find 165 23 = some (.aload_n 0, 1, 0, 0, 0) := by decide +kernel
theorem fi_165_24 : am_find 165 24 = some (.getfield 68, 3, 10, 7, 115) := by decide +kernel
theorem fi_165_27 : am_find 165 27 = some (.ifCond .ne 64, 3, 0, 0, 0) := by decide +kernel
theorem fi_165_30 : am_find 165 30 = some (.sipush 403, 3, 0, 403, 0) := by decide +kernel
theorem fi_165_33 : am_find 165 33 = some (.iconst 2, 1, 0, 2, 0) := by decide +kernel
theorem fi_165_34 : am_find 165 34 = some (.bipush 10, 2, 0, 10, 0) := by decide +kernel
theorem fi_165_36 : am_find 165 36 = some (.aload_n 0, 1, 0, 0, 0) := by decide +kernel
theorem fi_165_37 : am_find 165 37 = some (.getfield 89, 3, 10, 4, 112) := by decide +kernel
theorem fi_165_40 : am_find 165 40 = some (.imul, 1, 0, 0, 0) := by decide +kernel
theorem fi_165_41 : am_find 165 41 = some (.aload_n 0, 1, 0, 0, 0) := by decide +kernel
theorem fi_165_42 : am_find 165 42 = some (.getfield 7, 3, 10, 1, 101) := by decide +kernel
theorem fi_165_45 : am_find 165 45 = some (.sipush 397, 3, 0, 397, 0) := by decide +kernel
theorem fi_165_48 : am_find 165 48 = some (.aload_n 0, 1, 0, 0, 0) := by decide +kernel
theorem fi_165_49 : am_find 165 49 = some (.getfield 89, 3, 10, 4, 112) := by decide +kernel
theorem fi_165_52 : am_find 165 52 = some (.iadd, 1, 0, 0, 0) := by decide +kernel
theorem fi_165_53 : am_find 165 53 = some (.iaload, 1, 0, 0, 0) := by decide +kernel
theorem fi_165_54 : am_find 165 54 = some (.iadd, 1, 0, 0, 0) := by decide +kernel
theorem fi_165_55 : am_find 165 55 = some (.imul, 1, 0, 0, 0) := by decide +kernel
theorem fi_165_56 : am_find 165 56 = some (.iadd, 1, 0, 0, 0) := by decide +kernel
theorem fi_165_57 : am_find 165 57 = some (.istore_n 3, 1, 0, 0, 0) := by decide +kernel
theorem fi_165_58 : am_find 165 58 = some (.aload_n 0, 1, 0, 0, 0) := by decide +kernel
theorem fi_165_59 : am_find 165 59 = some (.getfield 7, 3, 10, 1, 101) := by decide +kernel
theorem fi_165_62 : am_find 165 62 = some (.iload_n 3, 1, 0, 0, 0) := by decide +kernel
theorem fi_165_63 : am_find 165 63 = some (.iload_n 1, 1, 0, 0, 0) := by decide +kernel
theorem fi_165_64 : am_find 165 64 = some (.iastore, 1, 0, 0, 0) := by decide +kernel
theorem fi_165_65 : am_find 165 65 = some (.aload_n 0, 1, 0, 0, 0) := by decide +kernel
theorem fi_165_66 : am_find 165 66 = some (.getfield 7, 3, 10, 1, 101) := by decide +kernel
theorem fi_165_69 : am_find 165 69 = some (.iload_n 3, 1, 0, 0, 0) := by decide +kernel
theorem fi_165_70 : am_find 165 70 = some (.iconst 1, 1, 0, 1, 0) := by decide +kernel
theorem fi_165_71 : am_find 165 71 = some (.iadd, 1, 0, 0, 0) := by decide +kernel
theorem fi_165_72 : am_find 165 72 = some (.iload_n 2, 1, 0, 0, 0) := by decide +kernel
theorem fi_165_73 : am_find 165 73 = some (.iastore, 1, 0, 0, 0) := by decide +kernel
theorem fi_165_74 : am_find 165 74 = some (.aload_n 0, 1, 0, 0, 0) := by decide +kernel
theorem fi_165_75 : am_find 165 75 = some (.getfield 7, 3, 10, 1, 101) := by decide +kernel
theorem fi_165_78 : am_find 165 78 = some (.sipush 397, 3, 0, 397, 0) := by decide +kernel
theorem fi_165_81 : am_find 165 81 = some (.aload_n 0, 1, 0, 0, 0) := by decide +kernel
theorem fi_165_82 : am_find 165 82 = some (.getfield 89, 3, 10, 4, 112) := by decide +kernel
theorem fi_165_85 : am_find 165 85 = some (.iadd, 1, 0, 0, 0) := by decide +kernel
theorem fi_165_86 : am_find 165 86 = some (.dup2, 1, 0, 0, 0) := by decide +kernel
theorem fi_165_87 : am_find 165 87 = some (.iaload, 1, 0, 0, 0) := by decide +kernel
theorem fi_165_88 : am_find 165 88 = some (.iconst 1, 1, 0, 1, 0) := by decide +kernel
theorem fi_165_89 : am_find 165 89 = some (.iadd, 1, 0, 0, 0) := by decide +kernel
theorem fi_165_90 : am_find 165 90 = some (.iastore, 1, 0, 0, 0) := by decide +kernel
theorem fi_165_91 : am_find 165 91 = some (.return_, 1, 0, 0, 0) := by decide +kernel
theorem b165_0 {d L : Nat} {σ : St} {Q : Option AV → AW → Prop} {u1 u2 u3 : AV} : R (d + 1) 165 0 [vR 153, u1, u2, u3] [] (WS L σ) Q = R d 155 0 [vR 153, vR 10, vX 9] [] (WS L σ) (fun r w => R (d + 1) 165 6 [vR 153, u1, u2, u3] (am_push r []) w Q) := K_aload_n fi_165_0 rfl <| K_ldcs fi_165_1 <| R_invV fi_165_3 (am_invV_of rfl (kd_153) (Nat.le_of_ble_eq_true rfl) (Nat.le_of_ble_eq_true rfl) rfl rfl)
theorem b165_6 {d L : Nat} {σ : St} {Q : Option AV → AW → Prop} {u1 u2 u3 : AV} : R (d + 1) 165 6 [vR 153, u1, u2, u3] [] (WS L σ) Q = R d 157 0 [vR 153, vX 9, vX 9] [] (WS L σ) (fun r w => R (d + 1) 165 10 [vR 153, u1, u2, u3] (am_push r []) w Q) := K_aload_n fi_165_6 rfl <| R_invV fi_165_7 (am_invV_of rfl (kd_153) (Nat.le_of_ble_eq_true rfl) (Nat.le_of_ble_eq_true rfl) rfl rfl)
theorem b165_10 {d L : Nat} {σ : St} {Q : Option AV → AW → Prop} {y0 : Int} {u1 u2 u3 : AV} : R (d + 1) 165 10 [vR 153, u1, u2, u3] [vI y0] (WS L σ) Q = R d 156 0 [vR 153, vI 32] [] (WS L σ) (fun r w => R (d + 1) 165 17 [vR 153, vI y0, u2, u3] (am_push r []) w Q) := K_istore_n fi_165_10 (Nat.le_of_ble_eq_true rfl) rfl rfl <| K_aload_n fi_165_11 rfl <| K_bipush fi_165_12 <| R_invV fi_165_14 (am_invV_of rfl (kd_153) (Nat.le_of_ble_eq_true rfl) (Nat.le_of_ble_eq_true rfl) rfl rfl)
theorem b165_17 {d L : Nat} {σ : St} {Q : Option AV → AW → Prop} {u1 u2 u3 : AV} : R (d + 1) 165 17 [vR 153, u1, u2, u3] [] (WS L σ) Q = R d 164 0 [vR 153, vI 3, vX 9] [] (WS L σ) (fun r w => R (d + 1) 165 22 [vR 153, u1, u2, u3] (am_push r []) w Q) := K_aload_n fi_165_17 rfl <| K_iconst fi_165_18 <| R_invV fi_165_19 (am_invV_of rfl (kd_153) (Nat.le_of_ble_eq_true rfl) (Nat.le_of_ble_eq_true rfl) rfl rfl)
theorem b165_22 {d L : Nat} {σ : St} {Q : Option AV → AW → Prop} {y0 x1 : Int} {u2 u3 : AV} : R d 165 22 [vR 153, vI x1, u2, u3] [vI y0] (WS L σ) Q = if ¬ (σ 153 7) = 0 then R d 165 91 [vR 153, vI x1, vI y0, u3] [] (WS L σ) Q else R d 165 30 [vR 153, vI x1, vI y0, u3] [] (WS L σ) Q := K_istore_n fi_165_22 (Nat.le_of_ble_eq_true rfl) rfl rfl <| K_aload_n fi_165_23 rfl <| K_gf fi_165_24 kd_153 mk_153_7 <| R_if_ne fi_165_27 rfl
theorem b165_30 {d L : Nat} {σ : St} {Q : Option AV → AW → Prop} {x1 : Int} {u2 u3 : AV} (h1 : -2147483648 ≤ 10 * (σ 153 4) ∧ 10 * (σ 153 4) ≤ 2147483647) (h2 : -2147483648 ≤ 397 + (σ 153 4) ∧ 397 + (σ 153 4) ≤ 2147483647) (h3 : 0 ≤ 397 + (σ 153 4)) (h4 : (397 + (σ 153 4)) < 1580) (h5 : -2147483648 ≤ (10 * (σ 153 4)) + (σ 154 (397 + (σ 153 4))) ∧ (10 * (σ 153 4)) + (σ 154 (397 + (σ 153 4))) ≤ 2147483647) (h6 : -2147483648 ≤ 2 * ((10 * (σ 153 4)) + (σ 154 (397 + (σ 153 4)))) ∧ 2 * ((10 * (σ 153 4)) + (σ 154 (397 + (σ 153 4)))) ≤ 2147483647) (h7 : -2147483648 ≤ 403 + (2 * ((10 * (σ 153 4)) + (σ 154 (397 + (σ 153 4))))) ∧ 403 + (2 * ((10 * (σ 153 4)) + (σ 154 (397 + (σ 153 4))))) ≤ 2147483647) (h8 : 0 ≤ 403 + (2 * ((10 * (σ 153 4)) + (σ 154 (397 + (σ 153 4)))))) (h9 : (403 + (2 * ((10 * (σ 153 4)) + (σ 154 (397 + (σ 153 4)))))) < 1580) : R d 165 30 [vR 153, vI x1, u2, u3] [] (WS L σ) Q = R d 165 65 [vR 153, vI x1, u2, vI (403 + (2 * ((10 * (σ 153 4)) + (σ 154 (397 + (σ 153 4))))))] [] (WS L (st2 σ 154 (403 + (2 * ((10 * (σ 153 4)) + (σ 154 (397 + (σ 153 4)))))) x1)) Q := K_sipush fi_165_30 <| K_iconst fi_165_33 <| K_bipush fi_165_34 <| K_aload_n fi_165_36 rfl <| K_gf fi_165_37 kd_153 mk_153_4 <| K_imulx fi_165_40 h1 <| K_aload_n fi_165_41 rfl <| K_gf fi_165_42 kd_153 mk_153_1 <| K_sipush fi_165_45 <| K_aload_n fi_165_48 rfl <| K_gf fi_165_49 kd_153 mk_153_4 <| K_iaddx fi_165_52 h2 <| K_ia fi_165_53 kd_154 h3 h4 <| K_iaddx fi_165_54 h5 <| K_imulx fi_165_55 h6 <| K_iaddx fi_165_56 h7 <| K_istore_n fi_165_57 (Nat.le_of_ble_eq_true rfl) rfl rfl <| K_aload_n fi_165_58 rfl <| K_gf fi_165_59 kd_153 mk_153_1 <| K_iload_n fi_165_62 rfl <| K_iload_n fi_165_63 rfl <| K_is fi_165_64 kd_154 h8 h9 <| rfl
theorem b165_65 {d L : Nat} {σ : St} {Q : Option AV → AW → Prop} {x3 x2 : Int} {u1 : AV} (h1 : -2147483648 ≤ x3 + 1 ∧ x3 + 1 ≤ 2147483647) (h2 : 0 ≤ x3 + 1) (h3 : (x3 + 1) < 1580) : R d 165 65 [vR 153, u1, vI x2, vI x3] [] (WS L σ) Q = R d 165 74 [vR 153, u1, vI x2, vI x3] [] (WS L (st2 σ 154 (x3 + 1) x2)) Q := K_aload_n fi_165_65 rfl <| K_gf fi_165_66 kd_153 mk_153_1 <| K_iload_n fi_165_69 rfl <| K_iconst fi_165_70 <| K_iaddx fi_165_71 h1 <| K_iload_n fi_165_72 rfl <| K_is fi_165_73 kd_154 h2 h3 <| rfl
theorem b165_74 {d L : Nat} {σ : St} {Q : Option AV → AW → Prop} {u1 u2 u3 : AV} (h1 : -2147483648 ≤ 397 + (σ 153 4) ∧ 397 + (σ 153 4) ≤ 2147483647) (h2 : 0 ≤ 397 + (σ 153 4)) (h3 : (397 + (σ 153 4)) < 1580) (h4 : -2147483648 ≤ (σ 154 (397 + (σ 153 4))) + 1 ∧ (σ 154 (397 + (σ 153 4))) + 1 ≤ 2147483647) : R d 165 74 [vR 153, u1, u2, u3] [] (WS L σ) Q = R d 165 91 [vR 153, u1, u2, u3] [] (WS L (st2 σ 154 (397 + (σ 153 4)) ((σ 154 (397 + (σ 153 4))) + 1))) Q := K_aload_n fi_165_74 rfl <| K_gf fi_165_75 kd_153 mk_153_1 <| K_sipush fi_165_78 <| K_aload_n fi_165_81 rfl <| K_gf fi_165_82 kd_153 mk_153_4 <| K_iaddx fi_165_85 h1 <| K_dup2 fi_165_86 <| K_ia fi_165_87 kd_154 h2 h3 <| K_iconst fi_165_88 <| K_iaddx fi_165_89 h4 <| K_is fi_165_90 kd_154 h2 h3 <| rfl
theorem b165_91 {d L : Nat} {σ : St} {Q : Option AV → AW → Prop} {u0 u1 u2 u3 : AV} : R d 165 91 [u0, u1, u2, u3] [] (WS L σ) Q = Q none (WS L σ) := R_return fi_165_91
theorem fi_166_0 : am_find 166 0 = some (.iload_n 1, 1, 0, 0, 0) := by decide +kernel
theorem fi_166_1 : am_find 166 1 = some (.invokestatic 144, 3, 167, 1, 189) := by decide +kernel
theorem fi_166_4 : am_find 166 4 = some (.ifCond .eq 19, 3, 0, 0, 0) := by decide +kernel
theorem fi_166_7 : am_find 166 7 = some (.iload_n 2, 1, 0, 0, 0) := by decide +kernel
theorem fi_166_8 : am_find 166 8 = some (.iconst (-1), 1, 0, (-1), 0) := by decide +kernel
theorem fi_166_9 : am_find 166 9 = some (.aload_n 0, 1, 0, 0, 0) := by decide +kernel
theorem fi_166_10 : am_find 166 10 = some (.getfield 7, 3, 10, 1, 101) := by decide +kernel
theorem fi_166_13 : am_find 166 13 = some (.iconst 1, 1, 0, 1, 0) := by decide +kernel
theorem fi_166_14 : am_find 166 14 = some (.iaload, 1, 0, 0, 0) := by decide +kernel
theorem fi_166_15 : am_find 166 15 = some (.iconst 1, 1, 0, 1, 0) := by decide +kernel
theorem fi_166_16 : am_find 166 16 = some (.isub, 1, 0, 0, 0) := by decide +kernel
theorem fi_166_17 : am_find 166 17 = some (.invokestatic 49, 3, 145, 3, 170) := by decide +kernel
theorem fi_166_20 : am_find 166 20 = some (.ifCond .ne 5, 3, 0, 0, 0) := by decide +kernel
theorem fi_166_23 : am_find 166 23 = some (.iconst (-1), 1, 0, (-1), 0) := by decide +kernel
theorem fi_166_24 : am_find 166 24 = some (.ireturn, 1, 0, 0, 0) := by decide +kernel
theorem fi_166_25 : am_find 166 25 = some (.aload_n 0, 1, 0, 0, 0) := by decide +kernel
theorem fi_166_26 : am_find 166 26 = some (.getfield 7, 3, 10, 1, 101) := by decide +kernel
theorem fi_166_29 : am_find 166 29 = some (.sipush 154, 3, 0, 154, 0) := by decide +kernel
theorem fi_166_32 : am_find 166 32 = some (.iload_n 1, 1, 0, 0, 0) := by decide +kernel
theorem fi_166_33 : am_find 166 33 = some (.iadd, 1, 0, 0, 0) := by decide +kernel
theorem fi_166_34 : am_find 166 34 = some (.iaload, 1, 0, 0, 0) := by decide +kernel
theorem fi_166_35 : am_find 166 35 = some (.istore_n 3, 1, 0, 0, 0) := by decide +kernel
theorem fi_166_36 : am_find 166 36 = some (.aload_n 0, 1, 0, 0, 0) := by decide +kernel
theorem fi_166_37 : am_find 166 37 = some (.getfield 7, 3, 10, 1, 101) := by decide +kernel
theorem fi_166_40 : am_find 166 40 = some (.sipush 154, 3, 0, 154, 0) := by decide +kernel
theorem fi_166_43 : am_find 166 43 = some (.iload_n 1, 1, 0, 0, 0) := by decide +kernel
theorem fi_166_44 : am_find 166 44 = some (.iadd, 1, 0, 0, 0) := by decide +kernel
theorem fi_166_45 : am_find 166 45 = some (.iload_n 2, 1, 0, 0, 0) := by decide +kernel
theorem fi_166_46 : am_find 166 46 = some (.iastore, 1, 0, 0, 0) := by decide +kernel
theorem fi_166_47 : am_find 166 47 = some (.iload_n 3, 1, 0, 0, 0) := by decide +kernel
theorem fi_166_48 : am_find 166 48 = some (.iconst (-1), 1, 0, (-1), 0) := by decide +kernel
theorem fi_166_49 : am_find 166 49 = some (.if_icmp .ne 8, 3, 0, 0, 0) := by decide +kernel
theorem fi_166_52 : am_find 166 52 = some (.bipush (-5), 2, 0, (-5), 0) := by decide +kernel
theorem fi_166_54 : am_find 166 54 = some (.goto 4, 3, 0, 0, 0) := by decide +kernel
theorem fi_166_57 : am_find 166 57 = some (.iload_n 3, 1, 0, 0, 0) := by decide +kernel
theorem fi_166_58 : am_find 166 58 = some (.ireturn, 1, 0, 0, 0) := by decide +kernel
theorem b166_0 {d L : Nat} {σ : St} {Q : Option AV → AW → Prop} {x1 : Int} {u0 u2 u3 : AV} : R (d + 1) 166 0 [u0, vI x1, u2, u3] [] (WS L σ) Q = R d 167 0 [vI x1] [] (WS L σ) (fun r w => R (d + 1) 166 4 [u0, vI x1, u2, u3] (am_push r []) w Q) := K_iload_n fi_166_0 rfl <| R_invS fi_166_1 (by decide) (am_invS_of (Nat.le_of_ble_eq_true rfl) rfl (Nat.le_of_ble_eq_true rfl) (Nat.le_of_ble_eq_true rfl) rfl rfl)
theorem b166_4 {d L : Nat} {σ : St} {Q : Option AV → AW → Prop} {y0 : Int} {u0 u1 u2 u3 : AV} : R d 166 4 [u0, u1, u2, u3] [vI y0] (WS L σ) Q = if y0 = 0 then R d 166 23 [u0, u1, u2, u3] [] (WS L σ) Q else R d 166 7 [u0, u1, u2, u3] [] (WS L σ) Q := R_if_eq fi_166_4 rfl
theorem b166_7 {d L : Nat} {σ : St} {Q : Option AV → AW → Prop} {x2 : Int} {u1 u3 : AV} (h1 : -2147483648 ≤ (σ 154 1) - 1 ∧ (σ 154 1) - 1 ≤ 2147483647) : R (d + 1) 166 7 [vR 153, u1, vI x2, u3] [] (WS L σ) Q = R d 145 0 [vI x2, vI (-1), vI ((σ 154 1) - 1)] [] (WS L σ) (fun r w => R (d + 1) 166 20 [vR 153, u1, vI x2, u3] (am_push r []) w Q) := K_iload_n fi_166_7 rfl <| K_iconst fi_166_8 <| K_aload_n fi_166_9 rfl <| K_gf fi_166_10 kd_153 mk_153_1 <| K_iconst fi_166_13 <| K_ia fi_166_14 kd_154 (by decide) (show (1 : Int) < 1580 by decide) <| K_iconst fi_166_15 <| K_isubx fi_166_16 h1 <| R_invS fi_166_17 (by decide) (am_invS_of (Nat.le_of_ble_eq_true rfl) rfl (Nat.le_of_ble_eq_true rfl) (Nat.le_of_ble_eq_true rfl) rfl rfl)
theorem b166_20 {d L : Nat} {σ : St} {Q : Option AV → AW → Prop} {y0 : Int} {u0 u1 u2 u3 : AV} : R d 166 20 [u0, u1, u2, u3] [vI y0] (WS L σ) Q = if ¬ y0 = 0 then R d 166 25 [u0, u1, u2, u3] [] (WS L σ) Q else R d 166 23 [u0, u1, u2, u3] [] (WS L σ) Q := R_if_ne fi_166_20 rfl
theorem b166_23 {d L : Nat} {σ : St} {Q : Option AV → AW → Prop} {u0 u1 u2 u3 : AV} : R d 166 23 [u0, u1, u2, u3] [] (WS L σ) Q = Q (some (vI (-1))) (WS L σ) := K_iconst fi_166_23 <| R_ireti fi_166_24 rfl
theorem b166_25 {d L : Nat} {σ : St} {Q : Option AV → AW → Prop} {x1 x2 : Int} {u3 : AV} (h1 : -2147483648 ≤ 154 + x1 ∧ 154 + x1 ≤ 2147483647) (h2 : 0 ≤ 154 + x1) (h3 : (154 + x1) < 1580) : R d 166 25 [vR 153, vI x1, vI x2, u3] [] (WS L σ) Q = R d 166 47 [vR 153, vI x1, vI x2, vI (σ 154 (154 + x1))] [] (WS L (st2 σ 154 (154 + x1) x2)) Q := K_aload_n fi_166_25 rfl <| K_gf fi_166_26 kd_153 mk_153_1 <| K_sipush fi_166_29 <| K_iload_n fi_166_32 rfl <| K_iaddx fi_166_33 h1 <| K_ia fi_166_34 kd_154 h2 h3 <| K_istore_n fi_166_35 (Nat.le_of_ble_eq_true rfl) rfl rfl <| K_aload_n fi_166_36 rfl <| K_gf fi_166_37 kd_153 mk_153_1 <| K_sipush fi_166_40 <| K_iload_n fi_166_43 rfl <| K_iaddx fi_166_44 h1 <| K_iload_n fi_166_45 rfl <| K_is fi_166_46 kd_154 h2 h3 <| rfl
theorem b166_47 {d L : Nat} {σ : St} {Q : Option AV → AW → Prop} {x3 : Int} {u0 u1 u2 : AV} : R d 166 47 [u0, u1, u2, vI x3] [] (WS L σ) Q = if ¬ x3 = (-1) then R d 166 57 [u0, u1, u2, vI x3] [] (WS L σ) Q else R d 166 52 [u0, u1, u2, vI x3] [] (WS L σ) Q := K_iload_n fi_166_47 rfl <| K_iconst fi_166_48 <| R_icmp_ne fi_166_49 rfl
theorem b166_52 {d L : Nat} {σ : St} {Q : Option AV → AW → Prop} {u0 u1 u2 u3 : AV} : R d 166 52 [u0, u1, u2, u3] [] (WS L σ) Q = R d 166 58 [u0, u1, u2, u3] [vI (-5)] (WS L σ) Q := K_bipush fi_166_52 <| R_goto fi_166_54 rfl
theorem b166_57 {d L : Nat} {σ : St} {Q : Option AV → AW → Prop} {x3 : Int} {u0 u1 u2 : AV} : R d 166 57 [u0, u1, u2, vI x3] [] (WS L σ) Q = R d 166 58 [u0, u1, u2, vI x3] [vI x3] (WS L σ) Q := K_iload_n fi_166_57 rfl <| rfl
theorem b166_58 {d L : Nat} {σ : St} {Q : Option AV → AW → Prop} {y0 : Int} {u0 u1 u2 u3 : AV} : R d 166 58 [u0, u1, u2, u3] [vI y0] (WS L σ) Q = Q (some (vI y0)) (WS L σ) := R_ireti fi_166_58 rfl
theorem fi_167_0 : am_find 167 0 = some (.iload_n 0, 1, 0, 0, 0) := by decide +kernel
theorem fi_167_1 : am_find 167 1 = some (.iconst 0, 1, 0, 0, 0) := by decide +kernel
theorem fi_167_2 : am_find 167 2 = some (.iconst 2, 1, 0, 2, 0) := by decide +kernel
theorem fi_167_3 : am_find 167 3 = some (.invokestatic 49, 3, 145, 3, 170) := by decide +kernel
theorem fi_167_6 : am_find 167 6 = some (.ireturn, 1, 1, 0, 0) := by decide +kernel
theorem b167_0 {d L : Nat} {σ : St} {Q : Option AV → AW → Prop} {x0 : Int} : R (d + 1) 167 0 [vI x0] [] (WS L σ) Q = R d 145 0 [vI x0, vI 0, vI 2] [] (WS L σ) (fun r w => R (d + 1) 167 6 [vI x0] (am_push r []) w Q) := K_iload_n fi_167_0 rfl <| K_iconst fi_167_1 <| K_iconst fi_167_2 <| R_invS fi_167_3 (by decide) (am_invS_of (Nat.le_of_ble_eq_true rfl) rfl (Nat.le_of_ble_eq_true rfl) (Nat.le_of_ble_eq_true rfl) rfl rfl)
theorem b167_6 {d L : Nat} {σ : St} {Q : Option AV → AW → Prop} {y0 : Int} {u0 : AV} (h1 : am_rfit 1 y0 = true) : R d 167 6 [u0] [vI y0] (WS L σ) Q = Q (some (vI y0)) (WS L σ) := R_ireti fi_167_6 h1
theorem fi_168_0 : am_find 168 0 = some (.iload_n 1, 1, 0, 0, 0) := by decide +kernel
theorem fi_168_1 : am_find 168 1 = some (.invokestatic 144, 3, 167, 1, 189) := by decide +kernel
theorem fi_168_4 : am_find 168 4 = some (.ifCond .ne 7, 3, 0, 0, 0) := by decide +kernel
theorem fi_168_7 : am_find 168 7 = some (.sipush (-1001), 3, 0, (-1001), 0) := by decide +kernel
theorem fi_168_10 : am_find 168 10 = some (.ireturn, 1, 0, 0, 0) := by decide +kernel
theorem fi_168_11 : am_find 168 11 = some (.iload_n 2, 1, 0, 0, 0) := by decide +kernel
theorem fi_168_12 : am_find 168 12 = some (.iconst 0, 1, 0, 0, 0) := by decide +kernel
theorem fi_168_13 : am_find 168 13 = some (.iconst 1, 1, 0, 1, 0) := by decide +kernel
theorem fi_168_14 : am_find 168 14 = some (.aload_n 0, 1, 0, 0, 0) := by decide +kernel
theorem fi_168_15 : am_find 168 15 = some (.getfield 7, 3, 10, 1, 101) := by decide +kernel
theorem fi_168_18 : am_find 168 18 = some (.iconst 0, 1, 0, 0, 0) := by decide +kernel
theorem fi_168_19 : am_find 168 19 = some (.iaload, 1, 0, 0, 0) := by decide +kernel
theorem fi_168_20 : am_find 168 20 = some (.ishl, 1, 0, 0, 0) := by decide +kernel
theorem fi_168_21 : am_find 168 21 = some (.iconst 1, 1, 0, 1, 0) := by decide +kernel
theorem fi_168_22 : am_find 168 22 = some (.isub, 1, 0, 0, 0) := by decide +kernel
theorem fi_168_23 : am_find 168 23 = some (.invokestatic 49, 3, 145, 3, 170) := by decide +kernel
theorem fi_168_26 : am_find 168 26 = some (.ifCond .eq 12, 3, 0, 0, 0) := by decide +kernel
theorem fi_168_29 : am_find 168 29 = some (.aload_n 0, 1, 0, 0, 0) := by decide +kernel
theorem fi_168_30 : am_find 168 30 = some (.iload_n 1, 1, 0, 0, 0) := by decide +kernel
theorem fi_168_31 : am_find 168 31 = some (.iload_n 2, 1, 0, 0, 0) := by decide +kernel
theorem fi_168_32 : am_find 168 32 = some (.invokevirtual 155, 3, 169, 2, 190) := by decide +kernel
theorem fi_168_35 : am_find 168 35 = some (.goto 6, 3, 0, 0, 0) := by decide +kernel
theorem fi_168_38 : am_find 168 38 = some (.sipush (-1002), 3, 0, (-1002), 0) := by decide +kernel
theorem fi_168_41 : am_find 168 41 = some (.ireturn, 1, 0, 0, 0) := by decide +kernel
theorem b168_0 {d L : Nat} {σ : St} {Q : Option AV → AW → Prop} {x1 : Int} {u0 u2 : AV} : R (d + 1) 168 0 [u0, vI x1, u2] [] (WS L σ) Q = R d 167 0 [vI x1] [] (WS L σ) (fun r w => R (d + 1) 168 4 [u0, vI x1, u2] (am_push r []) w Q) := K_iload_n fi_168_0 rfl <| R_invS fi_168_1 (by decide) (am_invS_of (Nat.le_of_ble_eq_true rfl) rfl (Nat.le_of_ble_eq_true rfl) (Nat.le_of_ble_eq_true rfl) rfl rfl)
theorem b168_4 {d L : Nat} {σ : St} {Q : Option AV → AW → Prop} {y0 : Int} {u0 u1 u2 : AV} : R d 168 4 [u0, u1, u2] [vI y0] (WS L σ) Q = if ¬ y0 = 0 then R d 168 11 [u0, u1, u2] [] (WS L σ) Q else R d 168 7 [u0, u1, u2] [] (WS L σ) Q := R_if_ne fi_168_4 rfl
theorem b168_7 {d L : Nat} {σ : St} {Q : Option AV → AW → Prop} {u0 u1 u2 : AV} : R d 168 7 [u0, u1, u2] [] (WS L σ) Q = Q (some (vI (-1001))) (WS L σ) := K_sipush fi_168_7 <| R_ireti fi_168_10 rfl
theorem b168_11 {d L : Nat} {σ : St} {Q : Option AV → AW → Prop} {x2 : Int} {u1 : AV} (h1 : -2147483648 ≤ (i_shl 1 (σ 154 0)) - 1 ∧ (i_shl 1 (σ 154 0)) - 1 ≤ 2147483647) : R (d + 1) 168 11 [vR 153, u1, vI x2] [] (WS L σ) Q = R d 145 0 [vI x2, vI 0, vI ((i_shl 1 (σ 154 0)) - 1)] [] (WS L σ) (fun r w => R (d + 1) 168 26 [vR 153, u1, vI x2] (am_push r []) w Q) := K_iload_n fi_168_11 rfl <| K_iconst fi_168_12 <| K_iconst fi_168_13 <| K_aload_n fi_168_14 rfl <| K_gf fi_168_15 kd_153 mk_153_1 <| K_iconst fi_168_18 <| K_ia fi_168_19 kd_154 (by decide) (show (0 : Int) < 1580 by decide) <| K_ishl fi_168_20 <| K_iconst fi_168_21 <| K_isubx fi_168_22 h1 <| R_invS fi_168_23 (by decide) (am_invS_of (Nat.le_of_ble_eq_true rfl) rfl (Nat.le_of_ble_eq_true rfl) (Nat.le_of_ble_eq_true rfl) rfl rfl)
theorem b168_26 {d L : Nat} {σ : St} {Q : Option AV → AW → Prop} {y0 : Int} {u0 u1 u2 : AV} : R d 168 26 [u0, u1, u2] [vI y0] (WS L σ) Q = if y0 = 0 then R d 168 38 [u0, u1, u2] [] (WS L σ) Q else R d 168 29 [u0, u1, u2] [] (WS L σ) Q := R_if_eq fi_168_26 rfl
theorem b168_29 {d L : Nat} {σ : St} {Q : Option AV → AW → Prop} {x1 x2 : Int} : R (d + 1) 168 29 [vR 153, vI x1, vI x2] [] (WS L σ) Q = R d 169 0 [vR 153, vI x1, vI x2, vX 9, vX 9, vX 9, vX 9] [] (WS L σ) (fun r w => R (d + 1) 168 35 [vR 153, vI x1, vI x2] (am_push r []) w Q) := K_aload_n fi_168_29 rfl <| K_iload_n fi_168_30 rfl <| K_iload_n fi_168_31 rfl <| R_invV fi_168_32 (am_invV_of rfl (kd_153) (Nat.le_of_ble_eq_true rfl) (Nat.le_of_ble_eq_true rfl) rfl rfl)
theorem b168_35 {d L : Nat} {σ : St} {Q : Option AV → AW → Prop} {y0 : Int} {u0 u1 u2 : AV} : R d 168 35 [u0, u1, u2] [vI y0] (WS L σ) Q = R d 168 41 [u0, u1, u2] [vI y0] (WS L σ) Q := R_goto fi_168_35 rfl
theorem b168_38 {d L : Nat} {σ : St} {Q : Option AV → AW → Prop} {u0 u1 u2 : AV} : R d 168 38 [u0, u1, u2] [] (WS L σ) Q = R d 168 41 [u0, u1, u2] [vI (-1002)] (WS L σ) Q := K_sipush fi_168_38 <| rfl
theorem b168_41 {d L : Nat} {σ : St} {Q : Option AV → AW → Prop} {y0 : Int} {u0 u1 u2 : AV} : R d 168 41 [u0, u1, u2] [vI y0] (WS L σ) Q = Q (some (vI y0)) (WS L σ) := R_ireti fi_168_41 rfl
theorem fi_169_0 : am_find 169 0 = some (.aload_n 0, 1, 0, 0, 0) := by decide +kernel
theorem fi_169_1 : am_find 169 1 = some (.getfield 7, 3, 10, 1, 101) := by decide +kernel
theorem fi_169_4 : am_find 169 4 = some (.sipush 154, 3, 0, 154, 0) := by decide +kernel
theorem fi_169_7 : am_find 169 7 = some (.iload_n 1, 1, 0, 0, 0) := by decide +kernel
theorem fi_169_8 : am_find 169 8 = some (.iadd, 1, 0, 0, 0) := by decide +kernel
theorem fi_169_9 : am_find 169 9 = some (.iaload, 1, 0, 0, 0) := by decide +kernel
theorem fi_169_10 : am_find 169 10 = some (.istore_n 3, 1, 0, 0, 0) := by decide +kernel
theorem fi_169_11 : am_find 169 11 = some (.iconst 0, 1, 0, 0, 0) := by decide +kernel
theorem fi_169_12 : am_find 169 12 = some (.istore 4, 2, 0, 0, 0) := by decide +kernel
theorem fi_169_14 : am_find 169 14 = some (.iconst 0, 1, 0, 0, 0) := by decide +kernel
theorem fi_169_15 : am_find 169 15 = some (.istore 5, 2, 0, 0, 0) := by decide +kernel
theorem fi_169_17 : am_find 169 17 = some (.iload 5, 2, 0, 0, 0) := by decide +kernel
theorem fi_169_19 : am_find 169 19 = some (.aload_n 0, 1, 0, 0, 0) := by decide +kernel
theorem fi_169_20 : am_find 169 20 = some (.getfield 7, 3, 10, 1, 101) := by decide +kernel
theorem fi_169_23 : am_find 169 23 = some (.iconst 0, 1, 0, 0, 0) := by decide +kernel
theorem fi_169_24 : am_find 169 24 = some (.iaload, 1, 0, 0, 0) := by decide +kernel
theorem fi_169_25 : am_find 169 25 = some (.if_icmp .ge 56, 3, 0, 0, 0) := by decide +kernel
theorem fi_169_28 : am_find 169 28 = some (.iload 4, 2, 0, 0, 0) := by decide +kernel
theorem fi_169_30 : am_find 169 30 = some (.iload_n 2, 1, 0, 0, 0) := by decide +kernel
theorem fi_169_31 : am_find 169 31 = some (.iload 5, 2, 0, 0, 0) := by decide +kernel
theorem fi_169_33 : am_find 169 33 = some (.ishr, 1, 0, 0, 0) := by decide +kernel
theorem fi_169_34 : am_find 169 34 = some (.iconst 1, 1, 0, 1, 0) := by decide +kernel
theorem fi_169_35 : am_find 169 35 = some (.iand, 1, 0, 0, 0) := by decide +kernel
theorem fi_169_36 : am_find 169 36 = some (.iconst 1, 1, 0, 1, 0) := by decide +kernel
theorem fi_169_37 : am_find 169 37 = some (.if_icmp .ne 34, 3, 0, 0, 0) := by decide +kernel
theorem fi_169_40 : am_find 169 40 = some (.aload_n 0, 1, 0, 0, 0) := by decide +kernel
theorem fi_169_41 : am_find 169 41 = some (.getfield 7, 3, 10, 1, 101) := by decide +kernel
theorem fi_169_44 : am_find 169 44 = some (.sipush 138, 3, 0, 138, 0) := by decide +kernel
theorem fi_169_47 : am_find 169 47 = some (.iload 5, 2, 0, 0, 0) := by decide +kernel
theorem fi_169_49 : am_find 169 49 = some (.iadd, 1, 0, 0, 0) := by decide +kernel
theorem fi_169_50 : am_find 169 50 = some (.iaload, 1, 0, 0, 0) := by decide +kernel
theorem fi_169_51 : am_find 169 51 = some (.iload_n 3, 1, 0, 0, 0) := by decide +kernel
theorem fi_169_52 : am_find 169 52 = some (.iconst (-1), 1, 0, (-1), 0) := by decide +kernel
theorem fi_169_53 : am_find 169 53 = some (.if_icmp .ne 7, 3, 0, 0, 0) := by decide +kernel
theorem fi_169_56 : am_find 169 56 = some (.iconst 0, 1, 0, 0, 0) := by decide +kernel
theorem fi_169_57 : am_find 169 57 = some (.goto 10, 3, 0, 0, 0) := by decide +kernel
theorem fi_169_60 : am_find 169 60 = some (.aload_n 0, 1, 0, 0, 0) := by decide +kernel
theorem fi_169_61 : am_find 169 61 = some (.iload_n 3, 1, 0, 0, 0) := by decide +kernel
theorem fi_169_62 : am_find 169 62 = some (.iload 5, 2, 0, 0, 0) := by decide +kernel
theorem fi_169_64 : am_find 169 64 = some (.invokevirtual 147, 3, 170, 2, 191) := by decide +kernel
theorem fi_169_67 : am_find 169 67 = some (.iadd, 1, 0, 0, 0) := by decide +kernel
theorem fi_169_68 : am_find 169 68 = some (.goto 4, 3, 0, 0, 0) := by decide +kernel
theorem fi_169_71 : am_find 169 71 = some (.iconst 0, 1, 0, 0, 0) := by decide +kernel
theorem fi_169_72 : am_find 169 72 = some (.iadd, 1, 0, 0, 0) := by decide +kernel
theorem fi_169_73 : am_find 169 73 = some (.istore 4, 2, 0, 0, 0) := by decide +kernel
theorem fi_169_75 : am_find 169 75 = some (.iinc 5 1, 3, 0, 0, 0) := by decide +kernel
theorem fi_169_78 : am_find 169 78 = some (.goto (-61), 3, 0, 0, 0) := by decide +kernel
theorem fi_169_81 : am_find 169 81 = some (.iload_n 3, 1, 0, 0, 0) := by decide +kernel
theorem fi_169_82 : am_find 169 82 = some (.iconst (-1), 1, 0, (-1), 0) := by decide +kernel
theorem fi_169_83 : am_find 169 83 = some (.if_icmp .ne 6, 3, 0, 0, 0) := by decide +kernel
theorem fi_169_86 : am_find 169 86 = some (.iload 4, 2, 0, 0, 0) := by decide +kernel
theorem fi_169_88 : am_find 169 88 = some (.ireturn, 1, 0, 0, 0) := by decide +kernel
theorem fi_169_89 : am_find 169 89 = some (.iconst 0, 1, 0, 0, 0) := by decide +kernel
theorem fi_169_90 : am_find 169 90 = some (.istore 5, 2, 0, 0, 0) := by decide +kernel
theorem fi_169_92 : am_find 169 92 = some (.iload 5, 2, 0, 0, 0) := by decide +kernel
theorem fi_169_94 : am_find 169 94 = some (.aload_n 0, 1, 0, 0, 0) := by decide +kernel
theorem fi_169_95 : am_find 169 95 = some (.getfield 7, 3, 10, 1, 101) := by decide +kernel
theorem fi_169_98 : am_find 169 98 = some (.sipush 211, 3, 0, 211, 0) := by decide +kernel
theorem fi_169_101 : am_find 169 101 = some (.iload_n 3, 1, 0, 0, 0) := by decide +kernel
theorem fi_169_102 : am_find 169 102 = some (.iadd, 1, 0, 0, 0) := by decide +kernel
theorem fi_169_103 : am_find 169 103 = some (.iaload, 1, 0, 0, 0) := by decide +kernel
theorem fi_169_104 : am_find 169 104 = some (.if_icmp .ge 69, 3, 0, 0, 0) := by decide +kernel
theorem fi_169_107 : am_find 169 107 = some (.sipush 217, 3, 0, 217, 0) := by decide +kernel
theorem fi_169_110 : am_find 169 110 = some (.iconst 3, 1, 0, 3, 0) := by decide +kernel
theorem fi_169_111 : am_find 169 111 = some (.bipush 10, 2, 0, 10, 0) := by decide +kernel
theorem fi_169_113 : am_find 169 113 = some (.iload_n 3, 1, 0, 0, 0) := by decide +kernel
theorem fi_169_114 : am_find 169 114 = some (.imul, 1, 0, 0, 0) := by decide +kernel
theorem fi_169_115 : am_find 169 115 = some (.iload 5, 2, 0, 0, 0) := by decide +kernel
theorem fi_169_117 : am_find 169 117 = some (.iadd, 1, 0, 0, 0) := by decide +kernel
theorem fi_169_118 : am_find 169 118 = some (.imul, 1, 0, 0, 0) := by decide +kernel
theorem fi_169_119 : am_find 169 119 = some (.iadd, 1, 0, 0, 0) := by decide +kernel
theorem fi_169_120 : am_find 169 120 = some (.istore 6, 2, 0, 0, 0) := by decide +kernel
theorem fi_169_122 : am_find 169 122 = some (.iload 4, 2, 0, 0, 0) := by decide +kernel
theorem fi_169_124 : am_find 169 124 = some (.iload_n 2, 1, 0, 0, 0) := by decide +kernel
theorem fi_169_125 : am_find 169 125 = some (.aload_n 0, 1, 0, 0, 0) := by decide +kernel
theorem fi_169_126 : am_find 169 126 = some (.getfield 7, 3, 10, 1, 101) := by decide +kernel
theorem fi_169_129 : am_find 169 129 = some (.iload 6, 2, 0, 0, 0) := by decide +kernel
theorem fi_169_131 : am_find 169 131 = some (.iconst 1, 1, 0, 1, 0) := by decide +kernel
theorem fi_169_132 : am_find 169 132 = some (.iadd, 1, 0, 0, 0) := by decide +kernel
theorem fi_169_133 : am_find 169 133 = some (.iaload, 1, 0, 0, 0) := by decide +kernel
theorem fi_169_134 : am_find 169 134 = some (.ishr, 1, 0, 0, 0) := by decide +kernel
theorem fi_169_135 : am_find 169 135 = some (.iload_n 2, 1, 0, 0, 0) := by decide +kernel
theorem fi_169_136 : am_find 169 136 = some (.aload_n 0, 1, 0, 0, 0) := by decide +kernel
theorem fi_169_137 : am_find 169 137 = some (.getfield 7, 3, 10, 1, 101) := by decide +kernel
theorem fi_169_140 : am_find 169 140 = some (.iload 6, 2, 0, 0, 0) := by decide +kernel
theorem fi_169_142 : am_find 169 142 = some (.iconst 2, 1, 0, 2, 0) := by decide +kernel
theorem fi_169_143 : am_find 169 143 = some (.iadd, 1, 0, 0, 0) := by decide +kernel
theorem fi_169_144 : am_find 169 144 = some (.iaload, 1, 0, 0, 0) := by decide +kernel
theorem fi_169_145 : am_find 169 145 = some (.ishr, 1, 0, 0, 0) := by decide +kernel
theorem fi_169_146 : am_find 169 146 = some (.iand, 1, 0, 0, 0) := by decide +kernel
theorem fi_169_147 : am_find 169 147 = some (.iconst 1, 1, 0, 1, 0) := by decide +kernel
theorem fi_169_148 : am_find 169 148 = some (.iand, 1, 0, 0, 0) := by decide +kernel
theorem fi_169_149 : am_find 169 149 = some (.iconst 1, 1, 0, 1, 0) := by decide +kernel
theorem fi_169_150 : am_find 169 150 = some (.if_icmp .ne 13, 3, 0, 0, 0) := by decide +kernel
theorem fi_169_153 : am_find 169 153 = some (.aload_n 0, 1, 0, 0, 0) := by decide +kernel
theorem fi_169_154 : am_find 169 154 = some (.getfield 7, 3, 10, 1, 101) := by decide +kernel
theorem fi_169_157 : am_find 169 157 = some (.iload 6, 2, 0, 0, 0) := by decide +kernel
theorem fi_169_159 : am_find 169 159 = some (.iaload, 1, 0, 0, 0) := by decide +kernel
theorem fi_169_160 : am_find 169 160 = some (.goto 4, 3, 0, 0, 0) := by decide +kernel
theorem fi_169_163 : am_find 169 163 = some (.iconst 0, 1, 0, 0, 0) := by decide +kernel
theorem fi_169_164 : am_find 169 164 = some (.iadd, 1, 0, 0, 0) := by decide +kernel
theorem fi_169_165 : am_find 169 165 = some (.istore 4, 2, 0, 0, 0) := by decide +kernel
theorem fi_169_167 : am_find 169 167 = some (.iinc 5 1, 3, 0, 0, 0) := by decide +kernel
theorem fi_169_170 : am_find 169 170 = some (.goto (-78), 3, 0, 0, 0) := by decide +kernel
theorem fi_169_173 : am_find 169 173 = some (.iconst 0, 1, 0, 0, 0) := by decide +kernel
theorem fi_169_174 : am_find 169 174 = some (.istore 5, 2, 0, 0, 0) := by decide +kernel
theorem fi_169_176 : am_find 169 176 = some (.iload 5, 2, 0, 0, 0) := by decide +kernel
theorem fi_169_178 : am_find 169 178 = some (.aload_n 0, 1, 0, 0, 0) := by decide +kernel
theorem fi_169_179 : am_find 169 179 = some (.getfield 7, 3, 10, 1, 101) := by decide +kernel
theorem fi_169_182 : am_find 169 182 = some (.sipush 397, 3, 0, 397, 0) := by decide +kernel
theorem fi_169_185 : am_find 169 185 = some (.iload_n 3, 1, 0, 0, 0) := by decide +kernel
theorem fi_169_186 : am_find 169 186 = some (.iadd, 1, 0, 0, 0) := by decide +kernel
theorem fi_169_187 : am_find 169 187 = some (.iaload, 1, 0, 0, 0) := by decide +kernel
theorem fi_169_188 : am_find 169 188 = some (.if_icmp .ge 57, 3, 0, 0, 0) := by decide +kernel
theorem fi_169_191 : am_find 169 191 = some (.sipush 403, 3, 0, 403, 0) := by decide +kernel
theorem fi_169_194 : am_find 169 194 = some (.iconst 2, 1, 0, 2, 0) := by decide +kernel
theorem fi_169_195 : am_find 169 195 = some (.bipush 10, 2, 0, 10, 0) := by decide +kernel
theorem fi_169_197 : am_find 169 197 = some (.iload_n 3, 1, 0, 0, 0) := by decide +kernel
theorem fi_169_198 : am_find 169 198 = some (.imul, 1, 0, 0, 0) := by decide +kernel
theorem fi_169_199 : am_find 169 199 = some (.iload 5, 2, 0, 0, 0) := by decide +kernel
theorem fi_169_201 : am_find 169 201 = some (.iadd, 1, 0, 0, 0) := by decide +kernel
theorem fi_169_202 : am_find 169 202 = some (.imul, 1, 0, 0, 0) := by decide +kernel
theorem fi_169_203 : am_find 169 203 = some (.iadd, 1, 0, 0, 0) := by decide +kernel
theorem fi_169_204 : am_find 169 204 = some (.istore 6, 2, 0, 0, 0) := by decide +kernel
theorem fi_169_206 : am_find 169 206 = some (.iload 4, 2, 0, 0, 0) := by decide +kernel
theorem fi_169_208 : am_find 169 208 = some (.aload_n 0, 1, 0, 0, 0) := by decide +kernel
theorem fi_169_209 : am_find 169 209 = some (.iload_n 2, 1, 0, 0, 0) := by decide +kernel
theorem fi_169_210 : am_find 169 210 = some (.aload_n 0, 1, 0, 0, 0) := by decide +kernel
theorem fi_169_211 : am_find 169 211 = some (.getfield 7, 3, 10, 1, 101) := by decide +kernel
theorem fi_169_214 : am_find 169 214 = some (.iload 6, 2, 0, 0, 0) := by decide +kernel
theorem fi_169_216 : am_find 169 216 = some (.iconst 1, 1, 0, 1, 0) := by decide +kernel
theorem fi_169_217 : am_find 169 217 = some (.iadd, 1, 0, 0, 0) := by decide +kernel
theorem fi_169_218 : am_find 169 218 = some (.iaload, 1, 0, 0, 0) := by decide +kernel
theorem fi_169_219 : am_find 169 219 = some (.invokevirtual 151, 3, 171, 2, 192) := by decide +kernel
theorem fi_169_222 : am_find 169 222 = some (.ifCond .eq 7, 3, 0, 0, 0) := by decide +kernel
theorem fi_169_225 : am_find 169 225 = some (.iconst 0, 1, 0, 0, 0) := by decide +kernel
theorem fi_169_226 : am_find 169 226 = some (.goto 10, 3, 0, 0, 0) := by decide +kernel
theorem fi_169_229 : am_find 169 229 = some (.aload_n 0, 1, 0, 0, 0) := by decide +kernel
theorem fi_169_230 : am_find 169 230 = some (.getfield 7, 3, 10, 1, 101) := by decide +kernel
theorem fi_169_233 : am_find 169 233 = some (.iload 6, 2, 0, 0, 0) := by decide +kernel
theorem fi_169_235 : am_find 169 235 = some (.iaload, 1, 0, 0, 0) := by decide +kernel
theorem fi_169_236 : am_find 169 236 = some (.isub, 1, 0, 0, 0) := by decide +kernel
theorem fi_169_237 : am_find 169 237 = some (.istore 4, 2, 0, 0, 0) := by decide +kernel
theorem fi_169_239 : am_find 169 239 = some (.iinc 5 1, 3, 0, 0, 0) := by decide +kernel
theorem fi_169_242 : am_find 169 242 = some (.goto (-66), 3, 0, 0, 0) := by decide +kernel
theorem fi_169_245 : am_find 169 245 = some (.iload 4, 2, 0, 0, 0) := by decide +kernel
theorem fi_169_247 : am_find 169 247 = some (.ireturn, 1, 0, 0, 0) := by decide +kernel
theorem b169_0 {d L : Nat} {σ : St} {Q : Option AV → AW → Prop} {x1 : Int} {u2 u3 u4 u5 u6 : AV} (h1 : -2147483648 ≤ 154 + x1 ∧ 154 + x1 ≤ 2147483647) (h2 : 0 ≤ 154 + x1) (h3 : (154 + x1) < 1580) : R d 169 0 [vR 153, vI x1, u2, u3, u4, u5, u6] [] (WS L σ) Q = R d 169 17 [vR 153, vI x1, u2, vI (σ 154 (154 + x1)), vI 0, vI 0, u6] [] (WS L σ) Q := K_aload_n fi_169_0 rfl <| K_gf fi_169_1 kd_153 mk_153_1 <| K_sipush fi_169_4 <| K_iload_n fi_169_7 rfl <| K_iaddx fi_169_8 h1 <| K_ia fi_169_9 kd_154 h2 h3 <| K_istore_n fi_169_10 (Nat.le_of_ble_eq_true rfl) rfl rfl <| K_iconst fi_169_11 <| K_istore fi_169_12 (Nat.le_of_ble_eq_true rfl) rfl rfl <| K_iconst fi_169_14 <| K_istore fi_169_15 (Nat.le_of_ble_eq_true rfl) rfl rfl <| rfl
theorem b169_17 {d L : Nat} {σ : St} {Q : Option AV → AW → Prop} {x5 : Int} {u1 u2 u3 u4 u6 : AV} : R d 169 17 [vR 153, u1, u2, u3, u4, vI x5, u6] [] (WS L σ) Q = if (σ 154 0) ≤ x5 then R d 169 81 [vR 153, u1, u2, u3, u4, vI x5, u6] [] (WS L σ) Q else R d 169 28 [vR 153, u1, u2, u3, u4, vI x5, u6] [] (WS L σ) Q := K_iload fi_169_17 rfl <| K_aload_n fi_169_19 rfl <| K_gf fi_169_20 kd_153 mk_153_1 <| K_iconst fi_169_23 <| K_ia fi_169_24 kd_154 (by decide) (show (0 : Int) < 1580 by decide) <| R_icmp_ge fi_169_25 rfl
theorem b169_28 {d L : Nat} {σ : St} {Q : Option AV → AW → Prop} {x4 x2 x5 : Int} {u0 u1 u3 u6 : AV} : R d 169 28 [u0, u1, vI x2, u3, vI x4, vI x5, u6] [] (WS L σ) Q = if ¬ (i_and (i_shr x2 x5) 1) = 1 then R d 169 71 [u0, u1, vI x2, u3, vI x4, vI x5, u6] [vI x4] (WS L σ) Q else R d 169 40 [u0, u1, vI x2, u3, vI x4, vI x5, u6] [vI x4] (WS L σ) Q := K_iload fi_169_28 rfl <| K_iload_n fi_169_30 rfl <| K_iload fi_169_31 rfl <| K_ishr fi_169_33 <| K_iconst fi_169_34 <| K_iand fi_169_35 <| K_iconst fi_169_36 <| R_icmp_ne fi_169_37 rfl
theorem b169_40 {d L : Nat} {σ : St} {Q : Option AV → AW → Prop} {y0 x5 x3 : Int} {u1 u2 u4 u6 : AV} (h1 : -2147483648 ≤ 138 + x5 ∧ 138 + x5 ≤ 2147483647) (h2 : 0 ≤ 138 + x5) (h3 : (138 + x5) < 1580) : R d 169 40 [vR 153, u1, u2, vI x3, u4, vI x5, u6] [vI y0] (WS L σ) Q = if ¬ x3 = (-1) then R d 169 60 [vR 153, u1, u2, vI x3, u4, vI x5, u6] [vI (σ 154 (138 + x5)), vI y0] (WS L σ) Q else R d 169 56 [vR 153, u1, u2, vI x3, u4, vI x5, u6] [vI (σ 154 (138 + x5)), vI y0] (WS L σ) Q := K_aload_n fi_169_40 rfl <| K_gf fi_169_41 kd_153 mk_153_1 <| K_sipush fi_169_44 <| K_iload fi_169_47 rfl <| K_iaddx fi_169_49 h1 <| K_ia fi_169_50 kd_154 h2 h3 <| K_iload_n fi_169_51 rfl <| K_iconst fi_169_52 <| R_icmp_ne fi_169_53 rfl
theorem b169_56 {d L : Nat} {σ : St} {Q : Option AV → AW → Prop} {y0 y1 : Int} {u0 u1 u2 u3 u4 u5 u6 : AV} : R d 169 56 [u0, u1, u2, u3, u4, u5, u6] [vI y0, vI y1] (WS L σ) Q = R d 169 67 [u0, u1, u2, u3, u4, u5, u6] [vI 0, vI y0, vI y1] (WS L σ) Q := K_iconst fi_169_56 <| R_goto fi_169_57 rfl
theorem b169_60 {d L : Nat} {σ : St} {Q : Option AV → AW → Prop} {y0 y1 x3 x5 : Int} {u1 u2 u4 u6 : AV} : R (d + 1) 169 60 [vR 153, u1, u2, vI x3, u4, vI x5, u6] [vI y0, vI y1] (WS L σ) Q = R d 170 0 [vR 153, vI x3, vI x5, vX 9, vX 9, vX 9, vX 9, vX 9, vX 9, vX 9, vX 9] [] (WS L σ) (fun r w => R (d + 1) 169 67 [vR 153, u1, u2, vI x3, u4, vI x5, u6] (am_push r [vI y0, vI y1]) w Q) := K_aload_n fi_169_60 rfl <| K_iload_n fi_169_61 rfl <| K_iload fi_169_62 rfl <| R_invV fi_169_64 (am_invV_of rfl (kd_153) (Nat.le_of_ble_eq_true rfl) (Nat.le_of_ble_eq_true rfl) rfl rfl)
theorem b169_67 {d L : Nat} {σ : St} {Q : Option AV → AW → Prop} {y0 y1 y2 : Int} {u0 u1 u2 u3 u4 u5 u6 : AV} (h1 : -2147483648 ≤ y1 + y0 ∧ y1 + y0 ≤ 2147483647) : R d 169 67 [u0, u1, u2, u3, u4, u5, u6] [vI y0, vI y1, vI y2] (WS L σ) Q = R d 169 72 [u0, u1, u2, u3, u4, u5, u6] [vI (y1 + y0), vI y2] (WS L σ) Q := K_iaddx fi_169_67 h1 <| R_goto fi_169_68 rfl
theorem b169_71 {d L : Nat} {σ : St} {Q : Option AV → AW → Prop} {y0 : Int} {u0 u1 u2 u3 u4 u5 u6 : AV} : R d 169 71 [u0, u1, u2, u3, u4, u5, u6] [vI y0] (WS L σ) Q = R d 169 72 [u0, u1, u2, u3, u4, u5, u6] [vI 0, vI y0] (WS L σ) Q := K_iconst fi_169_71 <| rfl
theorem b169_72 {d L : Nat} {σ : St} {Q : Option AV → AW → Prop} {y0 y1 x5 : Int} {u0 u1 u2 u3 u4 u6 : AV} (h1 : -2147483648 ≤ y1 + y0 ∧ y1 + y0 ≤ 2147483647) (h2 : -2147483648 ≤ x5 + 1 ∧ x5 + 1 ≤ 2147483647) : R d 169 72 [u0, u1, u2, u3, u4, vI x5, u6] [vI y0, vI y1] (WS L σ) Q = R d 169 17 [u0, u1, u2, u3, vI (y1 + y0), vI (x5 + 1), u6] [] (WS L σ) Q := K_iaddx fi_169_72 h1 <| K_istore fi_169_73 (Nat.le_of_ble_eq_true rfl) rfl rfl <| K_iincx fi_169_75 rfl (Nat.le_of_ble_eq_true rfl) rfl h2 rfl <| R_goto fi_169_78 rfl
theorem b169_81 {d L : Nat} {σ : St} {Q : Option AV → AW → Prop} {x3 : Int} {u0 u1 u2 u4 u5 u6 : AV} : R d 169 81 [u0, u1, u2, vI x3, u4, u5, u6] [] (WS L σ) Q = if ¬ x3 = (-1) then R d 169 89 [u0, u1, u2, vI x3, u4, u5, u6] [] (WS L σ) Q else R d 169 86 [u0, u1, u2, vI x3, u4, u5, u6] [] (WS L σ) Q := K_iload_n fi_169_81 rfl <| K_iconst fi_169_82 <| R_icmp_ne fi_169_83 rfl
theorem b169_86 {d L : Nat} {σ : St} {Q : Option AV → AW → Prop} {x4 : Int} {u0 u1 u2 u3 u5 u6 : AV} : R d 169 86 [u0, u1, u2, u3, vI x4, u5, u6] [] (WS L σ) Q = Q (some (vI x4)) (WS L σ) := K_iload fi_169_86 rfl <| R_ireti fi_169_88 rfl
theorem b169_89 {d L : Nat} {σ : St} {Q : Option AV → AW → Prop} {u0 u1 u2 u3 u4 u5 u6 : AV} : R d 169 89 [u0, u1, u2, u3, u4, u5, u6] [] (WS L σ) Q = R d 169 92 [u0, u1, u2, u3, u4, vI 0, u6] [] (WS L σ) Q := K_iconst fi_169_89 <| K_istore fi_169_90 (Nat.le_of_ble_eq_true rfl) rfl rfl <| rfl
theorem b169_92 {d L : Nat} {σ : St} {Q : Option AV → AW → Prop} {x5 x3 : Int} {u1 u2 u4 u6 : AV} (h1 : -2147483648 ≤ 211 + x3 ∧ 211 + x3 ≤ 2147483647) (h2 : 0 ≤ 211 + x3) (h3 : (211 + x3) < 1580) : R d 169 92 [vR 153, u1, u2, vI x3, u4, vI x5, u6] [] (WS L σ) Q = if (σ 154 (211 + x3)) ≤ x5 then R d 169 173 [vR 153, u1, u2, vI x3, u4, vI x5, u6] [] (WS L σ) Q else R d 169 107 [vR 153, u1, u2, vI x3, u4, vI x5, u6] [] (WS L σ) Q := K_iload fi_169_92 rfl <| K_aload_n fi_169_94 rfl <| K_gf fi_169_95 kd_153 mk_153_1 <| K_sipush fi_169_98 <| K_iload_n fi_169_101 rfl <| K_iaddx fi_169_102 h1 <| K_ia fi_169_103 kd_154 h2 h3 <| R_icmp_ge fi_169_104 rfl
theorem b169_107 {d L : Nat} {σ : St} {Q : Option AV → AW → Prop} {x3 x5 x4 x2 : Int} {u1 u6 : AV} (h1 : -2147483648 ≤ 10 * x3 ∧ 10 * x3 ≤ 2147483647) (h2 : -2147483648 ≤ (10 * x3) + x5 ∧ (10 * x3) + x5 ≤ 2147483647) (h3 : -2147483648 ≤ 3 * ((10 * x3) + x5) ∧ 3 * ((10 * x3) + x5) ≤ 2147483647) (h4 : -2147483648 ≤ 217 + (3 * ((10 * x3) + x5)) ∧ 217 + (3 * ((10 * x3) + x5)) ≤ 2147483647) (h5 : -2147483648 ≤ (217 + (3 * ((10 * x3) + x5))) + 1 ∧ (217 + (3 * ((10 * x3) + x5))) + 1 ≤ 2147483647) (h6 : 0 ≤ (217 + (3 * ((10 * x3) + x5))) + 1) (h7 : ((217 + (3 * ((10 * x3) + x5))) + 1) < 1580) (h8 : -2147483648 ≤ (217 + (3 * ((10 * x3) + x5))) + 2 ∧ (217 + (3 * ((10 * x3) + x5))) + 2 ≤ 2147483647) (h9 : 0 ≤ (217 + (3 * ((10 * x3) + x5))) + 2) (h10 : ((217 + (3 * ((10 * x3) + x5))) + 2) < 1580) : R d 169 107 [vR 153, u1, vI x2, vI x3, vI x4, vI x5, u6] [] (WS L σ) Q = if ¬ (i_and (i_and (i_shr x2 (σ 154 ((217 + (3 * ((10 * x3) + x5))) + 1))) (i_shr x2 (σ 154 ((217 + (3 * ((10 * x3) + x5))) + 2)))) 1) = 1 then R d 169 163 [vR 153, u1, vI x2, vI x3, vI x4, vI x5, vI (217 + (3 * ((10 * x3) + x5)))] [vI x4] (WS L σ) Q else R d 169 153 [vR 153, u1, vI x2, vI x3, vI x4, vI x5, vI (217 + (3 * ((10 * x3) + x5)))] [vI x4] (WS L σ) Q := K_sipush fi_169_107 <| K_iconst fi_169_110 <| K_bipush fi_169_111 <| K_iload_n fi_169_113 rfl <| K_imulx fi_169_114 h1 <| K_iload fi_169_115 rfl <| K_iaddx fi_169_117 h2 <| K_imulx fi_169_118 h3 <| K_iaddx fi_169_119 h4 <| K_istore fi_169_120 (Nat.le_of_ble_eq_true rfl) rfl rfl <| K_iload fi_169_122 rfl <| K_iload_n fi_169_124 rfl <| K_aload_n fi_169_125 rfl <| K_gf fi_169_126 kd_153 mk_153_1 <| K_iload fi_169_129 rfl <| K_iconst fi_169_131 <| K_iaddx fi_169_132 h5 <| K_ia fi_169_133 kd_154 h6 h7 <| K_ishr fi_169_134 <| K_iload_n fi_169_135 rfl <| K_aload_n fi_169_136 rfl <| K_gf fi_169_137 kd_153 mk_153_1 <| K_iload fi_169_140 rfl <| K_iconst fi_169_142 <| K_iaddx fi_169_143 h8 <| K_ia fi_169_144 kd_154 h9 h10 <| K_ishr fi_169_145 <| K_iand fi_169_146 <| K_iconst fi_169_147 <| K_iand fi_169_148 <| K_iconst fi_169_149 <| R_icmp_ne fi_169_150 rfl
theorem b169_153 {d L : Nat} {σ : St} {Q : Option AV → AW → Prop} {y0 x6 : Int} {u1 u2 u3 u4 u5 : AV} (h1 : 0 ≤ x6) (h2 : x6 < 1580) : R d 169 153 [vR 153, u1, u2, u3, u4, u5, vI x6] [vI y0] (WS L σ) Q = R d 169 164 [vR 153, u1, u2, u3, u4, u5, vI x6] [vI (σ 154 x6), vI y0] (WS L σ) Q := K_aload_n fi_169_153 rfl <| K_gf fi_169_154 kd_153 mk_153_1 <| K_iload fi_169_157 rfl <| K_ia fi_169_159 kd_154 h1 h2 <| R_goto fi_169_160 rfl
theorem b169_163 {d L : Nat} {σ : St} {Q : Option AV → AW → Prop} {y0 : Int} {u0 u1 u2 u3 u4 u5 u6 : AV} : R d 169 163 [u0, u1, u2, u3, u4, u5, u6] [vI y0] (WS L σ) Q = R d 169 164 [u0, u1, u2, u3, u4, u5, u6] [vI 0, vI y0] (WS L σ) Q := K_iconst fi_169_163 <| rfl
theorem b169_164 {d L : Nat} {σ : St} {Q : Option AV → AW → Prop} {y0 y1 x5 : Int} {u0 u1 u2 u3 u4 u6 : AV} (h1 : -2147483648 ≤ y1 + y0 ∧ y1 + y0 ≤ 2147483647) (h2 : -2147483648 ≤ x5 + 1 ∧ x5 + 1 ≤ 2147483647) : R d 169 164 [u0, u1, u2, u3, u4, vI x5, u6] [vI y0, vI y1] (WS L σ) Q = R d 169 92 [u0, u1, u2, u3, vI (y1 + y0), vI (x5 + 1), u6] [] (WS L σ) Q := K_iaddx fi_169_164 h1 <| K_istore fi_169_165 (Nat.le_of_ble_eq_true rfl) rfl rfl <| K_iincx fi_169_167 rfl (Nat.le_of_ble_eq_true rfl) rfl h2 rfl <| R_goto fi_169_170 rfl
theorem b169_173 {d L : Nat} {σ : St} {Q : Option AV → AW → Prop} {u0 u1 u2 u3 u4 u5 u6 : AV} : R d 169 173 [u0, u1, u2, u3, u4, u5, u6] [] (WS L σ) Q = R d 169 176 [u0, u1, u2, u3, u4, vI 0, u6] [] (WS L σ) Q := K_iconst fi_169_173 <| K_istore fi_169_174 (Nat.le_of_ble_eq_true rfl) rfl rfl <| rfl
theorem b169_176 {d L : Nat} {σ : St} {Q : Option AV → AW → Prop} {x5 x3 : Int} {u1 u2 u4 u6 : AV} (h1 : -2147483648 ≤ 397 + x3 ∧ 397 + x3 ≤ 2147483647) (h2 : 0 ≤ 397 + x3) (h3 : (397 + x3) < 1580) : R d 169 176 [vR 153, u1, u2, vI x3, u4, vI x5, u6] [] (WS L σ) Q = if (σ 154 (397 + x3)) ≤ x5 then R d 169 245 [vR 153, u1, u2, vI x3, u4, vI x5, u6] [] (WS L σ) Q else R d 169 191 [vR 153, u1, u2, vI x3, u4, vI x5, u6] [] (WS L σ) Q := K_iload fi_169_176 rfl <| K_aload_n fi_169_178 rfl <| K_gf fi_169_179 kd_153 mk_153_1 <| K_sipush fi_169_182 <| K_iload_n fi_169_185 rfl <| K_iaddx fi_169_186 h1 <| K_ia fi_169_187 kd_154 h2 h3 <| R_icmp_ge fi_169_188 rfl
theorem b169_191 {d L : Nat} {σ : St} {Q : Option AV → AW → Prop} {x3 x5 x4 x2 : Int} {u1 u6 : AV} (h1 : -2147483648 ≤ 10 * x3 ∧ 10 * x3 ≤ 2147483647) (h2 : -2147483648 ≤ (10 * x3) + x5 ∧ (10 * x3) + x5 ≤ 2147483647) (h3 : -2147483648 ≤ 2 * ((10 * x3) + x5) ∧ 2 * ((10 * x3) + x5) ≤ 2147483647) (h4 : -2147483648 ≤ 403 + (2 * ((10 * x3) + x5)) ∧ 403 + (2 * ((10 * x3) + x5)) ≤ 2147483647) (h5 : -2147483648 ≤ (403 + (2 * ((10 * x3) + x5))) + 1 ∧ (403 + (2 * ((10 * x3) + x5))) + 1 ≤ 2147483647) (h6 : 0 ≤ (403 + (2 * ((10 * x3) + x5))) + 1) (h7 : ((403 + (2 * ((10 * x3) + x5))) + 1) < 1580) : R (d + 1) 169 191 [vR 153, u1, vI x2, vI x3, vI x4, vI x5, u6] [] (WS L σ) Q = R d 171 0 [vR 153, vI x2, vI (σ 154 ((403 + (2 * ((10 * x3) + x5))) + 1)), vX 9, vX 9] [] (WS L σ) (fun r w => R (d + 1) 169 222 [vR 153, u1, vI x2, vI x3, vI x4, vI x5, vI (403 + (2 * ((10 * x3) + x5)))] (am_push r [vI x4]) w Q) := K_sipush fi_169_191 <| K_iconst fi_169_194 <| K_bipush fi_169_195 <| K_iload_n fi_169_197 rfl <| K_imulx fi_169_198 h1 <| K_iload fi_169_199 rfl <| K_iaddx fi_169_201 h2 <| K_imulx fi_169_202 h3 <| K_iaddx fi_169_203 h4 <| K_istore fi_169_204 (Nat.le_of_ble_eq_true rfl) rfl rfl <| K_iload fi_169_206 rfl <| K_aload_n fi_169_208 rfl <| K_iload_n fi_169_209 rfl <| K_aload_n fi_169_210 rfl <| K_gf fi_169_211 kd_153 mk_153_1 <| K_iload fi_169_214 rfl <| K_iconst fi_169_216 <| K_iaddx fi_169_217 h5 <| K_ia fi_169_218 kd_154 h6 h7 <| R_invV fi_169_219 (am_invV_of rfl (kd_153) (Nat.le_of_ble_eq_true rfl) (Nat.le_of_ble_eq_true rfl) rfl rfl)
theorem b169_222 {d L : Nat} {σ : St} {Q : Option AV → AW → Prop} {y0 y1 : Int} {u0 u1 u2 u3 u4 u5 u6 : AV} : R d 169 222 [u0, u1, u2, u3, u4, u5, u6] [vI y0, vI y1] (WS L σ) Q = if y0 = 0 then R d 169 229 [u0, u1, u2, u3, u4, u5, u6] [vI y1] (WS L σ) Q else R d 169 225 [u0, u1, u2, u3, u4, u5, u6] [vI y1] (WS L σ) Q := R_if_eq fi_169_222 rfl
theorem b169_225 {d L : Nat} {σ : St} {Q : Option AV → AW → Prop} {y0 : Int} {u0 u1 u2 u3 u4 u5 u6 : AV} : R d 169 225 [u0, u1, u2, u3, u4, u5, u6] [vI y0] (WS L σ) Q = R d 169 236 [u0, u1, u2, u3, u4, u5, u6] [vI 0, vI y0] (WS L σ) Q := K_iconst fi_169_225 <| R_goto fi_169_226 rfl
theorem b169_229 {d L : Nat} {σ : St} {Q : Option AV → AW → Prop} {y0 x6 : Int} {u1 u2 u3 u4 u5 : AV} (h1 : 0 ≤ x6) (h2 : x6 < 1580) : R d 169 229 [vR 153, u1, u2, u3, u4, u5, vI x6] [vI y0] (WS L σ) Q = R d 169 236 [vR 153, u1, u2, u3, u4, u5, vI x6] [vI (σ 154 x6), vI y0] (WS L σ) Q := K_aload_n fi_169_229 rfl <| K_gf fi_169_230 kd_153 mk_153_1 <| K_iload fi_169_233 rfl <| K_ia fi_169_235 kd_154 h1 h2 <| rfl
theorem b169_236 {d L : Nat} {σ : St} {Q : Option AV → AW → Prop} {y0 y1 x5 : Int} {u0 u1 u2 u3 u4 u6 : AV} (h1 : -2147483648 ≤ y1 - y0 ∧ y1 - y0 ≤ 2147483647) (h2 : -2147483648 ≤ x5 + 1 ∧ x5 + 1 ≤ 2147483647) : R d 169 236 [u0, u1, u2, u3, u4, vI x5, u6] [vI y0, vI y1] (WS L σ) Q = R d 169 176 [u0, u1, u2, u3, vI (y1 - y0), vI (x5 + 1), u6] [] (WS L σ) Q := K_isubx fi_169_236 h1 <| K_istore fi_169_237 (Nat.le_of_ble_eq_true rfl) rfl rfl <| K_iincx fi_169_239 rfl (Nat.le_of_ble_eq_true rfl) rfl h2 rfl <| R_goto fi_169_242 rfl
theorem b169_245 {d L : Nat} {σ : St} {Q : Option AV → AW → Prop} {x4 : Int} {u0 u1 u2 u3 u5 u6 : AV} : R d 169 245 [u0, u1, u2, u3, vI x4, u5, u6] [] (WS L σ) Q = Q (some (vI x4)) (WS L σ) := K_iload fi_169_245 rfl <| R_ireti fi_169_247 rfl
