/-! block lemmas (printed by wip/whole/gen_blocks.py): methods 60 to 109 -/
theorem fi_60_0 : am_find 60 0 = some (.aload_n 0, 1, 0, 0, 0) := by decide +kernel
theorem fi_60_1 : am_find 60 1 = some (.ifnonnull 5, 3, 0, 0, 0) := by decide +kernel
theorem fi_60_4 : am_find 60 4 = some (.iconst (-1), 1, 0, (-1), 0) := by decide +kernel
theorem fi_60_5 : am_find 60 5 = some (.ireturn, 1, 0, 0, 0) := by decide +kernel
theorem fi_60_6 : am_find 60 6 = some (.iload_n 1, 1, 0, 0, 0) := by decide +kernel
theorem fi_60_7 : am_find 60 7 = some (.ifCond .ge 9, 3, 0, 0, 0) := by decide +kernel
theorem fi_60_10 : am_find 60 10 = some (.aload_n 0, 1, 0, 0, 0) := by decide +kernel
theorem fi_60_11 : am_find 60 11 = some (.invokevirtual 121, 3, 53, 0, 52) := by decide +kernel
theorem fi_60_14 : am_find 60 14 = some (.iconst 0, 1, 0, 0, 0) := by decide +kernel
theorem fi_60_15 : am_find 60 15 = some (.ireturn, 1, 0, 0, 0) := by decide +kernel
theorem fi_60_16 : am_find 60 16 = some (.aload_n 0, 1, 0, 0, 0) := by decide +kernel
theorem fi_60_17 : am_find 60 17 = some (.invokevirtual 300, 3, 61, 0, 59) := by decide +kernel
theorem fi_60_20 : am_find 60 20 = some (.ifCond .eq 8, 3, 0, 0, 0) := by decide +kernel
theorem fi_60_23 : am_find 60 23 = some (.bipush (-4), 2, 0, (-4), 0) := by decide +kernel
theorem fi_60_25 : am_find 60 25 = some (.goto 8, 3, 0, 0, 0) := by decide +kernel
theorem fi_60_28 : am_find 60 28 = some (.aload_n 0, 1, 0, 0, 0) := by decide +kernel
theorem fi_60_29 : am_find 60 29 = some (.iload_n 1, 1, 0, 0, 0) := by decide +kernel
theorem fi_60_30 : am_find 60 30 = some (.invokevirtual 107, 3, 48, 1, 50) := by decide +kernel
theorem fi_60_33 : am_find 60 33 = some (.ireturn, 1, 0, 0, 0) := by decide +kernel
theorem b60_0 {d L : Nat} {σ : St} {Q : Option AV → AW → Prop} {r0 : Nat} {u1 : AV} : R d 60 0 [vR r0, u1] [] (WS L σ) Q = R d 60 6 [vR r0, u1] [] (WS L σ) Q := K_aload_n fi_60_0 rfl <| R_ifnonnull fi_60_1 rfl
theorem b60_6 {d L : Nat} {σ : St} {Q : Option AV → AW → Prop} {x1 : Int} {u0 : AV} : R d 60 6 [u0, vI x1] [] (WS L σ) Q = if 0 ≤ x1 then R d 60 16 [u0, vI x1] [] (WS L σ) Q else R d 60 10 [u0, vI x1] [] (WS L σ) Q := K_iload_n fi_60_6 rfl <| R_if_ge fi_60_7 rfl
theorem b60_10 {d L : Nat} {σ : St} {Q : Option AV → AW → Prop} {r0 : Nat} {u1 : AV} (h1 : KD r0 = 5) : R (d + 1) 60 10 [vR r0, u1] [] (WS L σ) Q = R d 53 0 [vR r0] [] (WS L σ) (fun r w => R (d + 1) 60 14 [vR r0, u1] (am_push r []) w Q) := K_aload_n fi_60_10 rfl <| R_invV fi_60_11 (am_invV_of rfl (h1) (Nat.le_of_ble_eq_true rfl) (Nat.le_of_ble_eq_true rfl) rfl rfl)
theorem b60_14 {d L : Nat} {σ : St} {Q : Option AV → AW → Prop} {u0 u1 : AV} : R d 60 14 [u0, u1] [] (WS L σ) Q = Q (some (vI 0)) (WS L σ) := K_iconst fi_60_14 <| R_ireti fi_60_15 rfl
theorem b60_16 {d L : Nat} {σ : St} {Q : Option AV → AW → Prop} {r0 : Nat} {u1 : AV} (h1 : KD r0 = 5) : R (d + 1) 60 16 [vR r0, u1] [] (WS L σ) Q = R d 61 0 [vR r0] [] (WS L σ) (fun r w => R (d + 1) 60 20 [vR r0, u1] (am_push r []) w Q) := K_aload_n fi_60_16 rfl <| R_invV fi_60_17 (am_invV_of rfl (h1) (Nat.le_of_ble_eq_true rfl) (Nat.le_of_ble_eq_true rfl) rfl rfl)
theorem b60_20 {d L : Nat} {σ : St} {Q : Option AV → AW → Prop} {y0 : Int} {u0 u1 : AV} : R d 60 20 [u0, u1] [vI y0] (WS L σ) Q = if y0 = 0 then R d 60 28 [u0, u1] [] (WS L σ) Q else R d 60 23 [u0, u1] [] (WS L σ) Q := R_if_eq fi_60_20 rfl
theorem b60_23 {d L : Nat} {σ : St} {Q : Option AV → AW → Prop} {u0 u1 : AV} : R d 60 23 [u0, u1] [] (WS L σ) Q = R d 60 33 [u0, u1] [vI (-4)] (WS L σ) Q := K_bipush fi_60_23 <| R_goto fi_60_25 rfl
theorem b60_28 {d L : Nat} {σ : St} {Q : Option AV → AW → Prop} {x1 : Int} {r0 : Nat} (h1 : KD r0 = 5) : R (d + 1) 60 28 [vR r0, vI x1] [] (WS L σ) Q = R d 48 0 [vR r0, vI x1] [] (WS L σ) (fun r w => R (d + 1) 60 33 [vR r0, vI x1] (am_push r []) w Q) := K_aload_n fi_60_28 rfl <| K_iload_n fi_60_29 rfl <| R_invV fi_60_30 (am_invV_of rfl (h1) (Nat.le_of_ble_eq_true rfl) (Nat.le_of_ble_eq_true rfl) rfl rfl)
theorem b60_33 {d L : Nat} {σ : St} {Q : Option AV → AW → Prop} {y0 : Int} {u0 u1 : AV} : R d 60 33 [u0, u1] [vI y0] (WS L σ) Q = Q (some (vI y0)) (WS L σ) := R_ireti fi_60_33 rfl
theorem fi_61_0 : am_find 61 0 = some (.aload_n 0, 1, 0, 0, 0) := by decide +kernel
theorem fi_61_1 : am_find 61 1 = some (.getfield 21, 3, 5, 1, 55) := by decide +kernel
theorem fi_61_4 : am_find 61 4 = some (.aload_n 0, 1, 0, 0, 0) := by decide +kernel
theorem fi_61_5 : am_find 61 5 = some (.getfield 15, 3, 5, 0, 22) := by decide +kernel
theorem fi_61_8 : am_find 61 8 = some (.arraylength, 1, 0, 0, 0) := by decide +kernel
theorem fi_61_9 : am_find 61 9 = some (.if_icmp .lt 7, 3, 0, 0, 0) := by decide +kernel
theorem fi_61_12 : am_find 61 12 = some (.iconst 1, 1, 0, 1, 0) := by decide +kernel
theorem fi_61_13 : am_find 61 13 = some (.goto 4, 3, 0, 0, 0) := by decide +kernel
theorem fi_61_16 : am_find 61 16 = some (.iconst 0, 1, 0, 0, 0) := by decide +kernel
theorem fi_61_17 : am_find 61 17 = some (.ireturn, 1, 1, 0, 0) := by decide +kernel
theorem b61_0 {d L : Nat} {σ : St} {Q : Option AV → AW → Prop} {r0 : Nat} (h1 : KD r0 = 5) : R d 61 0 [vR r0] [] (WS L σ) Q = if (σ r0 1) < (LN L (r0 + 1) : Int) then R d 61 16 [vR r0] [] (WS L σ) Q else R d 61 12 [vR r0] [] (WS L σ) Q := K_aload_n fi_61_0 rfl <| K_gf fi_61_1 h1 (row_sz h1) <| K_aload_n fi_61_4 rfl <| K_gf fi_61_5 h1 (row_it h1) <| K_alen fi_61_8 (Or.inl (row_ar h1)) <| R_icmp_lt fi_61_9 rfl
theorem b61_12 {d L : Nat} {σ : St} {Q : Option AV → AW → Prop} {u0 : AV} : R d 61 12 [u0] [] (WS L σ) Q = R d 61 17 [u0] [vI 1] (WS L σ) Q := K_iconst fi_61_12 <| R_goto fi_61_13 rfl
theorem b61_16 {d L : Nat} {σ : St} {Q : Option AV → AW → Prop} {u0 : AV} : R d 61 16 [u0] [] (WS L σ) Q = R d 61 17 [u0] [vI 0] (WS L σ) Q := K_iconst fi_61_16 <| rfl
theorem b61_17 {d L : Nat} {σ : St} {Q : Option AV → AW → Prop} {y0 : Int} {u0 : AV} (h1 : am_rfit 1 y0 = true) : R d 61 17 [u0] [vI y0] (WS L σ) Q = Q (some (vI y0)) (WS L σ) := R_ireti fi_61_17 h1
theorem fi_62_0 : am_find 62 0 = some (.iload_n 1, 1, 0, 0, 0) := by decide +kernel
theorem fi_62_1 : am_find 62 1 = some (.bipush 8, 2, 0, 8, 0) := by decide +kernel
theorem fi_62_3 : am_find 62 3 = some (.invokestatic 72, 3, 13, 2, 14) := by decide +kernel
theorem fi_62_6 : am_find 62 6 = some (.ifCond .eq 21, 3, 0, 0, 0) := by decide +kernel
theorem fi_62_9 : am_find 62 9 = some (.aload_n 0, 1, 0, 0, 0) := by decide +kernel
theorem fi_62_10 : am_find 62 10 = some (.getfield 10, 3, 9, 0, 0) := by decide +kernel
theorem fi_62_13 : am_find 62 13 = some (.aload_n 0, 1, 0, 0, 0) := by decide +kernel
theorem fi_62_14 : am_find 62 14 = some (.getfield 10, 3, 9, 0, 0) := by decide +kernel
theorem fi_62_17 : am_find 62 17 = some (.getfield 138, 3, 8, 3, 58) := by decide +kernel
theorem fi_62_20 : am_find 62 20 = some (.iload_n 1, 1, 0, 0, 0) := by decide +kernel
theorem fi_62_21 : am_find 62 21 = some (.invokevirtual 148, 3, 63, 2, 60) := by decide +kernel
theorem fi_62_24 : am_find 62 24 = some (.goto 4, 3, 0, 0, 0) := by decide +kernel
theorem fi_62_27 : am_find 62 27 = some (.iconst (-1), 1, 0, (-1), 0) := by decide +kernel
theorem fi_62_28 : am_find 62 28 = some (.ireturn, 1, 0, 0, 0) := by decide +kernel
theorem b62_0 {d L : Nat} {σ : St} {Q : Option AV → AW → Prop} {x1 : Int} {u0 : AV} : R (d + 1) 62 0 [u0, vI x1] [] (WS L σ) Q = R d 13 0 [vI x1, vI 8] [] (WS L σ) (fun r w => R (d + 1) 62 6 [u0, vI x1] (am_push r []) w Q) := K_iload_n fi_62_0 rfl <| K_bipush fi_62_1 <| R_invS fi_62_3 (by decide) (am_invS_of (Nat.le_of_ble_eq_true rfl) rfl (Nat.le_of_ble_eq_true rfl) (Nat.le_of_ble_eq_true rfl) rfl rfl)
theorem b62_6 {d L : Nat} {σ : St} {Q : Option AV → AW → Prop} {y0 : Int} {u0 u1 : AV} : R d 62 6 [u0, u1] [vI y0] (WS L σ) Q = if y0 = 0 then R d 62 27 [u0, u1] [] (WS L σ) Q else R d 62 9 [u0, u1] [] (WS L σ) Q := R_if_eq fi_62_6 rfl
theorem b62_9 {d L : Nat} {σ : St} {Q : Option AV → AW → Prop} {x1 : Int} : R (d + 1) 62 9 [vR 19, vI x1] [] (WS L σ) Q = R d 63 0 [vR 20, vI (σ 20 3), vI x1, vX 9, vX 9] [] (WS L σ) (fun r w => R (d + 1) 62 24 [vR 19, vI x1] (am_push r []) w Q) := K_aload_n fi_62_9 rfl <| K_gf fi_62_10 kd_19 mk_19_0 <| K_aload_n fi_62_13 rfl <| K_gf fi_62_14 kd_19 mk_19_0 <| K_gf fi_62_17 kd_20 mk_20_3 <| K_iload_n fi_62_20 rfl <| R_invV fi_62_21 (am_invV_of rfl (kd_20) (Nat.le_of_ble_eq_true rfl) (Nat.le_of_ble_eq_true rfl) rfl rfl)
theorem b62_24 {d L : Nat} {σ : St} {Q : Option AV → AW → Prop} {y0 : Int} {u0 u1 : AV} : R d 62 24 [u0, u1] [vI y0] (WS L σ) Q = R d 62 28 [u0, u1] [vI y0] (WS L σ) Q := R_goto fi_62_24 rfl
theorem b62_27 {d L : Nat} {σ : St} {Q : Option AV → AW → Prop} {u0 u1 : AV} : R d 62 27 [u0, u1] [] (WS L σ) Q = R d 62 28 [u0, u1] [vI (-1)] (WS L σ) Q := K_iconst fi_62_27 <| rfl
theorem b62_28 {d L : Nat} {σ : St} {Q : Option AV → AW → Prop} {y0 : Int} {u0 u1 : AV} : R d 62 28 [u0, u1] [vI y0] (WS L σ) Q = Q (some (vI y0)) (WS L σ) := R_ireti fi_62_28 rfl
theorem fi_63_0 : am_find 63 0 = some (.aload_n 0, 1, 0, 0, 0) := by decide +kernel
theorem fi_63_1 : am_find 63 1 = some (.getfield 9, 3, 8, 1, 9) := by decide +kernel
theorem fi_63_4 : am_find 63 4 = some (.iconst 3, 1, 0, 3, 0) := by decide +kernel
theorem fi_63_5 : am_find 63 5 = some (.if_icmp .ne 7, 3, 0, 0, 0) := by decide +kernel
theorem fi_63_8 : am_find 63 8 = some (.iconst 3, 1, 0, 3, 0) := by decide +kernel
theorem fi_63_9 : am_find 63 9 = some (.goto 4, 3, 0, 0, 0) := by decide +kernel
theorem fi_63_12 : am_find 63 12 = some (.iconst 2, 1, 0, 2, 0) := by decide +kernel
theorem fi_63_13 : am_find 63 13 = some (.istore_n 3, 1, 0, 0, 0) := by decide +kernel
theorem fi_63_14 : am_find 63 14 = some (.iload_n 1, 1, 0, 0, 0) := by decide +kernel
theorem fi_63_15 : am_find 63 15 = some (.iconst 1, 1, 0, 1, 0) := by decide +kernel
theorem fi_63_16 : am_find 63 16 = some (.if_icmp .ne 30, 3, 0, 0, 0) := by decide +kernel
theorem fi_63_19 : am_find 63 19 = some (.iload_n 2, 1, 0, 0, 0) := by decide +kernel
theorem fi_63_20 : am_find 63 20 = some (.iconst 2, 1, 0, 2, 0) := by decide +kernel
theorem fi_63_21 : am_find 63 21 = some (.iload_n 3, 1, 0, 0, 0) := by decide +kernel
theorem fi_63_22 : am_find 63 22 = some (.imul, 1, 0, 0, 0) := by decide +kernel
theorem fi_63_23 : am_find 63 23 = some (.irem, 1, 0, 0, 0) := by decide +kernel
theorem fi_63_24 : am_find 63 24 = some (.istore 4, 2, 0, 0, 0) := by decide +kernel
theorem fi_63_26 : am_find 63 26 = some (.iload 4, 2, 0, 0, 0) := by decide +kernel
theorem fi_63_28 : am_find 63 28 = some (.iload_n 3, 1, 0, 0, 0) := by decide +kernel
theorem fi_63_29 : am_find 63 29 = some (.if_icmp .ge 8, 3, 0, 0, 0) := by decide +kernel
theorem fi_63_32 : am_find 63 32 = some (.iload 4, 2, 0, 0, 0) := by decide +kernel
theorem fi_63_34 : am_find 63 34 = some (.goto 11, 3, 0, 0, 0) := by decide +kernel
theorem fi_63_37 : am_find 63 37 = some (.iconst 2, 1, 0, 2, 0) := by decide +kernel
theorem fi_63_38 : am_find 63 38 = some (.iload_n 3, 1, 0, 0, 0) := by decide +kernel
theorem fi_63_39 : am_find 63 39 = some (.imul, 1, 0, 0, 0) := by decide +kernel
theorem fi_63_40 : am_find 63 40 = some (.iconst 1, 1, 0, 1, 0) := by decide +kernel
theorem fi_63_41 : am_find 63 41 = some (.isub, 1, 0, 0, 0) := by decide +kernel
theorem fi_63_42 : am_find 63 42 = some (.iload 4, 2, 0, 0, 0) := by decide +kernel
theorem fi_63_44 : am_find 63 44 = some (.isub, 1, 0, 0, 0) := by decide +kernel
theorem fi_63_45 : am_find 63 45 = some (.ireturn, 1, 0, 0, 0) := by decide +kernel
theorem fi_63_46 : am_find 63 46 = some (.iload_n 1, 1, 0, 0, 0) := by decide +kernel
theorem fi_63_47 : am_find 63 47 = some (.iconst 2, 1, 0, 2, 0) := by decide +kernel
theorem fi_63_48 : am_find 63 48 = some (.if_icmp .ne 11, 3, 0, 0, 0) := by decide +kernel
theorem fi_63_51 : am_find 63 51 = some (.iload_n 2, 1, 0, 0, 0) := by decide +kernel
theorem fi_63_52 : am_find 63 52 = some (.iconst 1, 1, 0, 1, 0) := by decide +kernel
theorem fi_63_53 : am_find 63 53 = some (.iadd, 1, 0, 0, 0) := by decide +kernel
theorem fi_63_54 : am_find 63 54 = some (.iconst 2, 1, 0, 2, 0) := by decide +kernel
theorem fi_63_55 : am_find 63 55 = some (.idiv, 1, 0, 0, 0) := by decide +kernel
theorem fi_63_56 : am_find 63 56 = some (.iload_n 3, 1, 0, 0, 0) := by decide +kernel
theorem fi_63_57 : am_find 63 57 = some (.irem, 1, 0, 0, 0) := by decide +kernel
theorem fi_63_58 : am_find 63 58 = some (.ireturn, 1, 0, 0, 0) := by decide +kernel
theorem fi_63_59 : am_find 63 59 = some (.iload_n 1, 1, 0, 0, 0) := by decide +kernel
theorem fi_63_60 : am_find 63 60 = some (.iconst 3, 1, 0, 3, 0) := by decide +kernel
theorem fi_63_61 : am_find 63 61 = some (.if_icmp .ne 27, 3, 0, 0, 0) := by decide +kernel
theorem fi_63_64 : am_find 63 64 = some (.aload_n 0, 1, 0, 0, 0) := by decide +kernel
theorem fi_63_65 : am_find 63 65 = some (.getfield 27, 3, 8, 7, 12) := by decide +kernel
theorem fi_63_68 : am_find 63 68 = some (.iload_n 2, 1, 0, 0, 0) := by decide +kernel
theorem fi_63_69 : am_find 63 69 = some (.invokevirtual 109, 3, 64, 1, 61) := by decide +kernel
theorem fi_63_72 : am_find 63 72 = some (.iload_n 3, 1, 0, 0, 0) := by decide +kernel
theorem fi_63_73 : am_find 63 73 = some (.invokestatic 101, 3, 13, 2, 24) := by decide +kernel
theorem fi_63_76 : am_find 63 76 = some (.ifCond .eq 12, 3, 0, 0, 0) := by decide +kernel
theorem fi_63_79 : am_find 63 79 = some (.aload_n 0, 1, 0, 0, 0) := by decide +kernel
theorem fi_63_80 : am_find 63 80 = some (.getfield 27, 3, 8, 7, 12) := by decide +kernel
theorem fi_63_83 : am_find 63 83 = some (.iload_n 2, 1, 0, 0, 0) := by decide +kernel
theorem fi_63_84 : am_find 63 84 = some (.invokevirtual 109, 3, 64, 1, 61) := by decide +kernel
theorem fi_63_87 : am_find 63 87 = some (.ireturn, 1, 0, 0, 0) := by decide +kernel
theorem fi_63_88 : am_find 63 88 = some (.iload_n 2, 1, 0, 0, 0) := by decide +kernel
theorem fi_63_89 : am_find 63 89 = some (.iload_n 3, 1, 0, 0, 0) := by decide +kernel
theorem fi_63_90 : am_find 63 90 = some (.irem, 1, 0, 0, 0) := by decide +kernel
theorem fi_63_91 : am_find 63 91 = some (.ireturn, 1, 0, 0, 0) := by decide +kernel
theorem b63_0 {d L : Nat} {σ : St} {Q : Option AV → AW → Prop} {u1 u2 u3 u4 : AV} : R d 63 0 [vR 20, u1, u2, u3, u4] [] (WS L σ) Q = if ¬ (σ 20 1) = 3 then R d 63 12 [vR 20, u1, u2, u3, u4] [] (WS L σ) Q else R d 63 8 [vR 20, u1, u2, u3, u4] [] (WS L σ) Q := K_aload_n fi_63_0 rfl <| K_gf fi_63_1 kd_20 mk_20_1 <| K_iconst fi_63_4 <| R_icmp_ne fi_63_5 rfl
theorem b63_8 {d L : Nat} {σ : St} {Q : Option AV → AW → Prop} {u0 u1 u2 u3 u4 : AV} : R d 63 8 [u0, u1, u2, u3, u4] [] (WS L σ) Q = R d 63 13 [u0, u1, u2, u3, u4] [vI 3] (WS L σ) Q := K_iconst fi_63_8 <| R_goto fi_63_9 rfl
theorem b63_12 {d L : Nat} {σ : St} {Q : Option AV → AW → Prop} {u0 u1 u2 u3 u4 : AV} : R d 63 12 [u0, u1, u2, u3, u4] [] (WS L σ) Q = R d 63 13 [u0, u1, u2, u3, u4] [vI 2] (WS L σ) Q := K_iconst fi_63_12 <| rfl
theorem b63_13 {d L : Nat} {σ : St} {Q : Option AV → AW → Prop} {y0 x1 : Int} {u0 u2 u3 u4 : AV} : R d 63 13 [u0, vI x1, u2, u3, u4] [vI y0] (WS L σ) Q = if ¬ x1 = 1 then R d 63 46 [u0, vI x1, u2, vI y0, u4] [] (WS L σ) Q else R d 63 19 [u0, vI x1, u2, vI y0, u4] [] (WS L σ) Q := K_istore_n fi_63_13 (Nat.le_of_ble_eq_true rfl) rfl rfl <| K_iload_n fi_63_14 rfl <| K_iconst fi_63_15 <| R_icmp_ne fi_63_16 rfl
theorem b63_19 {d L : Nat} {σ : St} {Q : Option AV → AW → Prop} {x2 x3 : Int} {u0 u1 u4 : AV} (h1 : -2147483648 ≤ 2 * x3 ∧ 2 * x3 ≤ 2147483647) (h2 : ¬ (2 * x3) = 0) : R d 63 19 [u0, u1, vI x2, vI x3, u4] [] (WS L σ) Q = if x3 ≤ (i_rem x2 (2 * x3)) then R d 63 37 [u0, u1, vI x2, vI x3, vI (i_rem x2 (2 * x3))] [] (WS L σ) Q else R d 63 32 [u0, u1, vI x2, vI x3, vI (i_rem x2 (2 * x3))] [] (WS L σ) Q := K_iload_n fi_63_19 rfl <| K_iconst fi_63_20 <| K_iload_n fi_63_21 rfl <| K_imulx fi_63_22 h1 <| K_irem fi_63_23 h2 <| K_istore fi_63_24 (Nat.le_of_ble_eq_true rfl) rfl rfl <| K_iload fi_63_26 rfl <| K_iload_n fi_63_28 rfl <| R_icmp_ge fi_63_29 rfl
theorem b63_32 {d L : Nat} {σ : St} {Q : Option AV → AW → Prop} {x4 : Int} {u0 u1 u2 u3 : AV} : R d 63 32 [u0, u1, u2, u3, vI x4] [] (WS L σ) Q = R d 63 45 [u0, u1, u2, u3, vI x4] [vI x4] (WS L σ) Q := K_iload fi_63_32 rfl <| R_goto fi_63_34 rfl
theorem b63_37 {d L : Nat} {σ : St} {Q : Option AV → AW → Prop} {x3 x4 : Int} {u0 u1 u2 : AV} (h1 : -2147483648 ≤ 2 * x3 ∧ 2 * x3 ≤ 2147483647) (h2 : -2147483648 ≤ (2 * x3) - 1 ∧ (2 * x3) - 1 ≤ 2147483647) (h3 : -2147483648 ≤ ((2 * x3) - 1) - x4 ∧ ((2 * x3) - 1) - x4 ≤ 2147483647) : R d 63 37 [u0, u1, u2, vI x3, vI x4] [] (WS L σ) Q = R d 63 45 [u0, u1, u2, vI x3, vI x4] [vI (((2 * x3) - 1) - x4)] (WS L σ) Q := K_iconst fi_63_37 <| K_iload_n fi_63_38 rfl <| K_imulx fi_63_39 h1 <| K_iconst fi_63_40 <| K_isubx fi_63_41 h2 <| K_iload fi_63_42 rfl <| K_isubx fi_63_44 h3 <| rfl
theorem b63_45 {d L : Nat} {σ : St} {Q : Option AV → AW → Prop} {y0 : Int} {u0 u1 u2 u3 u4 : AV} : R d 63 45 [u0, u1, u2, u3, u4] [vI y0] (WS L σ) Q = Q (some (vI y0)) (WS L σ) := R_ireti fi_63_45 rfl
theorem b63_46 {d L : Nat} {σ : St} {Q : Option AV → AW → Prop} {x1 : Int} {u0 u2 u3 u4 : AV} : R d 63 46 [u0, vI x1, u2, u3, u4] [] (WS L σ) Q = if ¬ x1 = 2 then R d 63 59 [u0, vI x1, u2, u3, u4] [] (WS L σ) Q else R d 63 51 [u0, vI x1, u2, u3, u4] [] (WS L σ) Q := K_iload_n fi_63_46 rfl <| K_iconst fi_63_47 <| R_icmp_ne fi_63_48 rfl
theorem b63_51 {d L : Nat} {σ : St} {Q : Option AV → AW → Prop} {x2 x3 : Int} {u0 u1 u4 : AV} (h1 : -2147483648 ≤ x2 + 1 ∧ x2 + 1 ≤ 2147483647) (h2 : ¬ x3 = 0) : R d 63 51 [u0, u1, vI x2, vI x3, u4] [] (WS L σ) Q = Q (some (vI (i_rem (i_div (x2 + 1) 2) x3))) (WS L σ) := K_iload_n fi_63_51 rfl <| K_iconst fi_63_52 <| K_iaddx fi_63_53 h1 <| K_iconst fi_63_54 <| K_idiv fi_63_55 (by decide) <| K_iload_n fi_63_56 rfl <| K_irem fi_63_57 h2 <| R_ireti fi_63_58 rfl
theorem b63_59 {d L : Nat} {σ : St} {Q : Option AV → AW → Prop} {x1 : Int} {u0 u2 u3 u4 : AV} : R d 63 59 [u0, vI x1, u2, u3, u4] [] (WS L σ) Q = if ¬ x1 = 3 then R d 63 88 [u0, vI x1, u2, u3, u4] [] (WS L σ) Q else R d 63 64 [u0, vI x1, u2, u3, u4] [] (WS L σ) Q := K_iload_n fi_63_59 rfl <| K_iconst fi_63_60 <| R_icmp_ne fi_63_61 rfl
theorem b63_64 {d L : Nat} {σ : St} {Q : Option AV → AW → Prop} {x2 : Int} {u1 u3 u4 : AV} : R (d + 1) 63 64 [vR 20, u1, vI x2, u3, u4] [] (WS L σ) Q = R d 64 0 [vR 23, vI x2] [] (WS L σ) (fun r w => R (d + 1) 63 72 [vR 20, u1, vI x2, u3, u4] (am_push r []) w Q) := K_aload_n fi_63_64 rfl <| K_gf fi_63_65 kd_20 mk_20_7 <| K_iload_n fi_63_68 rfl <| R_invV fi_63_69 (am_invV_of rfl (kd_23) (Nat.le_of_ble_eq_true rfl) (Nat.le_of_ble_eq_true rfl) rfl rfl)
theorem b63_72 {d L : Nat} {σ : St} {Q : Option AV → AW → Prop} {y0 x3 : Int} {u0 u1 u2 u4 : AV} : R (d + 1) 63 72 [u0, u1, u2, vI x3, u4] [vI y0] (WS L σ) Q = R d 13 0 [vI y0, vI x3] [] (WS L σ) (fun r w => R (d + 1) 63 76 [u0, u1, u2, vI x3, u4] (am_push r []) w Q) := K_iload_n fi_63_72 rfl <| R_invS fi_63_73 (by decide) (am_invS_of (Nat.le_of_ble_eq_true rfl) rfl (Nat.le_of_ble_eq_true rfl) (Nat.le_of_ble_eq_true rfl) rfl rfl)
theorem b63_76 {d L : Nat} {σ : St} {Q : Option AV → AW → Prop} {y0 : Int} {u0 u1 u2 u3 u4 : AV} : R d 63 76 [u0, u1, u2, u3, u4] [vI y0] (WS L σ) Q = if y0 = 0 then R d 63 88 [u0, u1, u2, u3, u4] [] (WS L σ) Q else R d 63 79 [u0, u1, u2, u3, u4] [] (WS L σ) Q := R_if_eq fi_63_76 rfl
theorem b63_79 {d L : Nat} {σ : St} {Q : Option AV → AW → Prop} {x2 : Int} {u1 u3 u4 : AV} : R (d + 1) 63 79 [vR 20, u1, vI x2, u3, u4] [] (WS L σ) Q = R d 64 0 [vR 23, vI x2] [] (WS L σ) (fun r w => R (d + 1) 63 87 [vR 20, u1, vI x2, u3, u4] (am_push r []) w Q) := K_aload_n fi_63_79 rfl <| K_gf fi_63_80 kd_20 mk_20_7 <| K_iload_n fi_63_83 rfl <| R_invV fi_63_84 (am_invV_of rfl (kd_23) (Nat.le_of_ble_eq_true rfl) (Nat.le_of_ble_eq_true rfl) rfl rfl)
theorem b63_87 {d L : Nat} {σ : St} {Q : Option AV → AW → Prop} {y0 : Int} {u0 u1 u2 u3 u4 : AV} : R d 63 87 [u0, u1, u2, u3, u4] [vI y0] (WS L σ) Q = Q (some (vI y0)) (WS L σ) := R_ireti fi_63_87 rfl
theorem b63_88 {d L : Nat} {σ : St} {Q : Option AV → AW → Prop} {x2 x3 : Int} {u0 u1 u4 : AV} (h1 : ¬ x3 = 0) : R d 63 88 [u0, u1, vI x2, vI x3, u4] [] (WS L σ) Q = Q (some (vI (i_rem x2 x3))) (WS L σ) := K_iload_n fi_63_88 rfl <| K_iload_n fi_63_89 rfl <| K_irem fi_63_90 h1 <| R_ireti fi_63_91 rfl
theorem fi_64_0 : am_find 64 0 = some (.iload_n 1, 1, 0, 0, 0) := by decide +kernel
theorem fi_64_1 : am_find 64 1 = some (.ifCond .lt 29, 3, 0, 0, 0) := by decide +kernel
theorem fi_64_4 : am_find 64 4 = some (.iload_n 1, 1, 0, 0, 0) := by decide +kernel
theorem fi_64_5 : am_find 64 5 = some (.aload_n 0, 1, 0, 0, 0) := by decide +kernel
theorem fi_64_6 : am_find 64 6 = some (.getfield 21, 3, 5, 1, 55) := by decide +kernel
theorem fi_64_9 : am_find 64 9 = some (.if_icmp .ge 21, 3, 0, 0, 0) := by decide +kernel
theorem fi_64_12 : am_find 64 12 = some (.iload_n 1, 1, 0, 0, 0) := by decide +kernel
theorem fi_64_13 : am_find 64 13 = some (.aload_n 0, 1, 0, 0, 0) := by decide +kernel
theorem fi_64_14 : am_find 64 14 = some (.getfield 15, 3, 5, 0, 22) := by decide +kernel
theorem fi_64_17 : am_find 64 17 = some (.arraylength, 1, 0, 0, 0) := by decide +kernel
theorem fi_64_18 : am_find 64 18 = some (.if_icmp .ge 12, 3, 0, 0, 0) := by decide +kernel
theorem fi_64_21 : am_find 64 21 = some (.aload_n 0, 1, 0, 0, 0) := by decide +kernel
theorem fi_64_22 : am_find 64 22 = some (.getfield 15, 3, 5, 0, 22) := by decide +kernel
theorem fi_64_25 : am_find 64 25 = some (.iload_n 1, 1, 0, 0, 0) := by decide +kernel
theorem fi_64_26 : am_find 64 26 = some (.iaload, 1, 0, 0, 0) := by decide +kernel
theorem fi_64_27 : am_find 64 27 = some (.goto 4, 3, 0, 0, 0) := by decide +kernel
theorem fi_64_30 : am_find 64 30 = some (.iconst (-1), 1, 0, (-1), 0) := by decide +kernel
theorem fi_64_31 : am_find 64 31 = some (.ireturn, 1, 0, 0, 0) := by decide +kernel
theorem b64_0 {d L : Nat} {σ : St} {Q : Option AV → AW → Prop} {x1 : Int} {u0 : AV} : R d 64 0 [u0, vI x1] [] (WS L σ) Q = if x1 < 0 then R d 64 30 [u0, vI x1] [] (WS L σ) Q else R d 64 4 [u0, vI x1] [] (WS L σ) Q := K_iload_n fi_64_0 rfl <| R_if_lt fi_64_1 rfl
theorem b64_4 {d L : Nat} {σ : St} {Q : Option AV → AW → Prop} {x1 : Int} {r0 : Nat} (h1 : KD r0 = 5) : R d 64 4 [vR r0, vI x1] [] (WS L σ) Q = if (σ r0 1) ≤ x1 then R d 64 30 [vR r0, vI x1] [] (WS L σ) Q else R d 64 12 [vR r0, vI x1] [] (WS L σ) Q := K_iload_n fi_64_4 rfl <| K_aload_n fi_64_5 rfl <| K_gf fi_64_6 h1 (row_sz h1) <| R_icmp_ge fi_64_9 rfl
theorem b64_12 {d L : Nat} {σ : St} {Q : Option AV → AW → Prop} {x1 : Int} {r0 : Nat} (h1 : KD r0 = 5) : R d 64 12 [vR r0, vI x1] [] (WS L σ) Q = if (LN L (r0 + 1) : Int) ≤ x1 then R d 64 30 [vR r0, vI x1] [] (WS L σ) Q else R d 64 21 [vR r0, vI x1] [] (WS L σ) Q := K_iload_n fi_64_12 rfl <| K_aload_n fi_64_13 rfl <| K_gf fi_64_14 h1 (row_it h1) <| K_alen fi_64_17 (Or.inl (row_ar h1)) <| R_icmp_ge fi_64_18 rfl
theorem b64_21 {d L : Nat} {σ : St} {Q : Option AV → AW → Prop} {x1 : Int} {r0 : Nat} (h1 : KD r0 = 5) (h2 : 0 ≤ x1) (h3 : x1 < (LN L (r0 + 1) : Int)) : R d 64 21 [vR r0, vI x1] [] (WS L σ) Q = R d 64 31 [vR r0, vI x1] [vI (σ (r0 + 1) x1)] (WS L σ) Q := K_aload_n fi_64_21 rfl <| K_gf fi_64_22 h1 (row_it h1) <| K_iload_n fi_64_25 rfl <| K_ia fi_64_26 (row_ar h1) h2 h3 <| R_goto fi_64_27 rfl
theorem b64_30 {d L : Nat} {σ : St} {Q : Option AV → AW → Prop} {u0 u1 : AV} : R d 64 30 [u0, u1] [] (WS L σ) Q = R d 64 31 [u0, u1] [vI (-1)] (WS L σ) Q := K_iconst fi_64_30 <| rfl
theorem b64_31 {d L : Nat} {σ : St} {Q : Option AV → AW → Prop} {y0 : Int} {u0 u1 : AV} : R d 64 31 [u0, u1] [vI y0] (WS L σ) Q = Q (some (vI y0)) (WS L σ) := R_ireti fi_64_31 rfl
theorem fi_65_0 : am_find 65 0 = some (.iload_n 1, 1, 0, 0, 0) := by decide +kernel
theorem fi_65_1 : am_find 65 1 = some (.iconst 3, 1, 0, 3, 0) := by decide +kernel
theorem fi_65_2 : am_find 65 2 = some (.invokestatic 72, 3, 13, 2, 14) := by decide +kernel
theorem fi_65_5 : am_find 65 5 = some (.ifCond .eq 12, 3, 0, 0, 0) := by decide +kernel
theorem fi_65_8 : am_find 65 8 = some (.iload_n 2, 1, 0, 0, 0) := by decide +kernel
theorem fi_65_9 : am_find 65 9 = some (.bipush 7, 2, 0, 7, 0) := by decide +kernel
theorem fi_65_11 : am_find 65 11 = some (.invokestatic 72, 3, 13, 2, 14) := by decide +kernel
theorem fi_65_14 : am_find 65 14 = some (.ifCond .ne 5, 3, 0, 0, 0) := by decide +kernel
theorem fi_65_17 : am_find 65 17 = some (.iconst (-1), 1, 0, (-1), 0) := by decide +kernel
theorem fi_65_18 : am_find 65 18 = some (.ireturn, 1, 0, 0, 0) := by decide +kernel
theorem fi_65_19 : am_find 65 19 = some (.aload_n 0, 1, 0, 0, 0) := by decide +kernel
theorem fi_65_20 : am_find 65 20 = some (.getfield 10, 3, 9, 0, 0) := by decide +kernel
theorem fi_65_23 : am_find 65 23 = some (.iload_n 1, 1, 0, 0, 0) := by decide +kernel
theorem fi_65_24 : am_find 65 24 = some (.invokevirtual 151, 3, 66, 1, 62) := by decide +kernel
theorem fi_65_27 : am_find 65 27 = some (.istore_n 3, 1, 0, 0, 0) := by decide +kernel
theorem fi_65_28 : am_find 65 28 = some (.aload_n 0, 1, 0, 0, 0) := by decide +kernel
theorem fi_65_29 : am_find 65 29 = some (.getfield 10, 3, 9, 0, 0) := by decide +kernel
theorem fi_65_32 : am_find 65 32 = some (.iload_n 1, 1, 0, 0, 0) := by decide +kernel
theorem fi_65_33 : am_find 65 33 = some (.iload_n 2, 1, 0, 0, 0) := by decide +kernel
theorem fi_65_34 : am_find 65 34 = some (.invokevirtual 154, 3, 67, 2, 63) := by decide +kernel
theorem fi_65_37 : am_find 65 37 = some (.iload_n 3, 1, 0, 0, 0) := by decide +kernel
theorem fi_65_38 : am_find 65 38 = some (.ireturn, 1, 0, 0, 0) := by decide +kernel
theorem b65_0 {d L : Nat} {σ : St} {Q : Option AV → AW → Prop} {x1 : Int} {u0 u2 u3 : AV} : R (d + 1) 65 0 [u0, vI x1, u2, u3] [] (WS L σ) Q = R d 13 0 [vI x1, vI 3] [] (WS L σ) (fun r w => R (d + 1) 65 5 [u0, vI x1, u2, u3] (am_push r []) w Q) := K_iload_n fi_65_0 rfl <| K_iconst fi_65_1 <| R_invS fi_65_2 (by decide) (am_invS_of (Nat.le_of_ble_eq_true rfl) rfl (Nat.le_of_ble_eq_true rfl) (Nat.le_of_ble_eq_true rfl) rfl rfl)
theorem b65_5 {d L : Nat} {σ : St} {Q : Option AV → AW → Prop} {y0 : Int} {u0 u1 u2 u3 : AV} : R d 65 5 [u0, u1, u2, u3] [vI y0] (WS L σ) Q = if y0 = 0 then R d 65 17 [u0, u1, u2, u3] [] (WS L σ) Q else R d 65 8 [u0, u1, u2, u3] [] (WS L σ) Q := R_if_eq fi_65_5 rfl
theorem b65_8 {d L : Nat} {σ : St} {Q : Option AV → AW → Prop} {x2 : Int} {u0 u1 u3 : AV} : R (d + 1) 65 8 [u0, u1, vI x2, u3] [] (WS L σ) Q = R d 13 0 [vI x2, vI 7] [] (WS L σ) (fun r w => R (d + 1) 65 14 [u0, u1, vI x2, u3] (am_push r []) w Q) := K_iload_n fi_65_8 rfl <| K_bipush fi_65_9 <| R_invS fi_65_11 (by decide) (am_invS_of (Nat.le_of_ble_eq_true rfl) rfl (Nat.le_of_ble_eq_true rfl) (Nat.le_of_ble_eq_true rfl) rfl rfl)
theorem b65_14 {d L : Nat} {σ : St} {Q : Option AV → AW → Prop} {y0 : Int} {u0 u1 u2 u3 : AV} : R d 65 14 [u0, u1, u2, u3] [vI y0] (WS L σ) Q = if ¬ y0 = 0 then R d 65 19 [u0, u1, u2, u3] [] (WS L σ) Q else R d 65 17 [u0, u1, u2, u3] [] (WS L σ) Q := R_if_ne fi_65_14 rfl
theorem b65_17 {d L : Nat} {σ : St} {Q : Option AV → AW → Prop} {u0 u1 u2 u3 : AV} : R d 65 17 [u0, u1, u2, u3] [] (WS L σ) Q = Q (some (vI (-1))) (WS L σ) := K_iconst fi_65_17 <| R_ireti fi_65_18 rfl
theorem b65_19 {d L : Nat} {σ : St} {Q : Option AV → AW → Prop} {x1 : Int} {u2 u3 : AV} : R (d + 1) 65 19 [vR 19, vI x1, u2, u3] [] (WS L σ) Q = R d 66 0 [vR 20, vI x1] [] (WS L σ) (fun r w => R (d + 1) 65 27 [vR 19, vI x1, u2, u3] (am_push r []) w Q) := K_aload_n fi_65_19 rfl <| K_gf fi_65_20 kd_19 mk_19_0 <| K_iload_n fi_65_23 rfl <| R_invV fi_65_24 (am_invV_of rfl (kd_20) (Nat.le_of_ble_eq_true rfl) (Nat.le_of_ble_eq_true rfl) rfl rfl)
theorem b65_27 {d L : Nat} {σ : St} {Q : Option AV → AW → Prop} {y0 x1 x2 : Int} {u3 : AV} : R (d + 1) 65 27 [vR 19, vI x1, vI x2, u3] [vI y0] (WS L σ) Q = R d 67 0 [vR 20, vI x1, vI x2] [] (WS L σ) (fun r w => R (d + 1) 65 37 [vR 19, vI x1, vI x2, vI y0] (am_push r []) w Q) := K_istore_n fi_65_27 (Nat.le_of_ble_eq_true rfl) rfl rfl <| K_aload_n fi_65_28 rfl <| K_gf fi_65_29 kd_19 mk_19_0 <| K_iload_n fi_65_32 rfl <| K_iload_n fi_65_33 rfl <| R_invV fi_65_34 (am_invV_of rfl (kd_20) (Nat.le_of_ble_eq_true rfl) (Nat.le_of_ble_eq_true rfl) rfl rfl)
theorem b65_37 {d L : Nat} {σ : St} {Q : Option AV → AW → Prop} {x3 : Int} {u0 u1 u2 : AV} : R d 65 37 [u0, u1, u2, vI x3] [] (WS L σ) Q = Q (some (vI x3)) (WS L σ) := K_iload_n fi_65_37 rfl <| R_ireti fi_65_38 rfl
theorem fi_66_0 : am_find 66 0 = some (.iload_n 1, 1, 0, 0, 0) := by decide +kernel
theorem fi_66_1 : am_find 66 1 = some (.aload_n 0, 1, 0, 0, 0) := by decide +kernel
theorem fi_66_2 : am_find 66 2 = some (.getfield 40, 3, 8, 11, 16) := by decide +kernel
theorem fi_66_5 : am_find 66 5 = some (.arraylength, 1, 0, 0, 0) := by decide +kernel
theorem fi_66_6 : am_find 66 6 = some (.invokestatic 101, 3, 13, 2, 24) := by decide +kernel
theorem fi_66_9 : am_find 66 9 = some (.ifCond .eq 12, 3, 0, 0, 0) := by decide +kernel
theorem fi_66_12 : am_find 66 12 = some (.aload_n 0, 1, 0, 0, 0) := by decide +kernel
theorem fi_66_13 : am_find 66 13 = some (.getfield 40, 3, 8, 11, 16) := by decide +kernel
theorem fi_66_16 : am_find 66 16 = some (.iload_n 1, 1, 0, 0, 0) := by decide +kernel
theorem fi_66_17 : am_find 66 17 = some (.iaload, 1, 0, 0, 0) := by decide +kernel
theorem fi_66_18 : am_find 66 18 = some (.goto 4, 3, 0, 0, 0) := by decide +kernel
theorem fi_66_21 : am_find 66 21 = some (.iconst 0, 1, 0, 0, 0) := by decide +kernel
theorem fi_66_22 : am_find 66 22 = some (.ireturn, 1, 0, 0, 0) := by decide +kernel
theorem b66_0 {d L : Nat} {σ : St} {Q : Option AV → AW → Prop} {x1 : Int} : R (d + 1) 66 0 [vR 20, vI x1] [] (WS L σ) Q = R d 13 0 [vI x1, vI 3] [] (WS L σ) (fun r w => R (d + 1) 66 9 [vR 20, vI x1] (am_push r []) w Q) := K_iload_n fi_66_0 rfl <| K_aload_n fi_66_1 rfl <| K_gf fi_66_2 kd_20 mk_20_11 <| K_alenx fi_66_5 (Or.inl kd_29) rfl <| R_invS fi_66_6 (by decide) (am_invS_of (Nat.le_of_ble_eq_true rfl) rfl (Nat.le_of_ble_eq_true rfl) (Nat.le_of_ble_eq_true rfl) rfl rfl)
theorem b66_9 {d L : Nat} {σ : St} {Q : Option AV → AW → Prop} {y0 : Int} {u0 u1 : AV} : R d 66 9 [u0, u1] [vI y0] (WS L σ) Q = if y0 = 0 then R d 66 21 [u0, u1] [] (WS L σ) Q else R d 66 12 [u0, u1] [] (WS L σ) Q := R_if_eq fi_66_9 rfl
theorem b66_12 {d L : Nat} {σ : St} {Q : Option AV → AW → Prop} {x1 : Int} (h1 : 0 ≤ x1) (h2 : x1 < 3) : R d 66 12 [vR 20, vI x1] [] (WS L σ) Q = R d 66 22 [vR 20, vI x1] [vI (σ 29 x1)] (WS L σ) Q := K_aload_n fi_66_12 rfl <| K_gf fi_66_13 kd_20 mk_20_11 <| K_iload_n fi_66_16 rfl <| K_ia fi_66_17 kd_29 h1 h2 <| R_goto fi_66_18 rfl
theorem b66_21 {d L : Nat} {σ : St} {Q : Option AV → AW → Prop} {u0 u1 : AV} : R d 66 21 [u0, u1] [] (WS L σ) Q = R d 66 22 [u0, u1] [vI 0] (WS L σ) Q := K_iconst fi_66_21 <| rfl
theorem b66_22 {d L : Nat} {σ : St} {Q : Option AV → AW → Prop} {y0 : Int} {u0 u1 : AV} : R d 66 22 [u0, u1] [vI y0] (WS L σ) Q = Q (some (vI y0)) (WS L σ) := R_ireti fi_66_22 rfl
theorem fi_67_0 : am_find 67 0 = some (.iload_n 1, 1, 0, 0, 0) := by decide +kernel
theorem fi_67_1 : am_find 67 1 = some (.aload_n 0, 1, 0, 0, 0) := by decide +kernel
theorem fi_67_2 : am_find 67 2 = some (.getfield 40, 3, 8, 11, 16) := by decide +kernel
theorem fi_67_5 : am_find 67 5 = some (.arraylength, 1, 0, 0, 0) := by decide +kernel
theorem fi_67_6 : am_find 67 6 = some (.invokestatic 101, 3, 13, 2, 24) := by decide +kernel
theorem fi_67_9 : am_find 67 9 = some (.ifCond .eq 10, 3, 0, 0, 0) := by decide +kernel
theorem fi_67_12 : am_find 67 12 = some (.aload_n 0, 1, 0, 0, 0) := by decide +kernel
theorem fi_67_13 : am_find 67 13 = some (.getfield 40, 3, 8, 11, 16) := by decide +kernel
theorem fi_67_16 : am_find 67 16 = some (.iload_n 1, 1, 0, 0, 0) := by decide +kernel
theorem fi_67_17 : am_find 67 17 = some (.iload_n 2, 1, 0, 0, 0) := by decide +kernel
theorem fi_67_18 : am_find 67 18 = some (.iastore, 1, 0, 0, 0) := by decide +kernel
theorem fi_67_19 : am_find 67 19 = some (.return_, 1, 0, 0, 0) := by decide +kernel
theorem b67_0 {d L : Nat} {σ : St} {Q : Option AV → AW → Prop} {x1 : Int} {u2 : AV} : R (d + 1) 67 0 [vR 20, vI x1, u2] [] (WS L σ) Q = R d 13 0 [vI x1, vI 3] [] (WS L σ) (fun r w => R (d + 1) 67 9 [vR 20, vI x1, u2] (am_push r []) w Q) := K_iload_n fi_67_0 rfl <| K_aload_n fi_67_1 rfl <| K_gf fi_67_2 kd_20 mk_20_11 <| K_alenx fi_67_5 (Or.inl kd_29) rfl <| R_invS fi_67_6 (by decide) (am_invS_of (Nat.le_of_ble_eq_true rfl) rfl (Nat.le_of_ble_eq_true rfl) (Nat.le_of_ble_eq_true rfl) rfl rfl)
theorem b67_9 {d L : Nat} {σ : St} {Q : Option AV → AW → Prop} {y0 : Int} {u0 u1 u2 : AV} : R d 67 9 [u0, u1, u2] [vI y0] (WS L σ) Q = if y0 = 0 then R d 67 19 [u0, u1, u2] [] (WS L σ) Q else R d 67 12 [u0, u1, u2] [] (WS L σ) Q := R_if_eq fi_67_9 rfl
theorem b67_12 {d L : Nat} {σ : St} {Q : Option AV → AW → Prop} {x1 x2 : Int} (h1 : 0 ≤ x1) (h2 : x1 < 3) : R d 67 12 [vR 20, vI x1, vI x2] [] (WS L σ) Q = R d 67 19 [vR 20, vI x1, vI x2] [] (WS L (st2 σ 29 x1 x2)) Q := K_aload_n fi_67_12 rfl <| K_gf fi_67_13 kd_20 mk_20_11 <| K_iload_n fi_67_16 rfl <| K_iload_n fi_67_17 rfl <| K_is fi_67_18 kd_29 h1 h2 <| rfl
theorem b67_19 {d L : Nat} {σ : St} {Q : Option AV → AW → Prop} {u0 u1 u2 : AV} : R d 67 19 [u0, u1, u2] [] (WS L σ) Q = Q none (WS L σ) := R_return fi_67_19
theorem fi_68_0 : am_find 68 0 = some (.iload_n 1, 1, 0, 0, 0) := by decide +kernel
theorem fi_68_1 : am_find 68 1 = some (.iconst 3, 1, 0, 3, 0) := by decide +kernel
theorem fi_68_2 : am_find 68 2 = some (.invokestatic 72, 3, 13, 2, 14) := by decide +kernel
theorem fi_68_5 : am_find 68 5 = some (.ifCond .eq 14, 3, 0, 0, 0) := by decide +kernel
theorem fi_68_8 : am_find 68 8 = some (.iload_n 2, 1, 0, 0, 0) := by decide +kernel
theorem fi_68_9 : am_find 68 9 = some (.iconst 1, 1, 0, 1, 0) := by decide +kernel
theorem fi_68_10 : am_find 68 10 = some (.iadd, 1, 0, 0, 0) := by decide +kernel
theorem fi_68_11 : am_find 68 11 = some (.bipush 9, 2, 0, 9, 0) := by decide +kernel
theorem fi_68_13 : am_find 68 13 = some (.invokestatic 72, 3, 13, 2, 14) := by decide +kernel
theorem fi_68_16 : am_find 68 16 = some (.ifCond .ne 5, 3, 0, 0, 0) := by decide +kernel
theorem fi_68_19 : am_find 68 19 = some (.iconst (-1), 1, 0, (-1), 0) := by decide +kernel
theorem fi_68_20 : am_find 68 20 = some (.ireturn, 1, 0, 0, 0) := by decide +kernel
theorem fi_68_21 : am_find 68 21 = some (.aload_n 0, 1, 0, 0, 0) := by decide +kernel
theorem fi_68_22 : am_find 68 22 = some (.getfield 10, 3, 9, 0, 0) := by decide +kernel
theorem fi_68_25 : am_find 68 25 = some (.iload_n 1, 1, 0, 0, 0) := by decide +kernel
theorem fi_68_26 : am_find 68 26 = some (.invokevirtual 157, 3, 69, 1, 64) := by decide +kernel
theorem fi_68_29 : am_find 68 29 = some (.iload_n 2, 1, 0, 0, 0) := by decide +kernel
theorem fi_68_30 : am_find 68 30 = some (.invokestatic 144, 3, 60, 2, 58) := by decide +kernel
theorem fi_68_33 : am_find 68 33 = some (.ireturn, 1, 0, 0, 0) := by decide +kernel
theorem b68_0 {d L : Nat} {σ : St} {Q : Option AV → AW → Prop} {x1 : Int} {u0 u2 : AV} : R (d + 1) 68 0 [u0, vI x1, u2] [] (WS L σ) Q = R d 13 0 [vI x1, vI 3] [] (WS L σ) (fun r w => R (d + 1) 68 5 [u0, vI x1, u2] (am_push r []) w Q) := K_iload_n fi_68_0 rfl <| K_iconst fi_68_1 <| R_invS fi_68_2 (by decide) (am_invS_of (Nat.le_of_ble_eq_true rfl) rfl (Nat.le_of_ble_eq_true rfl) (Nat.le_of_ble_eq_true rfl) rfl rfl)
theorem b68_5 {d L : Nat} {σ : St} {Q : Option AV → AW → Prop} {y0 : Int} {u0 u1 u2 : AV} : R d 68 5 [u0, u1, u2] [vI y0] (WS L σ) Q = if y0 = 0 then R d 68 19 [u0, u1, u2] [] (WS L σ) Q else R d 68 8 [u0, u1, u2] [] (WS L σ) Q := R_if_eq fi_68_5 rfl
theorem b68_8 {d L : Nat} {σ : St} {Q : Option AV → AW → Prop} {x2 : Int} {u0 u1 : AV} (h1 : -2147483648 ≤ x2 + 1 ∧ x2 + 1 ≤ 2147483647) : R (d + 1) 68 8 [u0, u1, vI x2] [] (WS L σ) Q = R d 13 0 [vI (x2 + 1), vI 9] [] (WS L σ) (fun r w => R (d + 1) 68 16 [u0, u1, vI x2] (am_push r []) w Q) := K_iload_n fi_68_8 rfl <| K_iconst fi_68_9 <| K_iaddx fi_68_10 h1 <| K_bipush fi_68_11 <| R_invS fi_68_13 (by decide) (am_invS_of (Nat.le_of_ble_eq_true rfl) rfl (Nat.le_of_ble_eq_true rfl) (Nat.le_of_ble_eq_true rfl) rfl rfl)
theorem b68_16 {d L : Nat} {σ : St} {Q : Option AV → AW → Prop} {y0 : Int} {u0 u1 u2 : AV} : R d 68 16 [u0, u1, u2] [vI y0] (WS L σ) Q = if ¬ y0 = 0 then R d 68 21 [u0, u1, u2] [] (WS L σ) Q else R d 68 19 [u0, u1, u2] [] (WS L σ) Q := R_if_ne fi_68_16 rfl
theorem b68_19 {d L : Nat} {σ : St} {Q : Option AV → AW → Prop} {u0 u1 u2 : AV} : R d 68 19 [u0, u1, u2] [] (WS L σ) Q = Q (some (vI (-1))) (WS L σ) := K_iconst fi_68_19 <| R_ireti fi_68_20 rfl
theorem b68_21 {d L : Nat} {σ : St} {Q : Option AV → AW → Prop} {x1 : Int} {u2 : AV} : R (d + 1) 68 21 [vR 19, vI x1, u2] [] (WS L σ) Q = R d 69 0 [vR 20, vI x1] [] (WS L σ) (fun r w => R (d + 1) 68 29 [vR 19, vI x1, u2] (am_push r []) w Q) := K_aload_n fi_68_21 rfl <| K_gf fi_68_22 kd_19 mk_19_0 <| K_iload_n fi_68_25 rfl <| R_invV fi_68_26 (am_invV_of rfl (kd_20) (Nat.le_of_ble_eq_true rfl) (Nat.le_of_ble_eq_true rfl) rfl rfl)
theorem b68_29 {d L : Nat} {σ : St} {Q : Option AV → AW → Prop} {x2 : Int} {q0 : Nat} {u0 u1 : AV} : R (d + 1) 68 29 [u0, u1, vI x2] [vR q0] (WS L σ) Q = R d 60 0 [vR q0, vI x2] [] (WS L σ) (fun r w => R (d + 1) 68 33 [u0, u1, vI x2] (am_push r []) w Q) := K_iload_n fi_68_29 rfl <| R_invS fi_68_30 (by decide) (am_invS_of (Nat.le_of_ble_eq_true rfl) rfl (Nat.le_of_ble_eq_true rfl) (Nat.le_of_ble_eq_true rfl) rfl rfl)
theorem b68_29n {d L : Nat} {σ : St} {Q : Option AV → AW → Prop} {x2 : Int} {u0 u1 : AV} : R (d + 1) 68 29 [u0, u1, vI x2] [vX 0] (WS L σ) Q = R d 60 0 [vX 0, vI x2] [] (WS L σ) (fun r w => R (d + 1) 68 33 [u0, u1, vI x2] (am_push r []) w Q) := K_iload_n fi_68_29 rfl <| R_invS fi_68_30 (by decide) (am_invS_of (Nat.le_of_ble_eq_true rfl) rfl (Nat.le_of_ble_eq_true rfl) (Nat.le_of_ble_eq_true rfl) rfl rfl)
theorem b68_33 {d L : Nat} {σ : St} {Q : Option AV → AW → Prop} {y0 : Int} {u0 u1 u2 : AV} : R d 68 33 [u0, u1, u2] [vI y0] (WS L σ) Q = Q (some (vI y0)) (WS L σ) := R_ireti fi_68_33 rfl
theorem fi_69_0 : am_find 69 0 = some (.iload_n 1, 1, 0, 0, 0) := by decide +kernel
theorem fi_69_1 : am_find 69 1 = some (.aload_n 0, 1, 0, 0, 0) := by decide +kernel
theorem fi_69_2 : am_find 69 2 = some (.getfield 57, 3, 8, 15, 20) := by decide +kernel
theorem fi_69_5 : am_find 69 5 = some (.arraylength, 1, 0, 0, 0) := by decide +kernel
theorem fi_69_6 : am_find 69 6 = some (.invokestatic 101, 3, 13, 2, 24) := by decide +kernel
theorem fi_69_9 : am_find 69 9 = some (.ifCond .eq 12, 3, 0, 0, 0) := by decide +kernel
theorem fi_69_12 : am_find 69 12 = some (.aload_n 0, 1, 0, 0, 0) := by decide +kernel
theorem fi_69_13 : am_find 69 13 = some (.getfield 57, 3, 8, 15, 20) := by decide +kernel
theorem fi_69_16 : am_find 69 16 = some (.iload_n 1, 1, 0, 0, 0) := by decide +kernel
theorem fi_69_17 : am_find 69 17 = some (.aaload, 1, 0, 0, 0) := by decide +kernel
theorem fi_69_18 : am_find 69 18 = some (.goto 4, 3, 0, 0, 0) := by decide +kernel
theorem fi_69_21 : am_find 69 21 = some (.aconst_null, 1, 0, 0, 0) := by decide +kernel
theorem fi_69_22 : am_find 69 22 = some (.areturn, 1, 0, 0, 0) := by decide +kernel
theorem b69_0 {d L : Nat} {σ : St} {Q : Option AV → AW → Prop} {x1 : Int} : R (d + 1) 69 0 [vR 20, vI x1] [] (WS L σ) Q = R d 13 0 [vI x1, vI 3] [] (WS L σ) (fun r w => R (d + 1) 69 9 [vR 20, vI x1] (am_push r []) w Q) := K_iload_n fi_69_0 rfl <| K_aload_n fi_69_1 rfl <| K_gf fi_69_2 kd_20 mk_20_15 <| K_alenx fi_69_5 (Or.inr (Or.inr (Or.inl kd_45))) rfl <| R_invS fi_69_6 (by decide) (am_invS_of (Nat.le_of_ble_eq_true rfl) rfl (Nat.le_of_ble_eq_true rfl) (Nat.le_of_ble_eq_true rfl) rfl rfl)
theorem b69_9 {d L : Nat} {σ : St} {Q : Option AV → AW → Prop} {y0 : Int} {u0 u1 : AV} : R d 69 9 [u0, u1] [vI y0] (WS L σ) Q = if y0 = 0 then R d 69 21 [u0, u1] [] (WS L σ) Q else R d 69 12 [u0, u1] [] (WS L σ) Q := R_if_eq fi_69_9 rfl
theorem b69_12 {d L : Nat} {σ : St} {Q : Option AV → AW → Prop} {x1 : Int} (h1 : 0 ≤ x1) (h2 : x1 < 3) : R d 69 12 [vR 20, vI x1] [] (WS L σ) Q = R d 69 22 [vR 20, vI x1] [vR (46 + 2 * x1.toNat)] (WS L σ) Q := K_aload_n fi_69_12 rfl <| K_gf fi_69_13 kd_20 mk_20_15 <| K_iload_n fi_69_16 rfl <| K_aa fi_69_17 kd_45 h1 h2 (aa_45 h1 h2) <| R_goto fi_69_18 rfl
theorem b69_21 {d L : Nat} {σ : St} {Q : Option AV → AW → Prop} {u0 u1 : AV} : R d 69 21 [u0, u1] [] (WS L σ) Q = R d 69 22 [u0, u1] [vX 0] (WS L σ) Q := K_aconst fi_69_21 <| rfl
theorem b69_22 {d L : Nat} {σ : St} {Q : Option AV → AW → Prop} {q0 : Nat} {u0 u1 : AV} : R d 69 22 [u0, u1] [vR q0] (WS L σ) Q = Q (some (vR q0)) (WS L σ) := R_aret fi_69_22
theorem b69_22n {d L : Nat} {σ : St} {Q : Option AV → AW → Prop} {u0 u1 : AV} : R d 69 22 [u0, u1] [vX 0] (WS L σ) Q = Q (some (vX 0)) (WS L σ) := R_aretN fi_69_22
theorem fi_70_0 : am_find 70 0 = some (.iload_n 1, 1, 0, 0, 0) := by decide +kernel
theorem fi_70_1 : am_find 70 1 = some (.aload_n 0, 1, 0, 0, 0) := by decide +kernel
theorem fi_70_2 : am_find 70 2 = some (.getfield 10, 3, 9, 0, 0) := by decide +kernel
theorem fi_70_5 : am_find 70 5 = some (.getfield 76, 3, 8, 0, 42) := by decide +kernel
theorem fi_70_8 : am_find 70 8 = some (.invokestatic 72, 3, 13, 2, 14) := by decide +kernel
theorem fi_70_11 : am_find 70 11 = some (.ifCond .eq 21, 3, 0, 0, 0) := by decide +kernel
theorem fi_70_14 : am_find 70 14 = some (.iload_n 2, 1, 0, 0, 0) := by decide +kernel
theorem fi_70_15 : am_find 70 15 = some (.iconst 1, 1, 0, 1, 0) := by decide +kernel
theorem fi_70_16 : am_find 70 16 = some (.iadd, 1, 0, 0, 0) := by decide +kernel
theorem fi_70_17 : am_find 70 17 = some (.aload_n 0, 1, 0, 0, 0) := by decide +kernel
theorem fi_70_18 : am_find 70 18 = some (.getfield 10, 3, 9, 0, 0) := by decide +kernel
theorem fi_70_21 : am_find 70 21 = some (.getfield 92, 3, 8, 1, 52) := by decide +kernel
theorem fi_70_24 : am_find 70 24 = some (.iconst 1, 1, 0, 1, 0) := by decide +kernel
theorem fi_70_25 : am_find 70 25 = some (.iadd, 1, 0, 0, 0) := by decide +kernel
theorem fi_70_26 : am_find 70 26 = some (.invokestatic 72, 3, 13, 2, 14) := by decide +kernel
theorem fi_70_29 : am_find 70 29 = some (.ifCond .ne 5, 3, 0, 0, 0) := by decide +kernel
theorem fi_70_32 : am_find 70 32 = some (.iconst (-1), 1, 0, (-1), 0) := by decide +kernel
theorem fi_70_33 : am_find 70 33 = some (.ireturn, 1, 0, 0, 0) := by decide +kernel
theorem fi_70_34 : am_find 70 34 = some (.aload_n 0, 1, 0, 0, 0) := by decide +kernel
theorem fi_70_35 : am_find 70 35 = some (.getfield 10, 3, 9, 0, 0) := by decide +kernel
theorem fi_70_38 : am_find 70 38 = some (.iload_n 1, 1, 0, 0, 0) := by decide +kernel
theorem fi_70_39 : am_find 70 39 = some (.invokevirtual 161, 3, 71, 1, 65) := by decide +kernel
theorem fi_70_42 : am_find 70 42 = some (.istore_n 3, 1, 0, 0, 0) := by decide +kernel
theorem fi_70_43 : am_find 70 43 = some (.aload_n 0, 1, 0, 0, 0) := by decide +kernel
theorem fi_70_44 : am_find 70 44 = some (.getfield 10, 3, 9, 0, 0) := by decide +kernel
theorem fi_70_47 : am_find 70 47 = some (.iload_n 1, 1, 0, 0, 0) := by decide +kernel
theorem fi_70_48 : am_find 70 48 = some (.iload_n 2, 1, 0, 0, 0) := by decide +kernel
theorem fi_70_49 : am_find 70 49 = some (.invokevirtual 164, 3, 73, 2, 66) := by decide +kernel
theorem fi_70_52 : am_find 70 52 = some (.iload_n 3, 1, 0, 0, 0) := by decide +kernel
theorem fi_70_53 : am_find 70 53 = some (.ifCond .ge 8, 3, 0, 0, 0) := by decide +kernel
theorem fi_70_56 : am_find 70 56 = some (.bipush (-5), 2, 0, (-5), 0) := by decide +kernel
theorem fi_70_58 : am_find 70 58 = some (.goto 4, 3, 0, 0, 0) := by decide +kernel
theorem fi_70_61 : am_find 70 61 = some (.iload_n 3, 1, 0, 0, 0) := by decide +kernel
theorem fi_70_62 : am_find 70 62 = some (.ireturn, 1, 0, 0, 0) := by decide +kernel
theorem b70_0 {d L : Nat} {σ : St} {Q : Option AV → AW → Prop} {x1 : Int} {u2 u3 : AV} : R (d + 1) 70 0 [vR 19, vI x1, u2, u3] [] (WS L σ) Q = R d 13 0 [vI x1, vI (σ 20 0)] [] (WS L σ) (fun r w => R (d + 1) 70 11 [vR 19, vI x1, u2, u3] (am_push r []) w Q) := K_iload_n fi_70_0 rfl <| K_aload_n fi_70_1 rfl <| K_gf fi_70_2 kd_19 mk_19_0 <| K_gf fi_70_5 kd_20 mk_20_0 <| R_invS fi_70_8 (by decide) (am_invS_of (Nat.le_of_ble_eq_true rfl) rfl (Nat.le_of_ble_eq_true rfl) (Nat.le_of_ble_eq_true rfl) rfl rfl)
theorem b70_11 {d L : Nat} {σ : St} {Q : Option AV → AW → Prop} {y0 : Int} {u0 u1 u2 u3 : AV} : R d 70 11 [u0, u1, u2, u3] [vI y0] (WS L σ) Q = if y0 = 0 then R d 70 32 [u0, u1, u2, u3] [] (WS L σ) Q else R d 70 14 [u0, u1, u2, u3] [] (WS L σ) Q := R_if_eq fi_70_11 rfl
theorem b70_14 {d L : Nat} {σ : St} {Q : Option AV → AW → Prop} {x2 : Int} {u1 u3 : AV} (h1 : -2147483648 ≤ x2 + 1 ∧ x2 + 1 ≤ 2147483647) (h2 : -2147483648 ≤ (σ 20 1) + 1 ∧ (σ 20 1) + 1 ≤ 2147483647) : R (d + 1) 70 14 [vR 19, u1, vI x2, u3] [] (WS L σ) Q = R d 13 0 [vI (x2 + 1), vI ((σ 20 1) + 1)] [] (WS L σ) (fun r w => R (d + 1) 70 29 [vR 19, u1, vI x2, u3] (am_push r []) w Q) := K_iload_n fi_70_14 rfl <| K_iconst fi_70_15 <| K_iaddx fi_70_16 h1 <| K_aload_n fi_70_17 rfl <| K_gf fi_70_18 kd_19 mk_19_0 <| K_gf fi_70_21 kd_20 mk_20_1 <| K_iconst fi_70_24 <| K_iaddx fi_70_25 h2 <| R_invS fi_70_26 (by decide) (am_invS_of (Nat.le_of_ble_eq_true rfl) rfl (Nat.le_of_ble_eq_true rfl) (Nat.le_of_ble_eq_true rfl) rfl rfl)
theorem b70_29 {d L : Nat} {σ : St} {Q : Option AV → AW → Prop} {y0 : Int} {u0 u1 u2 u3 : AV} : R d 70 29 [u0, u1, u2, u3] [vI y0] (WS L σ) Q = if ¬ y0 = 0 then R d 70 34 [u0, u1, u2, u3] [] (WS L σ) Q else R d 70 32 [u0, u1, u2, u3] [] (WS L σ) Q := R_if_ne fi_70_29 rfl
theorem b70_32 {d L : Nat} {σ : St} {Q : Option AV → AW → Prop} {u0 u1 u2 u3 : AV} : R d 70 32 [u0, u1, u2, u3] [] (WS L σ) Q = Q (some (vI (-1))) (WS L σ) := K_iconst fi_70_32 <| R_ireti fi_70_33 rfl
theorem b70_34 {d L : Nat} {σ : St} {Q : Option AV → AW → Prop} {x1 : Int} {u2 u3 : AV} : R (d + 1) 70 34 [vR 19, vI x1, u2, u3] [] (WS L σ) Q = R d 71 0 [vR 20, vI x1, vX 9] [] (WS L σ) (fun r w => R (d + 1) 70 42 [vR 19, vI x1, u2, u3] (am_push r []) w Q) := K_aload_n fi_70_34 rfl <| K_gf fi_70_35 kd_19 mk_19_0 <| K_iload_n fi_70_38 rfl <| R_invV fi_70_39 (am_invV_of rfl (kd_20) (Nat.le_of_ble_eq_true rfl) (Nat.le_of_ble_eq_true rfl) rfl rfl)
theorem b70_42 {d L : Nat} {σ : St} {Q : Option AV → AW → Prop} {y0 x1 x2 : Int} {u3 : AV} : R (d + 1) 70 42 [vR 19, vI x1, vI x2, u3] [vI y0] (WS L σ) Q = R d 73 0 [vR 20, vI x1, vI x2, vX 9] [] (WS L σ) (fun r w => R (d + 1) 70 52 [vR 19, vI x1, vI x2, vI y0] (am_push r []) w Q) := K_istore_n fi_70_42 (Nat.le_of_ble_eq_true rfl) rfl rfl <| K_aload_n fi_70_43 rfl <| K_gf fi_70_44 kd_19 mk_19_0 <| K_iload_n fi_70_47 rfl <| K_iload_n fi_70_48 rfl <| R_invV fi_70_49 (am_invV_of rfl (kd_20) (Nat.le_of_ble_eq_true rfl) (Nat.le_of_ble_eq_true rfl) rfl rfl)
theorem b70_52 {d L : Nat} {σ : St} {Q : Option AV → AW → Prop} {x3 : Int} {u0 u1 u2 : AV} : R d 70 52 [u0, u1, u2, vI x3] [] (WS L σ) Q = if 0 ≤ x3 then R d 70 61 [u0, u1, u2, vI x3] [] (WS L σ) Q else R d 70 56 [u0, u1, u2, vI x3] [] (WS L σ) Q := K_iload_n fi_70_52 rfl <| R_if_ge fi_70_53 rfl
theorem b70_56 {d L : Nat} {σ : St} {Q : Option AV → AW → Prop} {u0 u1 u2 u3 : AV} : R d 70 56 [u0, u1, u2, u3] [] (WS L σ) Q = R d 70 62 [u0, u1, u2, u3] [vI (-5)] (WS L σ) Q := K_bipush fi_70_56 <| R_goto fi_70_58 rfl
theorem b70_61 {d L : Nat} {σ : St} {Q : Option AV → AW → Prop} {x3 : Int} {u0 u1 u2 : AV} : R d 70 61 [u0, u1, u2, vI x3] [] (WS L σ) Q = R d 70 62 [u0, u1, u2, vI x3] [vI x3] (WS L σ) Q := K_iload_n fi_70_61 rfl <| rfl
theorem b70_62 {d L : Nat} {σ : St} {Q : Option AV → AW → Prop} {y0 : Int} {u0 u1 u2 u3 : AV} : R d 70 62 [u0, u1, u2, u3] [vI y0] (WS L σ) Q = Q (some (vI y0)) (WS L σ) := R_ireti fi_70_62 rfl
theorem fi_71_0 : am_find 71 0 = some (.iconst 0, 1, 0, 0, 0) := by decide +kernel
theorem fi_71_1 : am_find 71 1 = some (.istore_n 2, 1, 0, 0, 0) := by decide +kernel
theorem fi_71_2 : am_find 71 2 = some (.iload_n 2, 1, 0, 0, 0) := by decide +kernel
theorem fi_71_3 : am_find 71 3 = some (.iconst 3, 1, 0, 3, 0) := by decide +kernel
theorem fi_71_4 : am_find 71 4 = some (.if_icmp .ge 24, 3, 0, 0, 0) := by decide +kernel
theorem fi_71_7 : am_find 71 7 = some (.aload_n 0, 1, 0, 0, 0) := by decide +kernel
theorem fi_71_8 : am_find 71 8 = some (.iload_n 2, 1, 0, 0, 0) := by decide +kernel
theorem fi_71_9 : am_find 71 9 = some (.invokevirtual 112, 3, 72, 1, 67) := by decide +kernel
theorem fi_71_12 : am_find 71 12 = some (.iload_n 1, 1, 0, 0, 0) := by decide +kernel
theorem fi_71_13 : am_find 71 13 = some (.ishr, 1, 0, 0, 0) := by decide +kernel
theorem fi_71_14 : am_find 71 14 = some (.iconst 1, 1, 0, 1, 0) := by decide +kernel
theorem fi_71_15 : am_find 71 15 = some (.iand, 1, 0, 0, 0) := by decide +kernel
theorem fi_71_16 : am_find 71 16 = some (.iconst 1, 1, 0, 1, 0) := by decide +kernel
theorem fi_71_17 : am_find 71 17 = some (.if_icmp .ne 5, 3, 0, 0, 0) := by decide +kernel
theorem fi_71_20 : am_find 71 20 = some (.iload_n 2, 1, 0, 0, 0) := by decide +kernel
theorem fi_71_21 : am_find 71 21 = some (.ireturn, 1, 0, 0, 0) := by decide +kernel
theorem fi_71_22 : am_find 71 22 = some (.iinc 2 1, 3, 0, 0, 0) := by decide +kernel
theorem fi_71_25 : am_find 71 25 = some (.goto (-23), 3, 0, 0, 0) := by decide +kernel
theorem fi_71_28 : am_find 71 28 = some (.iconst (-1), 1, 0, (-1), 0) := by decide +kernel
theorem fi_71_29 : am_find 71 29 = some (.ireturn, 1, 0, 0, 0) := by decide +kernel
theorem b71_0 {d L : Nat} {σ : St} {Q : Option AV → AW → Prop} {x1 : Int} {u0 u2 : AV} : R d 71 0 [u0, vI x1, u2] [] (WS L σ) Q = R d 71 2 [u0, vI x1, vI 0] [] (WS L σ) Q := K_iconst fi_71_0 <| K_istore_n fi_71_1 (Nat.le_of_ble_eq_true rfl) rfl rfl <| rfl
theorem b71_2 {d L : Nat} {σ : St} {Q : Option AV → AW → Prop} {x2 : Int} {u0 u1 : AV} : R d 71 2 [u0, u1, vI x2] [] (WS L σ) Q = if 3 ≤ x2 then R d 71 28 [u0, u1, vI x2] [] (WS L σ) Q else R d 71 7 [u0, u1, vI x2] [] (WS L σ) Q := K_iload_n fi_71_2 rfl <| K_iconst fi_71_3 <| R_icmp_ge fi_71_4 rfl
theorem b71_7 {d L : Nat} {σ : St} {Q : Option AV → AW → Prop} {x2 : Int} {u1 : AV} : R (d + 1) 71 7 [vR 20, u1, vI x2] [] (WS L σ) Q = R d 72 0 [vR 20, vI x2] [] (WS L σ) (fun r w => R (d + 1) 71 12 [vR 20, u1, vI x2] (am_push r []) w Q) := K_aload_n fi_71_7 rfl <| K_iload_n fi_71_8 rfl <| R_invV fi_71_9 (am_invV_of rfl (kd_20) (Nat.le_of_ble_eq_true rfl) (Nat.le_of_ble_eq_true rfl) rfl rfl)
theorem b71_12 {d L : Nat} {σ : St} {Q : Option AV → AW → Prop} {y0 x1 : Int} {u0 u2 : AV} : R d 71 12 [u0, vI x1, u2] [vI y0] (WS L σ) Q = if ¬ (i_and (i_shr y0 x1) 1) = 1 then R d 71 22 [u0, vI x1, u2] [] (WS L σ) Q else R d 71 20 [u0, vI x1, u2] [] (WS L σ) Q := K_iload_n fi_71_12 rfl <| K_ishr fi_71_13 <| K_iconst fi_71_14 <| K_iand fi_71_15 <| K_iconst fi_71_16 <| R_icmp_ne fi_71_17 rfl
theorem b71_20 {d L : Nat} {σ : St} {Q : Option AV → AW → Prop} {x2 : Int} {u0 u1 : AV} : R d 71 20 [u0, u1, vI x2] [] (WS L σ) Q = Q (some (vI x2)) (WS L σ) := K_iload_n fi_71_20 rfl <| R_ireti fi_71_21 rfl
theorem b71_22 {d L : Nat} {σ : St} {Q : Option AV → AW → Prop} {x2 x1 : Int} {u0 : AV} (h1 : -2147483648 ≤ x2 + 1 ∧ x2 + 1 ≤ 2147483647) : R d 71 22 [u0, vI x1, vI x2] [] (WS L σ) Q = R d 71 2 [u0, vI x1, vI (x2 + 1)] [] (WS L σ) Q := K_iincx fi_71_22 rfl (Nat.le_of_ble_eq_true rfl) rfl h1 rfl <| R_goto fi_71_25 rfl
theorem b71_28 {d L : Nat} {σ : St} {Q : Option AV → AW → Prop} {u0 u1 u2 : AV} : R d 71 28 [u0, u1, u2] [] (WS L σ) Q = Q (some (vI (-1))) (WS L σ) := K_iconst fi_71_28 <| R_ireti fi_71_29 rfl
theorem fi_72_0 : am_find 72 0 = some (.iload_n 1, 1, 0, 0, 0) := by decide +kernel
theorem fi_72_1 : am_find 72 1 = some (.aload_n 0, 1, 0, 0, 0) := by decide +kernel
theorem fi_72_2 : am_find 72 2 = some (.getfield 43, 3, 8, 12, 17) := by decide +kernel
theorem fi_72_5 : am_find 72 5 = some (.arraylength, 1, 0, 0, 0) := by decide +kernel
theorem fi_72_6 : am_find 72 6 = some (.invokestatic 101, 3, 13, 2, 24) := by decide +kernel
theorem fi_72_9 : am_find 72 9 = some (.ifCond .eq 12, 3, 0, 0, 0) := by decide +kernel
theorem fi_72_12 : am_find 72 12 = some (.aload_n 0, 1, 0, 0, 0) := by decide +kernel
theorem fi_72_13 : am_find 72 13 = some (.getfield 43, 3, 8, 12, 17) := by decide +kernel
theorem fi_72_16 : am_find 72 16 = some (.iload_n 1, 1, 0, 0, 0) := by decide +kernel
theorem fi_72_17 : am_find 72 17 = some (.iaload, 1, 0, 0, 0) := by decide +kernel
theorem fi_72_18 : am_find 72 18 = some (.goto 4, 3, 0, 0, 0) := by decide +kernel
theorem fi_72_21 : am_find 72 21 = some (.iconst 0, 1, 0, 0, 0) := by decide +kernel
theorem fi_72_22 : am_find 72 22 = some (.ireturn, 1, 0, 0, 0) := by decide +kernel
theorem b72_0 {d L : Nat} {σ : St} {Q : Option AV → AW → Prop} {x1 : Int} : R (d + 1) 72 0 [vR 20, vI x1] [] (WS L σ) Q = R d 13 0 [vI x1, vI 3] [] (WS L σ) (fun r w => R (d + 1) 72 9 [vR 20, vI x1] (am_push r []) w Q) := K_iload_n fi_72_0 rfl <| K_aload_n fi_72_1 rfl <| K_gf fi_72_2 kd_20 mk_20_12 <| K_alenx fi_72_5 (Or.inl kd_30) rfl <| R_invS fi_72_6 (by decide) (am_invS_of (Nat.le_of_ble_eq_true rfl) rfl (Nat.le_of_ble_eq_true rfl) (Nat.le_of_ble_eq_true rfl) rfl rfl)
theorem b72_9 {d L : Nat} {σ : St} {Q : Option AV → AW → Prop} {y0 : Int} {u0 u1 : AV} : R d 72 9 [u0, u1] [vI y0] (WS L σ) Q = if y0 = 0 then R d 72 21 [u0, u1] [] (WS L σ) Q else R d 72 12 [u0, u1] [] (WS L σ) Q := R_if_eq fi_72_9 rfl
theorem b72_12 {d L : Nat} {σ : St} {Q : Option AV → AW → Prop} {x1 : Int} (h1 : 0 ≤ x1) (h2 : x1 < 3) : R d 72 12 [vR 20, vI x1] [] (WS L σ) Q = R d 72 22 [vR 20, vI x1] [vI (σ 30 x1)] (WS L σ) Q := K_aload_n fi_72_12 rfl <| K_gf fi_72_13 kd_20 mk_20_12 <| K_iload_n fi_72_16 rfl <| K_ia fi_72_17 kd_30 h1 h2 <| R_goto fi_72_18 rfl
theorem b72_21 {d L : Nat} {σ : St} {Q : Option AV → AW → Prop} {u0 u1 : AV} : R d 72 21 [u0, u1] [] (WS L σ) Q = R d 72 22 [u0, u1] [vI 0] (WS L σ) Q := K_iconst fi_72_21 <| rfl
theorem b72_22 {d L : Nat} {σ : St} {Q : Option AV → AW → Prop} {y0 : Int} {u0 u1 : AV} : R d 72 22 [u0, u1] [vI y0] (WS L σ) Q = Q (some (vI y0)) (WS L σ) := R_ireti fi_72_22 rfl
theorem fi_73_0 : am_find 73 0 = some (.iconst 0, 1, 0, 0, 0) := by decide +kernel
theorem fi_73_1 : am_find 73 1 = some (.istore_n 3, 1, 0, 0, 0) := by decide +kernel
theorem fi_73_2 : am_find 73 2 = some (.iload_n 3, 1, 0, 0, 0) := by decide +kernel
theorem fi_73_3 : am_find 73 3 = some (.aload_n 0, 1, 0, 0, 0) := by decide +kernel
theorem fi_73_4 : am_find 73 4 = some (.getfield 43, 3, 8, 12, 17) := by decide +kernel
theorem fi_73_7 : am_find 73 7 = some (.arraylength, 1, 0, 0, 0) := by decide +kernel
theorem fi_73_8 : am_find 73 8 = some (.if_icmp .ge 23, 3, 0, 0, 0) := by decide +kernel
theorem fi_73_11 : am_find 73 11 = some (.aload_n 0, 1, 0, 0, 0) := by decide +kernel
theorem fi_73_12 : am_find 73 12 = some (.getfield 43, 3, 8, 12, 17) := by decide +kernel
theorem fi_73_15 : am_find 73 15 = some (.iload_n 3, 1, 0, 0, 0) := by decide +kernel
theorem fi_73_16 : am_find 73 16 = some (.dup2, 1, 0, 0, 0) := by decide +kernel
theorem fi_73_17 : am_find 73 17 = some (.iaload, 1, 0, 0, 0) := by decide +kernel
theorem fi_73_18 : am_find 73 18 = some (.iconst 1, 1, 0, 1, 0) := by decide +kernel
theorem fi_73_19 : am_find 73 19 = some (.iload_n 1, 1, 0, 0, 0) := by decide +kernel
theorem fi_73_20 : am_find 73 20 = some (.ishl, 1, 0, 0, 0) := by decide +kernel
theorem fi_73_21 : am_find 73 21 = some (.iconst (-1), 1, 0, (-1), 0) := by decide +kernel
theorem fi_73_22 : am_find 73 22 = some (.ixor, 1, 0, 0, 0) := by decide +kernel
theorem fi_73_23 : am_find 73 23 = some (.iand, 1, 0, 0, 0) := by decide +kernel
theorem fi_73_24 : am_find 73 24 = some (.iastore, 1, 0, 0, 0) := by decide +kernel
theorem fi_73_25 : am_find 73 25 = some (.iinc 3 1, 3, 0, 0, 0) := by decide +kernel
theorem fi_73_28 : am_find 73 28 = some (.goto (-26), 3, 0, 0, 0) := by decide +kernel
theorem fi_73_31 : am_find 73 31 = some (.iload_n 2, 1, 0, 0, 0) := by decide +kernel
theorem fi_73_32 : am_find 73 32 = some (.aload_n 0, 1, 0, 0, 0) := by decide +kernel
theorem fi_73_33 : am_find 73 33 = some (.getfield 43, 3, 8, 12, 17) := by decide +kernel
theorem fi_73_36 : am_find 73 36 = some (.arraylength, 1, 0, 0, 0) := by decide +kernel
theorem fi_73_37 : am_find 73 37 = some (.invokestatic 101, 3, 13, 2, 24) := by decide +kernel
theorem fi_73_40 : am_find 73 40 = some (.ifCond .eq 15, 3, 0, 0, 0) := by decide +kernel
theorem fi_73_43 : am_find 73 43 = some (.aload_n 0, 1, 0, 0, 0) := by decide +kernel
theorem fi_73_44 : am_find 73 44 = some (.getfield 43, 3, 8, 12, 17) := by decide +kernel
theorem fi_73_47 : am_find 73 47 = some (.iload_n 2, 1, 0, 0, 0) := by decide +kernel
theorem fi_73_48 : am_find 73 48 = some (.dup2, 1, 0, 0, 0) := by decide +kernel
theorem fi_73_49 : am_find 73 49 = some (.iaload, 1, 0, 0, 0) := by decide +kernel
theorem fi_73_50 : am_find 73 50 = some (.iconst 1, 1, 0, 1, 0) := by decide +kernel
theorem fi_73_51 : am_find 73 51 = some (.iload_n 1, 1, 0, 0, 0) := by decide +kernel
theorem fi_73_52 : am_find 73 52 = some (.ishl, 1, 0, 0, 0) := by decide +kernel
theorem fi_73_53 : am_find 73 53 = some (.ior, 1, 0, 0, 0) := by decide +kernel
theorem fi_73_54 : am_find 73 54 = some (.iastore, 1, 0, 0, 0) := by decide +kernel
theorem fi_73_55 : am_find 73 55 = some (.return_, 1, 0, 0, 0) := by decide +kernel
theorem b73_0 {d L : Nat} {σ : St} {Q : Option AV → AW → Prop} {u0 u1 u2 u3 : AV} : R d 73 0 [u0, u1, u2, u3] [] (WS L σ) Q = R d 73 2 [u0, u1, u2, vI 0] [] (WS L σ) Q := K_iconst fi_73_0 <| K_istore_n fi_73_1 (Nat.le_of_ble_eq_true rfl) rfl rfl <| rfl
theorem b73_2 {d L : Nat} {σ : St} {Q : Option AV → AW → Prop} {x3 : Int} {u1 u2 : AV} : R d 73 2 [vR 20, u1, u2, vI x3] [] (WS L σ) Q = if 3 ≤ x3 then R d 73 31 [vR 20, u1, u2, vI x3] [] (WS L σ) Q else R d 73 11 [vR 20, u1, u2, vI x3] [] (WS L σ) Q := K_iload_n fi_73_2 rfl <| K_aload_n fi_73_3 rfl <| K_gf fi_73_4 kd_20 mk_20_12 <| K_alenx fi_73_7 (Or.inl kd_30) rfl <| R_icmp_ge fi_73_8 rfl
theorem b73_11 {d L : Nat} {σ : St} {Q : Option AV → AW → Prop} {x3 x1 : Int} {u2 : AV} (h1 : 0 ≤ x3) (h2 : x3 < 3) : R d 73 11 [vR 20, vI x1, u2, vI x3] [] (WS L σ) Q = R d 73 25 [vR 20, vI x1, u2, vI x3] [] (WS L (st2 σ 30 x3 (i_and (σ 30 x3) (i_xor (i_shl 1 x1) (-1))))) Q := K_aload_n fi_73_11 rfl <| K_gf fi_73_12 kd_20 mk_20_12 <| K_iload_n fi_73_15 rfl <| K_dup2 fi_73_16 <| K_ia fi_73_17 kd_30 h1 h2 <| K_iconst fi_73_18 <| K_iload_n fi_73_19 rfl <| K_ishl fi_73_20 <| K_iconst fi_73_21 <| K_ixor fi_73_22 <| K_iand fi_73_23 <| K_is fi_73_24 kd_30 h1 h2 <| rfl
theorem b73_25 {d L : Nat} {σ : St} {Q : Option AV → AW → Prop} {x3 : Int} {u0 u1 u2 : AV} (h1 : -2147483648 ≤ x3 + 1 ∧ x3 + 1 ≤ 2147483647) : R d 73 25 [u0, u1, u2, vI x3] [] (WS L σ) Q = R d 73 2 [u0, u1, u2, vI (x3 + 1)] [] (WS L σ) Q := K_iincx fi_73_25 rfl (Nat.le_of_ble_eq_true rfl) rfl h1 rfl <| R_goto fi_73_28 rfl
theorem b73_31 {d L : Nat} {σ : St} {Q : Option AV → AW → Prop} {x2 : Int} {u1 u3 : AV} : R (d + 1) 73 31 [vR 20, u1, vI x2, u3] [] (WS L σ) Q = R d 13 0 [vI x2, vI 3] [] (WS L σ) (fun r w => R (d + 1) 73 40 [vR 20, u1, vI x2, u3] (am_push r []) w Q) := K_iload_n fi_73_31 rfl <| K_aload_n fi_73_32 rfl <| K_gf fi_73_33 kd_20 mk_20_12 <| K_alenx fi_73_36 (Or.inl kd_30) rfl <| R_invS fi_73_37 (by decide) (am_invS_of (Nat.le_of_ble_eq_true rfl) rfl (Nat.le_of_ble_eq_true rfl) (Nat.le_of_ble_eq_true rfl) rfl rfl)
theorem b73_40 {d L : Nat} {σ : St} {Q : Option AV → AW → Prop} {y0 : Int} {u0 u1 u2 u3 : AV} : R d 73 40 [u0, u1, u2, u3] [vI y0] (WS L σ) Q = if y0 = 0 then R d 73 55 [u0, u1, u2, u3] [] (WS L σ) Q else R d 73 43 [u0, u1, u2, u3] [] (WS L σ) Q := R_if_eq fi_73_40 rfl
theorem b73_43 {d L : Nat} {σ : St} {Q : Option AV → AW → Prop} {x2 x1 : Int} {u3 : AV} (h1 : 0 ≤ x2) (h2 : x2 < 3) : R d 73 43 [vR 20, vI x1, vI x2, u3] [] (WS L σ) Q = R d 73 55 [vR 20, vI x1, vI x2, u3] [] (WS L (st2 σ 30 x2 (i_or (σ 30 x2) (i_shl 1 x1)))) Q := K_aload_n fi_73_43 rfl <| K_gf fi_73_44 kd_20 mk_20_12 <| K_iload_n fi_73_47 rfl <| K_dup2 fi_73_48 <| K_ia fi_73_49 kd_30 h1 h2 <| K_iconst fi_73_50 <| K_iload_n fi_73_51 rfl <| K_ishl fi_73_52 <| K_ior fi_73_53 <| K_is fi_73_54 kd_30 h1 h2 <| rfl
theorem b73_55 {d L : Nat} {σ : St} {Q : Option AV → AW → Prop} {u0 u1 u2 u3 : AV} : R d 73 55 [u0, u1, u2, u3] [] (WS L σ) Q = Q none (WS L σ) := R_return fi_73_55
theorem fi_74_0 : am_find 74 0 = some (.iload_n 1, 1, 0, 0, 0) := by decide +kernel
theorem fi_74_1 : am_find 74 1 = some (.aload_n 0, 1, 0, 0, 0) := by decide +kernel
theorem fi_74_2 : am_find 74 2 = some (.getfield 10, 3, 9, 0, 0) := by decide +kernel
theorem fi_74_5 : am_find 74 5 = some (.getfield 92, 3, 8, 1, 52) := by decide +kernel
theorem fi_74_8 : am_find 74 8 = some (.invokestatic 72, 3, 13, 2, 14) := by decide +kernel
theorem fi_74_11 : am_find 74 11 = some (.ifCond .eq 14, 3, 0, 0, 0) := by decide +kernel
theorem fi_74_14 : am_find 74 14 = some (.aload_n 0, 1, 0, 0, 0) := by decide +kernel
theorem fi_74_15 : am_find 74 15 = some (.getfield 10, 3, 9, 0, 0) := by decide +kernel
theorem fi_74_18 : am_find 74 18 = some (.iload_n 1, 1, 0, 0, 0) := by decide +kernel
theorem fi_74_19 : am_find 74 19 = some (.invokevirtual 167, 3, 72, 1, 68) := by decide +kernel
theorem fi_74_22 : am_find 74 22 = some (.goto 4, 3, 0, 0, 0) := by decide +kernel
theorem fi_74_25 : am_find 74 25 = some (.iconst (-1), 1, 0, (-1), 0) := by decide +kernel
theorem fi_74_26 : am_find 74 26 = some (.ireturn, 1, 0, 0, 0) := by decide +kernel
theorem b74_0 {d L : Nat} {σ : St} {Q : Option AV → AW → Prop} {x1 : Int} : R (d + 1) 74 0 [vR 19, vI x1] [] (WS L σ) Q = R d 13 0 [vI x1, vI (σ 20 1)] [] (WS L σ) (fun r w => R (d + 1) 74 11 [vR 19, vI x1] (am_push r []) w Q) := K_iload_n fi_74_0 rfl <| K_aload_n fi_74_1 rfl <| K_gf fi_74_2 kd_19 mk_19_0 <| K_gf fi_74_5 kd_20 mk_20_1 <| R_invS fi_74_8 (by decide) (am_invS_of (Nat.le_of_ble_eq_true rfl) rfl (Nat.le_of_ble_eq_true rfl) (Nat.le_of_ble_eq_true rfl) rfl rfl)
theorem b74_11 {d L : Nat} {σ : St} {Q : Option AV → AW → Prop} {y0 : Int} {u0 u1 : AV} : R d 74 11 [u0, u1] [vI y0] (WS L σ) Q = if y0 = 0 then R d 74 25 [u0, u1] [] (WS L σ) Q else R d 74 14 [u0, u1] [] (WS L σ) Q := R_if_eq fi_74_11 rfl
theorem b74_14 {d L : Nat} {σ : St} {Q : Option AV → AW → Prop} {x1 : Int} : R (d + 1) 74 14 [vR 19, vI x1] [] (WS L σ) Q = R d 72 0 [vR 20, vI x1] [] (WS L σ) (fun r w => R (d + 1) 74 22 [vR 19, vI x1] (am_push r []) w Q) := K_aload_n fi_74_14 rfl <| K_gf fi_74_15 kd_19 mk_19_0 <| K_iload_n fi_74_18 rfl <| R_invV fi_74_19 (am_invV_of rfl (kd_20) (Nat.le_of_ble_eq_true rfl) (Nat.le_of_ble_eq_true rfl) rfl rfl)
theorem b74_22 {d L : Nat} {σ : St} {Q : Option AV → AW → Prop} {y0 : Int} {u0 u1 : AV} : R d 74 22 [u0, u1] [vI y0] (WS L σ) Q = R d 74 26 [u0, u1] [vI y0] (WS L σ) Q := R_goto fi_74_22 rfl
theorem b74_25 {d L : Nat} {σ : St} {Q : Option AV → AW → Prop} {u0 u1 : AV} : R d 74 25 [u0, u1] [] (WS L σ) Q = R d 74 26 [u0, u1] [vI (-1)] (WS L σ) Q := K_iconst fi_74_25 <| rfl
theorem b74_26 {d L : Nat} {σ : St} {Q : Option AV → AW → Prop} {y0 : Int} {u0 u1 : AV} : R d 74 26 [u0, u1] [vI y0] (WS L σ) Q = Q (some (vI y0)) (WS L σ) := R_ireti fi_74_26 rfl
theorem fi_75_0 : am_find 75 0 = some (.iload_n 1, 1, 0, 0, 0) := by decide +kernel
theorem fi_75_1 : am_find 75 1 = some (.aload_n 0, 1, 0, 0, 0) := by decide +kernel
theorem fi_75_2 : am_find 75 2 = some (.getfield 10, 3, 9, 0, 0) := by decide +kernel
theorem fi_75_5 : am_find 75 5 = some (.getfield 92, 3, 8, 1, 52) := by decide +kernel
theorem fi_75_8 : am_find 75 8 = some (.invokestatic 72, 3, 13, 2, 14) := by decide +kernel
theorem fi_75_11 : am_find 75 11 = some (.ifCond .eq 14, 3, 0, 0, 0) := by decide +kernel
theorem fi_75_14 : am_find 75 14 = some (.aload_n 0, 1, 0, 0, 0) := by decide +kernel
theorem fi_75_15 : am_find 75 15 = some (.getfield 40, 3, 9, 4, 4) := by decide +kernel
theorem fi_75_18 : am_find 75 18 = some (.iload_n 1, 1, 0, 0, 0) := by decide +kernel
theorem fi_75_19 : am_find 75 19 = some (.invokevirtual 170, 3, 76, 1, 69) := by decide +kernel
theorem fi_75_22 : am_find 75 22 = some (.goto 4, 3, 0, 0, 0) := by decide +kernel
theorem fi_75_25 : am_find 75 25 = some (.iconst (-1), 1, 0, (-1), 0) := by decide +kernel
theorem fi_75_26 : am_find 75 26 = some (.ireturn, 1, 0, 0, 0) := by decide +kernel
theorem b75_0 {d L : Nat} {σ : St} {Q : Option AV → AW → Prop} {x1 : Int} : R (d + 1) 75 0 [vR 19, vI x1] [] (WS L σ) Q = R d 13 0 [vI x1, vI (σ 20 1)] [] (WS L σ) (fun r w => R (d + 1) 75 11 [vR 19, vI x1] (am_push r []) w Q) := K_iload_n fi_75_0 rfl <| K_aload_n fi_75_1 rfl <| K_gf fi_75_2 kd_19 mk_19_0 <| K_gf fi_75_5 kd_20 mk_20_1 <| R_invS fi_75_8 (by decide) (am_invS_of (Nat.le_of_ble_eq_true rfl) rfl (Nat.le_of_ble_eq_true rfl) (Nat.le_of_ble_eq_true rfl) rfl rfl)
theorem b75_11 {d L : Nat} {σ : St} {Q : Option AV → AW → Prop} {y0 : Int} {u0 u1 : AV} : R d 75 11 [u0, u1] [vI y0] (WS L σ) Q = if y0 = 0 then R d 75 25 [u0, u1] [] (WS L σ) Q else R d 75 14 [u0, u1] [] (WS L σ) Q := R_if_eq fi_75_11 rfl
theorem b75_14 {d L : Nat} {σ : St} {Q : Option AV → AW → Prop} {x1 : Int} : R (d + 1) 75 14 [vR 19, vI x1] [] (WS L σ) Q = R d 76 0 [vR 142, vI x1, vX 9] [] (WS L σ) (fun r w => R (d + 1) 75 22 [vR 19, vI x1] (am_push r []) w Q) := K_aload_n fi_75_14 rfl <| K_gf fi_75_15 kd_19 mk_19_4 <| K_iload_n fi_75_18 rfl <| R_invV fi_75_19 (am_invV_of rfl (kd_142) (Nat.le_of_ble_eq_true rfl) (Nat.le_of_ble_eq_true rfl) rfl rfl)
theorem b75_22 {d L : Nat} {σ : St} {Q : Option AV → AW → Prop} {y0 : Int} {u0 u1 : AV} : R d 75 22 [u0, u1] [vI y0] (WS L σ) Q = R d 75 26 [u0, u1] [vI y0] (WS L σ) Q := R_goto fi_75_22 rfl
theorem b75_25 {d L : Nat} {σ : St} {Q : Option AV → AW → Prop} {u0 u1 : AV} : R d 75 25 [u0, u1] [] (WS L σ) Q = R d 75 26 [u0, u1] [vI (-1)] (WS L σ) Q := K_iconst fi_75_25 <| rfl
theorem b75_26 {d L : Nat} {σ : St} {Q : Option AV → AW → Prop} {y0 : Int} {u0 u1 : AV} : R d 75 26 [u0, u1] [vI y0] (WS L σ) Q = Q (some (vI y0)) (WS L σ) := R_ireti fi_75_26 rfl
theorem fi_76_0 : am_find 76 0 = some (.aload_n 0, 1, 0, 0, 0) := by decide +kernel
theorem fi_76_1 : am_find 76 1 = some (.getfield 20, 3, 3, 0, 33) := by decide +kernel
theorem fi_76_4 : am_find 76 4 = some (.invokevirtual 65, 3, 77, 0, 70) := by decide +kernel
theorem fi_76_7 : am_find 76 7 = some (.istore_n 2, 1, 0, 0, 0) := by decide +kernel
theorem fi_76_8 : am_find 76 8 = some (.iload_n 2, 1, 0, 0, 0) := by decide +kernel
theorem fi_76_9 : am_find 76 9 = some (.ifCond .ne 6, 3, 0, 0, 0) := by decide +kernel
theorem fi_76_12 : am_find 76 12 = some (.bipush (-5), 2, 0, (-5), 0) := by decide +kernel
theorem fi_76_14 : am_find 76 14 = some (.ireturn, 1, 0, 0, 0) := by decide +kernel
theorem fi_76_15 : am_find 76 15 = some (.aload_n 0, 1, 0, 0, 0) := by decide +kernel
theorem fi_76_16 : am_find 76 16 = some (.getfield 20, 3, 3, 0, 33) := by decide +kernel
theorem fi_76_19 : am_find 76 19 = some (.iload_n 1, 1, 0, 0, 0) := by decide +kernel
theorem fi_76_20 : am_find 76 20 = some (.invokevirtual 69, 3, 66, 1, 71) := by decide +kernel
theorem fi_76_23 : am_find 76 23 = some (.tableswitch 95 1 6 #[37, 44, 56, 68, 77, 84], 37, 0, 0, 0) := by decide +kernel
theorem fi_76_60 : am_find 76 60 = some (.aload_n 0, 1, 0, 0, 0) := by decide +kernel
theorem fi_76_61 : am_find 76 61 = some (.iload_n 1, 1, 0, 0, 0) := by decide +kernel
theorem fi_76_62 : am_find 76 62 = some (.iload_n 2, 1, 0, 0, 0) := by decide +kernel
theorem fi_76_63 : am_find 76 63 = some (.invokevirtual 72, 3, 78, 2, 72) := by decide +kernel
theorem fi_76_66 : am_find 76 66 = some (.ireturn, 1, 0, 0, 0) := by decide +kernel
theorem fi_76_67 : am_find 76 67 = some (.aload_n 0, 1, 0, 0, 0) := by decide +kernel
theorem fi_76_68 : am_find 76 68 = some (.aload_n 0, 1, 0, 0, 0) := by decide +kernel
theorem fi_76_69 : am_find 76 69 = some (.iload_n 1, 1, 0, 0, 0) := by decide +kernel
theorem fi_76_70 : am_find 76 70 = some (.iload_n 2, 1, 0, 0, 0) := by decide +kernel
theorem fi_76_71 : am_find 76 71 = some (.invokevirtual 75, 3, 79, 2, 73) := by decide +kernel
theorem fi_76_74 : am_find 76 74 = some (.iload_n 2, 1, 0, 0, 0) := by decide +kernel
theorem fi_76_75 : am_find 76 75 = some (.invokevirtual 72, 3, 78, 2, 72) := by decide +kernel
theorem fi_76_78 : am_find 76 78 = some (.ireturn, 1, 0, 0, 0) := by decide +kernel
theorem fi_76_79 : am_find 76 79 = some (.aload_n 0, 1, 0, 0, 0) := by decide +kernel
theorem fi_76_80 : am_find 76 80 = some (.iload_n 1, 1, 0, 0, 0) := by decide +kernel
theorem fi_76_81 : am_find 76 81 = some (.aload_n 0, 1, 0, 0, 0) := by decide +kernel
theorem fi_76_82 : am_find 76 82 = some (.iload_n 1, 1, 0, 0, 0) := by decide +kernel
theorem fi_76_83 : am_find 76 83 = some (.iload_n 2, 1, 0, 0, 0) := by decide +kernel
theorem fi_76_84 : am_find 76 84 = some (.invokevirtual 78, 3, 80, 2, 74) := by decide +kernel
theorem fi_76_87 : am_find 76 87 = some (.invokevirtual 72, 3, 78, 2, 72) := by decide +kernel
theorem fi_76_90 : am_find 76 90 = some (.ireturn, 1, 0, 0, 0) := by decide +kernel
theorem fi_76_91 : am_find 76 91 = some (.aload_n 0, 1, 0, 0, 0) := by decide +kernel
theorem fi_76_92 : am_find 76 92 = some (.getfield 24, 3, 3, 1, 34) := by decide +kernel
theorem fi_76_95 : am_find 76 95 = some (.iload_n 1, 1, 0, 0, 0) := by decide +kernel
theorem fi_76_96 : am_find 76 96 = some (.invokevirtual 81, 3, 82, 1, 75) := by decide +kernel
theorem fi_76_99 : am_find 76 99 = some (.ireturn, 1, 0, 0, 0) := by decide +kernel
theorem fi_76_100 : am_find 76 100 = some (.aload_n 0, 1, 0, 0, 0) := by decide +kernel
theorem fi_76_101 : am_find 76 101 = some (.iload_n 1, 1, 0, 0, 0) := by decide +kernel
theorem fi_76_102 : am_find 76 102 = some (.iload_n 2, 1, 0, 0, 0) := by decide +kernel
theorem fi_76_103 : am_find 76 103 = some (.invokevirtual 86, 3, 91, 2, 76) := by decide +kernel
theorem fi_76_106 : am_find 76 106 = some (.ireturn, 1, 0, 0, 0) := by decide +kernel
theorem fi_76_107 : am_find 76 107 = some (.aload_n 0, 1, 0, 0, 0) := by decide +kernel
theorem fi_76_108 : am_find 76 108 = some (.iload_n 1, 1, 0, 0, 0) := by decide +kernel
theorem fi_76_109 : am_find 76 109 = some (.aload_n 0, 1, 0, 0, 0) := by decide +kernel
theorem fi_76_110 : am_find 76 110 = some (.iload_n 2, 1, 0, 0, 0) := by decide +kernel
theorem fi_76_111 : am_find 76 111 = some (.invokevirtual 89, 3, 93, 1, 77) := by decide +kernel
theorem fi_76_114 : am_find 76 114 = some (.invokevirtual 72, 3, 78, 2, 72) := by decide +kernel
theorem fi_76_117 : am_find 76 117 = some (.ireturn, 1, 0, 0, 0) := by decide +kernel
theorem fi_76_118 : am_find 76 118 = some (.iload_n 2, 1, 0, 0, 0) := by decide +kernel
theorem fi_76_119 : am_find 76 119 = some (.invokestatic 92, 3, 92, 1, 78) := by decide +kernel
theorem fi_76_122 : am_find 76 122 = some (.ireturn, 1, 0, 0, 0) := by decide +kernel
theorem b76_0 {d L : Nat} {σ : St} {Q : Option AV → AW → Prop} {u1 u2 : AV} : R (d + 1) 76 0 [vR 142, u1, u2] [] (WS L σ) Q = R d 77 0 [vR 20] [] (WS L σ) (fun r w => R (d + 1) 76 7 [vR 142, u1, u2] (am_push r []) w Q) := K_aload_n fi_76_0 rfl <| K_gf fi_76_1 kd_142 mk_142_0 <| R_invV fi_76_4 (am_invV_of rfl (kd_20) (Nat.le_of_ble_eq_true rfl) (Nat.le_of_ble_eq_true rfl) rfl rfl)
theorem b76_7 {d L : Nat} {σ : St} {Q : Option AV → AW → Prop} {y0 x1 : Int} {u0 u2 : AV} : R d 76 7 [u0, vI x1, u2] [vI y0] (WS L σ) Q = if ¬ y0 = 0 then R d 76 15 [u0, vI x1, vI y0] [] (WS L σ) Q else R d 76 12 [u0, vI x1, vI y0] [] (WS L σ) Q := K_istore_n fi_76_7 (Nat.le_of_ble_eq_true rfl) rfl rfl <| K_iload_n fi_76_8 rfl <| R_if_ne fi_76_9 rfl
theorem b76_12 {d L : Nat} {σ : St} {Q : Option AV → AW → Prop} {u0 u1 u2 : AV} : R d 76 12 [u0, u1, u2] [] (WS L σ) Q = Q (some (vI (-5))) (WS L σ) := K_bipush fi_76_12 <| R_ireti fi_76_14 rfl
theorem b76_15 {d L : Nat} {σ : St} {Q : Option AV → AW → Prop} {x1 : Int} {u2 : AV} : R (d + 1) 76 15 [vR 142, vI x1, u2] [] (WS L σ) Q = R d 66 0 [vR 20, vI x1] [] (WS L σ) (fun r w => R (d + 1) 76 23 [vR 142, vI x1, u2] (am_push r []) w Q) := K_aload_n fi_76_15 rfl <| K_gf fi_76_16 kd_142 mk_142_0 <| K_iload_n fi_76_19 rfl <| R_invV fi_76_20 (am_invV_of rfl (kd_20) (Nat.le_of_ble_eq_true rfl) (Nat.le_of_ble_eq_true rfl) rfl rfl)
theorem sw76_23 {d L : Nat} {σ : St} {Q : Option AV → AW → Prop} {x : Int} {ls st : List AV} : R d 76 23 ls (vI x :: st) (WS L σ) Q = if x = 1 then R d 76 60 ls st (WS L σ) Q else if x = 2 then R d 76 67 ls st (WS L σ) Q else if x = 3 then R d 76 79 ls st (WS L σ) Q else if x = 4 then R d 76 91 ls st (WS L σ) Q else if x = 5 then R d 76 100 ls st (WS L σ) Q else if x = 6 then R d 76 107 ls st (WS L σ) Q else R d 76 118 ls st (WS L σ) Q := by
  by_cases h1 : x = 1
  · subst h1; exact (R_tsw (t := 60) fi_76_23 rfl).trans (by simp)
  by_cases h2 : x = 2
  · subst h2; exact (R_tsw (t := 67) fi_76_23 rfl).trans (by simp)
  by_cases h3 : x = 3
  · subst h3; exact (R_tsw (t := 79) fi_76_23 rfl).trans (by simp)
  by_cases h4 : x = 4
  · subst h4; exact (R_tsw (t := 91) fi_76_23 rfl).trans (by simp)
  by_cases h5 : x = 5
  · subst h5; exact (R_tsw (t := 100) fi_76_23 rfl).trans (by simp)
  by_cases h6 : x = 6
  · subst h6; exact (R_tsw (t := 107) fi_76_23 rfl).trans (by simp)
  rw [R_tsw (t := 118) fi_76_23 (by show (if x < 1 ∨ 6 < x then _ else _) = _; rw [if_pos (by omega)]; rfl)]
  rw [if_neg h1, if_neg h2, if_neg h3, if_neg h4, if_neg h5, if_neg h6]
theorem b76_23 {d L : Nat} {σ : St} {Q : Option AV → AW → Prop} {y0 : Int} {u0 u1 u2 : AV} : R d 76 23 [u0, u1, u2] [vI y0] (WS L σ) Q = if y0 = 1 then R d 76 60 [u0, u1, u2] [] (WS L σ) Q else if y0 = 2 then R d 76 67 [u0, u1, u2] [] (WS L σ) Q else if y0 = 3 then R d 76 79 [u0, u1, u2] [] (WS L σ) Q else if y0 = 4 then R d 76 91 [u0, u1, u2] [] (WS L σ) Q else if y0 = 5 then R d 76 100 [u0, u1, u2] [] (WS L σ) Q else if y0 = 6 then R d 76 107 [u0, u1, u2] [] (WS L σ) Q else R d 76 118 [u0, u1, u2] [] (WS L σ) Q := sw76_23
theorem b76_60 {d L : Nat} {σ : St} {Q : Option AV → AW → Prop} {x1 x2 : Int} : R (d + 1) 76 60 [vR 142, vI x1, vI x2] [] (WS L σ) Q = R d 78 0 [vR 142, vI x1, vI x2, vX 9, vX 9, vX 9, vX 9, vX 9] [] (WS L σ) (fun r w => R (d + 1) 76 66 [vR 142, vI x1, vI x2] (am_push r []) w Q) := K_aload_n fi_76_60 rfl <| K_iload_n fi_76_61 rfl <| K_iload_n fi_76_62 rfl <| R_invV fi_76_63 (am_invV_of rfl (kd_142) (Nat.le_of_ble_eq_true rfl) (Nat.le_of_ble_eq_true rfl) rfl rfl)
theorem b76_66 {d L : Nat} {σ : St} {Q : Option AV → AW → Prop} {y0 : Int} {u0 u1 u2 : AV} : R d 76 66 [u0, u1, u2] [vI y0] (WS L σ) Q = Q (some (vI y0)) (WS L σ) := R_ireti fi_76_66 rfl
theorem b76_67 {d L : Nat} {σ : St} {Q : Option AV → AW → Prop} {x1 x2 : Int} : R (d + 1) 76 67 [vR 142, vI x1, vI x2] [] (WS L σ) Q = R d 79 0 [vR 142, vI x1, vI x2] [] (WS L σ) (fun r w => R (d + 1) 76 74 [vR 142, vI x1, vI x2] (am_push r [vR 142]) w Q) := K_aload_n fi_76_67 rfl <| K_aload_n fi_76_68 rfl <| K_iload_n fi_76_69 rfl <| K_iload_n fi_76_70 rfl <| R_invV fi_76_71 (am_invV_of rfl (kd_142) (Nat.le_of_ble_eq_true rfl) (Nat.le_of_ble_eq_true rfl) rfl rfl)
theorem b76_74 {d L : Nat} {σ : St} {Q : Option AV → AW → Prop} {y0 x2 : Int} {u0 u1 : AV} : R (d + 1) 76 74 [u0, u1, vI x2] [vI y0, vR 142] (WS L σ) Q = R d 78 0 [vR 142, vI y0, vI x2, vX 9, vX 9, vX 9, vX 9, vX 9] [] (WS L σ) (fun r w => R (d + 1) 76 78 [u0, u1, vI x2] (am_push r []) w Q) := K_iload_n fi_76_74 rfl <| R_invV fi_76_75 (am_invV_of rfl (kd_142) (Nat.le_of_ble_eq_true rfl) (Nat.le_of_ble_eq_true rfl) rfl rfl)
theorem b76_78 {d L : Nat} {σ : St} {Q : Option AV → AW → Prop} {y0 : Int} {u0 u1 u2 : AV} : R d 76 78 [u0, u1, u2] [vI y0] (WS L σ) Q = Q (some (vI y0)) (WS L σ) := R_ireti fi_76_78 rfl
theorem b76_79 {d L : Nat} {σ : St} {Q : Option AV → AW → Prop} {x1 x2 : Int} : R (d + 1) 76 79 [vR 142, vI x1, vI x2] [] (WS L σ) Q = R d 80 0 [vR 142, vI x1, vI x2, vX 9] [] (WS L σ) (fun r w => R (d + 1) 76 87 [vR 142, vI x1, vI x2] (am_push r [vI x1, vR 142]) w Q) := K_aload_n fi_76_79 rfl <| K_iload_n fi_76_80 rfl <| K_aload_n fi_76_81 rfl <| K_iload_n fi_76_82 rfl <| K_iload_n fi_76_83 rfl <| R_invV fi_76_84 (am_invV_of rfl (kd_142) (Nat.le_of_ble_eq_true rfl) (Nat.le_of_ble_eq_true rfl) rfl rfl)
theorem b76_87 {d L : Nat} {σ : St} {Q : Option AV → AW → Prop} {y0 y1 : Int} {u0 u1 u2 : AV} : R (d + 1) 76 87 [u0, u1, u2] [vI y0, vI y1, vR 142] (WS L σ) Q = R d 78 0 [vR 142, vI y1, vI y0, vX 9, vX 9, vX 9, vX 9, vX 9] [] (WS L σ) (fun r w => R (d + 1) 76 90 [u0, u1, u2] (am_push r []) w Q) := R_invV fi_76_87 (am_invV_of rfl (kd_142) (Nat.le_of_ble_eq_true rfl) (Nat.le_of_ble_eq_true rfl) rfl rfl)
theorem b76_90 {d L : Nat} {σ : St} {Q : Option AV → AW → Prop} {y0 : Int} {u0 u1 u2 : AV} : R d 76 90 [u0, u1, u2] [vI y0] (WS L σ) Q = Q (some (vI y0)) (WS L σ) := R_ireti fi_76_90 rfl
theorem b76_91 {d L : Nat} {σ : St} {Q : Option AV → AW → Prop} {x1 : Int} {u2 : AV} : R (d + 1) 76 91 [vR 142, vI x1, u2] [] (WS L σ) Q = R d 82 0 [vR 139, vI x1] [] (WS L σ) (fun r w => R (d + 1) 76 99 [vR 142, vI x1, u2] (am_push r []) w Q) := K_aload_n fi_76_91 rfl <| K_gf fi_76_92 kd_142 mk_142_1 <| K_iload_n fi_76_95 rfl <| R_invV fi_76_96 (am_invV_of rfl (kd_139) (Nat.le_of_ble_eq_true rfl) (Nat.le_of_ble_eq_true rfl) rfl rfl)
theorem b76_99 {d L : Nat} {σ : St} {Q : Option AV → AW → Prop} {y0 : Int} {u0 u1 u2 : AV} : R d 76 99 [u0, u1, u2] [vI y0] (WS L σ) Q = Q (some (vI y0)) (WS L σ) := R_ireti fi_76_99 rfl
theorem b76_100 {d L : Nat} {σ : St} {Q : Option AV → AW → Prop} {x1 x2 : Int} : R (d + 1) 76 100 [vR 142, vI x1, vI x2] [] (WS L σ) Q = R d 91 0 [vR 142, vI x1, vI x2, vX 9, vX 9] [] (WS L σ) (fun r w => R (d + 1) 76 106 [vR 142, vI x1, vI x2] (am_push r []) w Q) := K_aload_n fi_76_100 rfl <| K_iload_n fi_76_101 rfl <| K_iload_n fi_76_102 rfl <| R_invV fi_76_103 (am_invV_of rfl (kd_142) (Nat.le_of_ble_eq_true rfl) (Nat.le_of_ble_eq_true rfl) rfl rfl)
theorem b76_106 {d L : Nat} {σ : St} {Q : Option AV → AW → Prop} {y0 : Int} {u0 u1 u2 : AV} : R d 76 106 [u0, u1, u2] [vI y0] (WS L σ) Q = Q (some (vI y0)) (WS L σ) := R_ireti fi_76_106 rfl
theorem b76_107 {d L : Nat} {σ : St} {Q : Option AV → AW → Prop} {x1 x2 : Int} : R (d + 1) 76 107 [vR 142, vI x1, vI x2] [] (WS L σ) Q = R d 93 0 [vR 142, vI x2, vX 9, vX 9, vX 9, vX 9] [] (WS L σ) (fun r w => R (d + 1) 76 114 [vR 142, vI x1, vI x2] (am_push r [vI x1, vR 142]) w Q) := K_aload_n fi_76_107 rfl <| K_iload_n fi_76_108 rfl <| K_aload_n fi_76_109 rfl <| K_iload_n fi_76_110 rfl <| R_invV fi_76_111 (am_invV_of rfl (kd_142) (Nat.le_of_ble_eq_true rfl) (Nat.le_of_ble_eq_true rfl) rfl rfl)
theorem b76_114 {d L : Nat} {σ : St} {Q : Option AV → AW → Prop} {y0 y1 : Int} {u0 u1 u2 : AV} : R (d + 1) 76 114 [u0, u1, u2] [vI y0, vI y1, vR 142] (WS L σ) Q = R d 78 0 [vR 142, vI y1, vI y0, vX 9, vX 9, vX 9, vX 9, vX 9] [] (WS L σ) (fun r w => R (d + 1) 76 117 [u0, u1, u2] (am_push r []) w Q) := R_invV fi_76_114 (am_invV_of rfl (kd_142) (Nat.le_of_ble_eq_true rfl) (Nat.le_of_ble_eq_true rfl) rfl rfl)
theorem b76_117 {d L : Nat} {σ : St} {Q : Option AV → AW → Prop} {y0 : Int} {u0 u1 u2 : AV} : R d 76 117 [u0, u1, u2] [vI y0] (WS L σ) Q = Q (some (vI y0)) (WS L σ) := R_ireti fi_76_117 rfl
theorem b76_118 {d L : Nat} {σ : St} {Q : Option AV → AW → Prop} {x2 : Int} {u0 u1 : AV} : R (d + 1) 76 118 [u0, u1, vI x2] [] (WS L σ) Q = R d 92 0 [vI x2, vX 9] [] (WS L σ) (fun r w => R (d + 1) 76 122 [u0, u1, vI x2] (am_push r []) w Q) := K_iload_n fi_76_118 rfl <| R_invS fi_76_119 (by decide) (am_invS_of (Nat.le_of_ble_eq_true rfl) rfl (Nat.le_of_ble_eq_true rfl) (Nat.le_of_ble_eq_true rfl) rfl rfl)
theorem b76_122 {d L : Nat} {σ : St} {Q : Option AV → AW → Prop} {y0 : Int} {u0 u1 u2 : AV} : R d 76 122 [u0, u1, u2] [vI y0] (WS L σ) Q = Q (some (vI y0)) (WS L σ) := R_ireti fi_76_122 rfl
theorem fi_77_0 : am_find 77 0 = some (.aload_n 0, 1, 0, 0, 0) := by decide +kernel
theorem fi_77_1 : am_find 77 1 = some (.invokevirtual 115, 3, 34, 0, 79) := by decide +kernel
theorem fi_77_4 : am_find 77 4 = some (.aload_n 0, 1, 0, 0, 0) := by decide +kernel
theorem fi_77_5 : am_find 77 5 = some (.iconst 0, 1, 0, 0, 0) := by decide +kernel
theorem fi_77_6 : am_find 77 6 = some (.invokevirtual 112, 3, 72, 1, 67) := by decide +kernel
theorem fi_77_9 : am_find 77 9 = some (.aload_n 0, 1, 0, 0, 0) := by decide +kernel
theorem fi_77_10 : am_find 77 10 = some (.iconst 1, 1, 0, 1, 0) := by decide +kernel
theorem fi_77_11 : am_find 77 11 = some (.invokevirtual 112, 3, 72, 1, 67) := by decide +kernel
theorem fi_77_14 : am_find 77 14 = some (.ior, 1, 0, 0, 0) := by decide +kernel
theorem fi_77_15 : am_find 77 15 = some (.aload_n 0, 1, 0, 0, 0) := by decide +kernel
theorem fi_77_16 : am_find 77 16 = some (.iconst 2, 1, 0, 2, 0) := by decide +kernel
theorem fi_77_17 : am_find 77 17 = some (.invokevirtual 112, 3, 72, 1, 67) := by decide +kernel
theorem fi_77_20 : am_find 77 20 = some (.ior, 1, 0, 0, 0) := by decide +kernel
theorem fi_77_21 : am_find 77 21 = some (.iconst (-1), 1, 0, (-1), 0) := by decide +kernel
theorem fi_77_22 : am_find 77 22 = some (.ixor, 1, 0, 0, 0) := by decide +kernel
theorem fi_77_23 : am_find 77 23 = some (.iand, 1, 0, 0, 0) := by decide +kernel
theorem fi_77_24 : am_find 77 24 = some (.ireturn, 1, 0, 0, 0) := by decide +kernel
theorem b77_0 {d L : Nat} {σ : St} {Q : Option AV → AW → Prop} : R (d + 1) 77 0 [vR 20] [] (WS L σ) Q = R d 34 0 [vR 20] [] (WS L σ) (fun r w => R (d + 1) 77 4 [vR 20] (am_push r []) w Q) := K_aload_n fi_77_0 rfl <| R_invV fi_77_1 (am_invV_of rfl (kd_20) (Nat.le_of_ble_eq_true rfl) (Nat.le_of_ble_eq_true rfl) rfl rfl)
theorem b77_4 {d L : Nat} {σ : St} {Q : Option AV → AW → Prop} {y0 : Int} : R (d + 1) 77 4 [vR 20] [vI y0] (WS L σ) Q = R d 72 0 [vR 20, vI 0] [] (WS L σ) (fun r w => R (d + 1) 77 9 [vR 20] (am_push r [vI y0]) w Q) := K_aload_n fi_77_4 rfl <| K_iconst fi_77_5 <| R_invV fi_77_6 (am_invV_of rfl (kd_20) (Nat.le_of_ble_eq_true rfl) (Nat.le_of_ble_eq_true rfl) rfl rfl)
theorem b77_9 {d L : Nat} {σ : St} {Q : Option AV → AW → Prop} {y0 y1 : Int} : R (d + 1) 77 9 [vR 20] [vI y0, vI y1] (WS L σ) Q = R d 72 0 [vR 20, vI 1] [] (WS L σ) (fun r w => R (d + 1) 77 14 [vR 20] (am_push r [vI y0, vI y1]) w Q) := K_aload_n fi_77_9 rfl <| K_iconst fi_77_10 <| R_invV fi_77_11 (am_invV_of rfl (kd_20) (Nat.le_of_ble_eq_true rfl) (Nat.le_of_ble_eq_true rfl) rfl rfl)
theorem b77_14 {d L : Nat} {σ : St} {Q : Option AV → AW → Prop} {y0 y1 y2 : Int} : R (d + 1) 77 14 [vR 20] [vI y0, vI y1, vI y2] (WS L σ) Q = R d 72 0 [vR 20, vI 2] [] (WS L σ) (fun r w => R (d + 1) 77 20 [vR 20] (am_push r [vI (i_or y1 y0), vI y2]) w Q) := K_ior fi_77_14 <| K_aload_n fi_77_15 rfl <| K_iconst fi_77_16 <| R_invV fi_77_17 (am_invV_of rfl (kd_20) (Nat.le_of_ble_eq_true rfl) (Nat.le_of_ble_eq_true rfl) rfl rfl)
theorem b77_20 {d L : Nat} {σ : St} {Q : Option AV → AW → Prop} {y0 y1 y2 : Int} {u0 : AV} : R d 77 20 [u0] [vI y0, vI y1, vI y2] (WS L σ) Q = Q (some (vI (i_and y2 (i_xor (i_or y1 y0) (-1))))) (WS L σ) := K_ior fi_77_20 <| K_iconst fi_77_21 <| K_ixor fi_77_22 <| K_iand fi_77_23 <| R_ireti fi_77_24 rfl
theorem fi_78_0 : am_find 78 0 = some (.aload_n 0, 1, 0, 0, 0) := by decide +kernel
theorem fi_78_1 : am_find 78 1 = some (.getfield 20, 3, 3, 0, 33) := by decide +kernel
theorem fi_78_4 : am_find 78 4 = some (.iload_n 1, 1, 0, 0, 0) := by decide +kernel
theorem fi_78_5 : am_find 78 5 = some (.invokevirtual 95, 3, 72, 1, 80) := by decide +kernel
theorem fi_78_8 : am_find 78 8 = some (.istore_n 3, 1, 0, 0, 0) := by decide +kernel
theorem fi_78_9 : am_find 78 9 = some (.bipush (-5), 2, 0, (-5), 0) := by decide +kernel
theorem fi_78_11 : am_find 78 11 = some (.istore 4, 2, 0, 0, 0) := by decide +kernel
theorem fi_78_13 : am_find 78 13 = some (.ldc 98, 2, 0, (-1000000), 720) := by decide +kernel
theorem fi_78_15 : am_find 78 15 = some (.istore 5, 2, 0, 0, 0) := by decide +kernel
theorem fi_78_17 : am_find 78 17 = some (.iconst 0, 1, 0, 0, 0) := by decide +kernel
theorem fi_78_18 : am_find 78 18 = some (.istore 6, 2, 0, 0, 0) := by decide +kernel
theorem fi_78_20 : am_find 78 20 = some (.iload 6, 2, 0, 0, 0) := by decide +kernel
theorem fi_78_22 : am_find 78 22 = some (.bipush 8, 2, 0, 8, 0) := by decide +kernel
theorem fi_78_24 : am_find 78 24 = some (.if_icmp .ge 50, 3, 0, 0, 0) := by decide +kernel
theorem fi_78_27 : am_find 78 27 = some (.iload_n 2, 1, 0, 0, 0) := by decide +kernel
theorem fi_78_28 : am_find 78 28 = some (.iload 6, 2, 0, 0, 0) := by decide +kernel
theorem fi_78_30 : am_find 78 30 = some (.ishr, 1, 0, 0, 0) := by decide +kernel
theorem fi_78_31 : am_find 78 31 = some (.iconst 1, 1, 0, 1, 0) := by decide +kernel
theorem fi_78_32 : am_find 78 32 = some (.iand, 1, 0, 0, 0) := by decide +kernel
theorem fi_78_33 : am_find 78 33 = some (.iconst 1, 1, 0, 1, 0) := by decide +kernel
theorem fi_78_34 : am_find 78 34 = some (.if_icmp .ne 34, 3, 0, 0, 0) := by decide +kernel
theorem fi_78_37 : am_find 78 37 = some (.aload_n 0, 1, 0, 0, 0) := by decide +kernel
theorem fi_78_38 : am_find 78 38 = some (.getfield 20, 3, 3, 0, 33) := by decide +kernel
theorem fi_78_41 : am_find 78 41 = some (.iload_n 1, 1, 0, 0, 0) := by decide +kernel
theorem fi_78_42 : am_find 78 42 = some (.iload_n 3, 1, 0, 0, 0) := by decide +kernel
theorem fi_78_43 : am_find 78 43 = some (.iconst 1, 1, 0, 1, 0) := by decide +kernel
theorem fi_78_44 : am_find 78 44 = some (.iload 6, 2, 0, 0, 0) := by decide +kernel
theorem fi_78_46 : am_find 78 46 = some (.ishl, 1, 0, 0, 0) := by decide +kernel
theorem fi_78_47 : am_find 78 47 = some (.ior, 1, 0, 0, 0) := by decide +kernel
theorem fi_78_48 : am_find 78 48 = some (.invokevirtual 99, 3, 57, 2, 81) := by decide +kernel
theorem fi_78_51 : am_find 78 51 = some (.istore 7, 2, 0, 0, 0) := by decide +kernel
theorem fi_78_53 : am_find 78 53 = some (.iload 7, 2, 0, 0, 0) := by decide +kernel
theorem fi_78_55 : am_find 78 55 = some (.iload 5, 2, 0, 0, 0) := by decide +kernel
theorem fi_78_57 : am_find 78 57 = some (.if_icmp .le 11, 3, 0, 0, 0) := by decide +kernel
theorem fi_78_60 : am_find 78 60 = some (.iload 6, 2, 0, 0, 0) := by decide +kernel
theorem fi_78_62 : am_find 78 62 = some (.istore 4, 2, 0, 0, 0) := by decide +kernel
theorem fi_78_64 : am_find 78 64 = some (.iload 7, 2, 0, 0, 0) := by decide +kernel
theorem fi_78_66 : am_find 78 66 = some (.istore 5, 2, 0, 0, 0) := by decide +kernel
theorem fi_78_68 : am_find 78 68 = some (.iinc 6 1, 3, 0, 0, 0) := by decide +kernel
theorem fi_78_71 : am_find 78 71 = some (.goto (-51), 3, 0, 0, 0) := by decide +kernel
theorem fi_78_74 : am_find 78 74 = some (.iload 4, 2, 0, 0, 0) := by decide +kernel
theorem fi_78_76 : am_find 78 76 = some (.ireturn, 1, 0, 0, 0) := by decide +kernel
theorem b78_0 {d L : Nat} {σ : St} {Q : Option AV → AW → Prop} {x1 : Int} {u2 u3 u4 u5 u6 u7 : AV} : R (d + 1) 78 0 [vR 142, vI x1, u2, u3, u4, u5, u6, u7] [] (WS L σ) Q = R d 72 0 [vR 20, vI x1] [] (WS L σ) (fun r w => R (d + 1) 78 8 [vR 142, vI x1, u2, u3, u4, u5, u6, u7] (am_push r []) w Q) := K_aload_n fi_78_0 rfl <| K_gf fi_78_1 kd_142 mk_142_0 <| K_iload_n fi_78_4 rfl <| R_invV fi_78_5 (am_invV_of rfl (kd_20) (Nat.le_of_ble_eq_true rfl) (Nat.le_of_ble_eq_true rfl) rfl rfl)
theorem b78_8 {d L : Nat} {σ : St} {Q : Option AV → AW → Prop} {y0 : Int} {u0 u1 u2 u3 u4 u5 u6 u7 : AV} : R d 78 8 [u0, u1, u2, u3, u4, u5, u6, u7] [vI y0] (WS L σ) Q = R d 78 20 [u0, u1, u2, vI y0, vI (-5), vI (-1000000), vI 0, u7] [] (WS L σ) Q := K_istore_n fi_78_8 (Nat.le_of_ble_eq_true rfl) rfl rfl <| K_bipush fi_78_9 <| K_istore fi_78_11 (Nat.le_of_ble_eq_true rfl) rfl rfl <| K_ldci fi_78_13 <| K_istore fi_78_15 (Nat.le_of_ble_eq_true rfl) rfl rfl <| K_iconst fi_78_17 <| K_istore fi_78_18 (Nat.le_of_ble_eq_true rfl) rfl rfl <| rfl
theorem b78_20 {d L : Nat} {σ : St} {Q : Option AV → AW → Prop} {x6 : Int} {u0 u1 u2 u3 u4 u5 u7 : AV} : R d 78 20 [u0, u1, u2, u3, u4, u5, vI x6, u7] [] (WS L σ) Q = if 8 ≤ x6 then R d 78 74 [u0, u1, u2, u3, u4, u5, vI x6, u7] [] (WS L σ) Q else R d 78 27 [u0, u1, u2, u3, u4, u5, vI x6, u7] [] (WS L σ) Q := K_iload fi_78_20 rfl <| K_bipush fi_78_22 <| R_icmp_ge fi_78_24 rfl
theorem b78_27 {d L : Nat} {σ : St} {Q : Option AV → AW → Prop} {x2 x6 : Int} {u0 u1 u3 u4 u5 u7 : AV} : R d 78 27 [u0, u1, vI x2, u3, u4, u5, vI x6, u7] [] (WS L σ) Q = if ¬ (i_and (i_shr x2 x6) 1) = 1 then R d 78 68 [u0, u1, vI x2, u3, u4, u5, vI x6, u7] [] (WS L σ) Q else R d 78 37 [u0, u1, vI x2, u3, u4, u5, vI x6, u7] [] (WS L σ) Q := K_iload_n fi_78_27 rfl <| K_iload fi_78_28 rfl <| K_ishr fi_78_30 <| K_iconst fi_78_31 <| K_iand fi_78_32 <| K_iconst fi_78_33 <| R_icmp_ne fi_78_34 rfl
theorem b78_37 {d L : Nat} {σ : St} {Q : Option AV → AW → Prop} {x1 x3 x6 : Int} {u2 u4 u5 u7 : AV} : R (d + 1) 78 37 [vR 142, vI x1, u2, vI x3, u4, u5, vI x6, u7] [] (WS L σ) Q = R d 57 0 [vR 20, vI x1, vI (i_or x3 (i_shl 1 x6)), vX 9] [] (WS L σ) (fun r w => R (d + 1) 78 51 [vR 142, vI x1, u2, vI x3, u4, u5, vI x6, u7] (am_push r []) w Q) := K_aload_n fi_78_37 rfl <| K_gf fi_78_38 kd_142 mk_142_0 <| K_iload_n fi_78_41 rfl <| K_iload_n fi_78_42 rfl <| K_iconst fi_78_43 <| K_iload fi_78_44 rfl <| K_ishl fi_78_46 <| K_ior fi_78_47 <| R_invV fi_78_48 (am_invV_of rfl (kd_20) (Nat.le_of_ble_eq_true rfl) (Nat.le_of_ble_eq_true rfl) rfl rfl)
theorem b78_51 {d L : Nat} {σ : St} {Q : Option AV → AW → Prop} {y0 x5 : Int} {u0 u1 u2 u3 u4 u6 u7 : AV} : R d 78 51 [u0, u1, u2, u3, u4, vI x5, u6, u7] [vI y0] (WS L σ) Q = if y0 ≤ x5 then R d 78 68 [u0, u1, u2, u3, u4, vI x5, u6, vI y0] [] (WS L σ) Q else R d 78 60 [u0, u1, u2, u3, u4, vI x5, u6, vI y0] [] (WS L σ) Q := K_istore fi_78_51 (Nat.le_of_ble_eq_true rfl) rfl rfl <| K_iload fi_78_53 rfl <| K_iload fi_78_55 rfl <| R_icmp_le fi_78_57 rfl
theorem b78_60 {d L : Nat} {σ : St} {Q : Option AV → AW → Prop} {x6 x7 : Int} {u0 u1 u2 u3 u4 u5 : AV} : R d 78 60 [u0, u1, u2, u3, u4, u5, vI x6, vI x7] [] (WS L σ) Q = R d 78 68 [u0, u1, u2, u3, vI x6, vI x7, vI x6, vI x7] [] (WS L σ) Q := K_iload fi_78_60 rfl <| K_istore fi_78_62 (Nat.le_of_ble_eq_true rfl) rfl rfl <| K_iload fi_78_64 rfl <| K_istore fi_78_66 (Nat.le_of_ble_eq_true rfl) rfl rfl <| rfl
theorem b78_68 {d L : Nat} {σ : St} {Q : Option AV → AW → Prop} {x6 : Int} {u0 u1 u2 u3 u4 u5 u7 : AV} (h1 : -2147483648 ≤ x6 + 1 ∧ x6 + 1 ≤ 2147483647) : R d 78 68 [u0, u1, u2, u3, u4, u5, vI x6, u7] [] (WS L σ) Q = R d 78 20 [u0, u1, u2, u3, u4, u5, vI (x6 + 1), u7] [] (WS L σ) Q := K_iincx fi_78_68 rfl (Nat.le_of_ble_eq_true rfl) rfl h1 rfl <| R_goto fi_78_71 rfl
theorem b78_74 {d L : Nat} {σ : St} {Q : Option AV → AW → Prop} {x4 : Int} {u0 u1 u2 u3 u5 u6 u7 : AV} : R d 78 74 [u0, u1, u2, u3, vI x4, u5, u6, u7] [] (WS L σ) Q = Q (some (vI x4)) (WS L σ) := K_iload fi_78_74 rfl <| R_ireti fi_78_76 rfl
theorem fi_79_0 : am_find 79 0 = some (.iload_n 2, 1, 0, 0, 0) := by decide +kernel
theorem fi_79_1 : am_find 79 1 = some (.invokestatic 102, 3, 42, 1, 82) := by decide +kernel
theorem fi_79_4 : am_find 79 4 = some (.iconst 2, 1, 0, 2, 0) := by decide +kernel
theorem fi_79_5 : am_find 79 5 = some (.if_icmp .ge 7, 3, 0, 0, 0) := by decide +kernel
theorem fi_79_8 : am_find 79 8 = some (.iload_n 1, 1, 0, 0, 0) := by decide +kernel
theorem fi_79_9 : am_find 79 9 = some (.goto 26, 3, 0, 0, 0) := by decide +kernel
theorem fi_79_12 : am_find 79 12 = some (.aload_n 0, 1, 0, 0, 0) := by decide +kernel
theorem fi_79_13 : am_find 79 13 = some (.getfield 20, 3, 3, 0, 33) := by decide +kernel
theorem fi_79_16 : am_find 79 16 = some (.aload_n 0, 1, 0, 0, 0) := by decide +kernel
theorem fi_79_17 : am_find 79 17 = some (.getfield 20, 3, 3, 0, 33) := by decide +kernel
theorem fi_79_20 : am_find 79 20 = some (.getfield 40, 3, 8, 3, 60) := by decide +kernel
theorem fi_79_23 : am_find 79 23 = some (.aload_n 0, 1, 0, 0, 0) := by decide +kernel
theorem fi_79_24 : am_find 79 24 = some (.getfield 20, 3, 3, 0, 33) := by decide +kernel
theorem fi_79_27 : am_find 79 27 = some (.invokevirtual 107, 3, 231, 0, 83) := by decide +kernel
theorem fi_79_30 : am_find 79 30 = some (.iconst 1, 1, 0, 1, 0) := by decide +kernel
theorem fi_79_31 : am_find 79 31 = some (.iadd, 1, 0, 0, 0) := by decide +kernel
theorem fi_79_32 : am_find 79 32 = some (.invokevirtual 43, 3, 63, 2, 84) := by decide +kernel
theorem fi_79_35 : am_find 79 35 = some (.ireturn, 1, 0, 0, 0) := by decide +kernel
theorem b79_0 {d L : Nat} {σ : St} {Q : Option AV → AW → Prop} {x2 : Int} {u0 u1 : AV} : R (d + 1) 79 0 [u0, u1, vI x2] [] (WS L σ) Q = R d 42 0 [vI x2] [] (WS L σ) (fun r w => R (d + 1) 79 4 [u0, u1, vI x2] (am_push r []) w Q) := K_iload_n fi_79_0 rfl <| R_invS fi_79_1 (by decide) (am_invS_of (Nat.le_of_ble_eq_true rfl) rfl (Nat.le_of_ble_eq_true rfl) (Nat.le_of_ble_eq_true rfl) rfl rfl)
theorem b79_4 {d L : Nat} {σ : St} {Q : Option AV → AW → Prop} {y0 : Int} {u0 u1 u2 : AV} : R d 79 4 [u0, u1, u2] [vI y0] (WS L σ) Q = if 2 ≤ y0 then R d 79 12 [u0, u1, u2] [] (WS L σ) Q else R d 79 8 [u0, u1, u2] [] (WS L σ) Q := K_iconst fi_79_4 <| R_icmp_ge fi_79_5 rfl
theorem b79_8 {d L : Nat} {σ : St} {Q : Option AV → AW → Prop} {x1 : Int} {u0 u2 : AV} : R d 79 8 [u0, vI x1, u2] [] (WS L σ) Q = R d 79 35 [u0, vI x1, u2] [vI x1] (WS L σ) Q := K_iload_n fi_79_8 rfl <| R_goto fi_79_9 rfl
theorem b79_12 {d L : Nat} {σ : St} {Q : Option AV → AW → Prop} {u1 u2 : AV} : R (d + 1) 79 12 [vR 142, u1, u2] [] (WS L σ) Q = R d 231 0 [vR 20] [] (WS L σ) (fun r w => R (d + 1) 79 30 [vR 142, u1, u2] (am_push r [vI (σ 20 3), vR 20]) w Q) := K_aload_n fi_79_12 rfl <| K_gf fi_79_13 kd_142 mk_142_0 <| K_aload_n fi_79_16 rfl <| K_gf fi_79_17 kd_142 mk_142_0 <| K_gf fi_79_20 kd_20 mk_20_3 <| K_aload_n fi_79_23 rfl <| K_gf fi_79_24 kd_142 mk_142_0 <| R_invV fi_79_27 (am_invV_of rfl (kd_20) (Nat.le_of_ble_eq_true rfl) (Nat.le_of_ble_eq_true rfl) rfl rfl)
theorem b79_30 {d L : Nat} {σ : St} {Q : Option AV → AW → Prop} {y0 y1 : Int} {u0 u1 u2 : AV} (h1 : -2147483648 ≤ y0 + 1 ∧ y0 + 1 ≤ 2147483647) : R (d + 1) 79 30 [u0, u1, u2] [vI y0, vI y1, vR 20] (WS L σ) Q = R d 63 0 [vR 20, vI y1, vI (y0 + 1), vX 9, vX 9] [] (WS L σ) (fun r w => R (d + 1) 79 35 [u0, u1, u2] (am_push r []) w Q) := K_iconst fi_79_30 <| K_iaddx fi_79_31 h1 <| R_invV fi_79_32 (am_invV_of rfl (kd_20) (Nat.le_of_ble_eq_true rfl) (Nat.le_of_ble_eq_true rfl) rfl rfl)
theorem b79_35 {d L : Nat} {σ : St} {Q : Option AV → AW → Prop} {y0 : Int} {u0 u1 u2 : AV} : R d 79 35 [u0, u1, u2] [vI y0] (WS L σ) Q = Q (some (vI y0)) (WS L σ) := R_ireti fi_79_35 rfl
theorem fi_80_0 : am_find 80 0 = some (.aload_n 0, 1, 0, 0, 0) := by decide +kernel
theorem fi_80_1 : am_find 80 1 = some (.getfield 20, 3, 3, 0, 33) := by decide +kernel
theorem fi_80_4 : am_find 80 4 = some (.iload_n 1, 1, 0, 0, 0) := by decide +kernel
theorem fi_80_5 : am_find 80 5 = some (.invokevirtual 110, 3, 81, 1, 85) := by decide +kernel
theorem fi_80_8 : am_find 80 8 = some (.iload_n 2, 1, 0, 0, 0) := by decide +kernel
theorem fi_80_9 : am_find 80 9 = some (.iand, 1, 0, 0, 0) := by decide +kernel
theorem fi_80_10 : am_find 80 10 = some (.istore_n 3, 1, 0, 0, 0) := by decide +kernel
theorem fi_80_11 : am_find 80 11 = some (.iload_n 3, 1, 0, 0, 0) := by decide +kernel
theorem fi_80_12 : am_find 80 12 = some (.ifCond .ne 7, 3, 0, 0, 0) := by decide +kernel
theorem fi_80_15 : am_find 80 15 = some (.iload_n 2, 1, 0, 0, 0) := by decide +kernel
theorem fi_80_16 : am_find 80 16 = some (.goto 4, 3, 0, 0, 0) := by decide +kernel
theorem fi_80_19 : am_find 80 19 = some (.iload_n 3, 1, 0, 0, 0) := by decide +kernel
theorem fi_80_20 : am_find 80 20 = some (.ireturn, 1, 0, 0, 0) := by decide +kernel
theorem b80_0 {d L : Nat} {σ : St} {Q : Option AV → AW → Prop} {x1 : Int} {u2 u3 : AV} : R (d + 1) 80 0 [vR 142, vI x1, u2, u3] [] (WS L σ) Q = R d 81 0 [vR 20, vI x1] [] (WS L σ) (fun r w => R (d + 1) 80 8 [vR 142, vI x1, u2, u3] (am_push r []) w Q) := K_aload_n fi_80_0 rfl <| K_gf fi_80_1 kd_142 mk_142_0 <| K_iload_n fi_80_4 rfl <| R_invV fi_80_5 (am_invV_of rfl (kd_20) (Nat.le_of_ble_eq_true rfl) (Nat.le_of_ble_eq_true rfl) rfl rfl)
theorem b80_8 {d L : Nat} {σ : St} {Q : Option AV → AW → Prop} {y0 x2 : Int} {u0 u1 u3 : AV} : R d 80 8 [u0, u1, vI x2, u3] [vI y0] (WS L σ) Q = if ¬ (i_and y0 x2) = 0 then R d 80 19 [u0, u1, vI x2, vI (i_and y0 x2)] [] (WS L σ) Q else R d 80 15 [u0, u1, vI x2, vI (i_and y0 x2)] [] (WS L σ) Q := K_iload_n fi_80_8 rfl <| K_iand fi_80_9 <| K_istore_n fi_80_10 (Nat.le_of_ble_eq_true rfl) rfl rfl <| K_iload_n fi_80_11 rfl <| R_if_ne fi_80_12 rfl
theorem b80_15 {d L : Nat} {σ : St} {Q : Option AV → AW → Prop} {x2 : Int} {u0 u1 u3 : AV} : R d 80 15 [u0, u1, vI x2, u3] [] (WS L σ) Q = R d 80 20 [u0, u1, vI x2, u3] [vI x2] (WS L σ) Q := K_iload_n fi_80_15 rfl <| R_goto fi_80_16 rfl
theorem b80_19 {d L : Nat} {σ : St} {Q : Option AV → AW → Prop} {x3 : Int} {u0 u1 u2 : AV} : R d 80 19 [u0, u1, u2, vI x3] [] (WS L σ) Q = R d 80 20 [u0, u1, u2, vI x3] [vI x3] (WS L σ) Q := K_iload_n fi_80_19 rfl <| rfl
theorem b80_20 {d L : Nat} {σ : St} {Q : Option AV → AW → Prop} {y0 : Int} {u0 u1 u2 u3 : AV} : R d 80 20 [u0, u1, u2, u3] [vI y0] (WS L σ) Q = Q (some (vI y0)) (WS L σ) := R_ireti fi_80_20 rfl
theorem fi_81_0 : am_find 81 0 = some (.aload_n 0, 1, 0, 0, 0) := by decide +kernel
theorem fi_81_1 : am_find 81 1 = some (.iconst 2, 1, 0, 2, 0) := by decide +kernel
theorem fi_81_2 : am_find 81 2 = some (.iconst 0, 1, 0, 0, 0) := by decide +kernel
theorem fi_81_3 : am_find 81 3 = some (.iload_n 1, 1, 0, 0, 0) := by decide +kernel
theorem fi_81_4 : am_find 81 4 = some (.invokevirtual 97, 3, 35, 3, 86) := by decide +kernel
theorem fi_81_7 : am_find 81 7 = some (.ireturn, 1, 0, 0, 0) := by decide +kernel
theorem b81_0 {d L : Nat} {σ : St} {Q : Option AV → AW → Prop} {x1 : Int} : R (d + 1) 81 0 [vR 20, vI x1] [] (WS L σ) Q = R d 35 0 [vR 20, vI 2, vI 0, vI x1, vX 9, vX 9, vX 9, vX 9] [] (WS L σ) (fun r w => R (d + 1) 81 7 [vR 20, vI x1] (am_push r []) w Q) := K_aload_n fi_81_0 rfl <| K_iconst fi_81_1 <| K_iconst fi_81_2 <| K_iload_n fi_81_3 rfl <| R_invV fi_81_4 (am_invV_of rfl (kd_20) (Nat.le_of_ble_eq_true rfl) (Nat.le_of_ble_eq_true rfl) rfl rfl)
theorem b81_7 {d L : Nat} {σ : St} {Q : Option AV → AW → Prop} {y0 : Int} {u0 u1 : AV} : R d 81 7 [u0, u1] [vI y0] (WS L σ) Q = Q (some (vI y0)) (WS L σ) := R_ireti fi_81_7 rfl
theorem fi_82_0 : am_find 82 0 = some (.aload_n 0, 1, 0, 0, 0) := by decide +kernel
theorem fi_82_1 : am_find 82 1 = some (.aload_n 0, 1, 0, 0, 0) := by decide +kernel
theorem fi_82_2 : am_find 82 2 = some (.getfield 23, 3, 1, 0, 31) := by decide +kernel
theorem fi_82_5 : am_find 82 5 = some (.getfield 53, 3, 8, 3, 61) := by decide +kernel
theorem fi_82_8 : am_find 82 8 = some (.iconst 0, 1, 0, 0, 0) := by decide +kernel
theorem fi_82_9 : am_find 82 9 = some (.invokevirtual 56, 3, 83, 2, 87) := by decide +kernel
theorem fi_82_12 : am_find 82 12 = some (.aload_n 0, 1, 0, 0, 0) := by decide +kernel
theorem fi_82_13 : am_find 82 13 = some (.aload_n 0, 1, 0, 0, 0) := by decide +kernel
theorem fi_82_14 : am_find 82 14 = some (.invokevirtual 60, 3, 84, 0, 88) := by decide +kernel
theorem fi_82_17 : am_find 82 17 = some (.iload_n 1, 1, 0, 0, 0) := by decide +kernel
theorem fi_82_18 : am_find 82 18 = some (.iconst 0, 1, 0, 0, 0) := by decide +kernel
theorem fi_82_19 : am_find 82 19 = some (.invokevirtual 64, 3, 85, 3, 89) := by decide +kernel
theorem fi_82_22 : am_find 82 22 = some (.ireturn, 1, 0, 0, 0) := by decide +kernel
theorem b82_0 {d L : Nat} {σ : St} {Q : Option AV → AW → Prop} {u1 : AV} : R (d + 1) 82 0 [vR 139, u1] [] (WS L σ) Q = R d 83 0 [vR 139, vI (σ 20 3), vI 0, vX 9, vX 9, vX 9] [] (WS L σ) (fun r w => R (d + 1) 82 12 [vR 139, u1] (am_push r []) w Q) := K_aload_n fi_82_0 rfl <| K_aload_n fi_82_1 rfl <| K_gf fi_82_2 kd_139 mk_139_0 <| K_gf fi_82_5 kd_20 mk_20_3 <| K_iconst fi_82_8 <| R_invV fi_82_9 (am_invV_of rfl (kd_139) (Nat.le_of_ble_eq_true rfl) (Nat.le_of_ble_eq_true rfl) rfl rfl)
theorem b82_12 {d L : Nat} {σ : St} {Q : Option AV → AW → Prop} {u1 : AV} : R (d + 1) 82 12 [vR 139, u1] [] (WS L σ) Q = R d 84 0 [vR 139, vX 9] [] (WS L σ) (fun r w => R (d + 1) 82 17 [vR 139, u1] (am_push r [vR 139]) w Q) := K_aload_n fi_82_12 rfl <| K_aload_n fi_82_13 rfl <| R_invV fi_82_14 (am_invV_of rfl (kd_139) (Nat.le_of_ble_eq_true rfl) (Nat.le_of_ble_eq_true rfl) rfl rfl)
theorem b82_17 {d L : Nat} {σ : St} {Q : Option AV → AW → Prop} {y0 x1 : Int} {u0 : AV} : R (d + 1) 82 17 [u0, vI x1] [vI y0, vR 139] (WS L σ) Q = R d 85 0 [vR 139, vI y0, vI x1, vI 0, vX 9, vX 9, vX 9, vX 9, vX 9, vX 9] [] (WS L σ) (fun r w => R (d + 1) 82 22 [u0, vI x1] (am_push r []) w Q) := K_iload_n fi_82_17 rfl <| K_iconst fi_82_18 <| R_invV fi_82_19 (am_invV_of rfl (kd_139) (Nat.le_of_ble_eq_true rfl) (Nat.le_of_ble_eq_true rfl) rfl rfl)
theorem b82_22 {d L : Nat} {σ : St} {Q : Option AV → AW → Prop} {y0 : Int} {u0 u1 : AV} : R d 82 22 [u0, u1] [vI y0] (WS L σ) Q = Q (some (vI y0)) (WS L σ) := R_ireti fi_82_22 rfl
theorem fi_83_0 : am_find 83 0 = some (.aload_n 0, 1, 0, 0, 0) := by decide +kernel
theorem fi_83_1 : am_find 83 1 = some (.getfield 19, 3, 1, 4, 30) := by decide +kernel
theorem fi_83_4 : am_find 83 4 = some (.aload_n 0, 1, 0, 0, 0) := by decide +kernel
theorem fi_83_5 : am_find 83 5 = some (.getfield 23, 3, 1, 0, 31) := by decide +kernel
theorem fi_83_8 : am_find 83 8 = some (.getfield 27, 3, 8, 5, 62) := by decide +kernel
theorem fi_83_11 : am_find 83 11 = some (.if_icmp .ne 7, 3, 0, 0, 0) := by decide +kernel
theorem fi_83_14 : am_find 83 14 = some (.iconst 1, 1, 0, 1, 0) := by decide +kernel
theorem fi_83_15 : am_find 83 15 = some (.goto 4, 3, 0, 0, 0) := by decide +kernel
theorem fi_83_18 : am_find 83 18 = some (.iconst 0, 1, 0, 0, 0) := by decide +kernel
theorem fi_83_19 : am_find 83 19 = some (.istore_n 3, 1, 0, 0, 0) := by decide +kernel
theorem fi_83_20 : am_find 83 20 = some (.iconst 0, 1, 0, 0, 0) := by decide +kernel
theorem fi_83_21 : am_find 83 21 = some (.istore 4, 2, 0, 0, 0) := by decide +kernel
theorem fi_83_23 : am_find 83 23 = some (.iload 4, 2, 0, 0, 0) := by decide +kernel
theorem fi_83_25 : am_find 83 25 = some (.aload_n 0, 1, 0, 0, 0) := by decide +kernel
theorem fi_83_26 : am_find 83 26 = some (.getfield 9, 3, 1, 1, 28) := by decide +kernel
theorem fi_83_29 : am_find 83 29 = some (.arraylength, 1, 0, 0, 0) := by decide +kernel
theorem fi_83_30 : am_find 83 30 = some (.if_icmp .ge 66, 3, 0, 0, 0) := by decide +kernel
theorem fi_83_33 : am_find 83 33 = some (.aload_n 0, 1, 0, 0, 0) := by decide +kernel
theorem fi_83_34 : am_find 83 34 = some (.getfield 23, 3, 1, 0, 31) := by decide +kernel
theorem fi_83_37 : am_find 83 37 = some (.iload_n 1, 1, 0, 0, 0) := by decide +kernel
theorem fi_83_38 : am_find 83 38 = some (.iload 4, 2, 0, 0, 0) := by decide +kernel
theorem fi_83_40 : am_find 83 40 = some (.invokevirtual 30, 3, 63, 2, 90) := by decide +kernel
theorem fi_83_43 : am_find 83 43 = some (.istore 5, 2, 0, 0, 0) := by decide +kernel
theorem fi_83_45 : am_find 83 45 = some (.iload_n 2, 1, 0, 0, 0) := by decide +kernel
theorem fi_83_46 : am_find 83 46 = some (.ifCond .eq 15, 3, 0, 0, 0) := by decide +kernel
theorem fi_83_49 : am_find 83 49 = some (.iload 5, 2, 0, 0, 0) := by decide +kernel
theorem fi_83_51 : am_find 83 51 = some (.iconst 2, 1, 0, 2, 0) := by decide +kernel
theorem fi_83_52 : am_find 83 52 = some (.if_icmp .ge 9, 3, 0, 0, 0) := by decide +kernel
theorem fi_83_55 : am_find 83 55 = some (.iconst 1, 1, 0, 1, 0) := by decide +kernel
theorem fi_83_56 : am_find 83 56 = some (.iload 5, 2, 0, 0, 0) := by decide +kernel
theorem fi_83_58 : am_find 83 58 = some (.isub, 1, 0, 0, 0) := by decide +kernel
theorem fi_83_59 : am_find 83 59 = some (.istore 5, 2, 0, 0, 0) := by decide +kernel
theorem fi_83_61 : am_find 83 61 = some (.iload_n 3, 1, 0, 0, 0) := by decide +kernel
theorem fi_83_62 : am_find 83 62 = some (.aload_n 0, 1, 0, 0, 0) := by decide +kernel
theorem fi_83_63 : am_find 83 63 = some (.getfield 9, 3, 1, 1, 28) := by decide +kernel
theorem fi_83_66 : am_find 83 66 = some (.iload 4, 2, 0, 0, 0) := by decide +kernel
theorem fi_83_68 : am_find 83 68 = some (.iaload, 1, 0, 0, 0) := by decide +kernel
theorem fi_83_69 : am_find 83 69 = some (.iload 5, 2, 0, 0, 0) := by decide +kernel
theorem fi_83_71 : am_find 83 71 = some (.if_icmp .ne 7, 3, 0, 0, 0) := by decide +kernel
theorem fi_83_74 : am_find 83 74 = some (.iconst 1, 1, 0, 1, 0) := by decide +kernel
theorem fi_83_75 : am_find 83 75 = some (.goto 4, 3, 0, 0, 0) := by decide +kernel
theorem fi_83_78 : am_find 83 78 = some (.iconst 0, 1, 0, 0, 0) := by decide +kernel
theorem fi_83_79 : am_find 83 79 = some (.iand, 1, 0, 0, 0) := by decide +kernel
theorem fi_83_80 : am_find 83 80 = some (.istore_n 3, 1, 0, 0, 0) := by decide +kernel
theorem fi_83_81 : am_find 83 81 = some (.aload_n 0, 1, 0, 0, 0) := by decide +kernel
theorem fi_83_82 : am_find 83 82 = some (.getfield 9, 3, 1, 1, 28) := by decide +kernel
theorem fi_83_85 : am_find 83 85 = some (.iload 4, 2, 0, 0, 0) := by decide +kernel
theorem fi_83_87 : am_find 83 87 = some (.iload 5, 2, 0, 0, 0) := by decide +kernel
theorem fi_83_89 : am_find 83 89 = some (.iastore, 1, 0, 0, 0) := by decide +kernel
theorem fi_83_90 : am_find 83 90 = some (.iinc 4 1, 3, 0, 0, 0) := by decide +kernel
theorem fi_83_93 : am_find 83 93 = some (.goto (-70), 3, 0, 0, 0) := by decide +kernel
theorem fi_83_96 : am_find 83 96 = some (.aload_n 0, 1, 0, 0, 0) := by decide +kernel
theorem fi_83_97 : am_find 83 97 = some (.aload_n 0, 1, 0, 0, 0) := by decide +kernel
theorem fi_83_98 : am_find 83 98 = some (.getfield 23, 3, 1, 0, 31) := by decide +kernel
theorem fi_83_101 : am_find 83 101 = some (.getfield 27, 3, 8, 5, 62) := by decide +kernel
theorem fi_83_104 : am_find 83 104 = some (.putfield 19, 3, 1, 4, 30) := by decide +kernel
theorem fi_83_107 : am_find 83 107 = some (.aload_n 0, 1, 0, 0, 0) := by decide +kernel
theorem fi_83_108 : am_find 83 108 = some (.dup, 1, 0, 0, 0) := by decide +kernel
theorem fi_83_109 : am_find 83 109 = some (.getfield 34, 3, 1, 3, 63) := by decide +kernel
theorem fi_83_112 : am_find 83 112 = some (.iload_n 3, 1, 0, 0, 0) := by decide +kernel
theorem fi_83_113 : am_find 83 113 = some (.ifCond .eq 7, 3, 0, 0, 0) := by decide +kernel
theorem fi_83_116 : am_find 83 116 = some (.iconst 0, 1, 0, 0, 0) := by decide +kernel
theorem fi_83_117 : am_find 83 117 = some (.goto 4, 3, 0, 0, 0) := by decide +kernel
theorem fi_83_120 : am_find 83 120 = some (.iconst 1, 1, 0, 1, 0) := by decide +kernel
theorem fi_83_121 : am_find 83 121 = some (.iadd, 1, 0, 0, 0) := by decide +kernel
theorem fi_83_122 : am_find 83 122 = some (.putfield 34, 3, 1, 3, 63) := by decide +kernel
theorem fi_83_125 : am_find 83 125 = some (.return_, 1, 0, 0, 0) := by decide +kernel
theorem b83_0 {d L : Nat} {σ : St} {Q : Option AV → AW → Prop} {u1 u2 u3 u4 u5 : AV} : R d 83 0 [vR 139, u1, u2, u3, u4, u5] [] (WS L σ) Q = if ¬ (σ 139 4) = (σ 20 5) then R d 83 18 [vR 139, u1, u2, u3, u4, u5] [] (WS L σ) Q else R d 83 14 [vR 139, u1, u2, u3, u4, u5] [] (WS L σ) Q := K_aload_n fi_83_0 rfl <| K_gf fi_83_1 kd_139 mk_139_4 <| K_aload_n fi_83_4 rfl <| K_gf fi_83_5 kd_139 mk_139_0 <| K_gf fi_83_8 kd_20 mk_20_5 <| R_icmp_ne fi_83_11 rfl
theorem b83_14 {d L : Nat} {σ : St} {Q : Option AV → AW → Prop} {u0 u1 u2 u3 u4 u5 : AV} : R d 83 14 [u0, u1, u2, u3, u4, u5] [] (WS L σ) Q = R d 83 19 [u0, u1, u2, u3, u4, u5] [vI 1] (WS L σ) Q := K_iconst fi_83_14 <| R_goto fi_83_15 rfl
theorem b83_18 {d L : Nat} {σ : St} {Q : Option AV → AW → Prop} {u0 u1 u2 u3 u4 u5 : AV} : R d 83 18 [u0, u1, u2, u3, u4, u5] [] (WS L σ) Q = R d 83 19 [u0, u1, u2, u3, u4, u5] [vI 0] (WS L σ) Q := K_iconst fi_83_18 <| rfl
theorem b83_19 {d L : Nat} {σ : St} {Q : Option AV → AW → Prop} {y0 : Int} {u0 u1 u2 u3 u4 u5 : AV} : R d 83 19 [u0, u1, u2, u3, u4, u5] [vI y0] (WS L σ) Q = R d 83 23 [u0, u1, u2, vI y0, vI 0, u5] [] (WS L σ) Q := K_istore_n fi_83_19 (Nat.le_of_ble_eq_true rfl) rfl rfl <| K_iconst fi_83_20 <| K_istore fi_83_21 (Nat.le_of_ble_eq_true rfl) rfl rfl <| rfl
theorem b83_23 {d L : Nat} {σ : St} {Q : Option AV → AW → Prop} {x4 : Int} {u1 u2 u3 u5 : AV} : R d 83 23 [vR 139, u1, u2, u3, vI x4, u5] [] (WS L σ) Q = if 8 ≤ x4 then R d 83 96 [vR 139, u1, u2, u3, vI x4, u5] [] (WS L σ) Q else R d 83 33 [vR 139, u1, u2, u3, vI x4, u5] [] (WS L σ) Q := K_iload fi_83_23 rfl <| K_aload_n fi_83_25 rfl <| K_gf fi_83_26 kd_139 mk_139_1 <| K_alenx fi_83_29 (Or.inl kd_140) rfl <| R_icmp_ge fi_83_30 rfl
theorem b83_33 {d L : Nat} {σ : St} {Q : Option AV → AW → Prop} {x1 x4 : Int} {u2 u3 u5 : AV} : R (d + 1) 83 33 [vR 139, vI x1, u2, u3, vI x4, u5] [] (WS L σ) Q = R d 63 0 [vR 20, vI x1, vI x4, vX 9, vX 9] [] (WS L σ) (fun r w => R (d + 1) 83 43 [vR 139, vI x1, u2, u3, vI x4, u5] (am_push r []) w Q) := K_aload_n fi_83_33 rfl <| K_gf fi_83_34 kd_139 mk_139_0 <| K_iload_n fi_83_37 rfl <| K_iload fi_83_38 rfl <| R_invV fi_83_40 (am_invV_of rfl (kd_20) (Nat.le_of_ble_eq_true rfl) (Nat.le_of_ble_eq_true rfl) rfl rfl)
theorem b83_43 {d L : Nat} {σ : St} {Q : Option AV → AW → Prop} {y0 x2 : Int} {u0 u1 u3 u4 u5 : AV} : R d 83 43 [u0, u1, vI x2, u3, u4, u5] [vI y0] (WS L σ) Q = if x2 = 0 then R d 83 61 [u0, u1, vI x2, u3, u4, vI y0] [] (WS L σ) Q else R d 83 49 [u0, u1, vI x2, u3, u4, vI y0] [] (WS L σ) Q := K_istore fi_83_43 (Nat.le_of_ble_eq_true rfl) rfl rfl <| K_iload_n fi_83_45 rfl <| R_if_eq fi_83_46 rfl
theorem b83_49 {d L : Nat} {σ : St} {Q : Option AV → AW → Prop} {x5 : Int} {u0 u1 u2 u3 u4 : AV} : R d 83 49 [u0, u1, u2, u3, u4, vI x5] [] (WS L σ) Q = if 2 ≤ x5 then R d 83 61 [u0, u1, u2, u3, u4, vI x5] [] (WS L σ) Q else R d 83 55 [u0, u1, u2, u3, u4, vI x5] [] (WS L σ) Q := K_iload fi_83_49 rfl <| K_iconst fi_83_51 <| R_icmp_ge fi_83_52 rfl
theorem b83_55 {d L : Nat} {σ : St} {Q : Option AV → AW → Prop} {x5 : Int} {u0 u1 u2 u3 u4 : AV} (h1 : -2147483648 ≤ 1 - x5 ∧ 1 - x5 ≤ 2147483647) : R d 83 55 [u0, u1, u2, u3, u4, vI x5] [] (WS L σ) Q = R d 83 61 [u0, u1, u2, u3, u4, vI (1 - x5)] [] (WS L σ) Q := K_iconst fi_83_55 <| K_iload fi_83_56 rfl <| K_isubx fi_83_58 h1 <| K_istore fi_83_59 (Nat.le_of_ble_eq_true rfl) rfl rfl <| rfl
theorem b83_61 {d L : Nat} {σ : St} {Q : Option AV → AW → Prop} {x3 x4 x5 : Int} {u1 u2 : AV} (h1 : 0 ≤ x4) (h2 : x4 < 8) : R d 83 61 [vR 139, u1, u2, vI x3, vI x4, vI x5] [] (WS L σ) Q = if ¬ (σ 140 x4) = x5 then R d 83 78 [vR 139, u1, u2, vI x3, vI x4, vI x5] [vI x3] (WS L σ) Q else R d 83 74 [vR 139, u1, u2, vI x3, vI x4, vI x5] [vI x3] (WS L σ) Q := K_iload_n fi_83_61 rfl <| K_aload_n fi_83_62 rfl <| K_gf fi_83_63 kd_139 mk_139_1 <| K_iload fi_83_66 rfl <| K_ia fi_83_68 kd_140 h1 h2 <| K_iload fi_83_69 rfl <| R_icmp_ne fi_83_71 rfl
theorem b83_74 {d L : Nat} {σ : St} {Q : Option AV → AW → Prop} {y0 : Int} {u0 u1 u2 u3 u4 u5 : AV} : R d 83 74 [u0, u1, u2, u3, u4, u5] [vI y0] (WS L σ) Q = R d 83 79 [u0, u1, u2, u3, u4, u5] [vI 1, vI y0] (WS L σ) Q := K_iconst fi_83_74 <| R_goto fi_83_75 rfl
theorem b83_78 {d L : Nat} {σ : St} {Q : Option AV → AW → Prop} {y0 : Int} {u0 u1 u2 u3 u4 u5 : AV} : R d 83 78 [u0, u1, u2, u3, u4, u5] [vI y0] (WS L σ) Q = R d 83 79 [u0, u1, u2, u3, u4, u5] [vI 0, vI y0] (WS L σ) Q := K_iconst fi_83_78 <| rfl
theorem b83_79 {d L : Nat} {σ : St} {Q : Option AV → AW → Prop} {y0 y1 x4 x5 : Int} {u1 u2 u3 : AV} (h1 : 0 ≤ x4) (h2 : x4 < 8) : R d 83 79 [vR 139, u1, u2, u3, vI x4, vI x5] [vI y0, vI y1] (WS L σ) Q = R d 83 90 [vR 139, u1, u2, vI (i_and y1 y0), vI x4, vI x5] [] (WS L (st2 σ 140 x4 x5)) Q := K_iand fi_83_79 <| K_istore_n fi_83_80 (Nat.le_of_ble_eq_true rfl) rfl rfl <| K_aload_n fi_83_81 rfl <| K_gf fi_83_82 kd_139 mk_139_1 <| K_iload fi_83_85 rfl <| K_iload fi_83_87 rfl <| K_is fi_83_89 kd_140 h1 h2 <| rfl
theorem b83_90 {d L : Nat} {σ : St} {Q : Option AV → AW → Prop} {x4 : Int} {u0 u1 u2 u3 u5 : AV} (h1 : -2147483648 ≤ x4 + 1 ∧ x4 + 1 ≤ 2147483647) : R d 83 90 [u0, u1, u2, u3, vI x4, u5] [] (WS L σ) Q = R d 83 23 [u0, u1, u2, u3, vI (x4 + 1), u5] [] (WS L σ) Q := K_iincx fi_83_90 rfl (Nat.le_of_ble_eq_true rfl) rfl h1 rfl <| R_goto fi_83_93 rfl
theorem b83_96 {d L : Nat} {σ : St} {Q : Option AV → AW → Prop} {u1 u2 u3 u4 u5 : AV} : R d 83 96 [vR 139, u1, u2, u3, u4, u5] [] (WS L σ) Q = R d 83 107 [vR 139, u1, u2, u3, u4, u5] [] (WS L (st2 σ 139 4 (σ 20 5))) Q := K_aload_n fi_83_96 rfl <| K_aload_n fi_83_97 rfl <| K_gf fi_83_98 kd_139 mk_139_0 <| K_gf fi_83_101 kd_20 mk_20_5 <| K_pf fi_83_104 kd_139 rfl rfl rfl rfl <| rfl
theorem b83_107 {d L : Nat} {σ : St} {Q : Option AV → AW → Prop} {x3 : Int} {u1 u2 u4 u5 : AV} : R d 83 107 [vR 139, u1, u2, vI x3, u4, u5] [] (WS L σ) Q = if x3 = 0 then R d 83 120 [vR 139, u1, u2, vI x3, u4, u5] [vI (σ 139 3), vR 139] (WS L σ) Q else R d 83 116 [vR 139, u1, u2, vI x3, u4, u5] [vI (σ 139 3), vR 139] (WS L σ) Q := K_aload_n fi_83_107 rfl <| K_dupr fi_83_108 <| K_gf fi_83_109 kd_139 mk_139_3 <| K_iload_n fi_83_112 rfl <| R_if_eq fi_83_113 rfl
theorem b83_116 {d L : Nat} {σ : St} {Q : Option AV → AW → Prop} {y0 : Int} {u0 u1 u2 u3 u4 u5 : AV} : R d 83 116 [u0, u1, u2, u3, u4, u5] [vI y0, vR 139] (WS L σ) Q = R d 83 121 [u0, u1, u2, u3, u4, u5] [vI 0, vI y0, vR 139] (WS L σ) Q := K_iconst fi_83_116 <| R_goto fi_83_117 rfl
theorem b83_120 {d L : Nat} {σ : St} {Q : Option AV → AW → Prop} {y0 : Int} {u0 u1 u2 u3 u4 u5 : AV} : R d 83 120 [u0, u1, u2, u3, u4, u5] [vI y0, vR 139] (WS L σ) Q = R d 83 121 [u0, u1, u2, u3, u4, u5] [vI 1, vI y0, vR 139] (WS L σ) Q := K_iconst fi_83_120 <| rfl
theorem b83_121 {d L : Nat} {σ : St} {Q : Option AV → AW → Prop} {y0 y1 : Int} {u0 u1 u2 u3 u4 u5 : AV} (h1 : -2147483648 ≤ y1 + y0 ∧ y1 + y0 ≤ 2147483647) : R d 83 121 [u0, u1, u2, u3, u4, u5] [vI y0, vI y1, vR 139] (WS L σ) Q = R d 83 125 [u0, u1, u2, u3, u4, u5] [] (WS L (st2 σ 139 3 (y1 + y0))) Q := K_iaddx fi_83_121 h1 <| K_pf fi_83_122 kd_139 rfl rfl rfl rfl <| rfl
theorem b83_125 {d L : Nat} {σ : St} {Q : Option AV → AW → Prop} {u0 u1 u2 u3 u4 u5 : AV} : R d 83 125 [u0, u1, u2, u3, u4, u5] [] (WS L σ) Q = Q none (WS L σ) := R_return fi_83_125
theorem fi_84_0 : am_find 84 0 = some (.aload_n 0, 1, 0, 0, 0) := by decide +kernel
theorem fi_84_1 : am_find 84 1 = some (.getfield 23, 3, 1, 0, 31) := by decide +kernel
theorem fi_84_4 : am_find 84 4 = some (.iconst 2, 1, 0, 2, 0) := by decide +kernel
theorem fi_84_5 : am_find 84 5 = some (.invokevirtual 37, 3, 72, 1, 91) := by decide +kernel
theorem fi_84_8 : am_find 84 8 = some (.istore_n 1, 1, 0, 0, 0) := by decide +kernel
theorem fi_84_9 : am_find 84 9 = some (.aload_n 0, 1, 0, 0, 0) := by decide +kernel
theorem fi_84_10 : am_find 84 10 = some (.getfield 23, 3, 1, 0, 31) := by decide +kernel
theorem fi_84_13 : am_find 84 13 = some (.iconst 0, 1, 0, 0, 0) := by decide +kernel
theorem fi_84_14 : am_find 84 14 = some (.invokevirtual 37, 3, 72, 1, 91) := by decide +kernel
theorem fi_84_17 : am_find 84 17 = some (.iload_n 1, 1, 0, 0, 0) := by decide +kernel
theorem fi_84_18 : am_find 84 18 = some (.ior, 1, 0, 0, 0) := by decide +kernel
theorem fi_84_19 : am_find 84 19 = some (.aload_n 0, 1, 0, 0, 0) := by decide +kernel
theorem fi_84_20 : am_find 84 20 = some (.getfield 23, 3, 1, 0, 31) := by decide +kernel
theorem fi_84_23 : am_find 84 23 = some (.iconst 1, 1, 0, 1, 0) := by decide +kernel
theorem fi_84_24 : am_find 84 24 = some (.invokevirtual 37, 3, 72, 1, 91) := by decide +kernel
theorem fi_84_27 : am_find 84 27 = some (.iload_n 1, 1, 0, 0, 0) := by decide +kernel
theorem fi_84_28 : am_find 84 28 = some (.ior, 1, 0, 0, 0) := by decide +kernel
theorem fi_84_29 : am_find 84 29 = some (.bipush 8, 2, 0, 8, 0) := by decide +kernel
theorem fi_84_31 : am_find 84 31 = some (.ishl, 1, 0, 0, 0) := by decide +kernel
theorem fi_84_32 : am_find 84 32 = some (.ior, 1, 0, 0, 0) := by decide +kernel
theorem fi_84_33 : am_find 84 33 = some (.ireturn, 1, 0, 0, 0) := by decide +kernel
theorem b84_0 {d L : Nat} {σ : St} {Q : Option AV → AW → Prop} {u1 : AV} : R (d + 1) 84 0 [vR 139, u1] [] (WS L σ) Q = R d 72 0 [vR 20, vI 2] [] (WS L σ) (fun r w => R (d + 1) 84 8 [vR 139, u1] (am_push r []) w Q) := K_aload_n fi_84_0 rfl <| K_gf fi_84_1 kd_139 mk_139_0 <| K_iconst fi_84_4 <| R_invV fi_84_5 (am_invV_of rfl (kd_20) (Nat.le_of_ble_eq_true rfl) (Nat.le_of_ble_eq_true rfl) rfl rfl)
theorem b84_8 {d L : Nat} {σ : St} {Q : Option AV → AW → Prop} {y0 : Int} {u1 : AV} : R (d + 1) 84 8 [vR 139, u1] [vI y0] (WS L σ) Q = R d 72 0 [vR 20, vI 0] [] (WS L σ) (fun r w => R (d + 1) 84 17 [vR 139, vI y0] (am_push r []) w Q) := K_istore_n fi_84_8 (Nat.le_of_ble_eq_true rfl) rfl rfl <| K_aload_n fi_84_9 rfl <| K_gf fi_84_10 kd_139 mk_139_0 <| K_iconst fi_84_13 <| R_invV fi_84_14 (am_invV_of rfl (kd_20) (Nat.le_of_ble_eq_true rfl) (Nat.le_of_ble_eq_true rfl) rfl rfl)
theorem b84_17 {d L : Nat} {σ : St} {Q : Option AV → AW → Prop} {y0 x1 : Int} : R (d + 1) 84 17 [vR 139, vI x1] [vI y0] (WS L σ) Q = R d 72 0 [vR 20, vI 1] [] (WS L σ) (fun r w => R (d + 1) 84 27 [vR 139, vI x1] (am_push r [vI (i_or y0 x1)]) w Q) := K_iload_n fi_84_17 rfl <| K_ior fi_84_18 <| K_aload_n fi_84_19 rfl <| K_gf fi_84_20 kd_139 mk_139_0 <| K_iconst fi_84_23 <| R_invV fi_84_24 (am_invV_of rfl (kd_20) (Nat.le_of_ble_eq_true rfl) (Nat.le_of_ble_eq_true rfl) rfl rfl)
theorem b84_27 {d L : Nat} {σ : St} {Q : Option AV → AW → Prop} {y0 y1 x1 : Int} {u0 : AV} : R d 84 27 [u0, vI x1] [vI y0, vI y1] (WS L σ) Q = Q (some (vI (i_or y1 (i_shl (i_or y0 x1) 8)))) (WS L σ) := K_iload_n fi_84_27 rfl <| K_ior fi_84_28 <| K_bipush fi_84_29 <| K_ishl fi_84_31 <| K_ior fi_84_32 <| R_ireti fi_84_33 rfl
theorem fi_85_0 : am_find 85 0 = some (.aload_n 0, 1, 0, 0, 0) := by decide +kernel
theorem fi_85_1 : am_find 85 1 = some (.getfield 23, 3, 1, 0, 31) := by decide +kernel
theorem fi_85_4 : am_find 85 4 = some (.invokevirtual 77, 3, 34, 0, 92) := by decide +kernel
theorem fi_85_7 : am_find 85 7 = some (.iload_n 1, 1, 0, 0, 0) := by decide +kernel
theorem fi_85_8 : am_find 85 8 = some (.invokestatic 41, 3, 86, 1, 93) := by decide +kernel
theorem fi_85_11 : am_find 85 11 = some (.iconst (-1), 1, 0, (-1), 0) := by decide +kernel
theorem fi_85_12 : am_find 85 12 = some (.ixor, 1, 0, 0, 0) := by decide +kernel
theorem fi_85_13 : am_find 85 13 = some (.iand, 1, 0, 0, 0) := by decide +kernel
theorem fi_85_14 : am_find 85 14 = some (.istore 4, 2, 0, 0, 0) := by decide +kernel
theorem fi_85_16 : am_find 85 16 = some (.bipush (-5), 2, 0, (-5), 0) := by decide +kernel
theorem fi_85_18 : am_find 85 18 = some (.istore 5, 2, 0, 0, 0) := by decide +kernel
theorem fi_85_20 : am_find 85 20 = some (.ldc 80, 2, 0, (-1000000), 765) := by decide +kernel
theorem fi_85_22 : am_find 85 22 = some (.istore 6, 2, 0, 0, 0) := by decide +kernel
theorem fi_85_24 : am_find 85 24 = some (.iconst 0, 1, 0, 0, 0) := by decide +kernel
theorem fi_85_25 : am_find 85 25 = some (.istore 7, 2, 0, 0, 0) := by decide +kernel
theorem fi_85_27 : am_find 85 27 = some (.iload 7, 2, 0, 0, 0) := by decide +kernel
theorem fi_85_29 : am_find 85 29 = some (.bipush 8, 2, 0, 8, 0) := by decide +kernel
theorem fi_85_31 : am_find 85 31 = some (.if_icmp .ge 67, 3, 0, 0, 0) := by decide +kernel
theorem fi_85_34 : am_find 85 34 = some (.iload 4, 2, 0, 0, 0) := by decide +kernel
theorem fi_85_36 : am_find 85 36 = some (.iload 7, 2, 0, 0, 0) := by decide +kernel
theorem fi_85_38 : am_find 85 38 = some (.ishr, 1, 0, 0, 0) := by decide +kernel
theorem fi_85_39 : am_find 85 39 = some (.iconst 1, 1, 0, 1, 0) := by decide +kernel
theorem fi_85_40 : am_find 85 40 = some (.iand, 1, 0, 0, 0) := by decide +kernel
theorem fi_85_41 : am_find 85 41 = some (.iconst 1, 1, 0, 1, 0) := by decide +kernel
theorem fi_85_42 : am_find 85 42 = some (.if_icmp .ne 50, 3, 0, 0, 0) := by decide +kernel
theorem fi_85_45 : am_find 85 45 = some (.aload_n 0, 1, 0, 0, 0) := by decide +kernel
theorem fi_85_46 : am_find 85 46 = some (.iload_n 1, 1, 0, 0, 0) := by decide +kernel
theorem fi_85_47 : am_find 85 47 = some (.iload 7, 2, 0, 0, 0) := by decide +kernel
theorem fi_85_49 : am_find 85 49 = some (.iload_n 2, 1, 0, 0, 0) := by decide +kernel
theorem fi_85_50 : am_find 85 50 = some (.invokestatic 81, 3, 87, 3, 94) := by decide +kernel
theorem fi_85_53 : am_find 85 53 = some (.iload_n 3, 1, 0, 0, 0) := by decide +kernel
theorem fi_85_54 : am_find 85 54 = some (.iconst 1, 1, 0, 1, 0) := by decide +kernel
theorem fi_85_55 : am_find 85 55 = some (.iadd, 1, 0, 0, 0) := by decide +kernel
theorem fi_85_56 : am_find 85 56 = some (.invokevirtual 68, 3, 88, 2, 95) := by decide +kernel
theorem fi_85_59 : am_find 85 59 = some (.istore 8, 2, 0, 0, 0) := by decide +kernel
theorem fi_85_61 : am_find 85 61 = some (.aload_n 0, 1, 0, 0, 0) := by decide +kernel
theorem fi_85_62 : am_find 85 62 = some (.getfield 23, 3, 1, 0, 31) := by decide +kernel
theorem fi_85_65 : am_find 85 65 = some (.iload_n 2, 1, 0, 0, 0) := by decide +kernel
theorem fi_85_66 : am_find 85 66 = some (.iload 8, 2, 0, 0, 0) := by decide +kernel
theorem fi_85_68 : am_find 85 68 = some (.iload_n 2, 1, 0, 0, 0) := by decide +kernel
theorem fi_85_69 : am_find 85 69 = some (.invokestatic 71, 3, 90, 2, 96) := by decide +kernel
theorem fi_85_72 : am_find 85 72 = some (.invokevirtual 74, 3, 57, 2, 97) := by decide +kernel
theorem fi_85_75 : am_find 85 75 = some (.istore 9, 2, 0, 0, 0) := by decide +kernel
theorem fi_85_77 : am_find 85 77 = some (.iload 9, 2, 0, 0, 0) := by decide +kernel
theorem fi_85_79 : am_find 85 79 = some (.iload 6, 2, 0, 0, 0) := by decide +kernel
theorem fi_85_81 : am_find 85 81 = some (.if_icmp .le 11, 3, 0, 0, 0) := by decide +kernel
theorem fi_85_84 : am_find 85 84 = some (.iload 7, 2, 0, 0, 0) := by decide +kernel
theorem fi_85_86 : am_find 85 86 = some (.istore 5, 2, 0, 0, 0) := by decide +kernel
theorem fi_85_88 : am_find 85 88 = some (.iload 9, 2, 0, 0, 0) := by decide +kernel
theorem fi_85_90 : am_find 85 90 = some (.istore 6, 2, 0, 0, 0) := by decide +kernel
theorem fi_85_92 : am_find 85 92 = some (.iinc 7 1, 3, 0, 0, 0) := by decide +kernel
theorem fi_85_95 : am_find 85 95 = some (.goto (-68), 3, 0, 0, 0) := by decide +kernel
theorem fi_85_98 : am_find 85 98 = some (.iload 5, 2, 0, 0, 0) := by decide +kernel
theorem fi_85_100 : am_find 85 100 = some (.ireturn, 1, 0, 0, 0) := by decide +kernel
theorem b85_0 {d L : Nat} {σ : St} {Q : Option AV → AW → Prop} {u1 u2 u3 u4 u5 u6 u7 u8 u9 : AV} : R (d + 1) 85 0 [vR 139, u1, u2, u3, u4, u5, u6, u7, u8, u9] [] (WS L σ) Q = R d 34 0 [vR 20] [] (WS L σ) (fun r w => R (d + 1) 85 7 [vR 139, u1, u2, u3, u4, u5, u6, u7, u8, u9] (am_push r []) w Q) := K_aload_n fi_85_0 rfl <| K_gf fi_85_1 kd_139 mk_139_0 <| R_invV fi_85_4 (am_invV_of rfl (kd_20) (Nat.le_of_ble_eq_true rfl) (Nat.le_of_ble_eq_true rfl) rfl rfl)
theorem b85_7 {d L : Nat} {σ : St} {Q : Option AV → AW → Prop} {y0 x1 : Int} {u0 u2 u3 u4 u5 u6 u7 u8 u9 : AV} : R (d + 1) 85 7 [u0, vI x1, u2, u3, u4, u5, u6, u7, u8, u9] [vI y0] (WS L σ) Q = R d 86 0 [vI x1] [] (WS L σ) (fun r w => R (d + 1) 85 11 [u0, vI x1, u2, u3, u4, u5, u6, u7, u8, u9] (am_push r [vI y0]) w Q) := K_iload_n fi_85_7 rfl <| R_invS fi_85_8 (by decide) (am_invS_of (Nat.le_of_ble_eq_true rfl) rfl (Nat.le_of_ble_eq_true rfl) (Nat.le_of_ble_eq_true rfl) rfl rfl)
theorem b85_11 {d L : Nat} {σ : St} {Q : Option AV → AW → Prop} {y0 y1 : Int} {u0 u1 u2 u3 u4 u5 u6 u7 u8 u9 : AV} : R d 85 11 [u0, u1, u2, u3, u4, u5, u6, u7, u8, u9] [vI y0, vI y1] (WS L σ) Q = R d 85 27 [u0, u1, u2, u3, vI (i_and y1 (i_xor y0 (-1))), vI (-5), vI (-1000000), vI 0, u8, u9] [] (WS L σ) Q := K_iconst fi_85_11 <| K_ixor fi_85_12 <| K_iand fi_85_13 <| K_istore fi_85_14 (Nat.le_of_ble_eq_true rfl) rfl rfl <| K_bipush fi_85_16 <| K_istore fi_85_18 (Nat.le_of_ble_eq_true rfl) rfl rfl <| K_ldci fi_85_20 <| K_istore fi_85_22 (Nat.le_of_ble_eq_true rfl) rfl rfl <| K_iconst fi_85_24 <| K_istore fi_85_25 (Nat.le_of_ble_eq_true rfl) rfl rfl <| rfl
theorem b85_27 {d L : Nat} {σ : St} {Q : Option AV → AW → Prop} {x7 : Int} {u0 u1 u2 u3 u4 u5 u6 u8 u9 : AV} : R d 85 27 [u0, u1, u2, u3, u4, u5, u6, vI x7, u8, u9] [] (WS L σ) Q = if 8 ≤ x7 then R d 85 98 [u0, u1, u2, u3, u4, u5, u6, vI x7, u8, u9] [] (WS L σ) Q else R d 85 34 [u0, u1, u2, u3, u4, u5, u6, vI x7, u8, u9] [] (WS L σ) Q := K_iload fi_85_27 rfl <| K_bipush fi_85_29 <| R_icmp_ge fi_85_31 rfl
theorem b85_34 {d L : Nat} {σ : St} {Q : Option AV → AW → Prop} {x4 x7 : Int} {u0 u1 u2 u3 u5 u6 u8 u9 : AV} : R d 85 34 [u0, u1, u2, u3, vI x4, u5, u6, vI x7, u8, u9] [] (WS L σ) Q = if ¬ (i_and (i_shr x4 x7) 1) = 1 then R d 85 92 [u0, u1, u2, u3, vI x4, u5, u6, vI x7, u8, u9] [] (WS L σ) Q else R d 85 45 [u0, u1, u2, u3, vI x4, u5, u6, vI x7, u8, u9] [] (WS L σ) Q := K_iload fi_85_34 rfl <| K_iload fi_85_36 rfl <| K_ishr fi_85_38 <| K_iconst fi_85_39 <| K_iand fi_85_40 <| K_iconst fi_85_41 <| R_icmp_ne fi_85_42 rfl
theorem b85_45 {d L : Nat} {σ : St} {Q : Option AV → AW → Prop} {x1 x7 x2 : Int} {u3 u4 u5 u6 u8 u9 : AV} : R (d + 1) 85 45 [vR 139, vI x1, vI x2, u3, u4, u5, u6, vI x7, u8, u9] [] (WS L σ) Q = R d 87 0 [vI x1, vI x7, vI x2, vX 9] [] (WS L σ) (fun r w => R (d + 1) 85 53 [vR 139, vI x1, vI x2, u3, u4, u5, u6, vI x7, u8, u9] (am_push r [vR 139]) w Q) := K_aload_n fi_85_45 rfl <| K_iload_n fi_85_46 rfl <| K_iload fi_85_47 rfl <| K_iload_n fi_85_49 rfl <| R_invS fi_85_50 (by decide) (am_invS_of (Nat.le_of_ble_eq_true rfl) rfl (Nat.le_of_ble_eq_true rfl) (Nat.le_of_ble_eq_true rfl) rfl rfl)
theorem b85_53 {d L : Nat} {σ : St} {Q : Option AV → AW → Prop} {y0 x3 : Int} {u0 u1 u2 u4 u5 u6 u7 u8 u9 : AV} (h1 : -2147483648 ≤ x3 + 1 ∧ x3 + 1 ≤ 2147483647) : R (d + 1) 85 53 [u0, u1, u2, vI x3, u4, u5, u6, u7, u8, u9] [vI y0, vR 139] (WS L σ) Q = R d 88 0 [vR 139, vI y0, vI (x3 + 1), vX 9, vX 9, vX 9, vX 9] [] (WS L σ) (fun r w => R (d + 1) 85 59 [u0, u1, u2, vI x3, u4, u5, u6, u7, u8, u9] (am_push r []) w Q) := K_iload_n fi_85_53 rfl <| K_iconst fi_85_54 <| K_iaddx fi_85_55 h1 <| R_invV fi_85_56 (am_invV_of rfl (kd_139) (Nat.le_of_ble_eq_true rfl) (Nat.le_of_ble_eq_true rfl) rfl rfl)
theorem b85_59 {d L : Nat} {σ : St} {Q : Option AV → AW → Prop} {y0 x2 : Int} {u1 u3 u4 u5 u6 u7 u8 u9 : AV} : R (d + 1) 85 59 [vR 139, u1, vI x2, u3, u4, u5, u6, u7, u8, u9] [vI y0] (WS L σ) Q = R d 90 0 [vI y0, vI x2, vX 9, vX 9] [] (WS L σ) (fun r w => R (d + 1) 85 72 [vR 139, u1, vI x2, u3, u4, u5, u6, u7, vI y0, u9] (am_push r [vI x2, vR 20]) w Q) := K_istore fi_85_59 (Nat.le_of_ble_eq_true rfl) rfl rfl <| K_aload_n fi_85_61 rfl <| K_gf fi_85_62 kd_139 mk_139_0 <| K_iload_n fi_85_65 rfl <| K_iload fi_85_66 rfl <| K_iload_n fi_85_68 rfl <| R_invS fi_85_69 (by decide) (am_invS_of (Nat.le_of_ble_eq_true rfl) rfl (Nat.le_of_ble_eq_true rfl) (Nat.le_of_ble_eq_true rfl) rfl rfl)
theorem b85_72 {d L : Nat} {σ : St} {Q : Option AV → AW → Prop} {y0 y1 : Int} {u0 u1 u2 u3 u4 u5 u6 u7 u8 u9 : AV} : R (d + 1) 85 72 [u0, u1, u2, u3, u4, u5, u6, u7, u8, u9] [vI y0, vI y1, vR 20] (WS L σ) Q = R d 57 0 [vR 20, vI y1, vI y0, vX 9] [] (WS L σ) (fun r w => R (d + 1) 85 75 [u0, u1, u2, u3, u4, u5, u6, u7, u8, u9] (am_push r []) w Q) := R_invV fi_85_72 (am_invV_of rfl (kd_20) (Nat.le_of_ble_eq_true rfl) (Nat.le_of_ble_eq_true rfl) rfl rfl)
theorem b85_75 {d L : Nat} {σ : St} {Q : Option AV → AW → Prop} {y0 x6 : Int} {u0 u1 u2 u3 u4 u5 u7 u8 u9 : AV} : R d 85 75 [u0, u1, u2, u3, u4, u5, vI x6, u7, u8, u9] [vI y0] (WS L σ) Q = if y0 ≤ x6 then R d 85 92 [u0, u1, u2, u3, u4, u5, vI x6, u7, u8, vI y0] [] (WS L σ) Q else R d 85 84 [u0, u1, u2, u3, u4, u5, vI x6, u7, u8, vI y0] [] (WS L σ) Q := K_istore fi_85_75 (Nat.le_of_ble_eq_true rfl) rfl rfl <| K_iload fi_85_77 rfl <| K_iload fi_85_79 rfl <| R_icmp_le fi_85_81 rfl
theorem b85_84 {d L : Nat} {σ : St} {Q : Option AV → AW → Prop} {x7 x9 : Int} {u0 u1 u2 u3 u4 u5 u6 u8 : AV} : R d 85 84 [u0, u1, u2, u3, u4, u5, u6, vI x7, u8, vI x9] [] (WS L σ) Q = R d 85 92 [u0, u1, u2, u3, u4, vI x7, vI x9, vI x7, u8, vI x9] [] (WS L σ) Q := K_iload fi_85_84 rfl <| K_istore fi_85_86 (Nat.le_of_ble_eq_true rfl) rfl rfl <| K_iload fi_85_88 rfl <| K_istore fi_85_90 (Nat.le_of_ble_eq_true rfl) rfl rfl <| rfl
theorem b85_92 {d L : Nat} {σ : St} {Q : Option AV → AW → Prop} {x7 : Int} {u0 u1 u2 u3 u4 u5 u6 u8 u9 : AV} (h1 : -2147483648 ≤ x7 + 1 ∧ x7 + 1 ≤ 2147483647) : R d 85 92 [u0, u1, u2, u3, u4, u5, u6, vI x7, u8, u9] [] (WS L σ) Q = R d 85 27 [u0, u1, u2, u3, u4, u5, u6, vI (x7 + 1), u8, u9] [] (WS L σ) Q := K_iincx fi_85_92 rfl (Nat.le_of_ble_eq_true rfl) rfl h1 rfl <| R_goto fi_85_95 rfl
theorem b85_98 {d L : Nat} {σ : St} {Q : Option AV → AW → Prop} {x5 : Int} {u0 u1 u2 u3 u4 u6 u7 u8 u9 : AV} : R d 85 98 [u0, u1, u2, u3, u4, vI x5, u6, u7, u8, u9] [] (WS L σ) Q = Q (some (vI x5)) (WS L σ) := K_iload fi_85_98 rfl <| R_ireti fi_85_100 rfl
theorem fi_86_0 : am_find 86 0 = some (.iload_n 0, 1, 0, 0, 0) := by decide +kernel
theorem fi_86_1 : am_find 86 1 = some (.iload_n 0, 1, 0, 0, 0) := by decide +kernel
theorem fi_86_2 : am_find 86 2 = some (.bipush 8, 2, 0, 8, 0) := by decide +kernel
theorem fi_86_4 : am_find 86 4 = some (.ishr, 1, 0, 0, 0) := by decide +kernel
theorem fi_86_5 : am_find 86 5 = some (.ior, 1, 0, 0, 0) := by decide +kernel
theorem fi_86_6 : am_find 86 6 = some (.sipush 255, 3, 0, 255, 0) := by decide +kernel
theorem fi_86_9 : am_find 86 9 = some (.iand, 1, 0, 0, 0) := by decide +kernel
theorem fi_86_10 : am_find 86 10 = some (.ireturn, 1, 0, 0, 0) := by decide +kernel
theorem b86_0 {d L : Nat} {σ : St} {Q : Option AV → AW → Prop} {x0 : Int} : R d 86 0 [vI x0] [] (WS L σ) Q = Q (some (vI (i_and (i_or x0 (i_shr x0 8)) 255))) (WS L σ) := K_iload_n fi_86_0 rfl <| K_iload_n fi_86_1 rfl <| K_bipush fi_86_2 <| K_ishr fi_86_4 <| K_ior fi_86_5 <| K_sipush fi_86_6 <| K_iand fi_86_9 <| R_ireti fi_86_10 rfl
theorem fi_87_0 : am_find 87 0 = some (.iload_n 2, 1, 0, 0, 0) := by decide +kernel
theorem fi_87_1 : am_find 87 1 = some (.iconst 1, 1, 0, 1, 0) := by decide +kernel
theorem fi_87_2 : am_find 87 2 = some (.iadd, 1, 0, 0, 0) := by decide +kernel
theorem fi_87_3 : am_find 87 3 = some (.istore_n 3, 1, 0, 0, 0) := by decide +kernel
theorem fi_87_4 : am_find 87 4 = some (.iload_n 0, 1, 0, 0, 0) := by decide +kernel
theorem fi_87_5 : am_find 87 5 = some (.iload_n 3, 1, 0, 0, 0) := by decide +kernel
theorem fi_87_6 : am_find 87 6 = some (.iconst 1, 1, 0, 1, 0) := by decide +kernel
theorem fi_87_7 : am_find 87 7 = some (.iand, 1, 0, 0, 0) := by decide +kernel
theorem fi_87_8 : am_find 87 8 = some (.iload_n 1, 1, 0, 0, 0) := by decide +kernel
theorem fi_87_9 : am_find 87 9 = some (.ishl, 1, 0, 0, 0) := by decide +kernel
theorem fi_87_10 : am_find 87 10 = some (.ior, 1, 0, 0, 0) := by decide +kernel
theorem fi_87_11 : am_find 87 11 = some (.iload_n 3, 1, 0, 0, 0) := by decide +kernel
theorem fi_87_12 : am_find 87 12 = some (.iconst 1, 1, 0, 1, 0) := by decide +kernel
theorem fi_87_13 : am_find 87 13 = some (.ishr, 1, 0, 0, 0) := by decide +kernel
theorem fi_87_14 : am_find 87 14 = some (.iload_n 1, 1, 0, 0, 0) := by decide +kernel
theorem fi_87_15 : am_find 87 15 = some (.bipush 8, 2, 0, 8, 0) := by decide +kernel
theorem fi_87_17 : am_find 87 17 = some (.iadd, 1, 0, 0, 0) := by decide +kernel
theorem fi_87_18 : am_find 87 18 = some (.ishl, 1, 0, 0, 0) := by decide +kernel
theorem fi_87_19 : am_find 87 19 = some (.ior, 1, 0, 0, 0) := by decide +kernel
theorem fi_87_20 : am_find 87 20 = some (.ireturn, 1, 0, 0, 0) := by decide +kernel
theorem b87_0 {d L : Nat} {σ : St} {Q : Option AV → AW → Prop} {x2 x0 x1 : Int} {u3 : AV} (h1 : -2147483648 ≤ x2 + 1 ∧ x2 + 1 ≤ 2147483647) (h2 : -2147483648 ≤ x1 + 8 ∧ x1 + 8 ≤ 2147483647) : R d 87 0 [vI x0, vI x1, vI x2, u3] [] (WS L σ) Q = Q (some (vI (i_or (i_or x0 (i_shl (i_and (x2 + 1) 1) x1)) (i_shl (i_shr (x2 + 1) 1) (x1 + 8))))) (WS L σ) := K_iload_n fi_87_0 rfl <| K_iconst fi_87_1 <| K_iaddx fi_87_2 h1 <| K_istore_n fi_87_3 (Nat.le_of_ble_eq_true rfl) rfl rfl <| K_iload_n fi_87_4 rfl <| K_iload_n fi_87_5 rfl <| K_iconst fi_87_6 <| K_iand fi_87_7 <| K_iload_n fi_87_8 rfl <| K_ishl fi_87_9 <| K_ior fi_87_10 <| K_iload_n fi_87_11 rfl <| K_iconst fi_87_12 <| K_ishr fi_87_13 <| K_iload_n fi_87_14 rfl <| K_bipush fi_87_15 <| K_iaddx fi_87_17 h2 <| K_ishl fi_87_18 <| K_ior fi_87_19 <| R_ireti fi_87_20 rfl
theorem fi_88_0 : am_find 88 0 = some (.iload_n 1, 1, 0, 0, 0) := by decide +kernel
theorem fi_88_1 : am_find 88 1 = some (.invokestatic 41, 3, 86, 1, 93) := by decide +kernel
theorem fi_88_4 : am_find 88 4 = some (.aload_n 0, 1, 0, 0, 0) := by decide +kernel
theorem fi_88_5 : am_find 88 5 = some (.getfield 23, 3, 1, 0, 31) := by decide +kernel
theorem fi_88_8 : am_find 88 8 = some (.invokevirtual 77, 3, 34, 0, 92) := by decide +kernel
theorem fi_88_11 : am_find 88 11 = some (.if_icmp .ne 7, 3, 0, 0, 0) := by decide +kernel
theorem fi_88_14 : am_find 88 14 = some (.iconst 1, 1, 0, 1, 0) := by decide +kernel
theorem fi_88_15 : am_find 88 15 = some (.goto 4, 3, 0, 0, 0) := by decide +kernel
theorem fi_88_18 : am_find 88 18 = some (.iconst 0, 1, 0, 0, 0) := by decide +kernel
theorem fi_88_19 : am_find 88 19 = some (.istore_n 3, 1, 0, 0, 0) := by decide +kernel
theorem fi_88_20 : am_find 88 20 = some (.iload_n 3, 1, 0, 0, 0) := by decide +kernel
theorem fi_88_21 : am_find 88 21 = some (.ifCond .ne 21, 3, 0, 0, 0) := by decide +kernel
theorem fi_88_24 : am_find 88 24 = some (.iload_n 2, 1, 0, 0, 0) := by decide +kernel
theorem fi_88_25 : am_find 88 25 = some (.bipush 8, 2, 0, 8, 0) := by decide +kernel
theorem fi_88_27 : am_find 88 27 = some (.if_icmp .gt 15, 3, 0, 0, 0) := by decide +kernel
theorem fi_88_30 : am_find 88 30 = some (.iload_n 1, 1, 0, 0, 0) := by decide +kernel
theorem fi_88_31 : am_find 88 31 = some (.aload_n 0, 1, 0, 0, 0) := by decide +kernel
theorem fi_88_32 : am_find 88 32 = some (.getfield 16, 3, 1, 2, 29) := by decide +kernel
theorem fi_88_35 : am_find 88 35 = some (.arraylength, 1, 0, 0, 0) := by decide +kernel
theorem fi_88_36 : am_find 88 36 = some (.invokestatic 49, 3, 13, 2, 98) := by decide +kernel
theorem fi_88_39 : am_find 88 39 = some (.ifCond .ne 5, 3, 0, 0, 0) := by decide +kernel
theorem fi_88_42 : am_find 88 42 = some (.iload_n 1, 1, 0, 0, 0) := by decide +kernel
theorem fi_88_43 : am_find 88 43 = some (.ireturn, 1, 0, 0, 0) := by decide +kernel
theorem fi_88_44 : am_find 88 44 = some (.aload_n 0, 1, 0, 0, 0) := by decide +kernel
theorem fi_88_45 : am_find 88 45 = some (.getfield 16, 3, 1, 2, 29) := by decide +kernel
theorem fi_88_48 : am_find 88 48 = some (.iload_n 1, 1, 0, 0, 0) := by decide +kernel
theorem fi_88_49 : am_find 88 49 = some (.iaload, 1, 0, 0, 0) := by decide +kernel
theorem fi_88_50 : am_find 88 50 = some (.bipush 16, 2, 0, 16, 0) := by decide +kernel
theorem fi_88_52 : am_find 88 52 = some (.iushr, 1, 0, 0, 0) := by decide +kernel
theorem fi_88_53 : am_find 88 53 = some (.aload_n 0, 1, 0, 0, 0) := by decide +kernel
theorem fi_88_54 : am_find 88 54 = some (.getfield 34, 3, 1, 3, 63) := by decide +kernel
theorem fi_88_57 : am_find 88 57 = some (.if_icmp .ne 13, 3, 0, 0, 0) := by decide +kernel
theorem fi_88_60 : am_find 88 60 = some (.aload_n 0, 1, 0, 0, 0) := by decide +kernel
theorem fi_88_61 : am_find 88 61 = some (.getfield 16, 3, 1, 2, 29) := by decide +kernel
theorem fi_88_64 : am_find 88 64 = some (.iload_n 1, 1, 0, 0, 0) := by decide +kernel
theorem fi_88_65 : am_find 88 65 = some (.iaload, 1, 0, 0, 0) := by decide +kernel
theorem fi_88_66 : am_find 88 66 = some (.ldc 84, 2, 0, 65535, 774) := by decide +kernel
theorem fi_88_68 : am_find 88 68 = some (.iand, 1, 0, 0, 0) := by decide +kernel
theorem fi_88_69 : am_find 88 69 = some (.ireturn, 1, 0, 0, 0) := by decide +kernel
theorem fi_88_70 : am_find 88 70 = some (.aload_n 0, 1, 0, 0, 0) := by decide +kernel
theorem fi_88_71 : am_find 88 71 = some (.iload_n 1, 1, 0, 0, 0) := by decide +kernel
theorem fi_88_72 : am_find 88 72 = some (.invokevirtual 85, 3, 89, 1, 99) := by decide +kernel
theorem fi_88_75 : am_find 88 75 = some (.istore 4, 2, 0, 0, 0) := by decide +kernel
theorem fi_88_77 : am_find 88 77 = some (.aload_n 0, 1, 0, 0, 0) := by decide +kernel
theorem fi_88_78 : am_find 88 78 = some (.iload_n 1, 1, 0, 0, 0) := by decide +kernel
theorem fi_88_79 : am_find 88 79 = some (.iload 4, 2, 0, 0, 0) := by decide +kernel
theorem fi_88_81 : am_find 88 81 = some (.iload_n 2, 1, 0, 0, 0) := by decide +kernel
theorem fi_88_82 : am_find 88 82 = some (.invokevirtual 64, 3, 85, 3, 89) := by decide +kernel
theorem fi_88_85 : am_find 88 85 = some (.istore 5, 2, 0, 0, 0) := by decide +kernel
theorem fi_88_87 : am_find 88 87 = some (.iload 5, 2, 0, 0, 0) := by decide +kernel
theorem fi_88_89 : am_find 88 89 = some (.ifCond .ge 7, 3, 0, 0, 0) := by decide +kernel
theorem fi_88_92 : am_find 88 92 = some (.iload_n 1, 1, 0, 0, 0) := by decide +kernel
theorem fi_88_93 : am_find 88 93 = some (.goto 18, 3, 0, 0, 0) := by decide +kernel
theorem fi_88_96 : am_find 88 96 = some (.aload_n 0, 1, 0, 0, 0) := by decide +kernel
theorem fi_88_97 : am_find 88 97 = some (.iload_n 1, 1, 0, 0, 0) := by decide +kernel
theorem fi_88_98 : am_find 88 98 = some (.iload 5, 2, 0, 0, 0) := by decide +kernel
theorem fi_88_100 : am_find 88 100 = some (.iload 4, 2, 0, 0, 0) := by decide +kernel
theorem fi_88_102 : am_find 88 102 = some (.invokestatic 81, 3, 87, 3, 94) := by decide +kernel
theorem fi_88_105 : am_find 88 105 = some (.iload_n 2, 1, 0, 0, 0) := by decide +kernel
theorem fi_88_106 : am_find 88 106 = some (.iconst 1, 1, 0, 1, 0) := by decide +kernel
theorem fi_88_107 : am_find 88 107 = some (.iadd, 1, 0, 0, 0) := by decide +kernel
theorem fi_88_108 : am_find 88 108 = some (.invokevirtual 68, 3, 88, 2, 95) := by decide +kernel
theorem fi_88_111 : am_find 88 111 = some (.istore 6, 2, 0, 0, 0) := by decide +kernel
theorem fi_88_113 : am_find 88 113 = some (.aload_n 0, 1, 0, 0, 0) := by decide +kernel
theorem fi_88_114 : am_find 88 114 = some (.getfield 16, 3, 1, 2, 29) := by decide +kernel
theorem fi_88_117 : am_find 88 117 = some (.iload_n 1, 1, 0, 0, 0) := by decide +kernel
theorem fi_88_118 : am_find 88 118 = some (.aload_n 0, 1, 0, 0, 0) := by decide +kernel
theorem fi_88_119 : am_find 88 119 = some (.getfield 34, 3, 1, 3, 63) := by decide +kernel
theorem fi_88_122 : am_find 88 122 = some (.bipush 16, 2, 0, 16, 0) := by decide +kernel
theorem fi_88_124 : am_find 88 124 = some (.ishl, 1, 0, 0, 0) := by decide +kernel
theorem fi_88_125 : am_find 88 125 = some (.iload 6, 2, 0, 0, 0) := by decide +kernel
theorem fi_88_127 : am_find 88 127 = some (.ior, 1, 0, 0, 0) := by decide +kernel
theorem fi_88_128 : am_find 88 128 = some (.iastore, 1, 0, 0, 0) := by decide +kernel
theorem fi_88_129 : am_find 88 129 = some (.iload 6, 2, 0, 0, 0) := by decide +kernel
theorem fi_88_131 : am_find 88 131 = some (.ireturn, 1, 0, 0, 0) := by decide +kernel
theorem b88_0 {d L : Nat} {σ : St} {Q : Option AV → AW → Prop} {x1 : Int} {u0 u2 u3 u4 u5 u6 : AV} : R (d + 1) 88 0 [u0, vI x1, u2, u3, u4, u5, u6] [] (WS L σ) Q = R d 86 0 [vI x1] [] (WS L σ) (fun r w => R (d + 1) 88 4 [u0, vI x1, u2, u3, u4, u5, u6] (am_push r []) w Q) := K_iload_n fi_88_0 rfl <| R_invS fi_88_1 (by decide) (am_invS_of (Nat.le_of_ble_eq_true rfl) rfl (Nat.le_of_ble_eq_true rfl) (Nat.le_of_ble_eq_true rfl) rfl rfl)
theorem b88_4 {d L : Nat} {σ : St} {Q : Option AV → AW → Prop} {y0 : Int} {u1 u2 u3 u4 u5 u6 : AV} : R (d + 1) 88 4 [vR 139, u1, u2, u3, u4, u5, u6] [vI y0] (WS L σ) Q = R d 34 0 [vR 20] [] (WS L σ) (fun r w => R (d + 1) 88 11 [vR 139, u1, u2, u3, u4, u5, u6] (am_push r [vI y0]) w Q) := K_aload_n fi_88_4 rfl <| K_gf fi_88_5 kd_139 mk_139_0 <| R_invV fi_88_8 (am_invV_of rfl (kd_20) (Nat.le_of_ble_eq_true rfl) (Nat.le_of_ble_eq_true rfl) rfl rfl)
theorem b88_11 {d L : Nat} {σ : St} {Q : Option AV → AW → Prop} {y0 y1 : Int} {u0 u1 u2 u3 u4 u5 u6 : AV} : R d 88 11 [u0, u1, u2, u3, u4, u5, u6] [vI y0, vI y1] (WS L σ) Q = if ¬ y1 = y0 then R d 88 18 [u0, u1, u2, u3, u4, u5, u6] [] (WS L σ) Q else R d 88 14 [u0, u1, u2, u3, u4, u5, u6] [] (WS L σ) Q := R_icmp_ne fi_88_11 rfl
theorem b88_14 {d L : Nat} {σ : St} {Q : Option AV → AW → Prop} {u0 u1 u2 u3 u4 u5 u6 : AV} : R d 88 14 [u0, u1, u2, u3, u4, u5, u6] [] (WS L σ) Q = R d 88 19 [u0, u1, u2, u3, u4, u5, u6] [vI 1] (WS L σ) Q := K_iconst fi_88_14 <| R_goto fi_88_15 rfl
theorem b88_18 {d L : Nat} {σ : St} {Q : Option AV → AW → Prop} {u0 u1 u2 u3 u4 u5 u6 : AV} : R d 88 18 [u0, u1, u2, u3, u4, u5, u6] [] (WS L σ) Q = R d 88 19 [u0, u1, u2, u3, u4, u5, u6] [vI 0] (WS L σ) Q := K_iconst fi_88_18 <| rfl
theorem b88_19 {d L : Nat} {σ : St} {Q : Option AV → AW → Prop} {y0 : Int} {u0 u1 u2 u3 u4 u5 u6 : AV} : R d 88 19 [u0, u1, u2, u3, u4, u5, u6] [vI y0] (WS L σ) Q = if ¬ y0 = 0 then R d 88 42 [u0, u1, u2, vI y0, u4, u5, u6] [] (WS L σ) Q else R d 88 24 [u0, u1, u2, vI y0, u4, u5, u6] [] (WS L σ) Q := K_istore_n fi_88_19 (Nat.le_of_ble_eq_true rfl) rfl rfl <| K_iload_n fi_88_20 rfl <| R_if_ne fi_88_21 rfl
theorem b88_24 {d L : Nat} {σ : St} {Q : Option AV → AW → Prop} {x2 : Int} {u0 u1 u3 u4 u5 u6 : AV} : R d 88 24 [u0, u1, vI x2, u3, u4, u5, u6] [] (WS L σ) Q = if 8 < x2 then R d 88 42 [u0, u1, vI x2, u3, u4, u5, u6] [] (WS L σ) Q else R d 88 30 [u0, u1, vI x2, u3, u4, u5, u6] [] (WS L σ) Q := K_iload_n fi_88_24 rfl <| K_bipush fi_88_25 <| R_icmp_gt fi_88_27 rfl
theorem b88_30 {d L : Nat} {σ : St} {Q : Option AV → AW → Prop} {x1 : Int} {u2 u3 u4 u5 u6 : AV} : R (d + 1) 88 30 [vR 139, vI x1, u2, u3, u4, u5, u6] [] (WS L σ) Q = R d 13 0 [vI x1, vI 65536] [] (WS L σ) (fun r w => R (d + 1) 88 39 [vR 139, vI x1, u2, u3, u4, u5, u6] (am_push r []) w Q) := K_iload_n fi_88_30 rfl <| K_aload_n fi_88_31 rfl <| K_gf fi_88_32 kd_139 mk_139_2 <| K_alenx fi_88_35 (Or.inl kd_141) rfl <| R_invS fi_88_36 (by decide) (am_invS_of (Nat.le_of_ble_eq_true rfl) rfl (Nat.le_of_ble_eq_true rfl) (Nat.le_of_ble_eq_true rfl) rfl rfl)
theorem b88_39 {d L : Nat} {σ : St} {Q : Option AV → AW → Prop} {y0 : Int} {u0 u1 u2 u3 u4 u5 u6 : AV} : R d 88 39 [u0, u1, u2, u3, u4, u5, u6] [vI y0] (WS L σ) Q = if ¬ y0 = 0 then R d 88 44 [u0, u1, u2, u3, u4, u5, u6] [] (WS L σ) Q else R d 88 42 [u0, u1, u2, u3, u4, u5, u6] [] (WS L σ) Q := R_if_ne fi_88_39 rfl
theorem b88_42 {d L : Nat} {σ : St} {Q : Option AV → AW → Prop} {x1 : Int} {u0 u2 u3 u4 u5 u6 : AV} : R d 88 42 [u0, vI x1, u2, u3, u4, u5, u6] [] (WS L σ) Q = Q (some (vI x1)) (WS L σ) := K_iload_n fi_88_42 rfl <| R_ireti fi_88_43 rfl
theorem b88_44 {d L : Nat} {σ : St} {Q : Option AV → AW → Prop} {x1 : Int} {u2 u3 u4 u5 u6 : AV} (h1 : 0 ≤ x1) (h2 : x1 < 65536) : R d 88 44 [vR 139, vI x1, u2, u3, u4, u5, u6] [] (WS L σ) Q = if ¬ (i_ushr (σ 141 x1) 16) = (σ 139 3) then R d 88 70 [vR 139, vI x1, u2, u3, u4, u5, u6] [] (WS L σ) Q else R d 88 60 [vR 139, vI x1, u2, u3, u4, u5, u6] [] (WS L σ) Q := K_aload_n fi_88_44 rfl <| K_gf fi_88_45 kd_139 mk_139_2 <| K_iload_n fi_88_48 rfl <| K_ia fi_88_49 kd_141 h1 h2 <| K_bipush fi_88_50 <| K_iushr fi_88_52 <| K_aload_n fi_88_53 rfl <| K_gf fi_88_54 kd_139 mk_139_3 <| R_icmp_ne fi_88_57 rfl
theorem b88_60 {d L : Nat} {σ : St} {Q : Option AV → AW → Prop} {x1 : Int} {u2 u3 u4 u5 u6 : AV} (h1 : 0 ≤ x1) (h2 : x1 < 65536) : R d 88 60 [vR 139, vI x1, u2, u3, u4, u5, u6] [] (WS L σ) Q = Q (some (vI (i_and (σ 141 x1) 65535))) (WS L σ) := K_aload_n fi_88_60 rfl <| K_gf fi_88_61 kd_139 mk_139_2 <| K_iload_n fi_88_64 rfl <| K_ia fi_88_65 kd_141 h1 h2 <| K_ldci fi_88_66 <| K_iand fi_88_68 <| R_ireti fi_88_69 rfl
theorem b88_70 {d L : Nat} {σ : St} {Q : Option AV → AW → Prop} {x1 : Int} {u2 u3 u4 u5 u6 : AV} : R (d + 1) 88 70 [vR 139, vI x1, u2, u3, u4, u5, u6] [] (WS L σ) Q = R d 89 0 [vR 139, vI x1, vX 9] [] (WS L σ) (fun r w => R (d + 1) 88 75 [vR 139, vI x1, u2, u3, u4, u5, u6] (am_push r []) w Q) := K_aload_n fi_88_70 rfl <| K_iload_n fi_88_71 rfl <| R_invV fi_88_72 (am_invV_of rfl (kd_139) (Nat.le_of_ble_eq_true rfl) (Nat.le_of_ble_eq_true rfl) rfl rfl)
theorem b88_75 {d L : Nat} {σ : St} {Q : Option AV → AW → Prop} {y0 x1 x2 : Int} {u3 u4 u5 u6 : AV} : R (d + 1) 88 75 [vR 139, vI x1, vI x2, u3, u4, u5, u6] [vI y0] (WS L σ) Q = R d 85 0 [vR 139, vI x1, vI y0, vI x2, vX 9, vX 9, vX 9, vX 9, vX 9, vX 9] [] (WS L σ) (fun r w => R (d + 1) 88 85 [vR 139, vI x1, vI x2, u3, vI y0, u5, u6] (am_push r []) w Q) := K_istore fi_88_75 (Nat.le_of_ble_eq_true rfl) rfl rfl <| K_aload_n fi_88_77 rfl <| K_iload_n fi_88_78 rfl <| K_iload fi_88_79 rfl <| K_iload_n fi_88_81 rfl <| R_invV fi_88_82 (am_invV_of rfl (kd_139) (Nat.le_of_ble_eq_true rfl) (Nat.le_of_ble_eq_true rfl) rfl rfl)
theorem b88_85 {d L : Nat} {σ : St} {Q : Option AV → AW → Prop} {y0 : Int} {u0 u1 u2 u3 u4 u5 u6 : AV} : R d 88 85 [u0, u1, u2, u3, u4, u5, u6] [vI y0] (WS L σ) Q = if 0 ≤ y0 then R d 88 96 [u0, u1, u2, u3, u4, vI y0, u6] [] (WS L σ) Q else R d 88 92 [u0, u1, u2, u3, u4, vI y0, u6] [] (WS L σ) Q := K_istore fi_88_85 (Nat.le_of_ble_eq_true rfl) rfl rfl <| K_iload fi_88_87 rfl <| R_if_ge fi_88_89 rfl
theorem b88_92 {d L : Nat} {σ : St} {Q : Option AV → AW → Prop} {x1 : Int} {u0 u2 u3 u4 u5 u6 : AV} : R d 88 92 [u0, vI x1, u2, u3, u4, u5, u6] [] (WS L σ) Q = R d 88 111 [u0, vI x1, u2, u3, u4, u5, u6] [vI x1] (WS L σ) Q := K_iload_n fi_88_92 rfl <| R_goto fi_88_93 rfl
theorem b88_96 {d L : Nat} {σ : St} {Q : Option AV → AW → Prop} {x1 x5 x4 : Int} {u2 u3 u6 : AV} : R (d + 1) 88 96 [vR 139, vI x1, u2, u3, vI x4, vI x5, u6] [] (WS L σ) Q = R d 87 0 [vI x1, vI x5, vI x4, vX 9] [] (WS L σ) (fun r w => R (d + 1) 88 105 [vR 139, vI x1, u2, u3, vI x4, vI x5, u6] (am_push r [vR 139]) w Q) := K_aload_n fi_88_96 rfl <| K_iload_n fi_88_97 rfl <| K_iload fi_88_98 rfl <| K_iload fi_88_100 rfl <| R_invS fi_88_102 (by decide) (am_invS_of (Nat.le_of_ble_eq_true rfl) rfl (Nat.le_of_ble_eq_true rfl) (Nat.le_of_ble_eq_true rfl) rfl rfl)
theorem b88_105 {d L : Nat} {σ : St} {Q : Option AV → AW → Prop} {y0 x2 : Int} {u0 u1 u3 u4 u5 u6 : AV} (h1 : -2147483648 ≤ x2 + 1 ∧ x2 + 1 ≤ 2147483647) : R (d + 1) 88 105 [u0, u1, vI x2, u3, u4, u5, u6] [vI y0, vR 139] (WS L σ) Q = R d 88 0 [vR 139, vI y0, vI (x2 + 1), vX 9, vX 9, vX 9, vX 9] [] (WS L σ) (fun r w => R (d + 1) 88 111 [u0, u1, vI x2, u3, u4, u5, u6] (am_push r []) w Q) := K_iload_n fi_88_105 rfl <| K_iconst fi_88_106 <| K_iaddx fi_88_107 h1 <| R_invV fi_88_108 (am_invV_of rfl (kd_139) (Nat.le_of_ble_eq_true rfl) (Nat.le_of_ble_eq_true rfl) rfl rfl)
theorem b88_111 {d L : Nat} {σ : St} {Q : Option AV → AW → Prop} {y0 x1 : Int} {u2 u3 u4 u5 u6 : AV} (h1 : 0 ≤ x1) (h2 : x1 < 65536) : R d 88 111 [vR 139, vI x1, u2, u3, u4, u5, u6] [vI y0] (WS L σ) Q = R d 88 129 [vR 139, vI x1, u2, u3, u4, u5, vI y0] [] (WS L (st2 σ 141 x1 (i_or (i_shl (σ 139 3) 16) y0))) Q := K_istore fi_88_111 (Nat.le_of_ble_eq_true rfl) rfl rfl <| K_aload_n fi_88_113 rfl <| K_gf fi_88_114 kd_139 mk_139_2 <| K_iload_n fi_88_117 rfl <| K_aload_n fi_88_118 rfl <| K_gf fi_88_119 kd_139 mk_139_3 <| K_bipush fi_88_122 <| K_ishl fi_88_124 <| K_iload fi_88_125 rfl <| K_ior fi_88_127 <| K_is fi_88_128 kd_141 h1 h2 <| rfl
theorem b88_129 {d L : Nat} {σ : St} {Q : Option AV → AW → Prop} {x6 : Int} {u0 u1 u2 u3 u4 u5 : AV} : R d 88 129 [u0, u1, u2, u3, u4, u5, vI x6] [] (WS L σ) Q = Q (some (vI x6)) (WS L σ) := K_iload fi_88_129 rfl <| R_ireti fi_88_131 rfl
theorem fi_89_0 : am_find 89 0 = some (.iload_n 1, 1, 0, 0, 0) := by decide +kernel
theorem fi_89_1 : am_find 89 1 = some (.invokestatic 41, 3, 86, 1, 93) := by decide +kernel
theorem fi_89_4 : am_find 89 4 = some (.invokestatic 44, 3, 42, 1, 100) := by decide +kernel
theorem fi_89_7 : am_find 89 7 = some (.istore_n 2, 1, 0, 0, 0) := by decide +kernel
theorem fi_89_8 : am_find 89 8 = some (.iload_n 2, 1, 0, 0, 0) := by decide +kernel
theorem fi_89_9 : am_find 89 9 = some (.aload_n 0, 1, 0, 0, 0) := by decide +kernel
theorem fi_89_10 : am_find 89 10 = some (.getfield 9, 3, 1, 1, 28) := by decide +kernel
theorem fi_89_13 : am_find 89 13 = some (.arraylength, 1, 0, 0, 0) := by decide +kernel
theorem fi_89_14 : am_find 89 14 = some (.invokestatic 49, 3, 13, 2, 98) := by decide +kernel
theorem fi_89_17 : am_find 89 17 = some (.ifCond .eq 12, 3, 0, 0, 0) := by decide +kernel
theorem fi_89_20 : am_find 89 20 = some (.aload_n 0, 1, 0, 0, 0) := by decide +kernel
theorem fi_89_21 : am_find 89 21 = some (.getfield 9, 3, 1, 1, 28) := by decide +kernel
theorem fi_89_24 : am_find 89 24 = some (.iload_n 2, 1, 0, 0, 0) := by decide +kernel
theorem fi_89_25 : am_find 89 25 = some (.iaload, 1, 0, 0, 0) := by decide +kernel
theorem fi_89_26 : am_find 89 26 = some (.goto 4, 3, 0, 0, 0) := by decide +kernel
theorem fi_89_29 : am_find 89 29 = some (.iconst 0, 1, 0, 0, 0) := by decide +kernel
theorem fi_89_30 : am_find 89 30 = some (.ireturn, 1, 0, 0, 0) := by decide +kernel
theorem b89_0 {d L : Nat} {σ : St} {Q : Option AV → AW → Prop} {x1 : Int} {u0 u2 : AV} : R (d + 1) 89 0 [u0, vI x1, u2] [] (WS L σ) Q = R d 86 0 [vI x1] [] (WS L σ) (fun r w => R (d + 1) 89 4 [u0, vI x1, u2] (am_push r []) w Q) := K_iload_n fi_89_0 rfl <| R_invS fi_89_1 (by decide) (am_invS_of (Nat.le_of_ble_eq_true rfl) rfl (Nat.le_of_ble_eq_true rfl) (Nat.le_of_ble_eq_true rfl) rfl rfl)
theorem b89_4 {d L : Nat} {σ : St} {Q : Option AV → AW → Prop} {y0 : Int} {u0 u1 u2 : AV} : R (d + 1) 89 4 [u0, u1, u2] [vI y0] (WS L σ) Q = R d 42 0 [vI y0] [] (WS L σ) (fun r w => R (d + 1) 89 7 [u0, u1, u2] (am_push r []) w Q) := R_invS fi_89_4 (by decide) (am_invS_of (Nat.le_of_ble_eq_true rfl) rfl (Nat.le_of_ble_eq_true rfl) (Nat.le_of_ble_eq_true rfl) rfl rfl)
theorem b89_7 {d L : Nat} {σ : St} {Q : Option AV → AW → Prop} {y0 x1 : Int} {u2 : AV} : R (d + 1) 89 7 [vR 139, vI x1, u2] [vI y0] (WS L σ) Q = R d 13 0 [vI y0, vI 8] [] (WS L σ) (fun r w => R (d + 1) 89 17 [vR 139, vI x1, vI y0] (am_push r []) w Q) := K_istore_n fi_89_7 (Nat.le_of_ble_eq_true rfl) rfl rfl <| K_iload_n fi_89_8 rfl <| K_aload_n fi_89_9 rfl <| K_gf fi_89_10 kd_139 mk_139_1 <| K_alenx fi_89_13 (Or.inl kd_140) rfl <| R_invS fi_89_14 (by decide) (am_invS_of (Nat.le_of_ble_eq_true rfl) rfl (Nat.le_of_ble_eq_true rfl) (Nat.le_of_ble_eq_true rfl) rfl rfl)
theorem b89_17 {d L : Nat} {σ : St} {Q : Option AV → AW → Prop} {y0 : Int} {u0 u1 u2 : AV} : R d 89 17 [u0, u1, u2] [vI y0] (WS L σ) Q = if y0 = 0 then R d 89 29 [u0, u1, u2] [] (WS L σ) Q else R d 89 20 [u0, u1, u2] [] (WS L σ) Q := R_if_eq fi_89_17 rfl
theorem b89_20 {d L : Nat} {σ : St} {Q : Option AV → AW → Prop} {x2 : Int} {u1 : AV} (h1 : 0 ≤ x2) (h2 : x2 < 8) : R d 89 20 [vR 139, u1, vI x2] [] (WS L σ) Q = R d 89 30 [vR 139, u1, vI x2] [vI (σ 140 x2)] (WS L σ) Q := K_aload_n fi_89_20 rfl <| K_gf fi_89_21 kd_139 mk_139_1 <| K_iload_n fi_89_24 rfl <| K_ia fi_89_25 kd_140 h1 h2 <| R_goto fi_89_26 rfl
theorem b89_29 {d L : Nat} {σ : St} {Q : Option AV → AW → Prop} {u0 u1 u2 : AV} : R d 89 29 [u0, u1, u2] [] (WS L σ) Q = R d 89 30 [u0, u1, u2] [vI 0] (WS L σ) Q := K_iconst fi_89_29 <| rfl
theorem b89_30 {d L : Nat} {σ : St} {Q : Option AV → AW → Prop} {y0 : Int} {u0 u1 u2 : AV} : R d 89 30 [u0, u1, u2] [vI y0] (WS L σ) Q = Q (some (vI y0)) (WS L σ) := R_ireti fi_89_30 rfl
theorem fi_90_0 : am_find 90 0 = some (.iload_n 0, 1, 0, 0, 0) := by decide +kernel
theorem fi_90_1 : am_find 90 1 = some (.sipush 255, 3, 0, 255, 0) := by decide +kernel
theorem fi_90_4 : am_find 90 4 = some (.iand, 1, 0, 0, 0) := by decide +kernel
theorem fi_90_5 : am_find 90 5 = some (.istore_n 2, 1, 0, 0, 0) := by decide +kernel
theorem fi_90_6 : am_find 90 6 = some (.iload_n 0, 1, 0, 0, 0) := by decide +kernel
theorem fi_90_7 : am_find 90 7 = some (.bipush 8, 2, 0, 8, 0) := by decide +kernel
theorem fi_90_9 : am_find 90 9 = some (.ishr, 1, 0, 0, 0) := by decide +kernel
theorem fi_90_10 : am_find 90 10 = some (.sipush 255, 3, 0, 255, 0) := by decide +kernel
theorem fi_90_13 : am_find 90 13 = some (.iand, 1, 0, 0, 0) := by decide +kernel
theorem fi_90_14 : am_find 90 14 = some (.istore_n 3, 1, 0, 0, 0) := by decide +kernel
theorem fi_90_15 : am_find 90 15 = some (.iload_n 1, 1, 0, 0, 0) := by decide +kernel
theorem fi_90_16 : am_find 90 16 = some (.ifCond .ne 9, 3, 0, 0, 0) := by decide +kernel
theorem fi_90_19 : am_find 90 19 = some (.iload_n 2, 1, 0, 0, 0) := by decide +kernel
theorem fi_90_20 : am_find 90 20 = some (.iload_n 3, 1, 0, 0, 0) := by decide +kernel
theorem fi_90_21 : am_find 90 21 = some (.iconst (-1), 1, 0, (-1), 0) := by decide +kernel
theorem fi_90_22 : am_find 90 22 = some (.ixor, 1, 0, 0, 0) := by decide +kernel
theorem fi_90_23 : am_find 90 23 = some (.iand, 1, 0, 0, 0) := by decide +kernel
theorem fi_90_24 : am_find 90 24 = some (.ireturn, 1, 0, 0, 0) := by decide +kernel
theorem fi_90_25 : am_find 90 25 = some (.iload_n 1, 1, 0, 0, 0) := by decide +kernel
theorem fi_90_26 : am_find 90 26 = some (.iconst 1, 1, 0, 1, 0) := by decide +kernel
theorem fi_90_27 : am_find 90 27 = some (.if_icmp .ne 11, 3, 0, 0, 0) := by decide +kernel
theorem fi_90_30 : am_find 90 30 = some (.iload_n 3, 1, 0, 0, 0) := by decide +kernel
theorem fi_90_31 : am_find 90 31 = some (.iload_n 2, 1, 0, 0, 0) := by decide +kernel
theorem fi_90_32 : am_find 90 32 = some (.iconst (-1), 1, 0, (-1), 0) := by decide +kernel
theorem fi_90_33 : am_find 90 33 = some (.ixor, 1, 0, 0, 0) := by decide +kernel
theorem fi_90_34 : am_find 90 34 = some (.iand, 1, 0, 0, 0) := by decide +kernel
theorem fi_90_35 : am_find 90 35 = some (.goto 6, 3, 0, 0, 0) := by decide +kernel
theorem fi_90_38 : am_find 90 38 = some (.iload_n 2, 1, 0, 0, 0) := by decide +kernel
theorem fi_90_39 : am_find 90 39 = some (.iload_n 3, 1, 0, 0, 0) := by decide +kernel
theorem fi_90_40 : am_find 90 40 = some (.iand, 1, 0, 0, 0) := by decide +kernel
theorem fi_90_41 : am_find 90 41 = some (.ireturn, 1, 0, 0, 0) := by decide +kernel
theorem b90_0 {d L : Nat} {σ : St} {Q : Option AV → AW → Prop} {x0 x1 : Int} {u2 u3 : AV} : R d 90 0 [vI x0, vI x1, u2, u3] [] (WS L σ) Q = if ¬ x1 = 0 then R d 90 25 [vI x0, vI x1, vI (i_and x0 255), vI (i_and (i_shr x0 8) 255)] [] (WS L σ) Q else R d 90 19 [vI x0, vI x1, vI (i_and x0 255), vI (i_and (i_shr x0 8) 255)] [] (WS L σ) Q := K_iload_n fi_90_0 rfl <| K_sipush fi_90_1 <| K_iand fi_90_4 <| K_istore_n fi_90_5 (Nat.le_of_ble_eq_true rfl) rfl rfl <| K_iload_n fi_90_6 rfl <| K_bipush fi_90_7 <| K_ishr fi_90_9 <| K_sipush fi_90_10 <| K_iand fi_90_13 <| K_istore_n fi_90_14 (Nat.le_of_ble_eq_true rfl) rfl rfl <| K_iload_n fi_90_15 rfl <| R_if_ne fi_90_16 rfl
theorem b90_19 {d L : Nat} {σ : St} {Q : Option AV → AW → Prop} {x2 x3 : Int} {u0 u1 : AV} : R d 90 19 [u0, u1, vI x2, vI x3] [] (WS L σ) Q = Q (some (vI (i_and x2 (i_xor x3 (-1))))) (WS L σ) := K_iload_n fi_90_19 rfl <| K_iload_n fi_90_20 rfl <| K_iconst fi_90_21 <| K_ixor fi_90_22 <| K_iand fi_90_23 <| R_ireti fi_90_24 rfl
theorem b90_25 {d L : Nat} {σ : St} {Q : Option AV → AW → Prop} {x1 : Int} {u0 u2 u3 : AV} : R d 90 25 [u0, vI x1, u2, u3] [] (WS L σ) Q = if ¬ x1 = 1 then R d 90 38 [u0, vI x1, u2, u3] [] (WS L σ) Q else R d 90 30 [u0, vI x1, u2, u3] [] (WS L σ) Q := K_iload_n fi_90_25 rfl <| K_iconst fi_90_26 <| R_icmp_ne fi_90_27 rfl
theorem b90_30 {d L : Nat} {σ : St} {Q : Option AV → AW → Prop} {x3 x2 : Int} {u0 u1 : AV} : R d 90 30 [u0, u1, vI x2, vI x3] [] (WS L σ) Q = R d 90 41 [u0, u1, vI x2, vI x3] [vI (i_and x3 (i_xor x2 (-1)))] (WS L σ) Q := K_iload_n fi_90_30 rfl <| K_iload_n fi_90_31 rfl <| K_iconst fi_90_32 <| K_ixor fi_90_33 <| K_iand fi_90_34 <| R_goto fi_90_35 rfl
theorem b90_38 {d L : Nat} {σ : St} {Q : Option AV → AW → Prop} {x2 x3 : Int} {u0 u1 : AV} : R d 90 38 [u0, u1, vI x2, vI x3] [] (WS L σ) Q = R d 90 41 [u0, u1, vI x2, vI x3] [vI (i_and x2 x3)] (WS L σ) Q := K_iload_n fi_90_38 rfl <| K_iload_n fi_90_39 rfl <| K_iand fi_90_40 <| rfl
theorem b90_41 {d L : Nat} {σ : St} {Q : Option AV → AW → Prop} {y0 : Int} {u0 u1 u2 u3 : AV} : R d 90 41 [u0, u1, u2, u3] [vI y0] (WS L σ) Q = Q (some (vI y0)) (WS L σ) := R_ireti fi_90_41 rfl
theorem fi_91_0 : am_find 91 0 = some (.aload_n 0, 1, 0, 0, 0) := by decide +kernel
theorem fi_91_1 : am_find 91 1 = some (.getfield 20, 3, 3, 0, 33) := by decide +kernel
theorem fi_91_4 : am_find 91 4 = some (.iload_n 1, 1, 0, 0, 0) := by decide +kernel
theorem fi_91_5 : am_find 91 5 = some (.invokevirtual 113, 3, 69, 1, 101) := by decide +kernel
theorem fi_91_8 : am_find 91 8 = some (.astore_n 3, 1, 0, 0, 0) := by decide +kernel
theorem fi_91_9 : am_find 91 9 = some (.iconst 0, 1, 0, 0, 0) := by decide +kernel
theorem fi_91_10 : am_find 91 10 = some (.istore 4, 2, 0, 0, 0) := by decide +kernel
theorem fi_91_12 : am_find 91 12 = some (.aload_n 3, 1, 0, 0, 0) := by decide +kernel
theorem fi_91_13 : am_find 91 13 = some (.ifnull 53, 3, 0, 0, 0) := by decide +kernel
theorem fi_91_16 : am_find 91 16 = some (.iload 4, 2, 0, 0, 0) := by decide +kernel
theorem fi_91_18 : am_find 91 18 = some (.aload_n 3, 1, 0, 0, 0) := by decide +kernel
theorem fi_91_19 : am_find 91 19 = some (.getfield 58, 3, 5, 1, 64) := by decide +kernel
theorem fi_91_22 : am_find 91 22 = some (.if_icmp .ge 44, 3, 0, 0, 0) := by decide +kernel
theorem fi_91_25 : am_find 91 25 = some (.aload_n 3, 1, 0, 0, 0) := by decide +kernel
theorem fi_91_26 : am_find 91 26 = some (.iload 4, 2, 0, 0, 0) := by decide +kernel
theorem fi_91_28 : am_find 91 28 = some (.invokevirtual 117, 3, 64, 1, 102) := by decide +kernel
theorem fi_91_31 : am_find 91 31 = some (.bipush 8, 2, 0, 8, 0) := by decide +kernel
theorem fi_91_33 : am_find 91 33 = some (.invokestatic 120, 3, 13, 2, 103) := by decide +kernel
theorem fi_91_36 : am_find 91 36 = some (.ifCond .eq 24, 3, 0, 0, 0) := by decide +kernel
theorem fi_91_39 : am_find 91 39 = some (.iload_n 2, 1, 0, 0, 0) := by decide +kernel
theorem fi_91_40 : am_find 91 40 = some (.aload_n 3, 1, 0, 0, 0) := by decide +kernel
theorem fi_91_41 : am_find 91 41 = some (.iload 4, 2, 0, 0, 0) := by decide +kernel
theorem fi_91_43 : am_find 91 43 = some (.invokevirtual 117, 3, 64, 1, 102) := by decide +kernel
theorem fi_91_46 : am_find 91 46 = some (.ishr, 1, 0, 0, 0) := by decide +kernel
theorem fi_91_47 : am_find 91 47 = some (.iconst 1, 1, 0, 1, 0) := by decide +kernel
theorem fi_91_48 : am_find 91 48 = some (.iand, 1, 0, 0, 0) := by decide +kernel
theorem fi_91_49 : am_find 91 49 = some (.iconst 1, 1, 0, 1, 0) := by decide +kernel
theorem fi_91_50 : am_find 91 50 = some (.if_icmp .ne 10, 3, 0, 0, 0) := by decide +kernel
theorem fi_91_53 : am_find 91 53 = some (.aload_n 3, 1, 0, 0, 0) := by decide +kernel
theorem fi_91_54 : am_find 91 54 = some (.iload 4, 2, 0, 0, 0) := by decide +kernel
theorem fi_91_56 : am_find 91 56 = some (.invokevirtual 117, 3, 64, 1, 102) := by decide +kernel
theorem fi_91_59 : am_find 91 59 = some (.ireturn, 1, 0, 0, 0) := by decide +kernel
theorem fi_91_60 : am_find 91 60 = some (.iinc 4 1, 3, 0, 0, 0) := by decide +kernel
theorem fi_91_63 : am_find 91 63 = some (.goto (-51), 3, 0, 0, 0) := by decide +kernel
theorem fi_91_66 : am_find 91 66 = some (.iload_n 2, 1, 0, 0, 0) := by decide +kernel
theorem fi_91_67 : am_find 91 67 = some (.invokestatic 92, 3, 92, 1, 78) := by decide +kernel
theorem fi_91_70 : am_find 91 70 = some (.ireturn, 1, 0, 0, 0) := by decide +kernel
theorem b91_0 {d L : Nat} {σ : St} {Q : Option AV → AW → Prop} {x1 : Int} {u2 u3 u4 : AV} : R (d + 1) 91 0 [vR 142, vI x1, u2, u3, u4] [] (WS L σ) Q = R d 69 0 [vR 20, vI x1] [] (WS L σ) (fun r w => R (d + 1) 91 8 [vR 142, vI x1, u2, u3, u4] (am_push r []) w Q) := K_aload_n fi_91_0 rfl <| K_gf fi_91_1 kd_142 mk_142_0 <| K_iload_n fi_91_4 rfl <| R_invV fi_91_5 (am_invV_of rfl (kd_20) (Nat.le_of_ble_eq_true rfl) (Nat.le_of_ble_eq_true rfl) rfl rfl)
theorem b91_8 {d L : Nat} {σ : St} {Q : Option AV → AW → Prop} {q0 : Nat} {u0 u1 u2 u3 u4 : AV} : R d 91 8 [u0, u1, u2, u3, u4] [vR q0] (WS L σ) Q = R d 91 12 [u0, u1, u2, vR q0, vI 0] [] (WS L σ) Q := K_astore_n fi_91_8 (Nat.le_of_ble_eq_true rfl) rfl rfl <| K_iconst fi_91_9 <| K_istore fi_91_10 (Nat.le_of_ble_eq_true rfl) rfl rfl <| rfl
theorem b91_8n {d L : Nat} {σ : St} {Q : Option AV → AW → Prop} {u0 u1 u2 u3 u4 : AV} : R d 91 8 [u0, u1, u2, u3, u4] [vX 0] (WS L σ) Q = R d 91 12 [u0, u1, u2, vX 0, vI 0] [] (WS L σ) Q := K_astore_nN fi_91_8 (Nat.le_of_ble_eq_true rfl) rfl rfl <| K_iconst fi_91_9 <| K_istore fi_91_10 (Nat.le_of_ble_eq_true rfl) rfl rfl <| rfl
theorem b91_12 {d L : Nat} {σ : St} {Q : Option AV → AW → Prop} {r3 : Nat} {u0 u1 u2 u4 : AV} : R d 91 12 [u0, u1, u2, vR r3, u4] [] (WS L σ) Q = R d 91 16 [u0, u1, u2, vR r3, u4] [] (WS L σ) Q := K_aload_n fi_91_12 rfl <| R_ifnull fi_91_13
theorem b91_12m {d L : Nat} {σ : St} {Q : Option AV → AW → Prop} {u0 u1 u2 u4 : AV} : R d 91 12 [u0, u1, u2, vX 0, u4] [] (WS L σ) Q = R d 91 66 [u0, u1, u2, vX 0, u4] [] (WS L σ) Q := K_aload_nN fi_91_12 rfl <| R_ifnullN fi_91_13 rfl
theorem b91_16 {d L : Nat} {σ : St} {Q : Option AV → AW → Prop} {x4 : Int} {r3 : Nat} {u0 u1 u2 : AV} (h1 : KD r3 = 5) : R d 91 16 [u0, u1, u2, vR r3, vI x4] [] (WS L σ) Q = if (σ r3 1) ≤ x4 then R d 91 66 [u0, u1, u2, vR r3, vI x4] [] (WS L σ) Q else R d 91 25 [u0, u1, u2, vR r3, vI x4] [] (WS L σ) Q := K_iload fi_91_16 rfl <| K_aload_n fi_91_18 rfl <| K_gf fi_91_19 h1 (row_sz h1) <| R_icmp_ge fi_91_22 rfl
theorem b91_25 {d L : Nat} {σ : St} {Q : Option AV → AW → Prop} {x4 : Int} {r3 : Nat} {u0 u1 u2 : AV} (h1 : KD r3 = 5) : R (d + 1) 91 25 [u0, u1, u2, vR r3, vI x4] [] (WS L σ) Q = R d 64 0 [vR r3, vI x4] [] (WS L σ) (fun r w => R (d + 1) 91 31 [u0, u1, u2, vR r3, vI x4] (am_push r []) w Q) := K_aload_n fi_91_25 rfl <| K_iload fi_91_26 rfl <| R_invV fi_91_28 (am_invV_of rfl (h1) (Nat.le_of_ble_eq_true rfl) (Nat.le_of_ble_eq_true rfl) rfl rfl)
theorem b91_31 {d L : Nat} {σ : St} {Q : Option AV → AW → Prop} {y0 : Int} {u0 u1 u2 u3 u4 : AV} : R (d + 1) 91 31 [u0, u1, u2, u3, u4] [vI y0] (WS L σ) Q = R d 13 0 [vI y0, vI 8] [] (WS L σ) (fun r w => R (d + 1) 91 36 [u0, u1, u2, u3, u4] (am_push r []) w Q) := K_bipush fi_91_31 <| R_invS fi_91_33 (by decide) (am_invS_of (Nat.le_of_ble_eq_true rfl) rfl (Nat.le_of_ble_eq_true rfl) (Nat.le_of_ble_eq_true rfl) rfl rfl)
theorem b91_36 {d L : Nat} {σ : St} {Q : Option AV → AW → Prop} {y0 : Int} {u0 u1 u2 u3 u4 : AV} : R d 91 36 [u0, u1, u2, u3, u4] [vI y0] (WS L σ) Q = if y0 = 0 then R d 91 60 [u0, u1, u2, u3, u4] [] (WS L σ) Q else R d 91 39 [u0, u1, u2, u3, u4] [] (WS L σ) Q := R_if_eq fi_91_36 rfl
theorem b91_39 {d L : Nat} {σ : St} {Q : Option AV → AW → Prop} {x2 x4 : Int} {r3 : Nat} {u0 u1 : AV} (h1 : KD r3 = 5) : R (d + 1) 91 39 [u0, u1, vI x2, vR r3, vI x4] [] (WS L σ) Q = R d 64 0 [vR r3, vI x4] [] (WS L σ) (fun r w => R (d + 1) 91 46 [u0, u1, vI x2, vR r3, vI x4] (am_push r [vI x2]) w Q) := K_iload_n fi_91_39 rfl <| K_aload_n fi_91_40 rfl <| K_iload fi_91_41 rfl <| R_invV fi_91_43 (am_invV_of rfl (h1) (Nat.le_of_ble_eq_true rfl) (Nat.le_of_ble_eq_true rfl) rfl rfl)
theorem b91_46 {d L : Nat} {σ : St} {Q : Option AV → AW → Prop} {y0 y1 : Int} {u0 u1 u2 u3 u4 : AV} : R d 91 46 [u0, u1, u2, u3, u4] [vI y0, vI y1] (WS L σ) Q = if ¬ (i_and (i_shr y1 y0) 1) = 1 then R d 91 60 [u0, u1, u2, u3, u4] [] (WS L σ) Q else R d 91 53 [u0, u1, u2, u3, u4] [] (WS L σ) Q := K_ishr fi_91_46 <| K_iconst fi_91_47 <| K_iand fi_91_48 <| K_iconst fi_91_49 <| R_icmp_ne fi_91_50 rfl
theorem b91_53 {d L : Nat} {σ : St} {Q : Option AV → AW → Prop} {x4 : Int} {r3 : Nat} {u0 u1 u2 : AV} (h1 : KD r3 = 5) : R (d + 1) 91 53 [u0, u1, u2, vR r3, vI x4] [] (WS L σ) Q = R d 64 0 [vR r3, vI x4] [] (WS L σ) (fun r w => R (d + 1) 91 59 [u0, u1, u2, vR r3, vI x4] (am_push r []) w Q) := K_aload_n fi_91_53 rfl <| K_iload fi_91_54 rfl <| R_invV fi_91_56 (am_invV_of rfl (h1) (Nat.le_of_ble_eq_true rfl) (Nat.le_of_ble_eq_true rfl) rfl rfl)
theorem b91_59 {d L : Nat} {σ : St} {Q : Option AV → AW → Prop} {y0 : Int} {u0 u1 u2 u3 u4 : AV} : R d 91 59 [u0, u1, u2, u3, u4] [vI y0] (WS L σ) Q = Q (some (vI y0)) (WS L σ) := R_ireti fi_91_59 rfl
theorem b91_60 {d L : Nat} {σ : St} {Q : Option AV → AW → Prop} {x4 : Int} {u0 u1 u2 u3 : AV} (h1 : -2147483648 ≤ x4 + 1 ∧ x4 + 1 ≤ 2147483647) : R d 91 60 [u0, u1, u2, u3, vI x4] [] (WS L σ) Q = R d 91 12 [u0, u1, u2, u3, vI (x4 + 1)] [] (WS L σ) Q := K_iincx fi_91_60 rfl (Nat.le_of_ble_eq_true rfl) rfl h1 rfl <| R_goto fi_91_63 rfl
theorem b91_66 {d L : Nat} {σ : St} {Q : Option AV → AW → Prop} {x2 : Int} {u0 u1 u3 u4 : AV} : R (d + 1) 91 66 [u0, u1, vI x2, u3, u4] [] (WS L σ) Q = R d 92 0 [vI x2, vX 9] [] (WS L σ) (fun r w => R (d + 1) 91 70 [u0, u1, vI x2, u3, u4] (am_push r []) w Q) := K_iload_n fi_91_66 rfl <| R_invS fi_91_67 (by decide) (am_invS_of (Nat.le_of_ble_eq_true rfl) rfl (Nat.le_of_ble_eq_true rfl) (Nat.le_of_ble_eq_true rfl) rfl rfl)
theorem b91_66m {d L : Nat} {σ : St} {Q : Option AV → AW → Prop} {x2 : Int} {u0 u1 u3 u4 : AV} : R (d + 1) 91 66 [u0, u1, vI x2, u3, u4] [] (WS L σ) Q = R d 92 0 [vI x2, vX 9] [] (WS L σ) (fun r w => R (d + 1) 91 70 [u0, u1, vI x2, u3, u4] (am_push r []) w Q) := K_iload_n fi_91_66 rfl <| R_invS fi_91_67 (by decide) (am_invS_of (Nat.le_of_ble_eq_true rfl) rfl (Nat.le_of_ble_eq_true rfl) (Nat.le_of_ble_eq_true rfl) rfl rfl)
theorem b91_70 {d L : Nat} {σ : St} {Q : Option AV → AW → Prop} {y0 : Int} {u0 u1 u2 u3 u4 : AV} : R d 91 70 [u0, u1, u2, u3, u4] [vI y0] (WS L σ) Q = Q (some (vI y0)) (WS L σ) := R_ireti fi_91_70 rfl
theorem b91_70m {d L : Nat} {σ : St} {Q : Option AV → AW → Prop} {y0 : Int} {u0 u1 u2 u3 u4 : AV} : R d 91 70 [u0, u1, u2, u3, u4] [vI y0] (WS L σ) Q = Q (some (vI y0)) (WS L σ) := R_ireti fi_91_70 rfl
theorem fi_92_0 : am_find 92 0 = some (.iconst 0, 1, 0, 0, 0) := by decide +kernel
theorem fi_92_1 : am_find 92 1 = some (.istore_n 1, 1, 0, 0, 0) := by decide +kernel
theorem fi_92_2 : am_find 92 2 = some (.iload_n 1, 1, 0, 0, 0) := by decide +kernel
theorem fi_92_3 : am_find 92 3 = some (.bipush 8, 2, 0, 8, 0) := by decide +kernel
theorem fi_92_5 : am_find 92 5 = some (.if_icmp .ge 20, 3, 0, 0, 0) := by decide +kernel
theorem fi_92_8 : am_find 92 8 = some (.iload_n 0, 1, 0, 0, 0) := by decide +kernel
theorem fi_92_9 : am_find 92 9 = some (.iload_n 1, 1, 0, 0, 0) := by decide +kernel
theorem fi_92_10 : am_find 92 10 = some (.ishr, 1, 0, 0, 0) := by decide +kernel
theorem fi_92_11 : am_find 92 11 = some (.iconst 1, 1, 0, 1, 0) := by decide +kernel
theorem fi_92_12 : am_find 92 12 = some (.iand, 1, 0, 0, 0) := by decide +kernel
theorem fi_92_13 : am_find 92 13 = some (.iconst 1, 1, 0, 1, 0) := by decide +kernel
theorem fi_92_14 : am_find 92 14 = some (.if_icmp .ne 5, 3, 0, 0, 0) := by decide +kernel
theorem fi_92_17 : am_find 92 17 = some (.iload_n 1, 1, 0, 0, 0) := by decide +kernel
theorem fi_92_18 : am_find 92 18 = some (.ireturn, 1, 0, 0, 0) := by decide +kernel
theorem fi_92_19 : am_find 92 19 = some (.iinc 1 1, 3, 0, 0, 0) := by decide +kernel
theorem fi_92_22 : am_find 92 22 = some (.goto (-20), 3, 0, 0, 0) := by decide +kernel
theorem fi_92_25 : am_find 92 25 = some (.bipush (-5), 2, 0, (-5), 0) := by decide +kernel
theorem fi_92_27 : am_find 92 27 = some (.ireturn, 1, 0, 0, 0) := by decide +kernel
theorem b92_0 {d L : Nat} {σ : St} {Q : Option AV → AW → Prop} {u0 u1 : AV} : R d 92 0 [u0, u1] [] (WS L σ) Q = R d 92 2 [u0, vI 0] [] (WS L σ) Q := K_iconst fi_92_0 <| K_istore_n fi_92_1 (Nat.le_of_ble_eq_true rfl) rfl rfl <| rfl
theorem b92_2 {d L : Nat} {σ : St} {Q : Option AV → AW → Prop} {x1 : Int} {u0 : AV} : R d 92 2 [u0, vI x1] [] (WS L σ) Q = if 8 ≤ x1 then R d 92 25 [u0, vI x1] [] (WS L σ) Q else R d 92 8 [u0, vI x1] [] (WS L σ) Q := K_iload_n fi_92_2 rfl <| K_bipush fi_92_3 <| R_icmp_ge fi_92_5 rfl
theorem b92_8 {d L : Nat} {σ : St} {Q : Option AV → AW → Prop} {x0 x1 : Int} : R d 92 8 [vI x0, vI x1] [] (WS L σ) Q = if ¬ (i_and (i_shr x0 x1) 1) = 1 then R d 92 19 [vI x0, vI x1] [] (WS L σ) Q else R d 92 17 [vI x0, vI x1] [] (WS L σ) Q := K_iload_n fi_92_8 rfl <| K_iload_n fi_92_9 rfl <| K_ishr fi_92_10 <| K_iconst fi_92_11 <| K_iand fi_92_12 <| K_iconst fi_92_13 <| R_icmp_ne fi_92_14 rfl
theorem b92_17 {d L : Nat} {σ : St} {Q : Option AV → AW → Prop} {x1 : Int} {u0 : AV} : R d 92 17 [u0, vI x1] [] (WS L σ) Q = Q (some (vI x1)) (WS L σ) := K_iload_n fi_92_17 rfl <| R_ireti fi_92_18 rfl
theorem b92_19 {d L : Nat} {σ : St} {Q : Option AV → AW → Prop} {x1 : Int} {u0 : AV} (h1 : -2147483648 ≤ x1 + 1 ∧ x1 + 1 ≤ 2147483647) : R d 92 19 [u0, vI x1] [] (WS L σ) Q = R d 92 2 [u0, vI (x1 + 1)] [] (WS L σ) Q := K_iincx fi_92_19 rfl (Nat.le_of_ble_eq_true rfl) rfl h1 rfl <| R_goto fi_92_22 rfl
theorem b92_25 {d L : Nat} {σ : St} {Q : Option AV → AW → Prop} {u0 u1 : AV} : R d 92 25 [u0, u1] [] (WS L σ) Q = Q (some (vI (-5))) (WS L σ) := K_bipush fi_92_25 <| R_ireti fi_92_27 rfl
theorem fi_93_0 : am_find 93 0 = some (.iconst 0, 1, 0, 0, 0) := by decide +kernel
theorem fi_93_1 : am_find 93 1 = some (.istore_n 2, 1, 0, 0, 0) := by decide +kernel
theorem fi_93_2 : am_find 93 2 = some (.iconst 0, 1, 0, 0, 0) := by decide +kernel
theorem fi_93_3 : am_find 93 3 = some (.istore_n 3, 1, 0, 0, 0) := by decide +kernel
theorem fi_93_4 : am_find 93 4 = some (.iconst 0, 1, 0, 0, 0) := by decide +kernel
theorem fi_93_5 : am_find 93 5 = some (.istore 4, 2, 0, 0, 0) := by decide +kernel
theorem fi_93_7 : am_find 93 7 = some (.iload 4, 2, 0, 0, 0) := by decide +kernel
theorem fi_93_9 : am_find 93 9 = some (.bipush 8, 2, 0, 8, 0) := by decide +kernel
theorem fi_93_11 : am_find 93 11 = some (.if_icmp .ge 66, 3, 0, 0, 0) := by decide +kernel
theorem fi_93_14 : am_find 93 14 = some (.iload_n 1, 1, 0, 0, 0) := by decide +kernel
theorem fi_93_15 : am_find 93 15 = some (.iload 4, 2, 0, 0, 0) := by decide +kernel
theorem fi_93_17 : am_find 93 17 = some (.ishr, 1, 0, 0, 0) := by decide +kernel
theorem fi_93_18 : am_find 93 18 = some (.iconst 1, 1, 0, 1, 0) := by decide +kernel
theorem fi_93_19 : am_find 93 19 = some (.iand, 1, 0, 0, 0) := by decide +kernel
theorem fi_93_20 : am_find 93 20 = some (.iconst 1, 1, 0, 1, 0) := by decide +kernel
theorem fi_93_21 : am_find 93 21 = some (.if_icmp .ne 50, 3, 0, 0, 0) := by decide +kernel
theorem fi_93_24 : am_find 93 24 = some (.aload_n 0, 1, 0, 0, 0) := by decide +kernel
theorem fi_93_25 : am_find 93 25 = some (.getfield 20, 3, 3, 0, 33) := by decide +kernel
theorem fi_93_28 : am_find 93 28 = some (.iload 4, 2, 0, 0, 0) := by decide +kernel
theorem fi_93_30 : am_find 93 30 = some (.invokevirtual 124, 3, 94, 1, 104) := by decide +kernel
theorem fi_93_33 : am_find 93 33 = some (.istore 5, 2, 0, 0, 0) := by decide +kernel
theorem fi_93_35 : am_find 93 35 = some (.iload 5, 2, 0, 0, 0) := by decide +kernel
theorem fi_93_37 : am_find 93 37 = some (.iload_n 2, 1, 0, 0, 0) := by decide +kernel
theorem fi_93_38 : am_find 93 38 = some (.if_icmp .le 7, 3, 0, 0, 0) := by decide +kernel
theorem fi_93_41 : am_find 93 41 = some (.iconst 0, 1, 0, 0, 0) := by decide +kernel
theorem fi_93_42 : am_find 93 42 = some (.goto 4, 3, 0, 0, 0) := by decide +kernel
theorem fi_93_45 : am_find 93 45 = some (.iload_n 3, 1, 0, 0, 0) := by decide +kernel
theorem fi_93_46 : am_find 93 46 = some (.istore_n 3, 1, 0, 0, 0) := by decide +kernel
theorem fi_93_47 : am_find 93 47 = some (.iload_n 2, 1, 0, 0, 0) := by decide +kernel
theorem fi_93_48 : am_find 93 48 = some (.iload 5, 2, 0, 0, 0) := by decide +kernel
theorem fi_93_50 : am_find 93 50 = some (.invokestatic 127, 3, 9990, 0, 806) := by decide +kernel
theorem fi_93_53 : am_find 93 53 = some (.istore_n 2, 1, 0, 0, 0) := by decide +kernel
theorem fi_93_54 : am_find 93 54 = some (.iload_n 3, 1, 0, 0, 0) := by decide +kernel
theorem fi_93_55 : am_find 93 55 = some (.iload 5, 2, 0, 0, 0) := by decide +kernel
theorem fi_93_57 : am_find 93 57 = some (.iload_n 2, 1, 0, 0, 0) := by decide +kernel
theorem fi_93_58 : am_find 93 58 = some (.if_icmp .ne 10, 3, 0, 0, 0) := by decide +kernel
theorem fi_93_61 : am_find 93 61 = some (.iconst 1, 1, 0, 1, 0) := by decide +kernel
theorem fi_93_62 : am_find 93 62 = some (.iload 4, 2, 0, 0, 0) := by decide +kernel
theorem fi_93_64 : am_find 93 64 = some (.ishl, 1, 0, 0, 0) := by decide +kernel
theorem fi_93_65 : am_find 93 65 = some (.goto 4, 3, 0, 0, 0) := by decide +kernel
theorem fi_93_68 : am_find 93 68 = some (.iconst 0, 1, 0, 0, 0) := by decide +kernel
theorem fi_93_69 : am_find 93 69 = some (.ior, 1, 0, 0, 0) := by decide +kernel
theorem fi_93_70 : am_find 93 70 = some (.istore_n 3, 1, 0, 0, 0) := by decide +kernel
theorem fi_93_71 : am_find 93 71 = some (.iinc 4 1, 3, 0, 0, 0) := by decide +kernel
theorem fi_93_74 : am_find 93 74 = some (.goto (-67), 3, 0, 0, 0) := by decide +kernel
theorem fi_93_77 : am_find 93 77 = some (.iload_n 3, 1, 0, 0, 0) := by decide +kernel
theorem fi_93_78 : am_find 93 78 = some (.ireturn, 1, 0, 0, 0) := by decide +kernel
theorem b93_0 {d L : Nat} {σ : St} {Q : Option AV → AW → Prop} {x1 : Int} {u0 u2 u3 u4 u5 : AV} : R d 93 0 [u0, vI x1, u2, u3, u4, u5] [] (WS L σ) Q = R d 93 7 [u0, vI x1, vI 0, vI 0, vI 0, u5] [] (WS L σ) Q := K_iconst fi_93_0 <| K_istore_n fi_93_1 (Nat.le_of_ble_eq_true rfl) rfl rfl <| K_iconst fi_93_2 <| K_istore_n fi_93_3 (Nat.le_of_ble_eq_true rfl) rfl rfl <| K_iconst fi_93_4 <| K_istore fi_93_5 (Nat.le_of_ble_eq_true rfl) rfl rfl <| rfl
theorem b93_7 {d L : Nat} {σ : St} {Q : Option AV → AW → Prop} {x4 : Int} {u0 u1 u2 u3 u5 : AV} : R d 93 7 [u0, u1, u2, u3, vI x4, u5] [] (WS L σ) Q = if 8 ≤ x4 then R d 93 77 [u0, u1, u2, u3, vI x4, u5] [] (WS L σ) Q else R d 93 14 [u0, u1, u2, u3, vI x4, u5] [] (WS L σ) Q := K_iload fi_93_7 rfl <| K_bipush fi_93_9 <| R_icmp_ge fi_93_11 rfl
theorem b93_14 {d L : Nat} {σ : St} {Q : Option AV → AW → Prop} {x1 x4 : Int} {u0 u2 u3 u5 : AV} : R d 93 14 [u0, vI x1, u2, u3, vI x4, u5] [] (WS L σ) Q = if ¬ (i_and (i_shr x1 x4) 1) = 1 then R d 93 71 [u0, vI x1, u2, u3, vI x4, u5] [] (WS L σ) Q else R d 93 24 [u0, vI x1, u2, u3, vI x4, u5] [] (WS L σ) Q := K_iload_n fi_93_14 rfl <| K_iload fi_93_15 rfl <| K_ishr fi_93_17 <| K_iconst fi_93_18 <| K_iand fi_93_19 <| K_iconst fi_93_20 <| R_icmp_ne fi_93_21 rfl
theorem b93_24 {d L : Nat} {σ : St} {Q : Option AV → AW → Prop} {x4 : Int} {u1 u2 u3 u5 : AV} : R (d + 1) 93 24 [vR 142, u1, u2, u3, vI x4, u5] [] (WS L σ) Q = R d 94 0 [vR 20, vI x4, vX 9, vX 9, vX 9] [] (WS L σ) (fun r w => R (d + 1) 93 33 [vR 142, u1, u2, u3, vI x4, u5] (am_push r []) w Q) := K_aload_n fi_93_24 rfl <| K_gf fi_93_25 kd_142 mk_142_0 <| K_iload fi_93_28 rfl <| R_invV fi_93_30 (am_invV_of rfl (kd_20) (Nat.le_of_ble_eq_true rfl) (Nat.le_of_ble_eq_true rfl) rfl rfl)
theorem b93_33 {d L : Nat} {σ : St} {Q : Option AV → AW → Prop} {y0 x2 : Int} {u0 u1 u3 u4 u5 : AV} : R d 93 33 [u0, u1, vI x2, u3, u4, u5] [vI y0] (WS L σ) Q = if y0 ≤ x2 then R d 93 45 [u0, u1, vI x2, u3, u4, vI y0] [] (WS L σ) Q else R d 93 41 [u0, u1, vI x2, u3, u4, vI y0] [] (WS L σ) Q := K_istore fi_93_33 (Nat.le_of_ble_eq_true rfl) rfl rfl <| K_iload fi_93_35 rfl <| K_iload_n fi_93_37 rfl <| R_icmp_le fi_93_38 rfl
theorem b93_41 {d L : Nat} {σ : St} {Q : Option AV → AW → Prop} {u0 u1 u2 u3 u4 u5 : AV} : R d 93 41 [u0, u1, u2, u3, u4, u5] [] (WS L σ) Q = R d 93 46 [u0, u1, u2, u3, u4, u5] [vI 0] (WS L σ) Q := K_iconst fi_93_41 <| R_goto fi_93_42 rfl
theorem b93_45 {d L : Nat} {σ : St} {Q : Option AV → AW → Prop} {x3 : Int} {u0 u1 u2 u4 u5 : AV} : R d 93 45 [u0, u1, u2, vI x3, u4, u5] [] (WS L σ) Q = R d 93 46 [u0, u1, u2, vI x3, u4, u5] [vI x3] (WS L σ) Q := K_iload_n fi_93_45 rfl <| rfl
theorem b93_46 {d L : Nat} {σ : St} {Q : Option AV → AW → Prop} {y0 x2 x5 x1 : Int} {u0 u3 u4 : AV} : R d 93 46 [u0, vI x1, vI x2, u3, u4, vI x5] [vI y0] (WS L σ) Q = if ¬ x5 = (i_max x2 x5) then R d 93 68 [u0, vI x1, vI (i_max x2 x5), vI y0, u4, vI x5] [vI y0] (WS L σ) Q else R d 93 61 [u0, vI x1, vI (i_max x2 x5), vI y0, u4, vI x5] [vI y0] (WS L σ) Q := K_istore_n fi_93_46 (Nat.le_of_ble_eq_true rfl) rfl rfl <| K_iload_n fi_93_47 rfl <| K_iload fi_93_48 rfl <| K_max fi_93_50 (Nat.le_of_ble_eq_true rfl) <| K_istore_n fi_93_53 (Nat.le_of_ble_eq_true rfl) rfl rfl <| K_iload_n fi_93_54 rfl <| K_iload fi_93_55 rfl <| K_iload_n fi_93_57 rfl <| R_icmp_ne fi_93_58 rfl
theorem b93_61 {d L : Nat} {σ : St} {Q : Option AV → AW → Prop} {y0 x4 : Int} {u0 u1 u2 u3 u5 : AV} : R d 93 61 [u0, u1, u2, u3, vI x4, u5] [vI y0] (WS L σ) Q = R d 93 69 [u0, u1, u2, u3, vI x4, u5] [vI (i_shl 1 x4), vI y0] (WS L σ) Q := K_iconst fi_93_61 <| K_iload fi_93_62 rfl <| K_ishl fi_93_64 <| R_goto fi_93_65 rfl
theorem b93_68 {d L : Nat} {σ : St} {Q : Option AV → AW → Prop} {y0 : Int} {u0 u1 u2 u3 u4 u5 : AV} : R d 93 68 [u0, u1, u2, u3, u4, u5] [vI y0] (WS L σ) Q = R d 93 69 [u0, u1, u2, u3, u4, u5] [vI 0, vI y0] (WS L σ) Q := K_iconst fi_93_68 <| rfl
theorem b93_69 {d L : Nat} {σ : St} {Q : Option AV → AW → Prop} {y0 y1 : Int} {u0 u1 u2 u3 u4 u5 : AV} : R d 93 69 [u0, u1, u2, u3, u4, u5] [vI y0, vI y1] (WS L σ) Q = R d 93 71 [u0, u1, u2, vI (i_or y1 y0), u4, u5] [] (WS L σ) Q := K_ior fi_93_69 <| K_istore_n fi_93_70 (Nat.le_of_ble_eq_true rfl) rfl rfl <| rfl
theorem b93_71 {d L : Nat} {σ : St} {Q : Option AV → AW → Prop} {x4 : Int} {u0 u1 u2 u3 u5 : AV} (h1 : -2147483648 ≤ x4 + 1 ∧ x4 + 1 ≤ 2147483647) : R d 93 71 [u0, u1, u2, u3, vI x4, u5] [] (WS L σ) Q = R d 93 7 [u0, u1, u2, u3, vI (x4 + 1), u5] [] (WS L σ) Q := K_iincx fi_93_71 rfl (Nat.le_of_ble_eq_true rfl) rfl h1 rfl <| R_goto fi_93_74 rfl
theorem b93_77 {d L : Nat} {σ : St} {Q : Option AV → AW → Prop} {x3 : Int} {u0 u1 u2 u4 u5 : AV} : R d 93 77 [u0, u1, u2, vI x3, u4, u5] [] (WS L σ) Q = Q (some (vI x3)) (WS L σ) := K_iload_n fi_93_77 rfl <| R_ireti fi_93_78 rfl
theorem fi_94_0 : am_find 94 0 = some (.iconst 0, 1, 0, 0, 0) := by decide +kernel
theorem fi_94_1 : am_find 94 1 = some (.istore_n 2, 1, 0, 0, 0) := by decide +kernel
theorem fi_94_2 : am_find 94 2 = some (.iconst 0, 1, 0, 0, 0) := by decide +kernel
theorem fi_94_3 : am_find 94 3 = some (.istore_n 3, 1, 0, 0, 0) := by decide +kernel
theorem fi_94_4 : am_find 94 4 = some (.iload_n 3, 1, 0, 0, 0) := by decide +kernel
theorem fi_94_5 : am_find 94 5 = some (.aload_n 0, 1, 0, 0, 0) := by decide +kernel
theorem fi_94_6 : am_find 94 6 = some (.getfield 75, 3, 8, 4, 65) := by decide +kernel
theorem fi_94_9 : am_find 94 9 = some (.if_icmp .ge 51, 3, 0, 0, 0) := by decide +kernel
theorem fi_94_12 : am_find 94 12 = some (.aload_n 0, 1, 0, 0, 0) := by decide +kernel
theorem fi_94_13 : am_find 94 13 = some (.iload_n 3, 1, 0, 0, 0) := by decide +kernel
theorem fi_94_14 : am_find 94 14 = some (.invokevirtual 127, 3, 95, 1, 105) := by decide +kernel
theorem fi_94_17 : am_find 94 17 = some (.astore 4, 2, 0, 0, 0) := by decide +kernel
theorem fi_94_19 : am_find 94 19 = some (.aload 4, 2, 0, 0, 0) := by decide +kernel
theorem fi_94_21 : am_find 94 21 = some (.ifnull 33, 3, 0, 0, 0) := by decide +kernel
theorem fi_94_24 : am_find 94 24 = some (.aload 4, 2, 0, 0, 0) := by decide +kernel
theorem fi_94_26 : am_find 94 26 = some (.getfield 131, 3, 5, 1, 66) := by decide +kernel
theorem fi_94_29 : am_find 94 29 = some (.ifCond .le 25, 3, 0, 0, 0) := by decide +kernel
theorem fi_94_32 : am_find 94 32 = some (.aload 4, 2, 0, 0, 0) := by decide +kernel
theorem fi_94_34 : am_find 94 34 = some (.aload 4, 2, 0, 0, 0) := by decide +kernel
theorem fi_94_36 : am_find 94 36 = some (.getfield 131, 3, 5, 1, 66) := by decide +kernel
theorem fi_94_39 : am_find 94 39 = some (.iconst 1, 1, 0, 1, 0) := by decide +kernel
theorem fi_94_40 : am_find 94 40 = some (.isub, 1, 0, 0, 0) := by decide +kernel
theorem fi_94_41 : am_find 94 41 = some (.invokevirtual 109, 3, 64, 1, 61) := by decide +kernel
theorem fi_94_44 : am_find 94 44 = some (.bipush 8, 2, 0, 8, 0) := by decide +kernel
theorem fi_94_46 : am_find 94 46 = some (.irem, 1, 0, 0, 0) := by decide +kernel
theorem fi_94_47 : am_find 94 47 = some (.iload_n 1, 1, 0, 0, 0) := by decide +kernel
theorem fi_94_48 : am_find 94 48 = some (.if_icmp .ne 6, 3, 0, 0, 0) := by decide +kernel
theorem fi_94_51 : am_find 94 51 = some (.iinc 2 1, 3, 0, 0, 0) := by decide +kernel
theorem fi_94_54 : am_find 94 54 = some (.iinc 3 1, 3, 0, 0, 0) := by decide +kernel
theorem fi_94_57 : am_find 94 57 = some (.goto (-53), 3, 0, 0, 0) := by decide +kernel
theorem fi_94_60 : am_find 94 60 = some (.iload_n 2, 1, 0, 0, 0) := by decide +kernel
theorem fi_94_61 : am_find 94 61 = some (.ireturn, 1, 0, 0, 0) := by decide +kernel
theorem b94_0 {d L : Nat} {σ : St} {Q : Option AV → AW → Prop} {x1 : Int} {u0 u2 u3 u4 : AV} : R d 94 0 [u0, vI x1, u2, u3, u4] [] (WS L σ) Q = R d 94 4 [u0, vI x1, vI 0, vI 0, u4] [] (WS L σ) Q := K_iconst fi_94_0 <| K_istore_n fi_94_1 (Nat.le_of_ble_eq_true rfl) rfl rfl <| K_iconst fi_94_2 <| K_istore_n fi_94_3 (Nat.le_of_ble_eq_true rfl) rfl rfl <| rfl
theorem b94_4 {d L : Nat} {σ : St} {Q : Option AV → AW → Prop} {x3 : Int} {u1 u2 u4 : AV} : R d 94 4 [vR 20, u1, u2, vI x3, u4] [] (WS L σ) Q = if (σ 20 4) ≤ x3 then R d 94 60 [vR 20, u1, u2, vI x3, u4] [] (WS L σ) Q else R d 94 12 [vR 20, u1, u2, vI x3, u4] [] (WS L σ) Q := K_iload_n fi_94_4 rfl <| K_aload_n fi_94_5 rfl <| K_gf fi_94_6 kd_20 mk_20_4 <| R_icmp_ge fi_94_9 rfl
theorem b94_4m {d L : Nat} {σ : St} {Q : Option AV → AW → Prop} {x3 : Int} {u1 u2 u4 : AV} : R d 94 4 [vR 20, u1, u2, vI x3, u4] [] (WS L σ) Q = if (σ 20 4) ≤ x3 then R d 94 60 [vR 20, u1, u2, vI x3, u4] [] (WS L σ) Q else R d 94 12 [vR 20, u1, u2, vI x3, u4] [] (WS L σ) Q := K_iload_n fi_94_4 rfl <| K_aload_n fi_94_5 rfl <| K_gf fi_94_6 kd_20 mk_20_4 <| R_icmp_ge fi_94_9 rfl
theorem b94_12 {d L : Nat} {σ : St} {Q : Option AV → AW → Prop} {x3 : Int} {u1 u2 u4 : AV} : R (d + 1) 94 12 [vR 20, u1, u2, vI x3, u4] [] (WS L σ) Q = R d 95 0 [vR 20, vI x3] [] (WS L σ) (fun r w => R (d + 1) 94 17 [vR 20, u1, u2, vI x3, u4] (am_push r []) w Q) := K_aload_n fi_94_12 rfl <| K_iload_n fi_94_13 rfl <| R_invV fi_94_14 (am_invV_of rfl (kd_20) (Nat.le_of_ble_eq_true rfl) (Nat.le_of_ble_eq_true rfl) rfl rfl)
theorem b94_12m {d L : Nat} {σ : St} {Q : Option AV → AW → Prop} {x3 : Int} {u1 u2 u4 : AV} : R (d + 1) 94 12 [vR 20, u1, u2, vI x3, u4] [] (WS L σ) Q = R d 95 0 [vR 20, vI x3] [] (WS L σ) (fun r w => R (d + 1) 94 17 [vR 20, u1, u2, vI x3, u4] (am_push r []) w Q) := K_aload_n fi_94_12 rfl <| K_iload_n fi_94_13 rfl <| R_invV fi_94_14 (am_invV_of rfl (kd_20) (Nat.le_of_ble_eq_true rfl) (Nat.le_of_ble_eq_true rfl) rfl rfl)
theorem b94_17 {d L : Nat} {σ : St} {Q : Option AV → AW → Prop} {q0 : Nat} {u0 u1 u2 u3 u4 : AV} : R d 94 17 [u0, u1, u2, u3, u4] [vR q0] (WS L σ) Q = R d 94 24 [u0, u1, u2, u3, vR q0] [] (WS L σ) Q := K_astore fi_94_17 (Nat.le_of_ble_eq_true rfl) rfl rfl <| K_aload fi_94_19 rfl <| R_ifnull fi_94_21
theorem b94_17n {d L : Nat} {σ : St} {Q : Option AV → AW → Prop} {u0 u1 u2 u3 u4 : AV} : R d 94 17 [u0, u1, u2, u3, u4] [vX 0] (WS L σ) Q = R d 94 54 [u0, u1, u2, u3, vX 0] [] (WS L σ) Q := K_astoreN fi_94_17 (Nat.le_of_ble_eq_true rfl) rfl rfl <| K_aloadN fi_94_19 rfl <| R_ifnullN fi_94_21 rfl
theorem b94_17m {d L : Nat} {σ : St} {Q : Option AV → AW → Prop} {q0 : Nat} {u0 u1 u2 u3 u4 : AV} : R d 94 17 [u0, u1, u2, u3, u4] [vR q0] (WS L σ) Q = R d 94 24 [u0, u1, u2, u3, vR q0] [] (WS L σ) Q := K_astore fi_94_17 (Nat.le_of_ble_eq_true rfl) rfl rfl <| K_aload fi_94_19 rfl <| R_ifnull fi_94_21
theorem b94_17mn {d L : Nat} {σ : St} {Q : Option AV → AW → Prop} {u0 u1 u2 u3 u4 : AV} : R d 94 17 [u0, u1, u2, u3, u4] [vX 0] (WS L σ) Q = R d 94 54 [u0, u1, u2, u3, vX 0] [] (WS L σ) Q := K_astoreN fi_94_17 (Nat.le_of_ble_eq_true rfl) rfl rfl <| K_aloadN fi_94_19 rfl <| R_ifnullN fi_94_21 rfl
theorem b94_24 {d L : Nat} {σ : St} {Q : Option AV → AW → Prop} {r4 : Nat} {u0 u1 u2 u3 : AV} (h1 : KD r4 = 5) : R d 94 24 [u0, u1, u2, u3, vR r4] [] (WS L σ) Q = if (σ r4 1) ≤ 0 then R d 94 54 [u0, u1, u2, u3, vR r4] [] (WS L σ) Q else R d 94 32 [u0, u1, u2, u3, vR r4] [] (WS L σ) Q := K_aload fi_94_24 rfl <| K_gf fi_94_26 h1 (row_sz h1) <| R_if_le fi_94_29 rfl
theorem b94_32 {d L : Nat} {σ : St} {Q : Option AV → AW → Prop} {r4 : Nat} {u0 u1 u2 u3 : AV} (h1 : KD r4 = 5) (h2 : -2147483648 ≤ (σ r4 1) - 1 ∧ (σ r4 1) - 1 ≤ 2147483647) : R (d + 1) 94 32 [u0, u1, u2, u3, vR r4] [] (WS L σ) Q = R d 64 0 [vR r4, vI ((σ r4 1) - 1)] [] (WS L σ) (fun r w => R (d + 1) 94 44 [u0, u1, u2, u3, vR r4] (am_push r []) w Q) := K_aload fi_94_32 rfl <| K_aload fi_94_34 rfl <| K_gf fi_94_36 h1 (row_sz h1) <| K_iconst fi_94_39 <| K_isubx fi_94_40 h2 <| R_invV fi_94_41 (am_invV_of rfl (h1) (Nat.le_of_ble_eq_true rfl) (Nat.le_of_ble_eq_true rfl) rfl rfl)
theorem b94_44 {d L : Nat} {σ : St} {Q : Option AV → AW → Prop} {y0 x1 : Int} {u0 u2 u3 u4 : AV} : R d 94 44 [u0, vI x1, u2, u3, u4] [vI y0] (WS L σ) Q = if ¬ (i_rem y0 8) = x1 then R d 94 54 [u0, vI x1, u2, u3, u4] [] (WS L σ) Q else R d 94 51 [u0, vI x1, u2, u3, u4] [] (WS L σ) Q := K_bipush fi_94_44 <| K_irem fi_94_46 (by decide) <| K_iload_n fi_94_47 rfl <| R_icmp_ne fi_94_48 rfl
theorem b94_51 {d L : Nat} {σ : St} {Q : Option AV → AW → Prop} {x2 x1 : Int} {u0 u3 u4 : AV} (h1 : -2147483648 ≤ x2 + 1 ∧ x2 + 1 ≤ 2147483647) : R d 94 51 [u0, vI x1, vI x2, u3, u4] [] (WS L σ) Q = R d 94 54 [u0, vI x1, vI (x2 + 1), u3, u4] [] (WS L σ) Q := K_iincx fi_94_51 rfl (Nat.le_of_ble_eq_true rfl) rfl h1 rfl <| rfl
theorem b94_54 {d L : Nat} {σ : St} {Q : Option AV → AW → Prop} {x3 : Int} {u0 u1 u2 u4 : AV} (h1 : -2147483648 ≤ x3 + 1 ∧ x3 + 1 ≤ 2147483647) : R d 94 54 [u0, u1, u2, vI x3, u4] [] (WS L σ) Q = R d 94 4 [u0, u1, u2, vI (x3 + 1), u4] [] (WS L σ) Q := K_iincx fi_94_54 rfl (Nat.le_of_ble_eq_true rfl) rfl h1 rfl <| R_goto fi_94_57 rfl
theorem b94_54m {d L : Nat} {σ : St} {Q : Option AV → AW → Prop} {x3 : Int} {u0 u1 u2 u4 : AV} (h1 : -2147483648 ≤ x3 + 1 ∧ x3 + 1 ≤ 2147483647) : R d 94 54 [u0, u1, u2, vI x3, u4] [] (WS L σ) Q = R d 94 4 [u0, u1, u2, vI (x3 + 1), u4] [] (WS L σ) Q := K_iincx fi_94_54 rfl (Nat.le_of_ble_eq_true rfl) rfl h1 rfl <| R_goto fi_94_57 rfl
theorem b94_60 {d L : Nat} {σ : St} {Q : Option AV → AW → Prop} {x2 : Int} {u0 u1 u3 u4 : AV} : R d 94 60 [u0, u1, vI x2, u3, u4] [] (WS L σ) Q = Q (some (vI x2)) (WS L σ) := K_iload_n fi_94_60 rfl <| R_ireti fi_94_61 rfl
theorem b94_60m {d L : Nat} {σ : St} {Q : Option AV → AW → Prop} {x2 : Int} {u0 u1 u3 u4 : AV} : R d 94 60 [u0, u1, vI x2, u3, u4] [] (WS L σ) Q = Q (some (vI x2)) (WS L σ) := K_iload_n fi_94_60 rfl <| R_ireti fi_94_61 rfl
theorem fi_95_0 : am_find 95 0 = some (.iload_n 1, 1, 0, 0, 0) := by decide +kernel
theorem fi_95_1 : am_find 95 1 = some (.aload_n 0, 1, 0, 0, 0) := by decide +kernel
theorem fi_95_2 : am_find 95 2 = some (.getfield 60, 3, 8, 16, 21) := by decide +kernel
theorem fi_95_5 : am_find 95 5 = some (.arraylength, 1, 0, 0, 0) := by decide +kernel
theorem fi_95_6 : am_find 95 6 = some (.invokestatic 101, 3, 13, 2, 24) := by decide +kernel
theorem fi_95_9 : am_find 95 9 = some (.ifCond .eq 12, 3, 0, 0, 0) := by decide +kernel
theorem fi_95_12 : am_find 95 12 = some (.aload_n 0, 1, 0, 0, 0) := by decide +kernel
theorem fi_95_13 : am_find 95 13 = some (.getfield 60, 3, 8, 16, 21) := by decide +kernel
theorem fi_95_16 : am_find 95 16 = some (.iload_n 1, 1, 0, 0, 0) := by decide +kernel
theorem fi_95_17 : am_find 95 17 = some (.aaload, 1, 0, 0, 0) := by decide +kernel
theorem fi_95_18 : am_find 95 18 = some (.goto 4, 3, 0, 0, 0) := by decide +kernel
theorem fi_95_21 : am_find 95 21 = some (.aconst_null, 1, 0, 0, 0) := by decide +kernel
theorem fi_95_22 : am_find 95 22 = some (.areturn, 1, 0, 0, 0) := by decide +kernel
theorem b95_0 {d L : Nat} {σ : St} {Q : Option AV → AW → Prop} {x1 : Int} : R (d + 1) 95 0 [vR 20, vI x1] [] (WS L σ) Q = R d 13 0 [vI x1, vI 12] [] (WS L σ) (fun r w => R (d + 1) 95 9 [vR 20, vI x1] (am_push r []) w Q) := K_iload_n fi_95_0 rfl <| K_aload_n fi_95_1 rfl <| K_gf fi_95_2 kd_20 mk_20_16 <| K_alenx fi_95_5 (Or.inr (Or.inr (Or.inl kd_52))) rfl <| R_invS fi_95_6 (by decide) (am_invS_of (Nat.le_of_ble_eq_true rfl) rfl (Nat.le_of_ble_eq_true rfl) (Nat.le_of_ble_eq_true rfl) rfl rfl)
theorem b95_9 {d L : Nat} {σ : St} {Q : Option AV → AW → Prop} {y0 : Int} {u0 u1 : AV} : R d 95 9 [u0, u1] [vI y0] (WS L σ) Q = if y0 = 0 then R d 95 21 [u0, u1] [] (WS L σ) Q else R d 95 12 [u0, u1] [] (WS L σ) Q := R_if_eq fi_95_9 rfl
theorem b95_12 {d L : Nat} {σ : St} {Q : Option AV → AW → Prop} {x1 : Int} (h1 : 0 ≤ x1) (h2 : x1 < 12) : R d 95 12 [vR 20, vI x1] [] (WS L σ) Q = R d 95 22 [vR 20, vI x1] [vR (53 + 2 * x1.toNat)] (WS L σ) Q := K_aload_n fi_95_12 rfl <| K_gf fi_95_13 kd_20 mk_20_16 <| K_iload_n fi_95_16 rfl <| K_aa fi_95_17 kd_52 h1 h2 (aa_52 h1 h2) <| R_goto fi_95_18 rfl
theorem b95_21 {d L : Nat} {σ : St} {Q : Option AV → AW → Prop} {u0 u1 : AV} : R d 95 21 [u0, u1] [] (WS L σ) Q = R d 95 22 [u0, u1] [vX 0] (WS L σ) Q := K_aconst fi_95_21 <| rfl
theorem b95_22 {d L : Nat} {σ : St} {Q : Option AV → AW → Prop} {q0 : Nat} {u0 u1 : AV} : R d 95 22 [u0, u1] [vR q0] (WS L σ) Q = Q (some (vR q0)) (WS L σ) := R_aret fi_95_22
theorem b95_22n {d L : Nat} {σ : St} {Q : Option AV → AW → Prop} {u0 u1 : AV} : R d 95 22 [u0, u1] [vX 0] (WS L σ) Q = Q (some (vX 0)) (WS L σ) := R_aretN fi_95_22
theorem fi_96_0 : am_find 96 0 = some (.aload_n 0, 1, 0, 0, 0) := by decide +kernel
theorem fi_96_1 : am_find 96 1 = some (.getfield 40, 3, 9, 4, 4) := by decide +kernel
theorem fi_96_4 : am_find 96 4 = some (.iload_n 1, 1, 0, 0, 0) := by decide +kernel
theorem fi_96_5 : am_find 96 5 = some (.invokevirtual 173, 3, 97, 1, 106) := by decide +kernel
theorem fi_96_8 : am_find 96 8 = some (.aload_n 0, 1, 0, 0, 0) := by decide +kernel
theorem fi_96_9 : am_find 96 9 = some (.getfield 10, 3, 9, 0, 0) := by decide +kernel
theorem fi_96_12 : am_find 96 12 = some (.getfield 76, 3, 8, 0, 42) := by decide +kernel
theorem fi_96_15 : am_find 96 15 = some (.ireturn, 1, 0, 0, 0) := by decide +kernel
theorem b96_0 {d L : Nat} {σ : St} {Q : Option AV → AW → Prop} {x1 : Int} : R (d + 1) 96 0 [vR 19, vI x1] [] (WS L σ) Q = R d 97 0 [vR 142, vI x1, vX 9, vX 9, vX 9] [] (WS L σ) (fun r w => R (d + 1) 96 8 [vR 19, vI x1] (am_push r []) w Q) := K_aload_n fi_96_0 rfl <| K_gf fi_96_1 kd_19 mk_19_4 <| K_iload_n fi_96_4 rfl <| R_invV fi_96_5 (am_invV_of rfl (kd_142) (Nat.le_of_ble_eq_true rfl) (Nat.le_of_ble_eq_true rfl) rfl rfl)
theorem b96_8 {d L : Nat} {σ : St} {Q : Option AV → AW → Prop} {u1 : AV} : R d 96 8 [vR 19, u1] [] (WS L σ) Q = Q (some (vI (σ 20 0))) (WS L σ) := K_aload_n fi_96_8 rfl <| K_gf fi_96_9 kd_19 mk_19_0 <| K_gf fi_96_12 kd_20 mk_20_0 <| R_ireti fi_96_15 rfl
theorem fi_97_0 : am_find 97 0 = some (.aload_n 0, 1, 0, 0, 0) := by decide +kernel
theorem fi_97_1 : am_find 97 1 = some (.getfield 20, 3, 3, 0, 33) := by decide +kernel
theorem fi_97_4 : am_find 97 4 = some (.invokevirtual 28, 3, 46, 0, 107) := by decide +kernel
theorem fi_97_7 : am_find 97 7 = some (.aload_n 0, 1, 0, 0, 0) := by decide +kernel
theorem fi_97_8 : am_find 97 8 = some (.getfield 14, 3, 3, 2, 32) := by decide +kernel
theorem fi_97_11 : am_find 97 11 = some (.invokevirtual 33, 3, 53, 0, 108) := by decide +kernel
theorem fi_97_14 : am_find 97 14 = some (.iconst 0, 1, 0, 0, 0) := by decide +kernel
theorem fi_97_15 : am_find 97 15 = some (.istore_n 2, 1, 0, 0, 0) := by decide +kernel
theorem fi_97_16 : am_find 97 16 = some (.iload_n 2, 1, 0, 0, 0) := by decide +kernel
theorem fi_97_17 : am_find 97 17 = some (.aload_n 0, 1, 0, 0, 0) := by decide +kernel
theorem fi_97_18 : am_find 97 18 = some (.getfield 20, 3, 3, 0, 33) := by decide +kernel
theorem fi_97_21 : am_find 97 21 = some (.getfield 36, 3, 8, 0, 67) := by decide +kernel
theorem fi_97_24 : am_find 97 24 = some (.if_icmp .ge 62, 3, 0, 0, 0) := by decide +kernel
theorem fi_97_27 : am_find 97 27 = some (.aload_n 0, 1, 0, 0, 0) := by decide +kernel
theorem fi_97_28 : am_find 97 28 = some (.getfield 20, 3, 3, 0, 33) := by decide +kernel
theorem fi_97_31 : am_find 97 31 = some (.aload_n 0, 1, 0, 0, 0) := by decide +kernel
theorem fi_97_32 : am_find 97 32 = some (.getfield 20, 3, 3, 0, 33) := by decide +kernel
theorem fi_97_35 : am_find 97 35 = some (.getfield 40, 3, 8, 3, 60) := by decide +kernel
theorem fi_97_38 : am_find 97 38 = some (.iload_n 2, 1, 0, 0, 0) := by decide +kernel
theorem fi_97_39 : am_find 97 39 = some (.invokevirtual 43, 3, 63, 2, 84) := by decide +kernel
theorem fi_97_42 : am_find 97 42 = some (.istore_n 3, 1, 0, 0, 0) := by decide +kernel
theorem fi_97_43 : am_find 97 43 = some (.aload_n 0, 1, 0, 0, 0) := by decide +kernel
theorem fi_97_44 : am_find 97 44 = some (.iload_n 3, 1, 0, 0, 0) := by decide +kernel
theorem fi_97_45 : am_find 97 45 = some (.invokevirtual 47, 3, 76, 1, 109) := by decide +kernel
theorem fi_97_48 : am_find 97 48 = some (.istore 4, 2, 0, 0, 0) := by decide +kernel
theorem fi_97_50 : am_find 97 50 = some (.iload 4, 2, 0, 0, 0) := by decide +kernel
theorem fi_97_52 : am_find 97 52 = some (.ifCond .lt 28, 3, 0, 0, 0) := by decide +kernel
theorem fi_97_55 : am_find 97 55 = some (.aload_n 0, 1, 0, 0, 0) := by decide +kernel
theorem fi_97_56 : am_find 97 56 = some (.getfield 20, 3, 3, 0, 33) := by decide +kernel
theorem fi_97_59 : am_find 97 59 = some (.iload 4, 2, 0, 0, 0) := by decide +kernel
theorem fi_97_61 : am_find 97 61 = some (.iload_n 3, 1, 0, 0, 0) := by decide +kernel
theorem fi_97_62 : am_find 97 62 = some (.invokevirtual 51, 3, 73, 2, 110) := by decide +kernel
theorem fi_97_65 : am_find 97 65 = some (.aload_n 0, 1, 0, 0, 0) := by decide +kernel
theorem fi_97_66 : am_find 97 66 = some (.getfield 14, 3, 3, 2, 32) := by decide +kernel
theorem fi_97_69 : am_find 97 69 = some (.iload_n 3, 1, 0, 0, 0) := by decide +kernel
theorem fi_97_70 : am_find 97 70 = some (.bipush 8, 2, 0, 8, 0) := by decide +kernel
theorem fi_97_72 : am_find 97 72 = some (.imul, 1, 0, 0, 0) := by decide +kernel
theorem fi_97_73 : am_find 97 73 = some (.iload 4, 2, 0, 0, 0) := by decide +kernel
theorem fi_97_75 : am_find 97 75 = some (.iadd, 1, 0, 0, 0) := by decide +kernel
theorem fi_97_76 : am_find 97 76 = some (.invokevirtual 55, 3, 48, 1, 111) := by decide +kernel
theorem fi_97_79 : am_find 97 79 = some (.pop, 1, 0, 0, 0) := by decide +kernel
theorem fi_97_80 : am_find 97 80 = some (.iinc 2 1, 3, 0, 0, 0) := by decide +kernel
theorem fi_97_83 : am_find 97 83 = some (.goto (-67), 3, 0, 0, 0) := by decide +kernel
theorem fi_97_86 : am_find 97 86 = some (.iload_n 1, 1, 0, 0, 0) := by decide +kernel
theorem fi_97_87 : am_find 97 87 = some (.ifCond .eq 24, 3, 0, 0, 0) := by decide +kernel
theorem fi_97_90 : am_find 97 90 = some (.aload_n 0, 1, 0, 0, 0) := by decide +kernel
theorem fi_97_91 : am_find 97 91 = some (.getfield 14, 3, 3, 2, 32) := by decide +kernel
theorem fi_97_94 : am_find 97 94 = some (.getfield 58, 3, 5, 1, 64) := by decide +kernel
theorem fi_97_97 : am_find 97 97 = some (.ifCond .le 14, 3, 0, 0, 0) := by decide +kernel
theorem fi_97_100 : am_find 97 100 = some (.aload_n 0, 1, 0, 0, 0) := by decide +kernel
theorem fi_97_101 : am_find 97 101 = some (.getfield 20, 3, 3, 0, 33) := by decide +kernel
theorem fi_97_104 : am_find 97 104 = some (.aload_n 0, 1, 0, 0, 0) := by decide +kernel
theorem fi_97_105 : am_find 97 105 = some (.getfield 14, 3, 3, 2, 32) := by decide +kernel
theorem fi_97_108 : am_find 97 108 = some (.invokevirtual 61, 3, 98, 1, 112) := by decide +kernel
theorem fi_97_111 : am_find 97 111 = some (.return_, 1, 0, 0, 0) := by decide +kernel
theorem b97_0 {d L : Nat} {σ : St} {Q : Option AV → AW → Prop} {u1 u2 u3 u4 : AV} : R (d + 1) 97 0 [vR 142, u1, u2, u3, u4] [] (WS L σ) Q = R d 46 0 [vR 20] [] (WS L σ) (fun r w => R (d + 1) 97 7 [vR 142, u1, u2, u3, u4] (am_push r []) w Q) := K_aload_n fi_97_0 rfl <| K_gf fi_97_1 kd_142 mk_142_0 <| R_invV fi_97_4 (am_invV_of rfl (kd_20) (Nat.le_of_ble_eq_true rfl) (Nat.le_of_ble_eq_true rfl) rfl rfl)
theorem b97_7 {d L : Nat} {σ : St} {Q : Option AV → AW → Prop} {u1 u2 u3 u4 : AV} : R (d + 1) 97 7 [vR 142, u1, u2, u3, u4] [] (WS L σ) Q = R d 53 0 [vR 143] [] (WS L σ) (fun r w => R (d + 1) 97 14 [vR 142, u1, u2, u3, u4] (am_push r []) w Q) := K_aload_n fi_97_7 rfl <| K_gf fi_97_8 kd_142 mk_142_2 <| R_invV fi_97_11 (am_invV_of rfl (kd_143) (Nat.le_of_ble_eq_true rfl) (Nat.le_of_ble_eq_true rfl) rfl rfl)
theorem b97_14 {d L : Nat} {σ : St} {Q : Option AV → AW → Prop} {x1 : Int} {u0 u2 u3 u4 : AV} : R d 97 14 [u0, vI x1, u2, u3, u4] [] (WS L σ) Q = R d 97 16 [u0, vI x1, vI 0, u3, u4] [] (WS L σ) Q := K_iconst fi_97_14 <| K_istore_n fi_97_15 (Nat.le_of_ble_eq_true rfl) rfl rfl <| rfl
theorem b97_16 {d L : Nat} {σ : St} {Q : Option AV → AW → Prop} {x2 : Int} {u1 u3 u4 : AV} : R d 97 16 [vR 142, u1, vI x2, u3, u4] [] (WS L σ) Q = if (σ 20 0) ≤ x2 then R d 97 86 [vR 142, u1, vI x2, u3, u4] [] (WS L σ) Q else R d 97 27 [vR 142, u1, vI x2, u3, u4] [] (WS L σ) Q := K_iload_n fi_97_16 rfl <| K_aload_n fi_97_17 rfl <| K_gf fi_97_18 kd_142 mk_142_0 <| K_gf fi_97_21 kd_20 mk_20_0 <| R_icmp_ge fi_97_24 rfl
theorem b97_27 {d L : Nat} {σ : St} {Q : Option AV → AW → Prop} {x2 : Int} {u1 u3 u4 : AV} : R (d + 1) 97 27 [vR 142, u1, vI x2, u3, u4] [] (WS L σ) Q = R d 63 0 [vR 20, vI (σ 20 3), vI x2, vX 9, vX 9] [] (WS L σ) (fun r w => R (d + 1) 97 42 [vR 142, u1, vI x2, u3, u4] (am_push r []) w Q) := K_aload_n fi_97_27 rfl <| K_gf fi_97_28 kd_142 mk_142_0 <| K_aload_n fi_97_31 rfl <| K_gf fi_97_32 kd_142 mk_142_0 <| K_gf fi_97_35 kd_20 mk_20_3 <| K_iload_n fi_97_38 rfl <| R_invV fi_97_39 (am_invV_of rfl (kd_20) (Nat.le_of_ble_eq_true rfl) (Nat.le_of_ble_eq_true rfl) rfl rfl)
theorem b97_42 {d L : Nat} {σ : St} {Q : Option AV → AW → Prop} {y0 : Int} {u1 u2 u3 u4 : AV} : R (d + 1) 97 42 [vR 142, u1, u2, u3, u4] [vI y0] (WS L σ) Q = R d 76 0 [vR 142, vI y0, vX 9] [] (WS L σ) (fun r w => R (d + 1) 97 48 [vR 142, u1, u2, vI y0, u4] (am_push r []) w Q) := K_istore_n fi_97_42 (Nat.le_of_ble_eq_true rfl) rfl rfl <| K_aload_n fi_97_43 rfl <| K_iload_n fi_97_44 rfl <| R_invV fi_97_45 (am_invV_of rfl (kd_142) (Nat.le_of_ble_eq_true rfl) (Nat.le_of_ble_eq_true rfl) rfl rfl)
theorem b97_48 {d L : Nat} {σ : St} {Q : Option AV → AW → Prop} {y0 : Int} {u0 u1 u2 u3 u4 : AV} : R d 97 48 [u0, u1, u2, u3, u4] [vI y0] (WS L σ) Q = if y0 < 0 then R d 97 80 [u0, u1, u2, u3, vI y0] [] (WS L σ) Q else R d 97 55 [u0, u1, u2, u3, vI y0] [] (WS L σ) Q := K_istore fi_97_48 (Nat.le_of_ble_eq_true rfl) rfl rfl <| K_iload fi_97_50 rfl <| R_if_lt fi_97_52 rfl
theorem b97_55 {d L : Nat} {σ : St} {Q : Option AV → AW → Prop} {x4 x3 : Int} {u1 u2 : AV} : R (d + 1) 97 55 [vR 142, u1, u2, vI x3, vI x4] [] (WS L σ) Q = R d 73 0 [vR 20, vI x4, vI x3, vX 9] [] (WS L σ) (fun r w => R (d + 1) 97 65 [vR 142, u1, u2, vI x3, vI x4] (am_push r []) w Q) := K_aload_n fi_97_55 rfl <| K_gf fi_97_56 kd_142 mk_142_0 <| K_iload fi_97_59 rfl <| K_iload_n fi_97_61 rfl <| R_invV fi_97_62 (am_invV_of rfl (kd_20) (Nat.le_of_ble_eq_true rfl) (Nat.le_of_ble_eq_true rfl) rfl rfl)
theorem b97_65 {d L : Nat} {σ : St} {Q : Option AV → AW → Prop} {x3 x4 : Int} {u1 u2 : AV} (h1 : -2147483648 ≤ x3 * 8 ∧ x3 * 8 ≤ 2147483647) (h2 : -2147483648 ≤ (x3 * 8) + x4 ∧ (x3 * 8) + x4 ≤ 2147483647) : R (d + 1) 97 65 [vR 142, u1, u2, vI x3, vI x4] [] (WS L σ) Q = R d 48 0 [vR 143, vI ((x3 * 8) + x4)] [] (WS L σ) (fun r w => R (d + 1) 97 79 [vR 142, u1, u2, vI x3, vI x4] (am_push r []) w Q) := K_aload_n fi_97_65 rfl <| K_gf fi_97_66 kd_142 mk_142_2 <| K_iload_n fi_97_69 rfl <| K_bipush fi_97_70 <| K_imulx fi_97_72 h1 <| K_iload fi_97_73 rfl <| K_iaddx fi_97_75 h2 <| R_invV fi_97_76 (am_invV_of rfl (kd_143) (Nat.le_of_ble_eq_true rfl) (Nat.le_of_ble_eq_true rfl) rfl rfl)
theorem b97_79 {d L : Nat} {σ : St} {Q : Option AV → AW → Prop} {y0 : Int} {u0 u1 u2 u3 u4 : AV} : R d 97 79 [u0, u1, u2, u3, u4] [vI y0] (WS L σ) Q = R d 97 80 [u0, u1, u2, u3, u4] [] (WS L σ) Q := K_popi fi_97_79 <| rfl
theorem b97_80 {d L : Nat} {σ : St} {Q : Option AV → AW → Prop} {x2 x1 : Int} {u0 u3 u4 : AV} (h1 : -2147483648 ≤ x2 + 1 ∧ x2 + 1 ≤ 2147483647) : R d 97 80 [u0, vI x1, vI x2, u3, u4] [] (WS L σ) Q = R d 97 16 [u0, vI x1, vI (x2 + 1), u3, u4] [] (WS L σ) Q := K_iincx fi_97_80 rfl (Nat.le_of_ble_eq_true rfl) rfl h1 rfl <| R_goto fi_97_83 rfl
theorem b97_86 {d L : Nat} {σ : St} {Q : Option AV → AW → Prop} {x1 : Int} {u0 u2 u3 u4 : AV} : R d 97 86 [u0, vI x1, u2, u3, u4] [] (WS L σ) Q = if x1 = 0 then R d 97 111 [u0, vI x1, u2, u3, u4] [] (WS L σ) Q else R d 97 90 [u0, vI x1, u2, u3, u4] [] (WS L σ) Q := K_iload_n fi_97_86 rfl <| R_if_eq fi_97_87 rfl
theorem b97_90 {d L : Nat} {σ : St} {Q : Option AV → AW → Prop} {u1 u2 u3 u4 : AV} : R d 97 90 [vR 142, u1, u2, u3, u4] [] (WS L σ) Q = if (σ 143 1) ≤ 0 then R d 97 111 [vR 142, u1, u2, u3, u4] [] (WS L σ) Q else R d 97 100 [vR 142, u1, u2, u3, u4] [] (WS L σ) Q := K_aload_n fi_97_90 rfl <| K_gf fi_97_91 kd_142 mk_142_2 <| K_gf fi_97_94 kd_143 mk_143_1 <| R_if_le fi_97_97 rfl
theorem b97_100 {d L : Nat} {σ : St} {Q : Option AV → AW → Prop} {u1 u2 u3 u4 : AV} : R (d + 1) 97 100 [vR 142, u1, u2, u3, u4] [] (WS L σ) Q = R d 98 0 [vR 20, vR 143] [] (WS L σ) (fun r w => R (d + 1) 97 111 [vR 142, u1, u2, u3, u4] (am_push r []) w Q) := K_aload_n fi_97_100 rfl <| K_gf fi_97_101 kd_142 mk_142_0 <| K_aload_n fi_97_104 rfl <| K_gf fi_97_105 kd_142 mk_142_2 <| R_invV fi_97_108 (am_invV_of rfl (kd_20) (Nat.le_of_ble_eq_true rfl) (Nat.le_of_ble_eq_true rfl) rfl rfl)
theorem b97_111 {d L : Nat} {σ : St} {Q : Option AV → AW → Prop} {u0 u1 u2 u3 u4 : AV} : R d 97 111 [u0, u1, u2, u3, u4] [] (WS L σ) Q = Q none (WS L σ) := R_return fi_97_111
theorem fi_98_0 : am_find 98 0 = some (.aload_n 0, 1, 0, 0, 0) := by decide +kernel
theorem fi_98_1 : am_find 98 1 = some (.getfield 75, 3, 8, 4, 65) := by decide +kernel
theorem fi_98_4 : am_find 98 4 = some (.aload_n 0, 1, 0, 0, 0) := by decide +kernel
theorem fi_98_5 : am_find 98 5 = some (.getfield 60, 3, 8, 16, 21) := by decide +kernel
theorem fi_98_8 : am_find 98 8 = some (.arraylength, 1, 0, 0, 0) := by decide +kernel
theorem fi_98_9 : am_find 98 9 = some (.invokestatic 101, 3, 13, 2, 24) := by decide +kernel
theorem fi_98_12 : am_find 98 12 = some (.ifCond .eq 38, 3, 0, 0, 0) := by decide +kernel
theorem fi_98_15 : am_find 98 15 = some (.aload_n 0, 1, 0, 0, 0) := by decide +kernel
theorem fi_98_16 : am_find 98 16 = some (.getfield 60, 3, 8, 16, 21) := by decide +kernel
theorem fi_98_19 : am_find 98 19 = some (.aload_n 0, 1, 0, 0, 0) := by decide +kernel
theorem fi_98_20 : am_find 98 20 = some (.getfield 75, 3, 8, 4, 65) := by decide +kernel
theorem fi_98_23 : am_find 98 23 = some (.aaload, 1, 0, 0, 0) := by decide +kernel
theorem fi_98_24 : am_find 98 24 = some (.ifnull 26, 3, 0, 0, 0) := by decide +kernel
theorem fi_98_27 : am_find 98 27 = some (.aload_n 0, 1, 0, 0, 0) := by decide +kernel
theorem fi_98_28 : am_find 98 28 = some (.getfield 60, 3, 8, 16, 21) := by decide +kernel
theorem fi_98_31 : am_find 98 31 = some (.aload_n 0, 1, 0, 0, 0) := by decide +kernel
theorem fi_98_32 : am_find 98 32 = some (.getfield 75, 3, 8, 4, 65) := by decide +kernel
theorem fi_98_35 : am_find 98 35 = some (.aaload, 1, 0, 0, 0) := by decide +kernel
theorem fi_98_36 : am_find 98 36 = some (.aload_n 1, 1, 0, 0, 0) := by decide +kernel
theorem fi_98_37 : am_find 98 37 = some (.invokevirtual 81, 3, 51, 1, 53) := by decide +kernel
theorem fi_98_40 : am_find 98 40 = some (.aload_n 0, 1, 0, 0, 0) := by decide +kernel
theorem fi_98_41 : am_find 98 41 = some (.dup, 1, 0, 0, 0) := by decide +kernel
theorem fi_98_42 : am_find 98 42 = some (.getfield 75, 3, 8, 4, 65) := by decide +kernel
theorem fi_98_45 : am_find 98 45 = some (.iconst 1, 1, 0, 1, 0) := by decide +kernel
theorem fi_98_46 : am_find 98 46 = some (.iadd, 1, 0, 0, 0) := by decide +kernel
theorem fi_98_47 : am_find 98 47 = some (.putfield 75, 3, 8, 4, 65) := by decide +kernel
theorem fi_98_50 : am_find 98 50 = some (.return_, 1, 0, 0, 0) := by decide +kernel
theorem b98_0 {d L : Nat} {σ : St} {Q : Option AV → AW → Prop} {u1 : AV} : R (d + 1) 98 0 [vR 20, u1] [] (WS L σ) Q = R d 13 0 [vI (σ 20 4), vI 12] [] (WS L σ) (fun r w => R (d + 1) 98 12 [vR 20, u1] (am_push r []) w Q) := K_aload_n fi_98_0 rfl <| K_gf fi_98_1 kd_20 mk_20_4 <| K_aload_n fi_98_4 rfl <| K_gf fi_98_5 kd_20 mk_20_16 <| K_alenx fi_98_8 (Or.inr (Or.inr (Or.inl kd_52))) rfl <| R_invS fi_98_9 (by decide) (am_invS_of (Nat.le_of_ble_eq_true rfl) rfl (Nat.le_of_ble_eq_true rfl) (Nat.le_of_ble_eq_true rfl) rfl rfl)
theorem b98_12 {d L : Nat} {σ : St} {Q : Option AV → AW → Prop} {y0 : Int} {u0 u1 : AV} : R d 98 12 [u0, u1] [vI y0] (WS L σ) Q = if y0 = 0 then R d 98 50 [u0, u1] [] (WS L σ) Q else R d 98 15 [u0, u1] [] (WS L σ) Q := R_if_eq fi_98_12 rfl
theorem b98_15 {d L : Nat} {σ : St} {Q : Option AV → AW → Prop} {u1 : AV} (h1 : 0 ≤ σ 20 4) (h2 : (σ 20 4) < 12) : R d 98 15 [vR 20, u1] [] (WS L σ) Q = R d 98 27 [vR 20, u1] [] (WS L σ) Q := K_aload_n fi_98_15 rfl <| K_gf fi_98_16 kd_20 mk_20_16 <| K_aload_n fi_98_19 rfl <| K_gf fi_98_20 kd_20 mk_20_4 <| K_aa fi_98_23 kd_52 h1 h2 (aa_52 h1 h2) <| R_ifnull fi_98_24
theorem b98_27 {d L : Nat} {σ : St} {Q : Option AV → AW → Prop} {r1 : Nat} (h1 : 0 ≤ σ 20 4) (h2 : (σ 20 4) < 12) (h3 : KD (53 + 2 * (σ 20 4).toNat) = 5) : R (d + 1) 98 27 [vR 20, vR r1] [] (WS L σ) Q = R d 51 0 [vR (53 + 2 * (σ 20 4).toNat), vR r1] [] (WS L σ) (fun r w => R (d + 1) 98 40 [vR 20, vR r1] (am_push r []) w Q) := K_aload_n fi_98_27 rfl <| K_gf fi_98_28 kd_20 mk_20_16 <| K_aload_n fi_98_31 rfl <| K_gf fi_98_32 kd_20 mk_20_4 <| K_aa fi_98_35 kd_52 h1 h2 (aa_52 h1 h2) <| K_aload_n fi_98_36 rfl <| R_invV fi_98_37 (am_invV_of rfl (h3) (Nat.le_of_ble_eq_true rfl) (Nat.le_of_ble_eq_true rfl) rfl rfl)
theorem b98_40 {d L : Nat} {σ : St} {Q : Option AV → AW → Prop} {u1 : AV} (h1 : -2147483648 ≤ (σ 20 4) + 1 ∧ (σ 20 4) + 1 ≤ 2147483647) : R d 98 40 [vR 20, u1] [] (WS L σ) Q = R d 98 50 [vR 20, u1] [] (WS L (st2 σ 20 4 ((σ 20 4) + 1))) Q := K_aload_n fi_98_40 rfl <| K_dupr fi_98_41 <| K_gf fi_98_42 kd_20 mk_20_4 <| K_iconst fi_98_45 <| K_iaddx fi_98_46 h1 <| K_pf fi_98_47 kd_20 rfl rfl rfl rfl <| rfl
theorem b98_50 {d L : Nat} {σ : St} {Q : Option AV → AW → Prop} {u0 u1 : AV} : R d 98 50 [u0, u1] [] (WS L σ) Q = Q none (WS L σ) := R_return fi_98_50
theorem fi_99_0 : am_find 99 0 = some (.aload_n 0, 1, 0, 0, 0) := by decide +kernel
theorem fi_99_1 : am_find 99 1 = some (.getfield 31, 3, 9, 3, 3) := by decide +kernel
theorem fi_99_4 : am_find 99 4 = some (.aload_n 0, 1, 0, 0, 0) := by decide +kernel
theorem fi_99_5 : am_find 99 5 = some (.getfield 10, 3, 9, 0, 0) := by decide +kernel
theorem fi_99_8 : am_find 99 8 = some (.aload_n 0, 1, 0, 0, 0) := by decide +kernel
theorem fi_99_9 : am_find 99 9 = some (.getfield 10, 3, 9, 0, 0) := by decide +kernel
theorem fi_99_12 : am_find 99 12 = some (.getfield 138, 3, 8, 3, 58) := by decide +kernel
theorem fi_99_15 : am_find 99 15 = some (.aload_n 0, 1, 0, 0, 0) := by decide +kernel
theorem fi_99_16 : am_find 99 16 = some (.getfield 10, 3, 9, 0, 0) := by decide +kernel
theorem fi_99_19 : am_find 99 19 = some (.invokevirtual 177, 3, 231, 0, 113) := by decide +kernel
theorem fi_99_22 : am_find 99 22 = some (.invokevirtual 148, 3, 63, 2, 60) := by decide +kernel
theorem fi_99_25 : am_find 99 25 = some (.invokevirtual 180, 3, 82, 1, 114) := by decide +kernel
theorem fi_99_28 : am_find 99 28 = some (.ireturn, 1, 0, 0, 0) := by decide +kernel
theorem b99_0 {d L : Nat} {σ : St} {Q : Option AV → AW → Prop} : R (d + 1) 99 0 [vR 19] [] (WS L σ) Q = R d 231 0 [vR 20] [] (WS L σ) (fun r w => R (d + 1) 99 22 [vR 19] (am_push r [vI (σ 20 3), vR 20, vR 139]) w Q) := K_aload_n fi_99_0 rfl <| K_gf fi_99_1 kd_19 mk_19_3 <| K_aload_n fi_99_4 rfl <| K_gf fi_99_5 kd_19 mk_19_0 <| K_aload_n fi_99_8 rfl <| K_gf fi_99_9 kd_19 mk_19_0 <| K_gf fi_99_12 kd_20 mk_20_3 <| K_aload_n fi_99_15 rfl <| K_gf fi_99_16 kd_19 mk_19_0 <| R_invV fi_99_19 (am_invV_of rfl (kd_20) (Nat.le_of_ble_eq_true rfl) (Nat.le_of_ble_eq_true rfl) rfl rfl)
theorem b99_22 {d L : Nat} {σ : St} {Q : Option AV → AW → Prop} {y0 y1 : Int} {u0 : AV} : R (d + 1) 99 22 [u0] [vI y0, vI y1, vR 20, vR 139] (WS L σ) Q = R d 63 0 [vR 20, vI y1, vI y0, vX 9, vX 9] [] (WS L σ) (fun r w => R (d + 1) 99 25 [u0] (am_push r [vR 139]) w Q) := R_invV fi_99_22 (am_invV_of rfl (kd_20) (Nat.le_of_ble_eq_true rfl) (Nat.le_of_ble_eq_true rfl) rfl rfl)
theorem b99_25 {d L : Nat} {σ : St} {Q : Option AV → AW → Prop} {y0 : Int} {u0 : AV} : R (d + 1) 99 25 [u0] [vI y0, vR 139] (WS L σ) Q = R d 82 0 [vR 139, vI y0] [] (WS L σ) (fun r w => R (d + 1) 99 28 [u0] (am_push r []) w Q) := R_invV fi_99_25 (am_invV_of rfl (kd_139) (Nat.le_of_ble_eq_true rfl) (Nat.le_of_ble_eq_true rfl) rfl rfl)
theorem b99_28 {d L : Nat} {σ : St} {Q : Option AV → AW → Prop} {y0 : Int} {u0 : AV} : R d 99 28 [u0] [vI y0] (WS L σ) Q = Q (some (vI y0)) (WS L σ) := R_ireti fi_99_28 rfl
theorem fi_100_0 : am_find 100 0 = some (.iload_n 1, 1, 0, 0, 0) := by decide +kernel
theorem fi_100_1 : am_find 100 1 = some (.aload_n 0, 1, 0, 0, 0) := by decide +kernel
theorem fi_100_2 : am_find 100 2 = some (.getfield 10, 3, 9, 0, 0) := by decide +kernel
theorem fi_100_5 : am_find 100 5 = some (.getfield 92, 3, 8, 1, 52) := by decide +kernel
theorem fi_100_8 : am_find 100 8 = some (.invokestatic 72, 3, 13, 2, 14) := by decide +kernel
theorem fi_100_11 : am_find 100 11 = some (.ifCond .ne 7, 3, 0, 0, 0) := by decide +kernel
theorem fi_100_14 : am_find 100 14 = some (.sipush (-1001), 3, 0, (-1001), 0) := by decide +kernel
theorem fi_100_17 : am_find 100 17 = some (.ireturn, 1, 0, 0, 0) := by decide +kernel
theorem fi_100_18 : am_find 100 18 = some (.aload_n 0, 1, 0, 0, 0) := by decide +kernel
theorem fi_100_19 : am_find 100 19 = some (.getfield 31, 3, 9, 3, 3) := by decide +kernel
theorem fi_100_22 : am_find 100 22 = some (.aload_n 0, 1, 0, 0, 0) := by decide +kernel
theorem fi_100_23 : am_find 100 23 = some (.getfield 10, 3, 9, 0, 0) := by decide +kernel
theorem fi_100_26 : am_find 100 26 = some (.getfield 138, 3, 8, 3, 58) := by decide +kernel
theorem fi_100_29 : am_find 100 29 = some (.iconst 0, 1, 0, 0, 0) := by decide +kernel
theorem fi_100_30 : am_find 100 30 = some (.invokevirtual 183, 3, 83, 2, 115) := by decide +kernel
theorem fi_100_33 : am_find 100 33 = some (.aload_n 0, 1, 0, 0, 0) := by decide +kernel
theorem fi_100_34 : am_find 100 34 = some (.getfield 31, 3, 9, 3, 3) := by decide +kernel
theorem fi_100_37 : am_find 100 37 = some (.aload_n 0, 1, 0, 0, 0) := by decide +kernel
theorem fi_100_38 : am_find 100 38 = some (.getfield 31, 3, 9, 3, 3) := by decide +kernel
theorem fi_100_41 : am_find 100 41 = some (.invokevirtual 187, 3, 84, 0, 116) := by decide +kernel
theorem fi_100_44 : am_find 100 44 = some (.iload_n 1, 1, 0, 0, 0) := by decide +kernel
theorem fi_100_45 : am_find 100 45 = some (.invokevirtual 190, 3, 101, 2, 117) := by decide +kernel
theorem fi_100_48 : am_find 100 48 = some (.ireturn, 1, 0, 0, 0) := by decide +kernel
theorem b100_0 {d L : Nat} {σ : St} {Q : Option AV → AW → Prop} {x1 : Int} : R (d + 1) 100 0 [vR 19, vI x1] [] (WS L σ) Q = R d 13 0 [vI x1, vI (σ 20 1)] [] (WS L σ) (fun r w => R (d + 1) 100 11 [vR 19, vI x1] (am_push r []) w Q) := K_iload_n fi_100_0 rfl <| K_aload_n fi_100_1 rfl <| K_gf fi_100_2 kd_19 mk_19_0 <| K_gf fi_100_5 kd_20 mk_20_1 <| R_invS fi_100_8 (by decide) (am_invS_of (Nat.le_of_ble_eq_true rfl) rfl (Nat.le_of_ble_eq_true rfl) (Nat.le_of_ble_eq_true rfl) rfl rfl)
theorem b100_11 {d L : Nat} {σ : St} {Q : Option AV → AW → Prop} {y0 : Int} {u0 u1 : AV} : R d 100 11 [u0, u1] [vI y0] (WS L σ) Q = if ¬ y0 = 0 then R d 100 18 [u0, u1] [] (WS L σ) Q else R d 100 14 [u0, u1] [] (WS L σ) Q := R_if_ne fi_100_11 rfl
theorem b100_14 {d L : Nat} {σ : St} {Q : Option AV → AW → Prop} {u0 u1 : AV} : R d 100 14 [u0, u1] [] (WS L σ) Q = Q (some (vI (-1001))) (WS L σ) := K_sipush fi_100_14 <| R_ireti fi_100_17 rfl
theorem b100_18 {d L : Nat} {σ : St} {Q : Option AV → AW → Prop} {u1 : AV} : R (d + 1) 100 18 [vR 19, u1] [] (WS L σ) Q = R d 83 0 [vR 139, vI (σ 20 3), vI 0, vX 9, vX 9, vX 9] [] (WS L σ) (fun r w => R (d + 1) 100 33 [vR 19, u1] (am_push r []) w Q) := K_aload_n fi_100_18 rfl <| K_gf fi_100_19 kd_19 mk_19_3 <| K_aload_n fi_100_22 rfl <| K_gf fi_100_23 kd_19 mk_19_0 <| K_gf fi_100_26 kd_20 mk_20_3 <| K_iconst fi_100_29 <| R_invV fi_100_30 (am_invV_of rfl (kd_139) (Nat.le_of_ble_eq_true rfl) (Nat.le_of_ble_eq_true rfl) rfl rfl)
theorem b100_33 {d L : Nat} {σ : St} {Q : Option AV → AW → Prop} {u1 : AV} : R (d + 1) 100 33 [vR 19, u1] [] (WS L σ) Q = R d 84 0 [vR 139, vX 9] [] (WS L σ) (fun r w => R (d + 1) 100 44 [vR 19, u1] (am_push r [vR 139]) w Q) := K_aload_n fi_100_33 rfl <| K_gf fi_100_34 kd_19 mk_19_3 <| K_aload_n fi_100_37 rfl <| K_gf fi_100_38 kd_19 mk_19_3 <| R_invV fi_100_41 (am_invV_of rfl (kd_139) (Nat.le_of_ble_eq_true rfl) (Nat.le_of_ble_eq_true rfl) rfl rfl)
theorem b100_44 {d L : Nat} {σ : St} {Q : Option AV → AW → Prop} {y0 x1 : Int} {u0 : AV} : R (d + 1) 100 44 [u0, vI x1] [vI y0, vR 139] (WS L σ) Q = R d 101 0 [vR 139, vI y0, vI x1] [] (WS L σ) (fun r w => R (d + 1) 100 48 [u0, vI x1] (am_push r []) w Q) := K_iload_n fi_100_44 rfl <| R_invV fi_100_45 (am_invV_of rfl (kd_139) (Nat.le_of_ble_eq_true rfl) (Nat.le_of_ble_eq_true rfl) rfl rfl)
theorem b100_48 {d L : Nat} {σ : St} {Q : Option AV → AW → Prop} {y0 : Int} {u0 u1 : AV} : R d 100 48 [u0, u1] [vI y0] (WS L σ) Q = Q (some (vI y0)) (WS L σ) := R_ireti fi_100_48 rfl
theorem fi_101_0 : am_find 101 0 = some (.aload_n 0, 1, 0, 0, 0) := by decide +kernel
theorem fi_101_1 : am_find 101 1 = some (.getfield 23, 3, 1, 0, 31) := by decide +kernel
theorem fi_101_4 : am_find 101 4 = some (.iload_n 2, 1, 0, 0, 0) := by decide +kernel
theorem fi_101_5 : am_find 101 5 = some (.aload_n 0, 1, 0, 0, 0) := by decide +kernel
theorem fi_101_6 : am_find 101 6 = some (.iload_n 1, 1, 0, 0, 0) := by decide +kernel
theorem fi_101_7 : am_find 101 7 = some (.iconst 0, 1, 0, 0, 0) := by decide +kernel
theorem fi_101_8 : am_find 101 8 = some (.invokevirtual 68, 3, 88, 2, 95) := by decide +kernel
theorem fi_101_11 : am_find 101 11 = some (.iload_n 2, 1, 0, 0, 0) := by decide +kernel
theorem fi_101_12 : am_find 101 12 = some (.invokestatic 71, 3, 90, 2, 96) := by decide +kernel
theorem fi_101_15 : am_find 101 15 = some (.invokevirtual 74, 3, 57, 2, 97) := by decide +kernel
theorem fi_101_18 : am_find 101 18 = some (.ireturn, 1, 0, 0, 0) := by decide +kernel
theorem b101_0 {d L : Nat} {σ : St} {Q : Option AV → AW → Prop} {x2 x1 : Int} : R (d + 1) 101 0 [vR 139, vI x1, vI x2] [] (WS L σ) Q = R d 88 0 [vR 139, vI x1, vI 0, vX 9, vX 9, vX 9, vX 9] [] (WS L σ) (fun r w => R (d + 1) 101 11 [vR 139, vI x1, vI x2] (am_push r [vI x2, vR 20]) w Q) := K_aload_n fi_101_0 rfl <| K_gf fi_101_1 kd_139 mk_139_0 <| K_iload_n fi_101_4 rfl <| K_aload_n fi_101_5 rfl <| K_iload_n fi_101_6 rfl <| K_iconst fi_101_7 <| R_invV fi_101_8 (am_invV_of rfl (kd_139) (Nat.le_of_ble_eq_true rfl) (Nat.le_of_ble_eq_true rfl) rfl rfl)
theorem b101_11 {d L : Nat} {σ : St} {Q : Option AV → AW → Prop} {y0 y1 x2 : Int} {u0 u1 : AV} : R (d + 1) 101 11 [u0, u1, vI x2] [vI y0, vI y1, vR 20] (WS L σ) Q = R d 90 0 [vI y0, vI x2, vX 9, vX 9] [] (WS L σ) (fun r w => R (d + 1) 101 15 [u0, u1, vI x2] (am_push r [vI y1, vR 20]) w Q) := K_iload_n fi_101_11 rfl <| R_invS fi_101_12 (by decide) (am_invS_of (Nat.le_of_ble_eq_true rfl) rfl (Nat.le_of_ble_eq_true rfl) (Nat.le_of_ble_eq_true rfl) rfl rfl)
theorem b101_15 {d L : Nat} {σ : St} {Q : Option AV → AW → Prop} {y0 y1 : Int} {u0 u1 u2 : AV} : R (d + 1) 101 15 [u0, u1, u2] [vI y0, vI y1, vR 20] (WS L σ) Q = R d 57 0 [vR 20, vI y1, vI y0, vX 9] [] (WS L σ) (fun r w => R (d + 1) 101 18 [u0, u1, u2] (am_push r []) w Q) := R_invV fi_101_15 (am_invV_of rfl (kd_20) (Nat.le_of_ble_eq_true rfl) (Nat.le_of_ble_eq_true rfl) rfl rfl)
theorem b101_18 {d L : Nat} {σ : St} {Q : Option AV → AW → Prop} {y0 : Int} {u0 u1 u2 : AV} : R d 101 18 [u0, u1, u2] [vI y0] (WS L σ) Q = Q (some (vI y0)) (WS L σ) := R_ireti fi_101_18 rfl
theorem fi_102_0 : am_find 102 0 = some (.iload_n 1, 1, 0, 0, 0) := by decide +kernel
theorem fi_102_1 : am_find 102 1 = some (.iconst 1, 1, 0, 1, 0) := by decide +kernel
theorem fi_102_2 : am_find 102 2 = some (.iadd, 1, 0, 0, 0) := by decide +kernel
theorem fi_102_3 : am_find 102 3 = some (.bipush 9, 2, 0, 9, 0) := by decide +kernel
theorem fi_102_5 : am_find 102 5 = some (.invokestatic 72, 3, 13, 2, 14) := by decide +kernel
theorem fi_102_8 : am_find 102 8 = some (.ifCond .eq 17, 3, 0, 0, 0) := by decide +kernel
theorem fi_102_11 : am_find 102 11 = some (.aload_n 0, 1, 0, 0, 0) := by decide +kernel
theorem fi_102_12 : am_find 102 12 = some (.getfield 10, 3, 9, 0, 0) := by decide +kernel
theorem fi_102_15 : am_find 102 15 = some (.getfield 193, 3, 8, 8, 68) := by decide +kernel
theorem fi_102_18 : am_find 102 18 = some (.iload_n 1, 1, 0, 0, 0) := by decide +kernel
theorem fi_102_19 : am_find 102 19 = some (.invokestatic 144, 3, 60, 2, 58) := by decide +kernel
theorem fi_102_22 : am_find 102 22 = some (.goto 4, 3, 0, 0, 0) := by decide +kernel
theorem fi_102_25 : am_find 102 25 = some (.iconst (-1), 1, 0, (-1), 0) := by decide +kernel
theorem fi_102_26 : am_find 102 26 = some (.ireturn, 1, 0, 0, 0) := by decide +kernel
theorem b102_0 {d L : Nat} {σ : St} {Q : Option AV → AW → Prop} {x1 : Int} {u0 : AV} (h1 : -2147483648 ≤ x1 + 1 ∧ x1 + 1 ≤ 2147483647) : R (d + 1) 102 0 [u0, vI x1] [] (WS L σ) Q = R d 13 0 [vI (x1 + 1), vI 9] [] (WS L σ) (fun r w => R (d + 1) 102 8 [u0, vI x1] (am_push r []) w Q) := K_iload_n fi_102_0 rfl <| K_iconst fi_102_1 <| K_iaddx fi_102_2 h1 <| K_bipush fi_102_3 <| R_invS fi_102_5 (by decide) (am_invS_of (Nat.le_of_ble_eq_true rfl) rfl (Nat.le_of_ble_eq_true rfl) (Nat.le_of_ble_eq_true rfl) rfl rfl)
theorem b102_8 {d L : Nat} {σ : St} {Q : Option AV → AW → Prop} {y0 : Int} {u0 u1 : AV} : R d 102 8 [u0, u1] [vI y0] (WS L σ) Q = if y0 = 0 then R d 102 25 [u0, u1] [] (WS L σ) Q else R d 102 11 [u0, u1] [] (WS L σ) Q := R_if_eq fi_102_8 rfl
theorem b102_11 {d L : Nat} {σ : St} {Q : Option AV → AW → Prop} {x1 : Int} : R (d + 1) 102 11 [vR 19, vI x1] [] (WS L σ) Q = R d 60 0 [vR 25, vI x1] [] (WS L σ) (fun r w => R (d + 1) 102 22 [vR 19, vI x1] (am_push r []) w Q) := K_aload_n fi_102_11 rfl <| K_gf fi_102_12 kd_19 mk_19_0 <| K_gf fi_102_15 kd_20 mk_20_8 <| K_iload_n fi_102_18 rfl <| R_invS fi_102_19 (by decide) (am_invS_of (Nat.le_of_ble_eq_true rfl) rfl (Nat.le_of_ble_eq_true rfl) (Nat.le_of_ble_eq_true rfl) rfl rfl)
theorem b102_22 {d L : Nat} {σ : St} {Q : Option AV → AW → Prop} {y0 : Int} {u0 u1 : AV} : R d 102 22 [u0, u1] [vI y0] (WS L σ) Q = R d 102 26 [u0, u1] [vI y0] (WS L σ) Q := R_goto fi_102_22 rfl
theorem b102_25 {d L : Nat} {σ : St} {Q : Option AV → AW → Prop} {u0 u1 : AV} : R d 102 25 [u0, u1] [] (WS L σ) Q = R d 102 26 [u0, u1] [vI (-1)] (WS L σ) Q := K_iconst fi_102_25 <| rfl
theorem b102_26 {d L : Nat} {σ : St} {Q : Option AV → AW → Prop} {y0 : Int} {u0 u1 : AV} : R d 102 26 [u0, u1] [vI y0] (WS L σ) Q = Q (some (vI y0)) (WS L σ) := R_ireti fi_102_26 rfl
theorem fi_103_0 : am_find 103 0 = some (.iload_n 1, 1, 0, 0, 0) := by decide +kernel
theorem fi_103_1 : am_find 103 1 = some (.iconst 3, 1, 0, 3, 0) := by decide +kernel
theorem fi_103_2 : am_find 103 2 = some (.invokestatic 72, 3, 13, 2, 14) := by decide +kernel
theorem fi_103_5 : am_find 103 5 = some (.ifCond .ne 5, 3, 0, 0, 0) := by decide +kernel
theorem fi_103_8 : am_find 103 8 = some (.iconst (-1), 1, 0, (-1), 0) := by decide +kernel
theorem fi_103_9 : am_find 103 9 = some (.ireturn, 1, 0, 0, 0) := by decide +kernel
theorem fi_103_10 : am_find 103 10 = some (.aload_n 0, 1, 0, 0, 0) := by decide +kernel
theorem fi_103_11 : am_find 103 11 = some (.getfield 47, 3, 9, 5, 5) := by decide +kernel
theorem fi_103_14 : am_find 103 14 = some (.aload_n 0, 1, 0, 0, 0) := by decide +kernel
theorem fi_103_15 : am_find 103 15 = some (.getfield 10, 3, 9, 0, 0) := by decide +kernel
theorem fi_103_18 : am_find 103 18 = some (.getfield 193, 3, 8, 8, 68) := by decide +kernel
theorem fi_103_21 : am_find 103 21 = some (.invokevirtual 196, 3, 104, 1, 118) := by decide +kernel
theorem fi_103_24 : am_find 103 24 = some (.iload_n 1, 1, 0, 0, 0) := by decide +kernel
theorem fi_103_25 : am_find 103 25 = some (.ifCond .ne 11, 3, 0, 0, 0) := by decide +kernel
theorem fi_103_28 : am_find 103 28 = some (.aload_n 0, 1, 0, 0, 0) := by decide +kernel
theorem fi_103_29 : am_find 103 29 = some (.getfield 47, 3, 9, 5, 5) := by decide +kernel
theorem fi_103_32 : am_find 103 32 = some (.getfield 200, 3, 2, 2, 69) := by decide +kernel
theorem fi_103_35 : am_find 103 35 = some (.ireturn, 1, 0, 0, 0) := by decide +kernel
theorem fi_103_36 : am_find 103 36 = some (.iload_n 1, 1, 0, 0, 0) := by decide +kernel
theorem fi_103_37 : am_find 103 37 = some (.iconst 1, 1, 0, 1, 0) := by decide +kernel
theorem fi_103_38 : am_find 103 38 = some (.if_icmp .ne 13, 3, 0, 0, 0) := by decide +kernel
theorem fi_103_41 : am_find 103 41 = some (.aload_n 0, 1, 0, 0, 0) := by decide +kernel
theorem fi_103_42 : am_find 103 42 = some (.getfield 47, 3, 9, 5, 5) := by decide +kernel
theorem fi_103_45 : am_find 103 45 = some (.getfield 203, 3, 2, 3, 70) := by decide +kernel
theorem fi_103_48 : am_find 103 48 = some (.goto 10, 3, 0, 0, 0) := by decide +kernel
theorem fi_103_51 : am_find 103 51 = some (.aload_n 0, 1, 0, 0, 0) := by decide +kernel
theorem fi_103_52 : am_find 103 52 = some (.getfield 47, 3, 9, 5, 5) := by decide +kernel
theorem fi_103_55 : am_find 103 55 = some (.getfield 206, 3, 2, 4, 71) := by decide +kernel
theorem fi_103_58 : am_find 103 58 = some (.ireturn, 1, 0, 0, 0) := by decide +kernel
theorem b103_0 {d L : Nat} {σ : St} {Q : Option AV → AW → Prop} {x1 : Int} {u0 : AV} : R (d + 1) 103 0 [u0, vI x1] [] (WS L σ) Q = R d 13 0 [vI x1, vI 3] [] (WS L σ) (fun r w => R (d + 1) 103 5 [u0, vI x1] (am_push r []) w Q) := K_iload_n fi_103_0 rfl <| K_iconst fi_103_1 <| R_invS fi_103_2 (by decide) (am_invS_of (Nat.le_of_ble_eq_true rfl) rfl (Nat.le_of_ble_eq_true rfl) (Nat.le_of_ble_eq_true rfl) rfl rfl)
theorem b103_5 {d L : Nat} {σ : St} {Q : Option AV → AW → Prop} {y0 : Int} {u0 u1 : AV} : R d 103 5 [u0, u1] [vI y0] (WS L σ) Q = if ¬ y0 = 0 then R d 103 10 [u0, u1] [] (WS L σ) Q else R d 103 8 [u0, u1] [] (WS L σ) Q := R_if_ne fi_103_5 rfl
theorem b103_8 {d L : Nat} {σ : St} {Q : Option AV → AW → Prop} {u0 u1 : AV} : R d 103 8 [u0, u1] [] (WS L σ) Q = Q (some (vI (-1))) (WS L σ) := K_iconst fi_103_8 <| R_ireti fi_103_9 rfl
theorem b103_10 {d L : Nat} {σ : St} {Q : Option AV → AW → Prop} {u1 : AV} : R (d + 1) 103 10 [vR 19, u1] [] (WS L σ) Q = R d 104 0 [vR 145, vR 25, vX 9, vX 9, vX 9, vX 9, vX 9] [] (WS L σ) (fun r w => R (d + 1) 103 24 [vR 19, u1] (am_push r []) w Q) := K_aload_n fi_103_10 rfl <| K_gf fi_103_11 kd_19 mk_19_5 <| K_aload_n fi_103_14 rfl <| K_gf fi_103_15 kd_19 mk_19_0 <| K_gf fi_103_18 kd_20 mk_20_8 <| R_invV fi_103_21 (am_invV_of rfl (kd_145) (Nat.le_of_ble_eq_true rfl) (Nat.le_of_ble_eq_true rfl) rfl rfl)
theorem b103_24 {d L : Nat} {σ : St} {Q : Option AV → AW → Prop} {x1 : Int} {u0 : AV} : R d 103 24 [u0, vI x1] [] (WS L σ) Q = if ¬ x1 = 0 then R d 103 36 [u0, vI x1] [] (WS L σ) Q else R d 103 28 [u0, vI x1] [] (WS L σ) Q := K_iload_n fi_103_24 rfl <| R_if_ne fi_103_25 rfl
theorem b103_28 {d L : Nat} {σ : St} {Q : Option AV → AW → Prop} {u1 : AV} : R d 103 28 [vR 19, u1] [] (WS L σ) Q = Q (some (vI (σ 145 2))) (WS L σ) := K_aload_n fi_103_28 rfl <| K_gf fi_103_29 kd_19 mk_19_5 <| K_gf fi_103_32 kd_145 mk_145_2 <| R_ireti fi_103_35 rfl
theorem b103_36 {d L : Nat} {σ : St} {Q : Option AV → AW → Prop} {x1 : Int} {u0 : AV} : R d 103 36 [u0, vI x1] [] (WS L σ) Q = if ¬ x1 = 1 then R d 103 51 [u0, vI x1] [] (WS L σ) Q else R d 103 41 [u0, vI x1] [] (WS L σ) Q := K_iload_n fi_103_36 rfl <| K_iconst fi_103_37 <| R_icmp_ne fi_103_38 rfl
theorem b103_41 {d L : Nat} {σ : St} {Q : Option AV → AW → Prop} {u1 : AV} : R d 103 41 [vR 19, u1] [] (WS L σ) Q = R d 103 58 [vR 19, u1] [vI (σ 145 3)] (WS L σ) Q := K_aload_n fi_103_41 rfl <| K_gf fi_103_42 kd_19 mk_19_5 <| K_gf fi_103_45 kd_145 mk_145_3 <| R_goto fi_103_48 rfl
theorem b103_51 {d L : Nat} {σ : St} {Q : Option AV → AW → Prop} {u1 : AV} : R d 103 51 [vR 19, u1] [] (WS L σ) Q = R d 103 58 [vR 19, u1] [vI (σ 145 4)] (WS L σ) Q := K_aload_n fi_103_51 rfl <| K_gf fi_103_52 kd_19 mk_19_5 <| K_gf fi_103_55 kd_145 mk_145_4 <| rfl
theorem b103_58 {d L : Nat} {σ : St} {Q : Option AV → AW → Prop} {y0 : Int} {u0 u1 : AV} : R d 103 58 [u0, u1] [vI y0] (WS L σ) Q = Q (some (vI y0)) (WS L σ) := R_ireti fi_103_58 rfl
theorem fi_104_0 : am_find 104 0 = some (.aload_n 0, 1, 0, 0, 0) := by decide +kernel
theorem fi_104_1 : am_find 104 1 = some (.bipush (-5), 2, 0, (-5), 0) := by decide +kernel
theorem fi_104_3 : am_find 104 3 = some (.putfield 19, 3, 2, 2, 72) := by decide +kernel
theorem fi_104_6 : am_find 104 6 = some (.aload_n 0, 1, 0, 0, 0) := by decide +kernel
theorem fi_104_7 : am_find 104 7 = some (.bipush (-5), 2, 0, (-5), 0) := by decide +kernel
theorem fi_104_9 : am_find 104 9 = some (.putfield 23, 3, 2, 3, 73) := by decide +kernel
theorem fi_104_12 : am_find 104 12 = some (.aload_n 0, 1, 0, 0, 0) := by decide +kernel
theorem fi_104_13 : am_find 104 13 = some (.iconst 0, 1, 0, 0, 0) := by decide +kernel
theorem fi_104_14 : am_find 104 14 = some (.putfield 26, 3, 2, 4, 74) := by decide +kernel
theorem fi_104_17 : am_find 104 17 = some (.aload_n 0, 1, 0, 0, 0) := by decide +kernel
theorem fi_104_18 : am_find 104 18 = some (.getfield 15, 3, 2, 1, 36) := by decide +kernel
theorem fi_104_21 : am_find 104 21 = some (.aload_n 0, 1, 0, 0, 0) := by decide +kernel
theorem fi_104_22 : am_find 104 22 = some (.getfield 9, 3, 2, 0, 35) := by decide +kernel
theorem fi_104_25 : am_find 104 25 = some (.getfield 29, 3, 8, 3, 75) := by decide +kernel
theorem fi_104_28 : am_find 104 28 = some (.iconst 0, 1, 0, 0, 0) := by decide +kernel
theorem fi_104_29 : am_find 104 29 = some (.invokevirtual 34, 3, 83, 2, 119) := by decide +kernel
theorem fi_104_32 : am_find 104 32 = some (.iconst 0, 1, 0, 0, 0) := by decide +kernel
theorem fi_104_33 : am_find 104 33 = some (.istore_n 2, 1, 0, 0, 0) := by decide +kernel
theorem fi_104_34 : am_find 104 34 = some (.iconst 0, 1, 0, 0, 0) := by decide +kernel
theorem fi_104_35 : am_find 104 35 = some (.istore_n 3, 1, 0, 0, 0) := by decide +kernel
theorem fi_104_36 : am_find 104 36 = some (.iload_n 3, 1, 0, 0, 0) := by decide +kernel
theorem fi_104_37 : am_find 104 37 = some (.aload_n 1, 1, 0, 0, 0) := by decide +kernel
theorem fi_104_38 : am_find 104 38 = some (.getfield 40, 3, 5, 1, 76) := by decide +kernel
theorem fi_104_41 : am_find 104 41 = some (.if_icmp .ge 108, 3, 0, 0, 0) := by decide +kernel
theorem fi_104_44 : am_find 104 44 = some (.aload_n 0, 1, 0, 0, 0) := by decide +kernel
theorem fi_104_45 : am_find 104 45 = some (.getfield 19, 3, 2, 2, 72) := by decide +kernel
theorem fi_104_48 : am_find 104 48 = some (.ifCond .ge 101, 3, 0, 0, 0) := by decide +kernel
theorem fi_104_51 : am_find 104 51 = some (.aload_n 1, 1, 0, 0, 0) := by decide +kernel
theorem fi_104_52 : am_find 104 52 = some (.iload_n 3, 1, 0, 0, 0) := by decide +kernel
theorem fi_104_53 : am_find 104 53 = some (.invokevirtual 45, 3, 64, 1, 120) := by decide +kernel
theorem fi_104_56 : am_find 104 56 = some (.istore 4, 2, 0, 0, 0) := by decide +kernel
theorem fi_104_58 : am_find 104 58 = some (.iload 4, 2, 0, 0, 0) := by decide +kernel
theorem fi_104_60 : am_find 104 60 = some (.aload_n 0, 1, 0, 0, 0) := by decide +kernel
theorem fi_104_61 : am_find 104 61 = some (.getfield 9, 3, 2, 0, 35) := by decide +kernel
theorem fi_104_64 : am_find 104 64 = some (.getfield 49, 3, 8, 0, 77) := by decide +kernel
theorem fi_104_67 : am_find 104 67 = some (.invokestatic 52, 3, 13, 2, 121) := by decide +kernel
theorem fi_104_70 : am_find 104 70 = some (.ifCond .eq 16, 3, 0, 0, 0) := by decide +kernel
theorem fi_104_73 : am_find 104 73 = some (.iload_n 2, 1, 0, 0, 0) := by decide +kernel
theorem fi_104_74 : am_find 104 74 = some (.invokestatic 56, 3, 86, 1, 122) := by decide +kernel
theorem fi_104_77 : am_find 104 77 = some (.iload 4, 2, 0, 0, 0) := by decide +kernel
theorem fi_104_79 : am_find 104 79 = some (.ishr, 1, 0, 0, 0) := by decide +kernel
theorem fi_104_80 : am_find 104 80 = some (.iconst 1, 1, 0, 1, 0) := by decide +kernel
theorem fi_104_81 : am_find 104 81 = some (.iand, 1, 0, 0, 0) := by decide +kernel
theorem fi_104_82 : am_find 104 82 = some (.iconst 1, 1, 0, 1, 0) := by decide +kernel
theorem fi_104_83 : am_find 104 83 = some (.if_icmp .ne 11, 3, 0, 0, 0) := by decide +kernel
theorem fi_104_86 : am_find 104 86 = some (.aload_n 0, 1, 0, 0, 0) := by decide +kernel
theorem fi_104_87 : am_find 104 87 = some (.iload_n 3, 1, 0, 0, 0) := by decide +kernel
theorem fi_104_88 : am_find 104 88 = some (.putfield 19, 3, 2, 2, 72) := by decide +kernel
theorem fi_104_91 : am_find 104 91 = some (.goto 52, 3, 0, 0, 0) := by decide +kernel
theorem fi_104_94 : am_find 104 94 = some (.aload_n 0, 1, 0, 0, 0) := by decide +kernel
theorem fi_104_95 : am_find 104 95 = some (.getfield 15, 3, 2, 1, 36) := by decide +kernel
theorem fi_104_98 : am_find 104 98 = some (.iload_n 2, 1, 0, 0, 0) := by decide +kernel
theorem fi_104_99 : am_find 104 99 = some (.invokevirtual 59, 3, 89, 1, 123) := by decide +kernel
theorem fi_104_102 : am_find 104 102 = some (.istore 5, 2, 0, 0, 0) := by decide +kernel
theorem fi_104_104 : am_find 104 104 = some (.iload_n 2, 1, 0, 0, 0) := by decide +kernel
theorem fi_104_105 : am_find 104 105 = some (.iload 4, 2, 0, 0, 0) := by decide +kernel
theorem fi_104_107 : am_find 104 107 = some (.iload 5, 2, 0, 0, 0) := by decide +kernel
theorem fi_104_109 : am_find 104 109 = some (.invokestatic 62, 3, 87, 3, 124) := by decide +kernel
theorem fi_104_112 : am_find 104 112 = some (.istore 6, 2, 0, 0, 0) := by decide +kernel
theorem fi_104_114 : am_find 104 114 = some (.aload_n 0, 1, 0, 0, 0) := by decide +kernel
theorem fi_104_115 : am_find 104 115 = some (.iload_n 3, 1, 0, 0, 0) := by decide +kernel
theorem fi_104_116 : am_find 104 116 = some (.aload_n 0, 1, 0, 0, 0) := by decide +kernel
theorem fi_104_117 : am_find 104 117 = some (.getfield 15, 3, 2, 1, 36) := by decide +kernel
theorem fi_104_120 : am_find 104 120 = some (.iload_n 2, 1, 0, 0, 0) := by decide +kernel
theorem fi_104_121 : am_find 104 121 = some (.iload 5, 2, 0, 0, 0) := by decide +kernel
theorem fi_104_123 : am_find 104 123 = some (.invokevirtual 66, 3, 101, 2, 125) := by decide +kernel
theorem fi_104_126 : am_find 104 126 = some (.aload_n 0, 1, 0, 0, 0) := by decide +kernel
theorem fi_104_127 : am_find 104 127 = some (.getfield 15, 3, 2, 1, 36) := by decide +kernel
theorem fi_104_130 : am_find 104 130 = some (.iload 6, 2, 0, 0, 0) := by decide +kernel
theorem fi_104_132 : am_find 104 132 = some (.iload 5, 2, 0, 0, 0) := by decide +kernel
theorem fi_104_134 : am_find 104 134 = some (.invokevirtual 66, 3, 101, 2, 125) := by decide +kernel
theorem fi_104_137 : am_find 104 137 = some (.invokevirtual 70, 3, 105, 3, 126) := by decide +kernel
theorem fi_104_140 : am_find 104 140 = some (.iload 6, 2, 0, 0, 0) := by decide +kernel
theorem fi_104_142 : am_find 104 142 = some (.istore_n 2, 1, 0, 0, 0) := by decide +kernel
theorem fi_104_143 : am_find 104 143 = some (.iinc 3 1, 3, 0, 0, 0) := by decide +kernel
theorem fi_104_146 : am_find 104 146 = some (.goto (-110), 3, 0, 0, 0) := by decide +kernel
theorem fi_104_149 : am_find 104 149 = some (.return_, 1, 0, 0, 0) := by decide +kernel
theorem b104_0 {d L : Nat} {σ : St} {Q : Option AV → AW → Prop} {u1 u2 u3 u4 u5 u6 : AV} : R d 104 0 [vR 145, u1, u2, u3, u4, u5, u6] [] (WS L σ) Q = R d 104 6 [vR 145, u1, u2, u3, u4, u5, u6] [] (WS L (st2 σ 145 2 (-5))) Q := K_aload_n fi_104_0 rfl <| K_bipush fi_104_1 <| K_pf fi_104_3 kd_145 rfl rfl rfl rfl <| rfl
theorem b104_6 {d L : Nat} {σ : St} {Q : Option AV → AW → Prop} {u1 u2 u3 u4 u5 u6 : AV} : R d 104 6 [vR 145, u1, u2, u3, u4, u5, u6] [] (WS L σ) Q = R d 104 12 [vR 145, u1, u2, u3, u4, u5, u6] [] (WS L (st2 σ 145 3 (-5))) Q := K_aload_n fi_104_6 rfl <| K_bipush fi_104_7 <| K_pf fi_104_9 kd_145 rfl rfl rfl rfl <| rfl
theorem b104_12 {d L : Nat} {σ : St} {Q : Option AV → AW → Prop} {u1 u2 u3 u4 u5 u6 : AV} : R d 104 12 [vR 145, u1, u2, u3, u4, u5, u6] [] (WS L σ) Q = R d 104 17 [vR 145, u1, u2, u3, u4, u5, u6] [] (WS L (st2 σ 145 4 0)) Q := K_aload_n fi_104_12 rfl <| K_iconst fi_104_13 <| K_pf fi_104_14 kd_145 rfl rfl rfl rfl <| rfl
theorem b104_17 {d L : Nat} {σ : St} {Q : Option AV → AW → Prop} {u1 u2 u3 u4 u5 u6 : AV} : R (d + 1) 104 17 [vR 145, u1, u2, u3, u4, u5, u6] [] (WS L σ) Q = R d 83 0 [vR 139, vI (σ 20 3), vI 0, vX 9, vX 9, vX 9] [] (WS L σ) (fun r w => R (d + 1) 104 32 [vR 145, u1, u2, u3, u4, u5, u6] (am_push r []) w Q) := K_aload_n fi_104_17 rfl <| K_gf fi_104_18 kd_145 mk_145_1 <| K_aload_n fi_104_21 rfl <| K_gf fi_104_22 kd_145 mk_145_0 <| K_gf fi_104_25 kd_20 mk_20_3 <| K_iconst fi_104_28 <| R_invV fi_104_29 (am_invV_of rfl (kd_139) (Nat.le_of_ble_eq_true rfl) (Nat.le_of_ble_eq_true rfl) rfl rfl)
theorem b104_32 {d L : Nat} {σ : St} {Q : Option AV → AW → Prop} {r1 : Nat} {u0 u2 u3 u4 u5 u6 : AV} : R d 104 32 [u0, vR r1, u2, u3, u4, u5, u6] [] (WS L σ) Q = R d 104 36 [u0, vR r1, vI 0, vI 0, u4, u5, u6] [] (WS L σ) Q := K_iconst fi_104_32 <| K_istore_n fi_104_33 (Nat.le_of_ble_eq_true rfl) rfl rfl <| K_iconst fi_104_34 <| K_istore_n fi_104_35 (Nat.le_of_ble_eq_true rfl) rfl rfl <| rfl
theorem b104_36 {d L : Nat} {σ : St} {Q : Option AV → AW → Prop} {x3 : Int} {r1 : Nat} {u0 u2 u4 u5 u6 : AV} (h1 : KD r1 = 5) : R d 104 36 [u0, vR r1, u2, vI x3, u4, u5, u6] [] (WS L σ) Q = if (σ r1 1) ≤ x3 then R d 104 149 [u0, vR r1, u2, vI x3, u4, u5, u6] [] (WS L σ) Q else R d 104 44 [u0, vR r1, u2, vI x3, u4, u5, u6] [] (WS L σ) Q := K_iload_n fi_104_36 rfl <| K_aload_n fi_104_37 rfl <| K_gf fi_104_38 h1 (row_sz h1) <| R_icmp_ge fi_104_41 rfl
theorem b104_44 {d L : Nat} {σ : St} {Q : Option AV → AW → Prop} {u1 u2 u3 u4 u5 u6 : AV} : R d 104 44 [vR 145, u1, u2, u3, u4, u5, u6] [] (WS L σ) Q = if 0 ≤ (σ 145 2) then R d 104 149 [vR 145, u1, u2, u3, u4, u5, u6] [] (WS L σ) Q else R d 104 51 [vR 145, u1, u2, u3, u4, u5, u6] [] (WS L σ) Q := K_aload_n fi_104_44 rfl <| K_gf fi_104_45 kd_145 mk_145_2 <| R_if_ge fi_104_48 rfl
theorem b104_51 {d L : Nat} {σ : St} {Q : Option AV → AW → Prop} {x3 : Int} {r1 : Nat} {u0 u2 u4 u5 u6 : AV} (h1 : KD r1 = 5) : R (d + 1) 104 51 [u0, vR r1, u2, vI x3, u4, u5, u6] [] (WS L σ) Q = R d 64 0 [vR r1, vI x3] [] (WS L σ) (fun r w => R (d + 1) 104 56 [u0, vR r1, u2, vI x3, u4, u5, u6] (am_push r []) w Q) := K_aload_n fi_104_51 rfl <| K_iload_n fi_104_52 rfl <| R_invV fi_104_53 (am_invV_of rfl (h1) (Nat.le_of_ble_eq_true rfl) (Nat.le_of_ble_eq_true rfl) rfl rfl)
theorem b104_56 {d L : Nat} {σ : St} {Q : Option AV → AW → Prop} {y0 : Int} {u1 u2 u3 u4 u5 u6 : AV} : R (d + 1) 104 56 [vR 145, u1, u2, u3, u4, u5, u6] [vI y0] (WS L σ) Q = R d 13 0 [vI y0, vI (σ 20 0)] [] (WS L σ) (fun r w => R (d + 1) 104 70 [vR 145, u1, u2, u3, vI y0, u5, u6] (am_push r []) w Q) := K_istore fi_104_56 (Nat.le_of_ble_eq_true rfl) rfl rfl <| K_iload fi_104_58 rfl <| K_aload_n fi_104_60 rfl <| K_gf fi_104_61 kd_145 mk_145_0 <| K_gf fi_104_64 kd_20 mk_20_0 <| R_invS fi_104_67 (by decide) (am_invS_of (Nat.le_of_ble_eq_true rfl) rfl (Nat.le_of_ble_eq_true rfl) (Nat.le_of_ble_eq_true rfl) rfl rfl)
theorem b104_70 {d L : Nat} {σ : St} {Q : Option AV → AW → Prop} {y0 : Int} {u0 u1 u2 u3 u4 u5 u6 : AV} : R d 104 70 [u0, u1, u2, u3, u4, u5, u6] [vI y0] (WS L σ) Q = if y0 = 0 then R d 104 86 [u0, u1, u2, u3, u4, u5, u6] [] (WS L σ) Q else R d 104 73 [u0, u1, u2, u3, u4, u5, u6] [] (WS L σ) Q := R_if_eq fi_104_70 rfl
theorem b104_73 {d L : Nat} {σ : St} {Q : Option AV → AW → Prop} {x2 : Int} {u0 u1 u3 u4 u5 u6 : AV} : R (d + 1) 104 73 [u0, u1, vI x2, u3, u4, u5, u6] [] (WS L σ) Q = R d 86 0 [vI x2] [] (WS L σ) (fun r w => R (d + 1) 104 77 [u0, u1, vI x2, u3, u4, u5, u6] (am_push r []) w Q) := K_iload_n fi_104_73 rfl <| R_invS fi_104_74 (by decide) (am_invS_of (Nat.le_of_ble_eq_true rfl) rfl (Nat.le_of_ble_eq_true rfl) (Nat.le_of_ble_eq_true rfl) rfl rfl)
theorem b104_77 {d L : Nat} {σ : St} {Q : Option AV → AW → Prop} {y0 x4 : Int} {u0 u1 u2 u3 u5 u6 : AV} : R d 104 77 [u0, u1, u2, u3, vI x4, u5, u6] [vI y0] (WS L σ) Q = if ¬ (i_and (i_shr y0 x4) 1) = 1 then R d 104 94 [u0, u1, u2, u3, vI x4, u5, u6] [] (WS L σ) Q else R d 104 86 [u0, u1, u2, u3, vI x4, u5, u6] [] (WS L σ) Q := K_iload fi_104_77 rfl <| K_ishr fi_104_79 <| K_iconst fi_104_80 <| K_iand fi_104_81 <| K_iconst fi_104_82 <| R_icmp_ne fi_104_83 rfl
theorem b104_86 {d L : Nat} {σ : St} {Q : Option AV → AW → Prop} {x3 : Int} {u1 u2 u4 u5 u6 : AV} : R d 104 86 [vR 145, u1, u2, vI x3, u4, u5, u6] [] (WS L σ) Q = R d 104 91 [vR 145, u1, u2, vI x3, u4, u5, u6] [] (WS L (st2 σ 145 2 x3)) Q := K_aload_n fi_104_86 rfl <| K_iload_n fi_104_87 rfl <| K_pf fi_104_88 kd_145 rfl rfl rfl rfl <| rfl
theorem b104_91 {d L : Nat} {σ : St} {Q : Option AV → AW → Prop} {u0 u1 u2 u3 u4 u5 u6 : AV} : R d 104 91 [u0, u1, u2, u3, u4, u5, u6] [] (WS L σ) Q = R d 104 143 [u0, u1, u2, u3, u4, u5, u6] [] (WS L σ) Q := R_goto fi_104_91 rfl
theorem b104_94 {d L : Nat} {σ : St} {Q : Option AV → AW → Prop} {x2 : Int} {u1 u3 u4 u5 u6 : AV} : R (d + 1) 104 94 [vR 145, u1, vI x2, u3, u4, u5, u6] [] (WS L σ) Q = R d 89 0 [vR 139, vI x2, vX 9] [] (WS L σ) (fun r w => R (d + 1) 104 102 [vR 145, u1, vI x2, u3, u4, u5, u6] (am_push r []) w Q) := K_aload_n fi_104_94 rfl <| K_gf fi_104_95 kd_145 mk_145_1 <| K_iload_n fi_104_98 rfl <| R_invV fi_104_99 (am_invV_of rfl (kd_139) (Nat.le_of_ble_eq_true rfl) (Nat.le_of_ble_eq_true rfl) rfl rfl)
theorem b104_102 {d L : Nat} {σ : St} {Q : Option AV → AW → Prop} {y0 x2 x4 : Int} {u0 u1 u3 u5 u6 : AV} : R (d + 1) 104 102 [u0, u1, vI x2, u3, vI x4, u5, u6] [vI y0] (WS L σ) Q = R d 87 0 [vI x2, vI x4, vI y0, vX 9] [] (WS L σ) (fun r w => R (d + 1) 104 112 [u0, u1, vI x2, u3, vI x4, vI y0, u6] (am_push r []) w Q) := K_istore fi_104_102 (Nat.le_of_ble_eq_true rfl) rfl rfl <| K_iload_n fi_104_104 rfl <| K_iload fi_104_105 rfl <| K_iload fi_104_107 rfl <| R_invS fi_104_109 (by decide) (am_invS_of (Nat.le_of_ble_eq_true rfl) rfl (Nat.le_of_ble_eq_true rfl) (Nat.le_of_ble_eq_true rfl) rfl rfl)
theorem b104_112 {d L : Nat} {σ : St} {Q : Option AV → AW → Prop} {y0 x3 x2 x5 : Int} {u1 u4 u6 : AV} : R (d + 1) 104 112 [vR 145, u1, vI x2, vI x3, u4, vI x5, u6] [vI y0] (WS L σ) Q = R d 101 0 [vR 139, vI x2, vI x5] [] (WS L σ) (fun r w => R (d + 1) 104 126 [vR 145, u1, vI x2, vI x3, u4, vI x5, vI y0] (am_push r [vI x3, vR 145]) w Q) := K_istore fi_104_112 (Nat.le_of_ble_eq_true rfl) rfl rfl <| K_aload_n fi_104_114 rfl <| K_iload_n fi_104_115 rfl <| K_aload_n fi_104_116 rfl <| K_gf fi_104_117 kd_145 mk_145_1 <| K_iload_n fi_104_120 rfl <| K_iload fi_104_121 rfl <| R_invV fi_104_123 (am_invV_of rfl (kd_139) (Nat.le_of_ble_eq_true rfl) (Nat.le_of_ble_eq_true rfl) rfl rfl)
theorem b104_126 {d L : Nat} {σ : St} {Q : Option AV → AW → Prop} {y0 y1 x6 x5 : Int} {u1 u2 u3 u4 : AV} : R (d + 1) 104 126 [vR 145, u1, u2, u3, u4, vI x5, vI x6] [vI y0, vI y1, vR 145] (WS L σ) Q = R d 101 0 [vR 139, vI x6, vI x5] [] (WS L σ) (fun r w => R (d + 1) 104 137 [vR 145, u1, u2, u3, u4, vI x5, vI x6] (am_push r [vI y0, vI y1, vR 145]) w Q) := K_aload_n fi_104_126 rfl <| K_gf fi_104_127 kd_145 mk_145_1 <| K_iload fi_104_130 rfl <| K_iload fi_104_132 rfl <| R_invV fi_104_134 (am_invV_of rfl (kd_139) (Nat.le_of_ble_eq_true rfl) (Nat.le_of_ble_eq_true rfl) rfl rfl)
theorem b104_137 {d L : Nat} {σ : St} {Q : Option AV → AW → Prop} {y0 y1 y2 : Int} {u0 u1 u2 u3 u4 u5 u6 : AV} : R (d + 1) 104 137 [u0, u1, u2, u3, u4, u5, u6] [vI y0, vI y1, vI y2, vR 145] (WS L σ) Q = R d 105 0 [vR 145, vI y2, vI y1, vI y0] [] (WS L σ) (fun r w => R (d + 1) 104 140 [u0, u1, u2, u3, u4, u5, u6] (am_push r []) w Q) := R_invV fi_104_137 (am_invV_of rfl (kd_145) (Nat.le_of_ble_eq_true rfl) (Nat.le_of_ble_eq_true rfl) rfl rfl)
theorem b104_140 {d L : Nat} {σ : St} {Q : Option AV → AW → Prop} {x6 : Int} {r1 : Nat} {u0 u2 u3 u4 u5 : AV} : R d 104 140 [u0, vR r1, u2, u3, u4, u5, vI x6] [] (WS L σ) Q = R d 104 143 [u0, vR r1, vI x6, u3, u4, u5, vI x6] [] (WS L σ) Q := K_iload fi_104_140 rfl <| K_istore_n fi_104_142 (Nat.le_of_ble_eq_true rfl) rfl rfl <| rfl
theorem b104_143 {d L : Nat} {σ : St} {Q : Option AV → AW → Prop} {x3 : Int} {u0 u1 u2 u4 u5 u6 : AV} (h1 : -2147483648 ≤ x3 + 1 ∧ x3 + 1 ≤ 2147483647) : R d 104 143 [u0, u1, u2, vI x3, u4, u5, u6] [] (WS L σ) Q = R d 104 36 [u0, u1, u2, vI (x3 + 1), u4, u5, u6] [] (WS L σ) Q := K_iincx fi_104_143 rfl (Nat.le_of_ble_eq_true rfl) rfl h1 rfl <| R_goto fi_104_146 rfl
theorem b104_149 {d L : Nat} {σ : St} {Q : Option AV → AW → Prop} {u0 u1 u2 u3 u4 u5 u6 : AV} : R d 104 149 [u0, u1, u2, u3, u4, u5, u6] [] (WS L σ) Q = Q none (WS L σ) := R_return fi_104_149
theorem fi_105_0 : am_find 105 0 = some (.aload_n 0, 1, 0, 0, 0) := by decide +kernel
theorem fi_105_1 : am_find 105 1 = some (.getfield 23, 3, 2, 3, 73) := by decide +kernel
theorem fi_105_4 : am_find 105 4 = some (.ifCond .ge 20, 3, 0, 0, 0) := by decide +kernel
theorem fi_105_7 : am_find 105 7 = some (.iload_n 3, 1, 0, 0, 0) := by decide +kernel
theorem fi_105_8 : am_find 105 8 = some (.iload_n 2, 1, 0, 0, 0) := by decide +kernel
theorem fi_105_9 : am_find 105 9 = some (.if_icmp .ge 15, 3, 0, 0, 0) := by decide +kernel
theorem fi_105_12 : am_find 105 12 = some (.aload_n 0, 1, 0, 0, 0) := by decide +kernel
theorem fi_105_13 : am_find 105 13 = some (.iload_n 1, 1, 0, 0, 0) := by decide +kernel
theorem fi_105_14 : am_find 105 14 = some (.putfield 23, 3, 2, 3, 73) := by decide +kernel
theorem fi_105_17 : am_find 105 17 = some (.aload_n 0, 1, 0, 0, 0) := by decide +kernel
theorem fi_105_18 : am_find 105 18 = some (.iload_n 2, 1, 0, 0, 0) := by decide +kernel
theorem fi_105_19 : am_find 105 19 = some (.iload_n 3, 1, 0, 0, 0) := by decide +kernel
theorem fi_105_20 : am_find 105 20 = some (.isub, 1, 0, 0, 0) := by decide +kernel
theorem fi_105_21 : am_find 105 21 = some (.putfield 26, 3, 2, 4, 74) := by decide +kernel
theorem fi_105_24 : am_find 105 24 = some (.return_, 1, 0, 0, 0) := by decide +kernel
theorem b105_0 {d L : Nat} {σ : St} {Q : Option AV → AW → Prop} {u1 u2 u3 : AV} : R d 105 0 [vR 145, u1, u2, u3] [] (WS L σ) Q = if 0 ≤ (σ 145 3) then R d 105 24 [vR 145, u1, u2, u3] [] (WS L σ) Q else R d 105 7 [vR 145, u1, u2, u3] [] (WS L σ) Q := K_aload_n fi_105_0 rfl <| K_gf fi_105_1 kd_145 mk_145_3 <| R_if_ge fi_105_4 rfl
theorem b105_7 {d L : Nat} {σ : St} {Q : Option AV → AW → Prop} {x3 x2 : Int} {u0 u1 : AV} : R d 105 7 [u0, u1, vI x2, vI x3] [] (WS L σ) Q = if x2 ≤ x3 then R d 105 24 [u0, u1, vI x2, vI x3] [] (WS L σ) Q else R d 105 12 [u0, u1, vI x2, vI x3] [] (WS L σ) Q := K_iload_n fi_105_7 rfl <| K_iload_n fi_105_8 rfl <| R_icmp_ge fi_105_9 rfl
theorem b105_12 {d L : Nat} {σ : St} {Q : Option AV → AW → Prop} {x1 : Int} {u2 u3 : AV} : R d 105 12 [vR 145, vI x1, u2, u3] [] (WS L σ) Q = R d 105 17 [vR 145, vI x1, u2, u3] [] (WS L (st2 σ 145 3 x1)) Q := K_aload_n fi_105_12 rfl <| K_iload_n fi_105_13 rfl <| K_pf fi_105_14 kd_145 rfl rfl rfl rfl <| rfl
theorem b105_17 {d L : Nat} {σ : St} {Q : Option AV → AW → Prop} {x2 x3 : Int} {u1 : AV} (h1 : -2147483648 ≤ x2 - x3 ∧ x2 - x3 ≤ 2147483647) : R d 105 17 [vR 145, u1, vI x2, vI x3] [] (WS L σ) Q = R d 105 24 [vR 145, u1, vI x2, vI x3] [] (WS L (st2 σ 145 4 (x2 - x3))) Q := K_aload_n fi_105_17 rfl <| K_iload_n fi_105_18 rfl <| K_iload_n fi_105_19 rfl <| K_isubx fi_105_20 h1 <| K_pf fi_105_21 kd_145 rfl rfl rfl rfl <| rfl
theorem b105_24 {d L : Nat} {σ : St} {Q : Option AV → AW → Prop} {u0 u1 u2 u3 : AV} : R d 105 24 [u0, u1, u2, u3] [] (WS L σ) Q = Q none (WS L σ) := R_return fi_105_24
theorem fi_106_0 : am_find 106 0 = some (.iload_n 1, 1, 0, 0, 0) := by decide +kernel
theorem fi_106_1 : am_find 106 1 = some (.iconst 3, 1, 0, 3, 0) := by decide +kernel
theorem fi_106_2 : am_find 106 2 = some (.invokestatic 72, 3, 13, 2, 14) := by decide +kernel
theorem fi_106_5 : am_find 106 5 = some (.ifCond .eq 14, 3, 0, 0, 0) := by decide +kernel
theorem fi_106_8 : am_find 106 8 = some (.aload_n 0, 1, 0, 0, 0) := by decide +kernel
theorem fi_106_9 : am_find 106 9 = some (.getfield 47, 3, 9, 5, 5) := by decide +kernel
theorem fi_106_12 : am_find 106 12 = some (.iload_n 1, 1, 0, 0, 0) := by decide +kernel
theorem fi_106_13 : am_find 106 13 = some (.invokevirtual 209, 3, 107, 1, 127) := by decide +kernel
theorem fi_106_16 : am_find 106 16 = some (.goto 6, 3, 0, 0, 0) := by decide +kernel
theorem fi_106_19 : am_find 106 19 = some (.sipush (-1001), 3, 0, (-1001), 0) := by decide +kernel
theorem fi_106_22 : am_find 106 22 = some (.ireturn, 1, 0, 0, 0) := by decide +kernel
theorem b106_0 {d L : Nat} {σ : St} {Q : Option AV → AW → Prop} {x1 : Int} {u0 : AV} : R (d + 1) 106 0 [u0, vI x1] [] (WS L σ) Q = R d 13 0 [vI x1, vI 3] [] (WS L σ) (fun r w => R (d + 1) 106 5 [u0, vI x1] (am_push r []) w Q) := K_iload_n fi_106_0 rfl <| K_iconst fi_106_1 <| R_invS fi_106_2 (by decide) (am_invS_of (Nat.le_of_ble_eq_true rfl) rfl (Nat.le_of_ble_eq_true rfl) (Nat.le_of_ble_eq_true rfl) rfl rfl)
theorem b106_5 {d L : Nat} {σ : St} {Q : Option AV → AW → Prop} {y0 : Int} {u0 u1 : AV} : R d 106 5 [u0, u1] [vI y0] (WS L σ) Q = if y0 = 0 then R d 106 19 [u0, u1] [] (WS L σ) Q else R d 106 8 [u0, u1] [] (WS L σ) Q := R_if_eq fi_106_5 rfl
theorem b106_8 {d L : Nat} {σ : St} {Q : Option AV → AW → Prop} {x1 : Int} : R (d + 1) 106 8 [vR 19, vI x1] [] (WS L σ) Q = R d 107 0 [vR 145, vI x1, vX 9] [] (WS L σ) (fun r w => R (d + 1) 106 16 [vR 19, vI x1] (am_push r []) w Q) := K_aload_n fi_106_8 rfl <| K_gf fi_106_9 kd_19 mk_19_5 <| K_iload_n fi_106_12 rfl <| R_invV fi_106_13 (am_invV_of rfl (kd_145) (Nat.le_of_ble_eq_true rfl) (Nat.le_of_ble_eq_true rfl) rfl rfl)
theorem b106_16 {d L : Nat} {σ : St} {Q : Option AV → AW → Prop} {y0 : Int} {u0 u1 : AV} : R d 106 16 [u0, u1] [vI y0] (WS L σ) Q = R d 106 22 [u0, u1] [vI y0] (WS L σ) Q := R_goto fi_106_16 rfl
theorem b106_19 {d L : Nat} {σ : St} {Q : Option AV → AW → Prop} {u0 u1 : AV} : R d 106 19 [u0, u1] [] (WS L σ) Q = R d 106 22 [u0, u1] [vI (-1001)] (WS L σ) Q := K_sipush fi_106_19 <| rfl
theorem b106_22 {d L : Nat} {σ : St} {Q : Option AV → AW → Prop} {y0 : Int} {u0 u1 : AV} : R d 106 22 [u0, u1] [vI y0] (WS L σ) Q = Q (some (vI y0)) (WS L σ) := R_ireti fi_106_22 rfl
theorem fi_107_0 : am_find 107 0 = some (.aload_n 0, 1, 0, 0, 0) := by decide +kernel
theorem fi_107_1 : am_find 107 1 = some (.getfield 15, 3, 2, 1, 36) := by decide +kernel
theorem fi_107_4 : am_find 107 4 = some (.iload_n 1, 1, 0, 0, 0) := by decide +kernel
theorem fi_107_5 : am_find 107 5 = some (.iconst 0, 1, 0, 0, 0) := by decide +kernel
theorem fi_107_6 : am_find 107 6 = some (.invokevirtual 34, 3, 83, 2, 119) := by decide +kernel
theorem fi_107_9 : am_find 107 9 = some (.aload_n 0, 1, 0, 0, 0) := by decide +kernel
theorem fi_107_10 : am_find 107 10 = some (.getfield 15, 3, 2, 1, 36) := by decide +kernel
theorem fi_107_13 : am_find 107 13 = some (.iconst 0, 1, 0, 0, 0) := by decide +kernel
theorem fi_107_14 : am_find 107 14 = some (.iconst 0, 1, 0, 0, 0) := by decide +kernel
theorem fi_107_15 : am_find 107 15 = some (.invokevirtual 66, 3, 101, 2, 125) := by decide +kernel
theorem fi_107_18 : am_find 107 18 = some (.istore_n 2, 1, 0, 0, 0) := by decide +kernel
theorem fi_107_19 : am_find 107 19 = some (.aload_n 0, 1, 0, 0, 0) := by decide +kernel
theorem fi_107_20 : am_find 107 20 = some (.getfield 15, 3, 2, 1, 36) := by decide +kernel
theorem fi_107_23 : am_find 107 23 = some (.iload_n 1, 1, 0, 0, 0) := by decide +kernel
theorem fi_107_24 : am_find 107 24 = some (.iconst 1, 1, 0, 1, 0) := by decide +kernel
theorem fi_107_25 : am_find 107 25 = some (.invokevirtual 34, 3, 83, 2, 119) := by decide +kernel
theorem fi_107_28 : am_find 107 28 = some (.iload_n 2, 1, 0, 0, 0) := by decide +kernel
theorem fi_107_29 : am_find 107 29 = some (.aload_n 0, 1, 0, 0, 0) := by decide +kernel
theorem fi_107_30 : am_find 107 30 = some (.getfield 15, 3, 2, 1, 36) := by decide +kernel
theorem fi_107_33 : am_find 107 33 = some (.iconst 0, 1, 0, 0, 0) := by decide +kernel
theorem fi_107_34 : am_find 107 34 = some (.iconst 0, 1, 0, 0, 0) := by decide +kernel
theorem fi_107_35 : am_find 107 35 = some (.invokevirtual 66, 3, 101, 2, 125) := by decide +kernel
theorem fi_107_38 : am_find 107 38 = some (.isub, 1, 0, 0, 0) := by decide +kernel
theorem fi_107_39 : am_find 107 39 = some (.ireturn, 1, 0, 0, 0) := by decide +kernel
theorem b107_0 {d L : Nat} {σ : St} {Q : Option AV → AW → Prop} {x1 : Int} {u2 : AV} : R (d + 1) 107 0 [vR 145, vI x1, u2] [] (WS L σ) Q = R d 83 0 [vR 139, vI x1, vI 0, vX 9, vX 9, vX 9] [] (WS L σ) (fun r w => R (d + 1) 107 9 [vR 145, vI x1, u2] (am_push r []) w Q) := K_aload_n fi_107_0 rfl <| K_gf fi_107_1 kd_145 mk_145_1 <| K_iload_n fi_107_4 rfl <| K_iconst fi_107_5 <| R_invV fi_107_6 (am_invV_of rfl (kd_139) (Nat.le_of_ble_eq_true rfl) (Nat.le_of_ble_eq_true rfl) rfl rfl)
theorem b107_9 {d L : Nat} {σ : St} {Q : Option AV → AW → Prop} {u1 u2 : AV} : R (d + 1) 107 9 [vR 145, u1, u2] [] (WS L σ) Q = R d 101 0 [vR 139, vI 0, vI 0] [] (WS L σ) (fun r w => R (d + 1) 107 18 [vR 145, u1, u2] (am_push r []) w Q) := K_aload_n fi_107_9 rfl <| K_gf fi_107_10 kd_145 mk_145_1 <| K_iconst fi_107_13 <| K_iconst fi_107_14 <| R_invV fi_107_15 (am_invV_of rfl (kd_139) (Nat.le_of_ble_eq_true rfl) (Nat.le_of_ble_eq_true rfl) rfl rfl)
theorem b107_18 {d L : Nat} {σ : St} {Q : Option AV → AW → Prop} {y0 x1 : Int} {u2 : AV} : R (d + 1) 107 18 [vR 145, vI x1, u2] [vI y0] (WS L σ) Q = R d 83 0 [vR 139, vI x1, vI 1, vX 9, vX 9, vX 9] [] (WS L σ) (fun r w => R (d + 1) 107 28 [vR 145, vI x1, vI y0] (am_push r []) w Q) := K_istore_n fi_107_18 (Nat.le_of_ble_eq_true rfl) rfl rfl <| K_aload_n fi_107_19 rfl <| K_gf fi_107_20 kd_145 mk_145_1 <| K_iload_n fi_107_23 rfl <| K_iconst fi_107_24 <| R_invV fi_107_25 (am_invV_of rfl (kd_139) (Nat.le_of_ble_eq_true rfl) (Nat.le_of_ble_eq_true rfl) rfl rfl)
theorem b107_28 {d L : Nat} {σ : St} {Q : Option AV → AW → Prop} {x2 : Int} {u1 : AV} : R (d + 1) 107 28 [vR 145, u1, vI x2] [] (WS L σ) Q = R d 101 0 [vR 139, vI 0, vI 0] [] (WS L σ) (fun r w => R (d + 1) 107 38 [vR 145, u1, vI x2] (am_push r [vI x2]) w Q) := K_iload_n fi_107_28 rfl <| K_aload_n fi_107_29 rfl <| K_gf fi_107_30 kd_145 mk_145_1 <| K_iconst fi_107_33 <| K_iconst fi_107_34 <| R_invV fi_107_35 (am_invV_of rfl (kd_139) (Nat.le_of_ble_eq_true rfl) (Nat.le_of_ble_eq_true rfl) rfl rfl)
theorem b107_38 {d L : Nat} {σ : St} {Q : Option AV → AW → Prop} {y0 y1 : Int} {u0 u1 u2 : AV} (h1 : -2147483648 ≤ y1 - y0 ∧ y1 - y0 ≤ 2147483647) : R d 107 38 [u0, u1, u2] [vI y0, vI y1] (WS L σ) Q = Q (some (vI (y1 - y0))) (WS L σ) := K_isubx fi_107_38 h1 <| R_ireti fi_107_39 rfl
theorem fi_108_0 : am_find 108 0 = some (.iconst 0, 1, 0, 0, 0) := by decide +kernel
theorem fi_108_1 : am_find 108 1 = some (.istore_n 1, 1, 0, 0, 0) := by decide +kernel
theorem fi_108_2 : am_find 108 2 = some (.ldc 212, 2, 0, 1000000, 875) := by decide +kernel
theorem fi_108_4 : am_find 108 4 = some (.istore_n 2, 1, 0, 0, 0) := by decide +kernel
theorem fi_108_5 : am_find 108 5 = some (.iconst 0, 1, 0, 0, 0) := by decide +kernel
theorem fi_108_6 : am_find 108 6 = some (.istore_n 3, 1, 0, 0, 0) := by decide +kernel
theorem fi_108_7 : am_find 108 7 = some (.iload_n 3, 1, 0, 0, 0) := by decide +kernel
theorem fi_108_8 : am_find 108 8 = some (.iconst 2, 1, 0, 2, 0) := by decide +kernel
theorem fi_108_9 : am_find 108 9 = some (.if_icmp .gt 33, 3, 0, 0, 0) := by decide +kernel
theorem fi_108_12 : am_find 108 12 = some (.aload_n 0, 1, 0, 0, 0) := by decide +kernel
theorem fi_108_13 : am_find 108 13 = some (.getfield 47, 3, 9, 5, 5) := by decide +kernel
theorem fi_108_16 : am_find 108 16 = some (.iload_n 3, 1, 0, 0, 0) := by decide +kernel
theorem fi_108_17 : am_find 108 17 = some (.invokevirtual 209, 3, 107, 1, 127) := by decide +kernel
theorem fi_108_20 : am_find 108 20 = some (.invokestatic 213, 3, 9992, 0, 876) := by decide +kernel
theorem fi_108_23 : am_find 108 23 = some (.istore 4, 2, 0, 0, 0) := by decide +kernel
theorem fi_108_25 : am_find 108 25 = some (.iload 4, 2, 0, 0, 0) := by decide +kernel
theorem fi_108_27 : am_find 108 27 = some (.iload_n 2, 1, 0, 0, 0) := by decide +kernel
theorem fi_108_28 : am_find 108 28 = some (.if_icmp .ge 8, 3, 0, 0, 0) := by decide +kernel
theorem fi_108_31 : am_find 108 31 = some (.iload_n 3, 1, 0, 0, 0) := by decide +kernel
theorem fi_108_32 : am_find 108 32 = some (.istore_n 1, 1, 0, 0, 0) := by decide +kernel
theorem fi_108_33 : am_find 108 33 = some (.iload 4, 2, 0, 0, 0) := by decide +kernel
theorem fi_108_35 : am_find 108 35 = some (.istore_n 2, 1, 0, 0, 0) := by decide +kernel
theorem fi_108_36 : am_find 108 36 = some (.iinc 3 1, 3, 0, 0, 0) := by decide +kernel
theorem fi_108_39 : am_find 108 39 = some (.goto (-32), 3, 0, 0, 0) := by decide +kernel
theorem fi_108_42 : am_find 108 42 = some (.iload_n 1, 1, 0, 0, 0) := by decide +kernel
theorem fi_108_43 : am_find 108 43 = some (.ireturn, 1, 0, 0, 0) := by decide +kernel
theorem b108_0 {d L : Nat} {σ : St} {Q : Option AV → AW → Prop} {u0 u1 u2 u3 u4 : AV} : R d 108 0 [u0, u1, u2, u3, u4] [] (WS L σ) Q = R d 108 7 [u0, vI 0, vI 1000000, vI 0, u4] [] (WS L σ) Q := K_iconst fi_108_0 <| K_istore_n fi_108_1 (Nat.le_of_ble_eq_true rfl) rfl rfl <| K_ldci fi_108_2 <| K_istore_n fi_108_4 (Nat.le_of_ble_eq_true rfl) rfl rfl <| K_iconst fi_108_5 <| K_istore_n fi_108_6 (Nat.le_of_ble_eq_true rfl) rfl rfl <| rfl
theorem b108_7 {d L : Nat} {σ : St} {Q : Option AV → AW → Prop} {x3 : Int} {u0 u1 u2 u4 : AV} : R d 108 7 [u0, u1, u2, vI x3, u4] [] (WS L σ) Q = if 2 < x3 then R d 108 42 [u0, u1, u2, vI x3, u4] [] (WS L σ) Q else R d 108 12 [u0, u1, u2, vI x3, u4] [] (WS L σ) Q := K_iload_n fi_108_7 rfl <| K_iconst fi_108_8 <| R_icmp_gt fi_108_9 rfl
theorem b108_12 {d L : Nat} {σ : St} {Q : Option AV → AW → Prop} {x3 : Int} {u1 u2 u4 : AV} : R (d + 1) 108 12 [vR 19, u1, u2, vI x3, u4] [] (WS L σ) Q = R d 107 0 [vR 145, vI x3, vX 9] [] (WS L σ) (fun r w => R (d + 1) 108 20 [vR 19, u1, u2, vI x3, u4] (am_push r []) w Q) := K_aload_n fi_108_12 rfl <| K_gf fi_108_13 kd_19 mk_19_5 <| K_iload_n fi_108_16 rfl <| R_invV fi_108_17 (am_invV_of rfl (kd_145) (Nat.le_of_ble_eq_true rfl) (Nat.le_of_ble_eq_true rfl) rfl rfl)
theorem b108_20 {d L : Nat} {σ : St} {Q : Option AV → AW → Prop} {y0 x2 : Int} {u0 u1 u3 u4 : AV} : R d 108 20 [u0, u1, vI x2, u3, u4] [vI y0] (WS L σ) Q = if x2 ≤ (i_abs y0) then R d 108 36 [u0, u1, vI x2, u3, vI (i_abs y0)] [] (WS L σ) Q else R d 108 31 [u0, u1, vI x2, u3, vI (i_abs y0)] [] (WS L σ) Q := K_abs fi_108_20 (Nat.le_of_ble_eq_true rfl) <| K_istore fi_108_23 (Nat.le_of_ble_eq_true rfl) rfl rfl <| K_iload fi_108_25 rfl <| K_iload_n fi_108_27 rfl <| R_icmp_ge fi_108_28 rfl
theorem b108_31 {d L : Nat} {σ : St} {Q : Option AV → AW → Prop} {x3 x4 : Int} {u0 u1 u2 : AV} : R d 108 31 [u0, u1, u2, vI x3, vI x4] [] (WS L σ) Q = R d 108 36 [u0, vI x3, vI x4, vI x3, vI x4] [] (WS L σ) Q := K_iload_n fi_108_31 rfl <| K_istore_n fi_108_32 (Nat.le_of_ble_eq_true rfl) rfl rfl <| K_iload fi_108_33 rfl <| K_istore_n fi_108_35 (Nat.le_of_ble_eq_true rfl) rfl rfl <| rfl
theorem b108_36 {d L : Nat} {σ : St} {Q : Option AV → AW → Prop} {x3 : Int} {u0 u1 u2 u4 : AV} (h1 : -2147483648 ≤ x3 + 1 ∧ x3 + 1 ≤ 2147483647) : R d 108 36 [u0, u1, u2, vI x3, u4] [] (WS L σ) Q = R d 108 7 [u0, u1, u2, vI (x3 + 1), u4] [] (WS L σ) Q := K_iincx fi_108_36 rfl (Nat.le_of_ble_eq_true rfl) rfl h1 rfl <| R_goto fi_108_39 rfl
theorem b108_42 {d L : Nat} {σ : St} {Q : Option AV → AW → Prop} {x1 : Int} {u0 u2 u3 u4 : AV} : R d 108 42 [u0, vI x1, u2, u3, u4] [] (WS L σ) Q = Q (some (vI x1)) (WS L σ) := K_iload_n fi_108_42 rfl <| R_ireti fi_108_43 rfl
theorem fi_109_0 : am_find 109 0 = some (.iload_n 1, 1, 0, 0, 0) := by decide +kernel
theorem fi_109_1 : am_find 109 1 = some (.iconst 2, 1, 0, 2, 0) := by decide +kernel
theorem fi_109_2 : am_find 109 2 = some (.invokestatic 72, 3, 13, 2, 14) := by decide +kernel
theorem fi_109_5 : am_find 109 5 = some (.ifCond .ne 5, 3, 0, 0, 0) := by decide +kernel
theorem fi_109_8 : am_find 109 8 = some (.iconst (-1), 1, 0, (-1), 0) := by decide +kernel
theorem fi_109_9 : am_find 109 9 = some (.ireturn, 1, 0, 0, 0) := by decide +kernel
theorem fi_109_10 : am_find 109 10 = some (.aload_n 0, 1, 0, 0, 0) := by decide +kernel
theorem fi_109_11 : am_find 109 11 = some (.getfield 54, 3, 9, 6, 6) := by decide +kernel
theorem fi_109_14 : am_find 109 14 = some (.invokevirtual 218, 3, 110, 0, 128) := by decide +kernel
theorem fi_109_17 : am_find 109 17 = some (.iload_n 1, 1, 0, 0, 0) := by decide +kernel
theorem fi_109_18 : am_find 109 18 = some (.ifCond .ne 13, 3, 0, 0, 0) := by decide +kernel
theorem fi_109_21 : am_find 109 21 = some (.aload_n 0, 1, 0, 0, 0) := by decide +kernel
theorem fi_109_22 : am_find 109 22 = some (.getfield 54, 3, 9, 6, 6) := by decide +kernel
theorem fi_109_25 : am_find 109 25 = some (.getfield 221, 3, 6, 1, 78) := by decide +kernel
theorem fi_109_28 : am_find 109 28 = some (.goto 10, 3, 0, 0, 0) := by decide +kernel
theorem fi_109_31 : am_find 109 31 = some (.aload_n 0, 1, 0, 0, 0) := by decide +kernel
theorem fi_109_32 : am_find 109 32 = some (.getfield 54, 3, 9, 6, 6) := by decide +kernel
theorem fi_109_35 : am_find 109 35 = some (.getfield 224, 3, 6, 2, 79) := by decide +kernel
theorem fi_109_38 : am_find 109 38 = some (.ireturn, 1, 0, 0, 0) := by decide +kernel
theorem b109_0 {d L : Nat} {σ : St} {Q : Option AV → AW → Prop} {x1 : Int} {u0 : AV} : R (d + 1) 109 0 [u0, vI x1] [] (WS L σ) Q = R d 13 0 [vI x1, vI 2] [] (WS L σ) (fun r w => R (d + 1) 109 5 [u0, vI x1] (am_push r []) w Q) := K_iload_n fi_109_0 rfl <| K_iconst fi_109_1 <| R_invS fi_109_2 (by decide) (am_invS_of (Nat.le_of_ble_eq_true rfl) rfl (Nat.le_of_ble_eq_true rfl) (Nat.le_of_ble_eq_true rfl) rfl rfl)
theorem b109_5 {d L : Nat} {σ : St} {Q : Option AV → AW → Prop} {y0 : Int} {u0 u1 : AV} : R d 109 5 [u0, u1] [vI y0] (WS L σ) Q = if ¬ y0 = 0 then R d 109 10 [u0, u1] [] (WS L σ) Q else R d 109 8 [u0, u1] [] (WS L σ) Q := R_if_ne fi_109_5 rfl
theorem b109_8 {d L : Nat} {σ : St} {Q : Option AV → AW → Prop} {u0 u1 : AV} : R d 109 8 [u0, u1] [] (WS L σ) Q = Q (some (vI (-1))) (WS L σ) := K_iconst fi_109_8 <| R_ireti fi_109_9 rfl
theorem b109_10 {d L : Nat} {σ : St} {Q : Option AV → AW → Prop} {u1 : AV} : R (d + 1) 109 10 [vR 19, u1] [] (WS L σ) Q = R d 110 0 [vR 146, vX 9, vX 9, vX 9] [] (WS L σ) (fun r w => R (d + 1) 109 17 [vR 19, u1] (am_push r []) w Q) := K_aload_n fi_109_10 rfl <| K_gf fi_109_11 kd_19 mk_19_6 <| R_invV fi_109_14 (am_invV_of rfl (kd_146) (Nat.le_of_ble_eq_true rfl) (Nat.le_of_ble_eq_true rfl) rfl rfl)
theorem b109_17 {d L : Nat} {σ : St} {Q : Option AV → AW → Prop} {x1 : Int} {u0 : AV} : R d 109 17 [u0, vI x1] [] (WS L σ) Q = if ¬ x1 = 0 then R d 109 31 [u0, vI x1] [] (WS L σ) Q else R d 109 21 [u0, vI x1] [] (WS L σ) Q := K_iload_n fi_109_17 rfl <| R_if_ne fi_109_18 rfl
theorem b109_21 {d L : Nat} {σ : St} {Q : Option AV → AW → Prop} {u1 : AV} : R d 109 21 [vR 19, u1] [] (WS L σ) Q = R d 109 38 [vR 19, u1] [vI (σ 146 1)] (WS L σ) Q := K_aload_n fi_109_21 rfl <| K_gf fi_109_22 kd_19 mk_19_6 <| K_gf fi_109_25 kd_146 mk_146_1 <| R_goto fi_109_28 rfl
theorem b109_31 {d L : Nat} {σ : St} {Q : Option AV → AW → Prop} {u1 : AV} : R d 109 31 [vR 19, u1] [] (WS L σ) Q = R d 109 38 [vR 19, u1] [vI (σ 146 2)] (WS L σ) Q := K_aload_n fi_109_31 rfl <| K_gf fi_109_32 kd_19 mk_19_6 <| K_gf fi_109_35 kd_146 mk_146_2 <| rfl
theorem b109_38 {d L : Nat} {σ : St} {Q : Option AV → AW → Prop} {y0 : Int} {u0 u1 : AV} : R d 109 38 [u0, u1] [vI y0] (WS L σ) Q = Q (some (vI y0)) (WS L σ) := R_ireti fi_109_38 rfl
