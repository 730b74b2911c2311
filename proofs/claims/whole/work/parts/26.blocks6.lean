/-! block lemmas (printed by wip/whole/gen_more.py): Arrays.fill -/
theorem fi_4_0 : am_find 4 0 = some (.iconst 0, 1, 0, 0, 0) := by decide +kernel
theorem fi_4_1 : am_find 4 1 = some (.istore_n 2, 1, 0, 0, 0) := by decide +kernel
theorem fi_4_2 : am_find 4 2 = some (.aload_n 0, 1, 0, 0, 0) := by decide +kernel
theorem fi_4_3 : am_find 4 3 = some (.arraylength, 1, 0, 0, 0) := by decide +kernel
theorem fi_4_4 : am_find 4 4 = some (.istore_n 3, 1, 0, 0, 0) := by decide +kernel
theorem fi_4_5 : am_find 4 5 = some (.iload_n 2, 1, 0, 0, 0) := by decide +kernel
theorem fi_4_6 : am_find 4 6 = some (.iload_n 3, 1, 0, 0, 0) := by decide +kernel
theorem fi_4_7 : am_find 4 7 = some (.if_icmp .ge 13, 3, 0, 0, 0) := by decide +kernel
theorem fi_4_10 : am_find 4 10 = some (.aload_n 0, 1, 0, 0, 0) := by decide +kernel
theorem fi_4_11 : am_find 4 11 = some (.iload_n 2, 1, 0, 0, 0) := by decide +kernel
theorem fi_4_12 : am_find 4 12 = some (.iload_n 1, 1, 0, 0, 0) := by decide +kernel
theorem fi_4_13 : am_find 4 13 = some (.iastore, 1, 0, 0, 0) := by decide +kernel
theorem fi_4_14 : am_find 4 14 = some (.iinc 2 1, 3, 0, 0, 0) := by decide +kernel
theorem fi_4_17 : am_find 4 17 = some (.goto (-12), 3, 0, 0, 0) := by decide +kernel
theorem fi_4_20 : am_find 4 20 = some (.return_, 1, 0, 0, 0) := by decide +kernel
theorem b4_0 {d L : Nat} {σ : St} {Q : Option AV → AW → Prop} {x1 : Int} {r0 : Nat} {u2 u3 : AV} (h1 : KD r0 = 100) : R d 4 0 [vR r0, vI x1, u2, u3] [] (WS L σ) Q = R d 4 5 [vR r0, vI x1, vI 0, vI (LN L r0 : Int)] [] (WS L σ) Q := K_iconst fi_4_0 <| K_istore_n fi_4_1 (Nat.le_of_ble_eq_true rfl) rfl rfl <| K_aload_n fi_4_2 rfl <| K_alen fi_4_3 (Or.inl h1) <| K_istore_n fi_4_4 (Nat.le_of_ble_eq_true rfl) rfl rfl <| rfl
theorem b4_5 {d L : Nat} {σ : St} {Q : Option AV → AW → Prop} {x2 x3 : Int} {u0 u1 : AV} : R d 4 5 [u0, u1, vI x2, vI x3] [] (WS L σ) Q = if x3 ≤ x2 then R d 4 20 [u0, u1, vI x2, vI x3] [] (WS L σ) Q else R d 4 10 [u0, u1, vI x2, vI x3] [] (WS L σ) Q := K_iload_n fi_4_5 rfl <| K_iload_n fi_4_6 rfl <| R_icmp_ge fi_4_7 rfl
theorem b4_10 {d L : Nat} {σ : St} {Q : Option AV → AW → Prop} {x2 x1 : Int} {r0 : Nat} {u3 : AV} (h1 : KD r0 = 100) (h2 : 0 ≤ x2) (h3 : x2 < (LN L r0 : Int)) : R d 4 10 [vR r0, vI x1, vI x2, u3] [] (WS L σ) Q = R d 4 14 [vR r0, vI x1, vI x2, u3] [] (WS L (st2 σ r0 x2 x1)) Q := K_aload_n fi_4_10 rfl <| K_iload_n fi_4_11 rfl <| K_iload_n fi_4_12 rfl <| K_is fi_4_13 h1 h2 h3 <| rfl
theorem b4_14 {d L : Nat} {σ : St} {Q : Option AV → AW → Prop} {x2 x1 : Int} {u0 u3 : AV} (h1 : -2147483648 ≤ x2 + 1 ∧ x2 + 1 ≤ 2147483647) : R d 4 14 [u0, vI x1, vI x2, u3] [] (WS L σ) Q = R d 4 5 [u0, vI x1, vI (x2 + 1), u3] [] (WS L σ) Q := K_iincx fi_4_14 rfl (Nat.le_of_ble_eq_true rfl) rfl h1 rfl <| R_goto fi_4_17 rfl
theorem b4_20 {d L : Nat} {σ : St} {Q : Option AV → AW → Prop} {u0 u1 u2 u3 : AV} : R d 4 20 [u0, u1, u2, u3] [] (WS L σ) Q = Q none (WS L σ) := R_return fi_4_20
