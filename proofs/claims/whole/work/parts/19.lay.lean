/-! facts of the layout (printed by wip/whole/gen_blocks.py) -/
theorem kd_1 : KD 1 = 110 := rfl
theorem kd_2 : KD 2 = 110 := rfl
theorem kd_3 : KD 3 = 120 := rfl
theorem kd_4 : KD 4 = 120 := rfl
theorem kd_5 : KD 5 = 120 := rfl
theorem kd_6 : KD 6 = 120 := rfl
theorem kd_7 : KD 7 = 120 := rfl
theorem kd_8 : KD 8 = 120 := rfl
theorem kd_9 : KD 9 = 120 := rfl
theorem kd_10 : KD 10 = 120 := rfl
theorem kd_11 : KD 11 = 112 := rfl
theorem kd_12 : KD 12 = 112 := rfl
theorem kd_13 : KD 13 = 112 := rfl
theorem kd_14 : KD 14 = 112 := rfl
theorem kd_15 : KD 15 = 112 := rfl
theorem kd_16 : KD 16 = 112 := rfl
theorem kd_17 : KD 17 = 112 := rfl
theorem kd_18 : KD 18 = 112 := rfl
theorem kd_19 : KD 19 = 9 := rfl
theorem kd_20 : KD 20 = 8 := rfl
theorem kd_21 : KD 21 = 5 := rfl
theorem kd_23 : KD 23 = 5 := rfl
theorem kd_25 : KD 25 = 5 := rfl
theorem kd_27 : KD 27 = 100 := rfl
theorem kd_28 : KD 28 = 100 := rfl
theorem kd_29 : KD 29 = 100 := rfl
theorem kd_30 : KD 30 = 100 := rfl
theorem kd_31 : KD 31 = 100 := rfl
theorem kd_32 : KD 32 = 103 := rfl
theorem kd_45 : KD 45 = 103 := rfl
theorem kd_52 : KD 52 = 103 := rfl
theorem kd_77 : KD 77 = 8 := rfl
theorem kd_78 : KD 78 = 5 := rfl
theorem kd_80 : KD 80 = 5 := rfl
theorem kd_82 : KD 82 = 5 := rfl
theorem kd_89 : KD 89 = 103 := rfl
theorem kd_102 : KD 102 = 103 := rfl
theorem kd_109 : KD 109 = 103 := rfl
theorem kd_134 : KD 134 = 4 := rfl
theorem kd_135 : KD 135 = 100 := rfl
theorem kd_136 : KD 136 = 100 := rfl
theorem kd_137 : KD 137 = 100 := rfl
theorem kd_139 : KD 139 = 1 := rfl
theorem kd_140 : KD 140 = 100 := rfl
theorem kd_141 : KD 141 = 100 := rfl
theorem kd_142 : KD 142 = 3 := rfl
theorem kd_143 : KD 143 = 5 := rfl
theorem kd_145 : KD 145 = 2 := rfl
theorem kd_146 : KD 146 = 6 := rfl
theorem kd_147 : KD 147 = 7 := rfl
theorem kd_148 : KD 148 = 100 := rfl
theorem kd_149 : KD 149 = 100 := rfl
theorem kd_150 : KD 150 = 0 := rfl
theorem kd_151 : KD 151 = 5 := rfl
theorem kd_153 : KD 153 = 10 := rfl
theorem kd_154 : KD 154 = 100 := rfl
theorem kd_155 : KD 155 = 100 := rfl
theorem kd_156 : KD 156 = 101 := rfl
theorem kd_157 : KD 157 = 100 := rfl
theorem kd_158 : KD 158 = 100 := rfl
theorem kd_159 : KD 159 = 100 := rfl
theorem kd_160 : KD 160 = 100 := rfl
theorem kd_161 : KD 161 = 100 := rfl
theorem kd_162 : KD 162 = 100 := rfl
theorem kd_163 : KD 163 = 100 := rfl
theorem kd_164 : KD 164 = 100 := rfl
theorem mk_3_0 {σ : St} : mk σ 3 0 = vR 11 := rfl
theorem mk_3_1 {σ : St} : mk σ 3 1 = vI 0 := rfl
theorem mk_4_0 {σ : St} : mk σ 4 0 = vR 12 := rfl
theorem mk_4_1 {σ : St} : mk σ 4 1 = vI 0 := rfl
theorem mk_5_0 {σ : St} : mk σ 5 0 = vR 13 := rfl
theorem mk_5_1 {σ : St} : mk σ 5 1 = vI 0 := rfl
theorem mk_6_0 {σ : St} : mk σ 6 0 = vR 14 := rfl
theorem mk_6_1 {σ : St} : mk σ 6 1 = vI 0 := rfl
theorem mk_7_0 {σ : St} : mk σ 7 0 = vR 15 := rfl
theorem mk_7_1 {σ : St} : mk σ 7 1 = vI 0 := rfl
theorem mk_8_0 {σ : St} : mk σ 8 0 = vR 16 := rfl
theorem mk_8_1 {σ : St} : mk σ 8 1 = vI 0 := rfl
theorem mk_9_0 {σ : St} : mk σ 9 0 = vR 17 := rfl
theorem mk_9_1 {σ : St} : mk σ 9 1 = vI 0 := rfl
theorem mk_10_0 {σ : St} : mk σ 10 0 = vR 18 := rfl
theorem mk_10_1 {σ : St} : mk σ 10 1 = vI 0 := rfl
theorem mk_19_0 {σ : St} : mk σ 19 0 = vR 20 := rfl
theorem mk_19_1 {σ : St} : mk σ 19 1 = vR 77 := rfl
theorem mk_19_2 {σ : St} : mk σ 19 2 = vR 134 := rfl
theorem mk_19_3 {σ : St} : mk σ 19 3 = vR 139 := rfl
theorem mk_19_4 {σ : St} : mk σ 19 4 = vR 142 := rfl
theorem mk_19_5 {σ : St} : mk σ 19 5 = vR 145 := rfl
theorem mk_19_6 {σ : St} : mk σ 19 6 = vR 146 := rfl
theorem mk_19_7 {σ : St} : mk σ 19 7 = vR 147 := rfl
theorem mk_19_8 {σ : St} : mk σ 19 8 = vR 150 := rfl
theorem mk_19_9 {σ : St} : mk σ 19 9 = vI (σ 19 9) := rfl
theorem mk_20_0 {σ : St} : mk σ 20 0 = vI (σ 20 0) := rfl
theorem mk_20_1 {σ : St} : mk σ 20 1 = vI (σ 20 1) := rfl
theorem mk_20_2 {σ : St} : mk σ 20 2 = vI (σ 20 2) := rfl
theorem mk_20_3 {σ : St} : mk σ 20 3 = vI (σ 20 3) := rfl
theorem mk_20_4 {σ : St} : mk σ 20 4 = vI (σ 20 4) := rfl
theorem mk_20_5 {σ : St} : mk σ 20 5 = vI (σ 20 5) := rfl
theorem mk_20_6 {σ : St} : mk σ 20 6 = vR 21 := rfl
theorem mk_20_7 {σ : St} : mk σ 20 7 = vR 23 := rfl
theorem mk_20_8 {σ : St} : mk σ 20 8 = vR 25 := rfl
theorem mk_20_9 {σ : St} : mk σ 20 9 = vR 27 := rfl
theorem mk_20_10 {σ : St} : mk σ 20 10 = vR 28 := rfl
theorem mk_20_11 {σ : St} : mk σ 20 11 = vR 29 := rfl
theorem mk_20_12 {σ : St} : mk σ 20 12 = vR 30 := rfl
theorem mk_20_13 {σ : St} : mk σ 20 13 = vR 31 := rfl
theorem mk_20_14 {σ : St} : mk σ 20 14 = vR 32 := rfl
theorem mk_20_15 {σ : St} : mk σ 20 15 = vR 45 := rfl
theorem mk_20_16 {σ : St} : mk σ 20 16 = vR 52 := rfl
theorem mk_21_1 {σ : St} : mk σ 21 1 = vI (σ 21 1) := rfl
theorem mk_77_0 {σ : St} : mk σ 77 0 = vI (σ 77 0) := rfl
theorem mk_77_1 {σ : St} : mk σ 77 1 = vI (σ 77 1) := rfl
theorem mk_77_2 {σ : St} : mk σ 77 2 = vI (σ 77 2) := rfl
theorem mk_77_3 {σ : St} : mk σ 77 3 = vI (σ 77 3) := rfl
theorem mk_77_4 {σ : St} : mk σ 77 4 = vI (σ 77 4) := rfl
theorem mk_77_5 {σ : St} : mk σ 77 5 = vI (σ 77 5) := rfl
theorem mk_77_6 {σ : St} : mk σ 77 6 = vR 78 := rfl
theorem mk_77_7 {σ : St} : mk σ 77 7 = vR 80 := rfl
theorem mk_77_8 {σ : St} : mk σ 77 8 = vR 82 := rfl
theorem mk_77_9 {σ : St} : mk σ 77 9 = vR 84 := rfl
theorem mk_77_10 {σ : St} : mk σ 77 10 = vR 85 := rfl
theorem mk_77_11 {σ : St} : mk σ 77 11 = vR 86 := rfl
theorem mk_77_12 {σ : St} : mk σ 77 12 = vR 87 := rfl
theorem mk_77_13 {σ : St} : mk σ 77 13 = vR 88 := rfl
theorem mk_77_14 {σ : St} : mk σ 77 14 = vR 89 := rfl
theorem mk_77_15 {σ : St} : mk σ 77 15 = vR 102 := rfl
theorem mk_77_16 {σ : St} : mk σ 77 16 = vR 109 := rfl
theorem mk_134_0 {σ : St} : mk σ 134 0 = vR 20 := rfl
theorem mk_134_1 {σ : St} : mk σ 134 1 = vR 135 := rfl
theorem mk_134_2 {σ : St} : mk σ 134 2 = vR 136 := rfl
theorem mk_134_3 {σ : St} : mk σ 134 3 = vR 137 := rfl
theorem mk_134_4 {σ : St} : mk σ 134 4 = vI (σ 134 4) := rfl
theorem mk_134_5 {σ : St} : mk σ 134 5 = vR (σ 134 5).toNat := rfl
theorem mk_134_6 {σ : St} : mk σ 134 6 = vI (σ 134 6) := rfl
theorem mk_134_7 {σ : St} : mk σ 134 7 = vI (σ 134 7) := rfl
theorem mk_134_8 {σ : St} : mk σ 134 8 = vI (σ 134 8) := rfl
theorem mk_134_9 {σ : St} : mk σ 134 9 = vI (σ 134 9) := rfl
theorem mk_139_0 {σ : St} : mk σ 139 0 = vR 20 := rfl
theorem mk_139_1 {σ : St} : mk σ 139 1 = vR 140 := rfl
theorem mk_139_2 {σ : St} : mk σ 139 2 = vR 141 := rfl
theorem mk_139_3 {σ : St} : mk σ 139 3 = vI (σ 139 3) := rfl
theorem mk_139_4 {σ : St} : mk σ 139 4 = vI (σ 139 4) := rfl
theorem mk_142_0 {σ : St} : mk σ 142 0 = vR 20 := rfl
theorem mk_142_1 {σ : St} : mk σ 142 1 = vR 139 := rfl
theorem mk_142_2 {σ : St} : mk σ 142 2 = vR 143 := rfl
theorem mk_143_1 {σ : St} : mk σ 143 1 = vI (σ 143 1) := rfl
theorem mk_145_0 {σ : St} : mk σ 145 0 = vR 20 := rfl
theorem mk_145_1 {σ : St} : mk σ 145 1 = vR 139 := rfl
theorem mk_145_2 {σ : St} : mk σ 145 2 = vI (σ 145 2) := rfl
theorem mk_145_3 {σ : St} : mk σ 145 3 = vI (σ 145 3) := rfl
theorem mk_145_4 {σ : St} : mk σ 145 4 = vI (σ 145 4) := rfl
theorem mk_146_0 {σ : St} : mk σ 146 0 = vR 20 := rfl
theorem mk_146_1 {σ : St} : mk σ 146 1 = vI (σ 146 1) := rfl
theorem mk_146_2 {σ : St} : mk σ 146 2 = vI (σ 146 2) := rfl
theorem mk_146_3 {σ : St} : mk σ 146 3 = vI (σ 146 3) := rfl
theorem mk_146_4 {σ : St} : mk σ 146 4 = vI (σ 146 4) := rfl
theorem mk_146_5 {σ : St} : mk σ 146 5 = vI (σ 146 5) := rfl
theorem mk_147_0 {σ : St} : mk σ 147 0 = vR 20 := rfl
theorem mk_147_1 {σ : St} : mk σ 147 1 = vR 148 := rfl
theorem mk_147_2 {σ : St} : mk σ 147 2 = vR 149 := rfl
theorem mk_150_0 {σ : St} : mk σ 150 0 = vR 151 := rfl
theorem mk_150_1 {σ : St} : mk σ 150 1 = vI (σ 150 1) := rfl
theorem mk_150_2 {σ : St} : mk σ 150 2 = vI (σ 150 2) := rfl
theorem mk_150_3 {σ : St} : mk σ 150 3 = vI (σ 150 3) := rfl
theorem mk_150_4 {σ : St} : mk σ 150 4 = vI (σ 150 4) := rfl
theorem mk_151_1 {σ : St} : mk σ 151 1 = vI (σ 151 1) := rfl
theorem mk_153_1 {σ : St} : mk σ 153 1 = vR 154 := rfl
theorem mk_153_2 {σ : St} : mk σ 153 2 = vR 155 := rfl
theorem mk_153_3 {σ : St} : mk σ 153 3 = vI (σ 153 3) := rfl
theorem mk_153_4 {σ : St} : mk σ 153 4 = vI (σ 153 4) := rfl
theorem mk_153_5 {σ : St} : mk σ 153 5 = vI (σ 153 5) := rfl
theorem mk_153_6 {σ : St} : mk σ 153 6 = vI (σ 153 6) := rfl
theorem mk_153_7 {σ : St} : mk σ 153 7 = vI (σ 153 7) := rfl
theorem mk_153_8 {σ : St} : mk σ 153 8 = vI (σ 153 8) := rfl
theorem mk_153_9 {σ : St} : mk σ 153 9 = vR 156 := rfl
theorem mk_153_10 {σ : St} : mk σ 153 10 = vR 157 := rfl
theorem mk_153_11 {σ : St} : mk σ 153 11 = vR 158 := rfl
theorem mk_153_12 {σ : St} : mk σ 153 12 = vR 159 := rfl
theorem mk_153_13 {σ : St} : mk σ 153 13 = vR 160 := rfl
theorem mk_153_14 {σ : St} : mk σ 153 14 = vI (σ 153 14) := rfl
theorem mk_153_15 {σ : St} : mk σ 153 15 = vI (σ 153 15) := rfl
theorem mk_153_16 {σ : St} : mk σ 153 16 = vI (σ 153 16) := rfl
theorem mk_153_17 {σ : St} : mk σ 153 17 = vI (σ 153 17) := rfl
theorem mk_153_18 {σ : St} : mk σ 153 18 = vI (σ 153 18) := rfl
theorem mk_153_19 {σ : St} : mk σ 153 19 = vI (σ 153 19) := rfl
theorem mk_153_20 {σ : St} : mk σ 153 20 = vR 161 := rfl
theorem mk_153_21 {σ : St} : mk σ 153 21 = vR 162 := rfl
theorem mk_153_22 {σ : St} : mk σ 153 22 = vR 163 := rfl
theorem mk_153_23 {σ : St} : mk σ 153 23 = vI (σ 153 23) := rfl
theorem mk_153_24 {σ : St} : mk σ 153 24 = vR 164 := rfl
theorem mk_153_25 {σ : St} : mk σ 153 25 = vI (σ 153 25) := rfl
theorem mk_153_26 {σ : St} : mk σ 153 26 = vI (σ 153 26) := rfl
theorem mk_153_27 {σ : St} : mk σ 153 27 = vI (σ 153 27) := rfl
theorem mk_153_28 {σ : St} : mk σ 153 28 = vI (σ 153 28) := rfl
def am_bodies : List Int := [1, 2, 3, 11, 0, 0, 0, 21, 0, 0, 0, 41, 51, 0, 0, 0, 0, 31, 0, 61, 0]
def am_above : List Int := [-1, 0, 0, 1, 2, 0, 1]
def am_sbytes (k : Nat) : List Int := (wsC k).getD []
theorem KD_lt {r k : Nat} (h : KD r = k) (hk : k < 999) : r < 165 := by
  rcases Nat.lt_or_ge r 165 with q | q
  · exact q
  · have e : KD r = 999 := by
      unfold KD
      rw [List.getD_eq_getElem?_getD, List.getElem?_eq_none (by rw [ws_lens.1]; exact q)]
      rfl
    omega
theorem row_all : ∀ r, r < 165 → KD r = 5 → wsC r = none ∧ PC r 0 = r + 4 ∧ PC r 1 = 0 ∧ KD (r + 1) = 100 := by decide +kernel
theorem row_it {r : Nat} {σ : St} (h : KD r = 5) : mk σ r 0 = vR (r + 1) := by
  obtain ⟨h1, h2, -⟩ := row_all r (KD_lt h (by decide)) h
  unfold mk
  rw [h1]
  dsimp only
  unfold wsVal
  rw [h2]
theorem row_sz {r : Nat} {σ : St} (h : KD r = 5) : mk σ r 1 = vI (σ r 1) := by
  obtain ⟨h1, -, h2, -⟩ := row_all r (KD_lt h (by decide)) h
  unfold mk
  rw [h1]
  dsimp only
  unfold wsVal
  rw [h2]
  rfl
theorem row_ar {r : Nat} (h : KD r = 5) : KD (r + 1) = 100 := (row_all r (KD_lt h (by decide)) h).2.2.2
theorem row_c {r : Nat} (h : KD r = 5) : wsC r = none ∧ PC r 1 = 0 := ⟨(row_all r (KD_lt h (by decide)) h).1, (row_all r (KD_lt h (by decide)) h).2.2.1⟩
theorem aa_gen {k m b : Nat} {σ : St} (hc : wsC k = none) (h : ∀ i, i < m → PC k i = b + 2 * i + 3) {i : Int} (h0 : 0 ≤ i) (h1 : i < (m : Int)) : mk σ k i.toNat = vR (b + 2 * i.toNat) := by
  unfold mk
  rw [hc]
  dsimp only
  unfold wsVal
  rw [h i.toNat (by omega)]
theorem aa_32 {σ : St} {i : Int} (h0 : 0 ≤ i) (h1 : i < 6) : mk σ 32 i.toNat = vR (33 + 2 * i.toNat) := aa_gen (m := 6) rfl (by decide +kernel) h0 h1
theorem kr_32 {i : Int} (h0 : 0 ≤ i) (h1 : i < 6) : KD (33 + 2 * i.toNat) = 5 := (by decide +kernel : ∀ n, n < 6 → KD (33 + 2 * n) = 5) i.toNat (by omega)
theorem aa_89 {σ : St} {i : Int} (h0 : 0 ≤ i) (h1 : i < 6) : mk σ 89 i.toNat = vR (90 + 2 * i.toNat) := aa_gen (m := 6) rfl (by decide +kernel) h0 h1
theorem kr_89 {i : Int} (h0 : 0 ≤ i) (h1 : i < 6) : KD (90 + 2 * i.toNat) = 5 := (by decide +kernel : ∀ n, n < 6 → KD (90 + 2 * n) = 5) i.toNat (by omega)
theorem aa_45 {σ : St} {i : Int} (h0 : 0 ≤ i) (h1 : i < 3) : mk σ 45 i.toNat = vR (46 + 2 * i.toNat) := aa_gen (m := 3) rfl (by decide +kernel) h0 h1
theorem kr_45 {i : Int} (h0 : 0 ≤ i) (h1 : i < 3) : KD (46 + 2 * i.toNat) = 5 := (by decide +kernel : ∀ n, n < 3 → KD (46 + 2 * n) = 5) i.toNat (by omega)
theorem aa_102 {σ : St} {i : Int} (h0 : 0 ≤ i) (h1 : i < 3) : mk σ 102 i.toNat = vR (103 + 2 * i.toNat) := aa_gen (m := 3) rfl (by decide +kernel) h0 h1
theorem kr_102 {i : Int} (h0 : 0 ≤ i) (h1 : i < 3) : KD (103 + 2 * i.toNat) = 5 := (by decide +kernel : ∀ n, n < 3 → KD (103 + 2 * n) = 5) i.toNat (by omega)
theorem aa_52 {σ : St} {i : Int} (h0 : 0 ≤ i) (h1 : i < 12) : mk σ 52 i.toNat = vR (53 + 2 * i.toNat) := aa_gen (m := 12) rfl (by decide +kernel) h0 h1
theorem kr_52 {i : Int} (h0 : 0 ≤ i) (h1 : i < 12) : KD (53 + 2 * i.toNat) = 5 := (by decide +kernel : ∀ n, n < 12 → KD (53 + 2 * n) = 5) i.toNat (by omega)
theorem aa_109 {σ : St} {i : Int} (h0 : 0 ≤ i) (h1 : i < 12) : mk σ 109 i.toNat = vR (110 + 2 * i.toNat) := aa_gen (m := 12) rfl (by decide +kernel) h0 h1
theorem kr_109 {i : Int} (h0 : 0 ≤ i) (h1 : i < 12) : KD (110 + 2 * i.toNat) = 5 := (by decide +kernel : ∀ n, n < 12 → KD (110 + 2 * n) = 5) i.toNat (by omega)
