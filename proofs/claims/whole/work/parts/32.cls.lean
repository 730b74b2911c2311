/-! methods of the class over sets of boys -/
theorem or_tt {p : Nat → Bool} {i : Nat} (hi : i < 30) (h : p i = true) : i_or (bits p i) (i_shl 1 i) = (bits p (i + 1) : Nat) := by
  have h1 := bits_lt p i
  have h2 : 2 ^ i < 2 ^ 30 := two_pow_lt hi
  rw [i_one_shl (by omega), i_or_nat (by omega) (by omega), bits_succ, if_pos h]
theorem or_ff {p : Nat → Bool} {i : Nat} (hi : i < 30) (h : p i = false) : i_or (bits p i) 0 = (bits p (i + 1) : Nat) := by
  have h1 := bits_lt p i
  have h2 : 2 ^ i < 2 ^ 30 := two_pow_lt hi
  rw [show (0 : Int) = ((0 : Nat) : Int) from rfl, i_or_nat (by omega) (by omega), bits_succ, h]
  rfl
theorem tb_1 {p : Nat → Bool} {n b : Nat} : ∀ {c : Bool}, ((if c = true then (1 : Int) else 0) = 1) = (c = true) := by intro c; cases c <;> simp
theorem pw8 {n : Nat} (h : n ≤ 8) : 2 ^ n ≤ 256 := Nat.pow_le_pow_right (by decide) h
theorem pw1 (n : Nat) : 1 ≤ 2 ^ n := Nat.one_le_two_pow
/-- less -1, alike 0, more 1 -/
def sgn (t z : Int) : Int := if z ≤ t then if t ≤ z then 0 else 1 else -1
def sumN (f : Nat → Int) : Nat → Int
  | 0 => 0
  | n + 1 => sumN f n + f n
theorem sumN_congr {f g : Nat → Int} : ∀ {n : Nat}, (∀ i, i < n → f i = g i) → sumN f n = sumN g n
  | 0, _ => rfl
  | n + 1, h => by rw [sumN, sumN, sumN_congr (fun i hi => h i (by omega)), h n (by omega)]
theorem sumN_le {f : Nat → Int} {a b : Int} : ∀ {n : Nat}, (∀ i, i < n → a ≤ f i ∧ f i ≤ b) → a * n ≤ sumN f n ∧ sumN f n ≤ b * n
  | 0, _ => by simp [sumN]
  | n + 1, h => by
    have h1 := sumN_le (n := n) (fun i hi => h i (by omega))
    have h2 := h n (by omega)
    rw [sumN]
    have e1 : a * ((n + 1 : Nat) : Int) = a * n + a := by rw [Int.natCast_succ, Int.mul_add, Int.mul_one]
    have e2 : b * ((n + 1 : Nat) : Int) = b * n + b := by rw [Int.natCast_succ, Int.mul_add, Int.mul_one]
    omega
section CL
variable {d L : Nat} {σ : St} {Q : Option AV → AW → Prop}
theorem r34 {n : Nat} (hn : σ 20 0 = (n : Int)) (h8 : n ≤ 8) : R d 34 0 [vR 20] [] (WS L σ) Q = Q (some (vI ((2 ^ n - 1 : Nat) : Int))) (WS L σ) := by
  have e : i_shl 1 (σ 20 0) = ((2 ^ n : Nat) : Int) := by rw [hn]; exact i_one_shl (by omega)
  have h1 := pw8 h8
  have h2 := pw1 n
  rw [b34_0 (by rw [e]; omega), e, Int.ofNat_sub h2]
  rfl
def tr (σ : St) (k b : Nat) : Int := σ 27 ((b : Int) * 4 + k)
theorem r35_l {n k : Nat} {sg z : Int} (hn : σ 20 0 = (n : Int)) (h8 : n ≤ 8) (hk : k < 4) : ∀ m i u6 u7, i + m = n → R (d + 1) 35 6 [vR 20, vI k, vI sg, vI z, vI (bits (fun b => decide (sgn (tr σ k b) z = sg)) i), vI i, u6, u7] [] (WS L σ) Q = Q (some (vI (bits (fun b => decide (sgn (tr σ k b) z = sg)) n))) (WS L σ) := by
  intro m
  induction m with
  | zero =>
    intro i u6 u7 hi
    obtain rfl : i = n := by omega
    simp (disch := first | omega | exact rf0 | exact rf1 | exact rf_tI) only [b35_6, b35_72, le_t, le_f, lt_t, lt_f, eq_t, eq_f, and_true, true_and, and_false, false_and, not_true_eq_false, not_false_eq_true, if_true, if_false, ↓reduceIte]
  | succ m ih =>
    intro i u6 u7 hi
    have e := ih (i + 1) (vI (tr σ k i))
    simp (disch := first | omega | exact rf0 | exact rf1 | exact rf_tI) only [b35_6, b35_15, b35_22, b35_30, b35_34, b35_40, b35_44, r36, am_push_s, am_push_n, rf0, rf1, rf_tI, tI_0, le_t, le_f, lt_t, lt_f, eq_t, eq_f, and_true, true_and, and_false, false_and, not_true_eq_false, not_false_eq_true, if_true, if_false, ↓reduceIte, R_ite]
    rw [b35_45]
    by_cases hp : sgn (tr σ k i) z = sg
    · have hp' : (if z ≤ σ 27 ((i : Int) * 4 + k) then if σ 27 ((i : Int) * 4 + k) ≤ z then (0 : Int) else 1 else -1) = sg := hp
      rw [hp', if_neg (by simp), b35_55, b35_63 (by omega), or_tt (by omega) (decide_eq_true hp)]
      exact e _ (by omega)
    · have hp' : ¬ (if z ≤ σ 27 ((i : Int) * 4 + k) then if σ 27 ((i : Int) * 4 + k) ≤ z then (0 : Int) else 1 else -1) = sg := hp
      rw [if_pos hp', b35_62, b35_63 (by omega), or_ff (by omega) (decide_eq_false hp)]
      exact e _ (by omega)
theorem r35 {n k : Nat} {sg z : Int} (hn : σ 20 0 = (n : Int)) (h8 : n ≤ 8) (hk : k < 4) : R (d + 1) 35 0 [vR 20, vI k, vI sg, vI z, vX 9, vX 9, vX 9, vX 9] [] (WS L σ) Q = Q (some (vI (bits (fun b => decide (sgn (tr σ k b) z = sg)) n))) (WS L σ) := by
  rw [b35_0]
  exact r35_l hn h8 hk n 0 _ _ (by omega)
theorem sgn_0 {t z : Int} : (sgn t z = 0) = (t = z) := by
  unfold sgn
  apply propext
  repeat' split
  all_goals omega
theorem r81 {n : Nat} {c : Int} (hn : σ 20 0 = (n : Int)) (h8 : n ≤ 8) : R (d + 2) 81 0 [vR 20, vI c] [] (WS L σ) Q = Q (some (vI (bits (fun b => decide (tr σ 2 b = c)) n))) (WS L σ) := by
  have e := r35 (d := d) (σ := σ) (L := L) (k := 2) (sg := 0) (z := c) (Q := fun r w => R (d + 2) 81 7 [vR 20, vI c] (am_push r []) w Q) hn h8 (by omega)
  rw [b81_0]
  refine e.trans ?_
  simp only [b81_0, b81_7, am_push_s, am_push_n, rf0, rf1, rf_tI, tI_0, sgn_0]
/-- what a side's boys are worth by a trait -/
def strC (σ : St) (x n : Nat) : Int := sumN (fun b => if x.testBit b then tr σ 1 b else 0) n
theorem r40_l {n x : Nat} (hn : σ 20 0 = (n : Int)) (h8 : n ≤ 8) (hx : x < 256) (ht : ∀ b, b < n → 0 ≤ tr σ 1 b ∧ tr σ 1 b ≤ 20) : ∀ m i, i + m = n → R (d + 1) 40 4 [vR 20, vI x, vI (strC σ x i), vI i] [] (WS L σ) Q = Q (some (vI (strC σ x n))) (WS L σ) := by
  intro m
  induction m with
  | zero =>
    intro i hi
    obtain rfl : i = n := by omega
    simp (disch := first | omega | exact rf0 | exact rf1 | exact rf_tI) only [b40_4, b40_36, le_t, le_f, lt_t, lt_f, eq_t, eq_f, and_true, true_and, and_false, false_and, not_true_eq_false, not_false_eq_true, if_true, if_false, ↓reduceIte]
  | succ m ih =>
    intro i hi
    have e := ih (i + 1)
    have hb : i_and (i_shr x i) 1 = if x.testBit i then 1 else 0 := i_bit (by omega) (by omega)
    have hs : 0 ≤ strC σ x i ∧ strC σ x i ≤ 160 := by
      have := sumN_le (f := fun b => if x.testBit b then tr σ 1 b else 0) (a := 0) (b := 20) (n := i) (fun j hj => by
        have := ht j (by omega)
        split <;> omega)
      unfold strC
      omega
    have h1 := ht i (by omega)
    have es : strC σ x (i + 1) = strC σ x i + (if x.testBit i then tr σ 1 i else 0) := rfl
    rw [es] at e
    simp (disch := first | omega | exact rf0 | exact rf1 | exact rf_tI) only [b40_4, b40_12, le_t, le_f, lt_t, lt_f, eq_t, eq_f, and_true, true_and, and_false, false_and, not_true_eq_false, not_false_eq_true, if_true, if_false, ↓reduceIte, hb]
    by_cases hp : x.testBit i = true
    · rw [hp, if_neg (by simp), b40_21]
      rw [if_pos hp] at e
      have r := r36 (d := d) (σ := σ) (L := L) (b := i) (k := 1) (Q := fun r w => R (d + 1) 40 28 [vR 20, vI x, vI (strC σ x i), vI i] (am_push r [vI (strC σ x i)]) w Q) (by omega) (by omega)
      refine r.trans ?_
      unfold tr at e h1
      rw [am_push_s, b40_28 (by omega), b40_30 (by omega)]
      exact e (by omega)
    · rw [if_neg hp] at e
      rw [if_neg hp, if_pos (by simp), b40_30 (by omega)]
      rw [Int.add_zero] at e
      exact e (by omega)
theorem r40 {n x : Nat} (hn : σ 20 0 = (n : Int)) (h8 : n ≤ 8) (hx : x < 256) (ht : ∀ b, b < n → 0 ≤ tr σ 1 b ∧ tr σ 1 b ≤ 20) : R (d + 1) 40 0 [vR 20, vI x, vX 9, vX 9] [] (WS L σ) Q = Q (some (vI (strC σ x n))) (WS L σ) := by
  rw [b40_0]
  exact r40_l hn h8 hx ht n 0 (by omega)
/-- how many below n -/
def cnt (p : Nat → Bool) : Nat → Nat
  | 0 => 0
  | n + 1 => cnt p n + if p n then 1 else 0
theorem cnt_le (p : Nat → Bool) : ∀ n, cnt p n ≤ n
  | 0 => Nat.le_refl _
  | n + 1 => by
    have := cnt_le p n
    rw [cnt]
    split <;> omega
theorem cnt_congr {p q : Nat → Bool} : ∀ {n : Nat}, (∀ i, i < n → p i = q i) → cnt p n = cnt q n
  | 0, _ => rfl
  | n + 1, h => by rw [cnt, cnt, cnt_congr (fun i hi => h i (by omega)), h n (by omega)]
theorem r42 {x : Nat} (hx : x < 256) : R d 42 0 [vI x] [] (WS L σ) Q = Q (some (vI (cnt (fun b => x.testBit b) 8))) (WS L σ) := by
  have h : ∀ x : Nat, x < 256 → (-2147483648 ≤ x - (i_and (i_ushr x 1) 1431655765) ∧ x - (i_and (i_ushr x 1) 1431655765) ≤ 2147483647) ∧ (-2147483648 ≤ (i_and (x - (i_and (i_ushr x 1) 1431655765)) 858993459) + (i_and (i_ushr (x - (i_and (i_ushr x 1) 1431655765)) 2) 858993459) ∧ (i_and (x - (i_and (i_ushr x 1) 1431655765)) 858993459) + (i_and (i_ushr (x - (i_and (i_ushr x 1) 1431655765)) 2) 858993459) ≤ 2147483647) ∧ (-2147483648 ≤ ((i_and (x - (i_and (i_ushr x 1) 1431655765)) 858993459) + (i_and (i_ushr (x - (i_and (i_ushr x 1) 1431655765)) 2) 858993459)) + (i_ushr ((i_and (x - (i_and (i_ushr x 1) 1431655765)) 858993459) + (i_and (i_ushr (x - (i_and (i_ushr x 1) 1431655765)) 2) 858993459)) 4) ∧ ((i_and (x - (i_and (i_ushr x 1) 1431655765)) 858993459) + (i_and (i_ushr (x - (i_and (i_ushr x 1) 1431655765)) 2) 858993459)) + (i_ushr ((i_and (x - (i_and (i_ushr x 1) 1431655765)) 858993459) + (i_and (i_ushr (x - (i_and (i_ushr x 1) 1431655765)) 2) 858993459)) 4) ≤ 2147483647) ∧ (-2147483648 ≤ (i_and (((i_and (x - (i_and (i_ushr x 1) 1431655765)) 858993459) + (i_and (i_ushr (x - (i_and (i_ushr x 1) 1431655765)) 2) 858993459)) + (i_ushr ((i_and (x - (i_and (i_ushr x 1) 1431655765)) 858993459) + (i_and (i_ushr (x - (i_and (i_ushr x 1) 1431655765)) 2) 858993459)) 4)) 252645135) + (i_ushr (i_and (((i_and (x - (i_and (i_ushr x 1) 1431655765)) 858993459) + (i_and (i_ushr (x - (i_and (i_ushr x 1) 1431655765)) 2) 858993459)) + (i_ushr ((i_and (x - (i_and (i_ushr x 1) 1431655765)) 858993459) + (i_and (i_ushr (x - (i_and (i_ushr x 1) 1431655765)) 2) 858993459)) 4)) 252645135) 8) ∧ (i_and (((i_and (x - (i_and (i_ushr x 1) 1431655765)) 858993459) + (i_and (i_ushr (x - (i_and (i_ushr x 1) 1431655765)) 2) 858993459)) + (i_ushr ((i_and (x - (i_and (i_ushr x 1) 1431655765)) 858993459) + (i_and (i_ushr (x - (i_and (i_ushr x 1) 1431655765)) 2) 858993459)) 4)) 252645135) + (i_ushr (i_and (((i_and (x - (i_and (i_ushr x 1) 1431655765)) 858993459) + (i_and (i_ushr (x - (i_and (i_ushr x 1) 1431655765)) 2) 858993459)) + (i_ushr ((i_and (x - (i_and (i_ushr x 1) 1431655765)) 858993459) + (i_and (i_ushr (x - (i_and (i_ushr x 1) 1431655765)) 2) 858993459)) 4)) 252645135) 8) ≤ 2147483647) ∧ (-2147483648 ≤ ((i_and (((i_and (x - (i_and (i_ushr x 1) 1431655765)) 858993459) + (i_and (i_ushr (x - (i_and (i_ushr x 1) 1431655765)) 2) 858993459)) + (i_ushr ((i_and (x - (i_and (i_ushr x 1) 1431655765)) 858993459) + (i_and (i_ushr (x - (i_and (i_ushr x 1) 1431655765)) 2) 858993459)) 4)) 252645135) + (i_ushr (i_and (((i_and (x - (i_and (i_ushr x 1) 1431655765)) 858993459) + (i_and (i_ushr (x - (i_and (i_ushr x 1) 1431655765)) 2) 858993459)) + (i_ushr ((i_and (x - (i_and (i_ushr x 1) 1431655765)) 858993459) + (i_and (i_ushr (x - (i_and (i_ushr x 1) 1431655765)) 2) 858993459)) 4)) 252645135) 8)) + (i_ushr ((i_and (((i_and (x - (i_and (i_ushr x 1) 1431655765)) 858993459) + (i_and (i_ushr (x - (i_and (i_ushr x 1) 1431655765)) 2) 858993459)) + (i_ushr ((i_and (x - (i_and (i_ushr x 1) 1431655765)) 858993459) + (i_and (i_ushr (x - (i_and (i_ushr x 1) 1431655765)) 2) 858993459)) 4)) 252645135) + (i_ushr (i_and (((i_and (x - (i_and (i_ushr x 1) 1431655765)) 858993459) + (i_and (i_ushr (x - (i_and (i_ushr x 1) 1431655765)) 2) 858993459)) + (i_ushr ((i_and (x - (i_and (i_ushr x 1) 1431655765)) 858993459) + (i_and (i_ushr (x - (i_and (i_ushr x 1) 1431655765)) 2) 858993459)) 4)) 252645135) 8)) 16) ∧ ((i_and (((i_and (x - (i_and (i_ushr x 1) 1431655765)) 858993459) + (i_and (i_ushr (x - (i_and (i_ushr x 1) 1431655765)) 2) 858993459)) + (i_ushr ((i_and (x - (i_and (i_ushr x 1) 1431655765)) 858993459) + (i_and (i_ushr (x - (i_and (i_ushr x 1) 1431655765)) 2) 858993459)) 4)) 252645135) + (i_ushr (i_and (((i_and (x - (i_and (i_ushr x 1) 1431655765)) 858993459) + (i_and (i_ushr (x - (i_and (i_ushr x 1) 1431655765)) 2) 858993459)) + (i_ushr ((i_and (x - (i_and (i_ushr x 1) 1431655765)) 858993459) + (i_and (i_ushr (x - (i_and (i_ushr x 1) 1431655765)) 2) 858993459)) 4)) 252645135) 8)) + (i_ushr ((i_and (((i_and (x - (i_and (i_ushr x 1) 1431655765)) 858993459) + (i_and (i_ushr (x - (i_and (i_ushr x 1) 1431655765)) 2) 858993459)) + (i_ushr ((i_and (x - (i_and (i_ushr x 1) 1431655765)) 858993459) + (i_and (i_ushr (x - (i_and (i_ushr x 1) 1431655765)) 2) 858993459)) 4)) 252645135) + (i_ushr (i_and (((i_and (x - (i_and (i_ushr x 1) 1431655765)) 858993459) + (i_and (i_ushr (x - (i_and (i_ushr x 1) 1431655765)) 2) 858993459)) + (i_ushr ((i_and (x - (i_and (i_ushr x 1) 1431655765)) 858993459) + (i_and (i_ushr (x - (i_and (i_ushr x 1) 1431655765)) 2) 858993459)) 4)) 252645135) 8)) 16) ≤ 2147483647) ∧ (i_and (((i_and (((i_and (x - (i_and (i_ushr x 1) 1431655765)) 858993459) + (i_and (i_ushr (x - (i_and (i_ushr x 1) 1431655765)) 2) 858993459)) + (i_ushr ((i_and (x - (i_and (i_ushr x 1) 1431655765)) 858993459) + (i_and (i_ushr (x - (i_and (i_ushr x 1) 1431655765)) 2) 858993459)) 4)) 252645135) + (i_ushr (i_and (((i_and (x - (i_and (i_ushr x 1) 1431655765)) 858993459) + (i_and (i_ushr (x - (i_and (i_ushr x 1) 1431655765)) 2) 858993459)) + (i_ushr ((i_and (x - (i_and (i_ushr x 1) 1431655765)) 858993459) + (i_and (i_ushr (x - (i_and (i_ushr x 1) 1431655765)) 2) 858993459)) 4)) 252645135) 8)) + (i_ushr ((i_and (((i_and (x - (i_and (i_ushr x 1) 1431655765)) 858993459) + (i_and (i_ushr (x - (i_and (i_ushr x 1) 1431655765)) 2) 858993459)) + (i_ushr ((i_and (x - (i_and (i_ushr x 1) 1431655765)) 858993459) + (i_and (i_ushr (x - (i_and (i_ushr x 1) 1431655765)) 2) 858993459)) 4)) 252645135) + (i_ushr (i_and (((i_and (x - (i_and (i_ushr x 1) 1431655765)) 858993459) + (i_and (i_ushr (x - (i_and (i_ushr x 1) 1431655765)) 2) 858993459)) + (i_ushr ((i_and (x - (i_and (i_ushr x 1) 1431655765)) 858993459) + (i_and (i_ushr (x - (i_and (i_ushr x 1) 1431655765)) 2) 858993459)) 4)) 252645135) 8)) 16)) 63) = (cnt (fun b => x.testBit b) 8 : Int) := by decide +kernel
  have h2 := h x hx
  rw [b42_0 h2.1 h2.2.1 h2.2.2.1 h2.2.2.2.1 h2.2.2.2.2.1, h2.2.2.2.2.2]
theorem all_t {n i : Nat} : (2 ^ n - 1).testBit i = decide (i < n) := Nat.testBit_two_pow_sub_one n i
/-- whom nobody has, by the three sides -/
def leftC (sd : Nat → Nat) (n : Nat) : Nat := bits (fun b => !(sd 0).testBit b && !(sd 1).testBit b && !(sd 2).testBit b) n
theorem r77 {n : Nat} {sd : Nat → Nat} (hn : σ 20 0 = (n : Int)) (h8 : n ≤ 8) (hs : ∀ c : Nat, c < 3 → σ 30 c = (sd c : Int)) (hb : ∀ c, c < 3 → sd c < 256) : R (d + 2) 77 0 [vR 20] [] (WS L σ) Q = Q (some (vI (leftC sd n))) (WS L σ) := by
  have h0 := hs 0 (by omega)
  have h1 := hs 1 (by omega)
  have h2 := hs 2 (by omega)
  have b0 := hb 0 (by omega)
  have b1 := hb 1 (by omega)
  have b2 := hb 2 (by omega)
  have p8 := pw8 h8
  rw [b77_0, r34 hn h8]
  simp only [am_push_s]
  rw [b77_4, show vI 0 = vI ((0 : Nat) : Int) from rfl, r72 (by omega)]
  simp only [am_push_s]
  rw [b77_9, show vI 1 = vI ((1 : Nat) : Int) from rfl, r72 (by omega)]
  simp only [am_push_s]
  rw [b77_14, show vI 2 = vI ((2 : Nat) : Int) from rfl, r72 (by omega)]
  simp only [am_push_s]
  rw [b77_20, h0, h1, h2, i_or_nat (by omega) (by omega)]
  have l1 : sd 0 ||| sd 1 < 2 ^ 8 := or_lt (by omega) (by omega)
  rw [i_or_nat (by omega) (by omega)]
  have l2 : sd 0 ||| sd 1 ||| sd 2 < 2 ^ 8 := or_lt l1 (by omega)
  rw [i_andn_nat (by omega) (by omega)]
  have e : (2 ^ n - 1) ^^^ ((2 ^ n - 1) &&& (sd 0 ||| sd 1 ||| sd 2)) = leftC sd n := by
    apply tb_ext
    intro i
    unfold leftC
    rw [bits_test, Nat.testBit_xor, Nat.testBit_and, Nat.testBit_or, Nat.testBit_or, all_t]
    by_cases hi : i < n <;> simp [hi]
  rw [e]
/-- the first below n of those who are it whose number is most; -1: none -/
def amx (ok : Nat → Bool) (v : Nat → Int) : Nat → Int
  | 0 => -1
  | k + 1 => if ok k = true ∧ (amx ok v k < 0 ∨ v (amx ok v k).toNat < v k) then (k : Int) else amx ok v k
theorem amx_r (ok : Nat → Bool) (v : Nat → Int) : ∀ n, -1 ≤ amx ok v n ∧ amx ok v n < n ∧ (0 ≤ amx ok v n → ok (amx ok v n).toNat = true)
  | 0 => ⟨Int.le_refl _, by rw [amx]; omega, fun h => absurd h (by rw [amx]; omega)⟩
  | n + 1 => by
    have h := amx_r ok v n
    rw [amx]
    split
    · rename_i h2
      exact ⟨by omega, by omega, fun _ => by simpa using h2.1⟩
    · exact ⟨h.1, by omega, h.2.2⟩
theorem amx_none {ok : Nat → Bool} {v : Nat → Int} : ∀ {n}, (amx ok v n < 0) = (∀ i, i < n → ok i = false)
  | 0 => by simp [amx]
  | n + 1 => by
    have ih := amx_none (ok := ok) (v := v) (n := n)
    rw [amx]
    apply propext
    constructor
    · intro h i hi
      split at h
      · omega
      · rename_i h2
        have h3 : amx ok v n < 0 := h
        rw [ih] at h3
        by_cases hin : i < n
        · exact h3 i hin
        · obtain rfl : i = n := by omega
          cases hk : ok i with
          | false => rfl
          | true => exact absurd ⟨hk, Or.inl h⟩ h2
    · intro h
      have h3 : amx ok v n < 0 := ih.mpr (fun i hi => h i (by omega))
      rw [if_neg (by rw [h n (by omega)]; simp)]
      exact h3
theorem amx_congr {ok ok' : Nat → Bool} {v v' : Nat → Int} : ∀ {n : Nat}, (∀ i, i < n → ok i = ok' i) → (∀ i, i < n → ok i = true → v i = v' i) → amx ok v n = amx ok' v' n
  | 0, _, _ => rfl
  | n + 1, h1, h2 => by
    have ih := amx_congr (n := n) (fun i hi => h1 i (by omega)) (fun i hi => h2 i (by omega))
    have hr := amx_r ok v n
    rw [amx, amx, ← ih, ← h1 n (by omega)]
    by_cases hk : ok n = true
    · by_cases h0 : amx ok v n < 0
      · rw [if_pos ⟨hk, Or.inl h0⟩, if_pos ⟨hk, Or.inl h0⟩]
      · have e1 := h2 (amx ok v n).toNat (by omega) (hr.2.2 (by omega))
        have e2 := h2 n (by omega) hk
        rw [e1, e2]
    · rw [if_neg (fun x => hk x.1), if_neg (fun x => hk x.1)]
/-- beyond those who are it nothing is found -/
theorem amx_ext {ok : Nat → Bool} {v : Nat → Int} {n : Nat} : ∀ {m : Nat}, (∀ i, n ≤ i → ok i = false) → amx ok v (n + m) = amx ok v n
  | 0, _ => rfl
  | m + 1, h => by
    rw [← Nat.add_assoc, amx, if_neg (by rw [h (n + m) (by omega)]; simp)]
    exact amx_ext h
theorem amx_8 {ok : Nat → Bool} {v : Nat → Int} {n : Nat} (h8 : n ≤ 8) (h : ∀ i, n ≤ i → ok i = false) : amx ok v 8 = amx ok v n := by
  have := amx_ext (v := v) (m := 8 - n) h
  rwa [show n + (8 - n) = 8 by omega] at this
/-- as the class keeps them: -5 for nobody, -1000000 for the least -/
def bz (a : Int) : Int := if a < 0 then -5 else a
def mz (v : Nat → Int) (a : Int) : Int := if a < 0 then -1000000 else v a.toNat
theorem mz_step {ok : Nat → Bool} {v : Nat → Int} {i : Nat} (hv : ok i = true → -1000000 < v i) : (ok i = true ∧ mz v (amx ok v i) < v i → amx ok v (i + 1) = i) ∧ (¬ (ok i = true ∧ mz v (amx ok v i) < v i) → amx ok v (i + 1) = amx ok v i) := by
  rw [amx]
  unfold mz
  constructor
  · intro h
    rw [if_pos]
    refine ⟨h.1, ?_⟩
    have h2 := h.2
    split at h2
    · exact Or.inl ‹_›
    · exact Or.inr h2
  · intro h
    rw [if_neg]
    intro h2
    apply h
    refine ⟨h2.1, ?_⟩
    split
    · exact hv h2.1
    · rcases h2.2 with q | q
      · exact absurd q ‹_›
      · exact q
def vD (σ : St) (c x b : Nat) : Int := σ 31 ((c : Int) * 256 + (x ||| 2 ^ b : Nat))
theorem or_bit {x b : Nat} (hx : x < 256) (hb : b < 8) : i_or x (i_shl 1 b) = (x ||| 2 ^ b : Nat) ∧ x ||| 2 ^ b < 256 := by
  have h2 : 2 ^ b < 2 ^ 8 := two_pow_lt hb
  have l1 : x ||| 2 ^ b < 2 ^ 8 := or_lt (by omega) (by omega)
  rw [i_one_shl (by omega), i_or_nat (by omega) (by omega)]
  exact ⟨rfl, by omega⟩
theorem r78_l {c x s : Nat} (hc : c < 3) (hx : x < 256) (hs : s < 256) (hv : ∀ b, b < 8 → x.testBit b = true → -1000000 < vD σ c s b) : ∀ m i u7, i + m = 8 → R (d + 2) 78 20 [vR 142, vI c, vI x, vI s, vI (bz (amx (fun b => x.testBit b) (vD σ c s) i)), vI (mz (vD σ c s) (amx (fun b => x.testBit b) (vD σ c s) i)), vI i, u7] [] (WS L σ) Q = Q (some (vI (bz (amx (fun b => x.testBit b) (vD σ c s) 8)))) (WS L σ) := by
  intro m
  induction m with
  | zero =>
    intro i u7 hi
    obtain rfl : i = 8 := by omega
    simp (disch := first | omega | exact rf0 | exact rf1 | exact rf_tI) only [b78_20, b78_74, le_t, le_f, lt_t, lt_f, eq_t, eq_f, and_true, true_and, and_false, false_and, not_true_eq_false, not_false_eq_true, if_true, if_false, ↓reduceIte]
  | succ m ih =>
    intro i u7 hi
    have hb : i_and (i_shr x i) 1 = if x.testBit i then 1 else 0 := i_bit (by omega) (by omega)
    obtain ⟨o1, o2⟩ := or_bit (b := i) hs (by omega)
    obtain ⟨m1, m2⟩ := mz_step (ok := fun b => x.testBit b) (v := vD σ c s) (i := i) (hv i (by omega))
    rw [b78_20, if_neg (by omega), b78_27, hb]
    by_cases hp : x.testBit i = true
    · rw [if_pos hp, if_neg (by simp), b78_37, o1, r57 hc o2]
      simp only [am_push_s]
      rw [b78_51]
      by_cases hw : mz (vD σ c s) (amx (fun b => x.testBit b) (vD σ c s) i) < vD σ c s i
      · have e := ih (i + 1) (vI (vD σ c s i)) (by omega)
        rw [m1 ⟨hp, hw⟩] at e
        rw [if_neg (by unfold vD at hw ⊢; omega), b78_60, b78_68 (by omega)]
        refine Eq.trans ?_ e
        unfold bz mz
        rw [if_neg (by omega), if_neg (by omega)]
        rfl
      · have e := ih (i + 1) (vI (vD σ c s i)) (by omega)
        rw [m2 (fun h => hw h.2)] at e
        rw [if_pos (by unfold vD at hw ⊢; omega), b78_68 (by omega)]
        exact e
    · have e := ih (i + 1) u7 (by omega)
      rw [m2 (fun h => hp h.1)] at e
      rw [if_neg hp, if_pos (by simp), b78_68 (by omega)]
      exact e
theorem r78 {c x : Nat} {sd : Nat → Nat} (hc : c < 3) (hx : x < 256) (hs : ∀ c : Nat, c < 3 → σ 30 c = (sd c : Int)) (hb : ∀ c, c < 3 → sd c < 256) (hv : ∀ b, b < 8 → x.testBit b = true → -1000000 < vD σ c (sd c) b) : R (d + 2) 78 0 [vR 142, vI c, vI x, vX 9, vX 9, vX 9, vX 9, vX 9] [] (WS L σ) Q = Q (some (vI (bz (amx (fun b => x.testBit b) (vD σ c (sd c)) 8)))) (WS L σ) := by
  rw [b78_0, r72 hc]
  simp only [am_push_s]
  rw [b78_8, hs c hc]
  exact r78_l hc hx (hb c hc) hv 8 0 _ (by omega)
end CL
