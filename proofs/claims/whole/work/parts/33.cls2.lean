/-! division; methods of the class over turns, sides and summers -/
theorem i_div_nat {a b : Nat} (ha : a < 2147483648) (hb : b < 2147483648) : i_div a b = ((a / b : Nat) : Int) := by
  unfold i_div
  have h : a / b ≤ a := Nat.div_le_self _ _
  rw [Int32.toInt_div, i_tI ⟨by omega, by omega⟩, i_tI ⟨by omega, by omega⟩, ← Int.ofNat_tdiv]
  generalize a / b = q at *
  exact Int.bmod_eq_of_le (by omega) (by omega)
theorem i_rem_nat {a b : Nat} (ha : a < 2147483648) (hb : b < 2147483648) : i_rem a b = ((a % b : Nat) : Int) := by
  unfold i_rem
  have h : a / b ≤ a := Nat.div_le_self _ _
  have h0 : a / b * b ≤ a := Nat.div_mul_le_self a b
  have h1 : a % b = a - a / b * b := by
    have := Nat.div_add_mod' a b
    omega
  have e1 : (Int32.ofInt (a : Int) / Int32.ofInt (b : Int)).toInt = ((a / b : Nat) : Int) := i_div_nat ha hb
  rw [Int32.toInt_sub, Int32.toInt_mul, e1, i_tI ⟨by omega, by omega⟩, i_tI ⟨by omega, by omega⟩]
  have e2 : ((a / b : Nat) : Int) * (b : Int) = ((a / b * b : Nat) : Int) := by rw [Int.natCast_mul]
  rw [e2, Int.bmod_eq_of_le (n := ((a / b * b : Nat) : Int)) (by omega) (by omega)]
  rw [Int.bmod_eq_of_le (by omega) (by omega), h1]
  omega
section CM
variable {d L : Nat} {σ : St} {Q : Option AV → AW → Prop}
theorem amx_first {ok : Nat → Bool} {i : Nat} : ∀ m, (∀ j, j < i → ok j = false) → ok i = true → amx ok (fun _ => 0) (i + 1 + m) = i
  | 0, h, hi => by
    have h0 : amx ok (fun _ => 0) i < 0 := by rw [amx_none]; exact h
    rw [Nat.add_zero, amx, if_pos ⟨hi, Or.inl h0⟩]
  | m + 1, h, hi => by
    have := amx_first m h hi
    rw [← Nat.add_assoc, amx, this, if_neg (by omega)]
theorem r92_l {x : Nat} (hx : x < 256) : ∀ m i, i + m = 8 → (∀ j, j < i → x.testBit j = false) → R d 92 2 [vI x, vI i] [] (WS L σ) Q = Q (some (vI (bz (amx (fun b => x.testBit b) (fun _ => 0) 8)))) (WS L σ) := by
  intro m
  induction m with
  | zero =>
    intro i hi h
    obtain rfl : i = 8 := by omega
    have h0 : amx (fun b => x.testBit b) (fun _ => 0) 8 < 0 := by rw [amx_none]; exact h
    rw [b92_2, if_pos (by omega), b92_25, bz, if_pos h0]
  | succ m ih =>
    intro i hi h
    have hb : i_and (i_shr x i) 1 = if x.testBit i then 1 else 0 := i_bit (by omega) (by omega)
    rw [b92_2, if_neg (by omega), b92_8, hb]
    by_cases hp : x.testBit i = true
    · have e := amx_first (ok := fun b => x.testBit b) (7 - i) h hp
      rw [show i + 1 + (7 - i) = 8 by omega] at e
      rw [if_pos hp, if_neg (by simp), b92_17, e, bz, if_neg (by omega)]
    · rw [if_neg hp, if_pos (by simp), b92_19 (by omega)]
      refine ih (i + 1) (by omega) ?_
      intro j hj
      by_cases hj2 : j < i
      · exact h j hj2
      · obtain rfl : j = i := by omega
        simpa using hp
theorem r92 {x : Nat} {u : AV} (hx : x < 256) : R d 92 0 [vI x, u] [] (WS L σ) Q = Q (some (vI (bz (amx (fun b => x.testBit b) (fun _ => 0) 8)))) (WS L σ) := by
  rw [b92_0]
  exact r92_l hx 8 0 (by omega) (by intro j hj; omega)
def holdC (sd : Nat → Nat) (b : Nat) : Int := if (sd 0).testBit b then 0 else if (sd 1).testBit b then 1 else if (sd 2).testBit b then 2 else -1
theorem r71 {b : Nat} {u : AV} {sd : Nat → Nat} (hb8 : b < 8) (hs : ∀ c : Nat, c < 3 → σ 30 c = (sd c : Int)) (hb : ∀ c, c < 3 → sd c < 256) : R (d + 2) 71 0 [vR 20, vI b, u] [] (WS L σ) Q = Q (some (vI (holdC sd b))) (WS L σ) := by
  have h0 := hs 0 (by omega)
  have h1 := hs 1 (by omega)
  have h2 := hs 2 (by omega)
  have b0 := hb 0 (by omega)
  have b1 := hb 1 (by omega)
  have b2 := hb 2 (by omega)
  have e0 : i_and (i_shr (sd 0) b) 1 = if (sd 0).testBit b then 1 else 0 := i_bit (by omega) (by omega)
  have e1 : i_and (i_shr (sd 1) b) 1 = if (sd 1).testBit b then 1 else 0 := i_bit (by omega) (by omega)
  have e2 : i_and (i_shr (sd 2) b) 1 = if (sd 2).testBit b then 1 else 0 := i_bit (by omega) (by omega)
  unfold holdC
  rw [b71_0, b71_2, if_neg (by omega), b71_7, show vI 0 = vI ((0 : Nat) : Int) from rfl, r72 (by omega)]
  simp only [am_push_s]
  rw [b71_12, h0, e0]
  by_cases c0 : (sd 0).testBit b = true
  · simp only [c0, if_pos, not_true_eq_false, if_false, b71_20]
    rfl
  · simp only [c0, if_pos, not_true_eq_false, if_false]
    simp (disch := first | omega | exact rf0 | exact rf1 | exact rf_tI) only [le_t, le_f, lt_t, lt_f, eq_t, eq_f, and_true, true_and, and_false, false_and, not_true_eq_false, not_false_eq_true, if_true, if_false, ↓reduceIte, b71_22, b71_2, b71_7]
    rw [show (((0 : Nat) : Int) + 1) = ((1 : Nat) : Int) from rfl, r72 (by omega)]
    simp only [am_push_s]
    rw [b71_12, h1, e1]
    by_cases c1 : (sd 1).testBit b = true
    · simp only [c1, if_pos, not_true_eq_false, if_false, b71_20]
      rfl
    · simp only [c1, if_pos, not_true_eq_false, if_false]
      simp (disch := first | omega | exact rf0 | exact rf1 | exact rf_tI) only [le_t, le_f, lt_t, lt_f, eq_t, eq_f, and_true, true_and, and_false, false_and, not_true_eq_false, not_false_eq_true, if_true, if_false, ↓reduceIte, b71_22, b71_2, b71_7]
      rw [show (((1 : Nat) : Int) + 1) = ((2 : Nat) : Int) from rfl, r72 (by omega)]
      simp only [am_push_s]
      rw [b71_12, h2, e2]
      by_cases c2 : (sd 2).testBit b = true
      · simp only [c2, if_pos, not_true_eq_false, if_false, b71_20]
        rfl
      · simp only [c2, if_pos, not_true_eq_false, if_false]
        simp (disch := first | omega | exact rf0 | exact rf1 | exact rf_tI) only [le_t, le_f, lt_t, lt_f, eq_t, eq_f, and_true, true_and, and_false, false_and, not_true_eq_false, not_false_eq_true, if_true, if_false, ↓reduceIte, b71_22, b71_2, b71_28]
        simp
/-- the first n places of a cell by f -/
def setA (σ : St) (a n : Nat) (f : Nat → Int) : St := fun a' j => if a' = a ∧ 0 ≤ j ∧ j < n then f j.toNat else σ a' j
theorem setA_0 {a : Nat} {f : Nat → Int} : setA σ a 0 f = σ := by
  funext a' j
  unfold setA
  rw [if_neg (by omega)]
theorem setA_s {a k : Nat} {f : Nat → Int} {z : Int} (h : z = f k) : st2 (setA σ a k f) a k z = setA σ a (k + 1) f := by
  funext a' j
  simp only [setA, st2]
  by_cases h1 : a' = a ∧ j = k
  · rw [if_pos h1, if_pos (by omega), h, h1.2]
    rfl
  · rw [if_neg h1]
    by_cases h2 : a' = a ∧ 0 ≤ j ∧ j < k
    · rw [if_pos h2, if_pos (by omega)]
    · rw [if_neg h2, if_neg (by omega)]
theorem setA_k {a n a' : Nat} {j : Int} {f : Nat → Int} (h : a' ≠ a) : setA σ a n f a' j = σ a' j := by
  unfold setA
  rw [if_neg (by omega)]
theorem setA_in {a n : Nat} {j : Int} {f : Nat → Int} (h0 : 0 ≤ j) (h : j < n) : setA σ a n f a j = f j.toNat := by
  unfold setA
  rw [if_pos ⟨rfl, h0, h⟩]
theorem setA_out {a n : Nat} {j : Int} {f : Nat → Int} (h : j < 0 ∨ n ≤ j) : setA σ a n f a j = σ a j := by
  unfold setA
  rw [if_neg (by omega)]
theorem r4_l {r N : Nat} {v : Int} (hk : KD r = 100) (hN : LN L r = N) (hN2 : N < 100000) : ∀ m i, i + m = N → R d 4 5 [vR r, vI v, vI i, vI N] [] (WS L (setA σ r i (fun _ => v))) Q = Q none (WS L (setA σ r N (fun _ => v))) := by
  intro m
  induction m with
  | zero =>
    intro i hi
    obtain rfl : i = N := by omega
    rw [b4_5, if_pos (by omega), b4_20]
  | succ m ih =>
    intro i hi
    rw [b4_5, if_neg (by omega), b4_10 hk (by omega) (by rw [hN]; omega), b4_14 (by omega), setA_s rfl]
    exact ih (i + 1) (by omega)
theorem r4 {r N : Nat} {v : Int} {u1 u2 : AV} (hk : KD r = 100) (hN : LN L r = N) (hN2 : N < 100000) : R d 4 0 [vR r, vI v, u1, u2] [] (WS L σ) Q = Q none (WS L (setA σ r N (fun _ => v))) := by
  rw [b4_0 hk, hN]
  have e := r4_l (d := d) (σ := σ) (Q := Q) (v := v) hk hN hN2 N 0 (by omega)
  rw [setA_0] at e
  exact e
theorem LN_30 : LN L 30 = 3 := rfl
theorem r46 : R (d + 1) 46 0 [vR 20] [] (WS L σ) Q = Q none (WS L (setA σ 30 3 (fun _ => 0))) := by
  rw [b46_0, r4 kd_30 LN_30 (by omega)]
  simp only [am_push_n, b46_8]
/-- a set without a boy -/
def clr (x b : Nat) : Nat := x ^^^ (x &&& 2 ^ b)
theorem clr_tb {x b i : Nat} : (clr x b).testBit i = (x.testBit i && !decide (b = i)) := by
  unfold clr
  rw [Nat.testBit_xor, Nat.testBit_and, Nat.testBit_two_pow]
  cases x.testBit i <;> cases decide (b = i) <;> rfl
theorem clr_lt {x b : Nat} (hx : x < 256) : clr x b < 256 := by
  have h : x ^^^ (x &&& 2 ^ b) < 2 ^ 8 := Nat.xor_lt_two_pow (by omega) (Nat.lt_of_le_of_lt Nat.and_le_left (by omega))
  exact h
def handS (sd : Nat → Nat) (b : Nat) (c : Int) (q : Nat) : Nat := if (q : Int) = c then clr (sd q) b ||| 2 ^ b else clr (sd q) b
theorem r73_l {b : Nat} {c : Int} {sd : Nat → Nat} (hb8 : b < 8) (hs : ∀ c : Nat, c < 3 → σ 30 c = (sd c : Int)) (hb : ∀ c, c < 3 → sd c < 256) : ∀ m i : Nat, i + m = 3 → R d 73 2 [vR 20, vI b, vI c, vI i] [] (WS L (setA σ 30 i (fun q => (clr (sd q) b : Int)))) Q = R d 73 31 [vR 20, vI b, vI c, vI 3] [] (WS L (setA σ 30 3 (fun q => (clr (sd q) b : Int)))) Q := by
  intro m
  induction m with
  | zero =>
    intro i hi
    obtain rfl : i = 3 := by omega
    rw [b73_2, if_pos (by omega)]
    rfl
  | succ m ih =>
    intro i hi
    have h1 := hs i (by omega)
    have h2 := hb i (by omega)
    have hp : 2 ^ b < 2 ^ 8 := two_pow_lt hb8
    rw [b73_2, if_neg (by omega), b73_11 (by omega) (by omega), b73_25 (by omega), setA_out (by omega), h1, i_one_shl (by omega), i_andn_nat (by omega) (by omega), setA_s]
    · exact ih (i + 1) (by omega)
    · rfl
theorem r73 {b : Nat} {c : Int} {sd : Nat → Nat} (hb8 : b < 8) (hs : ∀ c : Nat, c < 3 → σ 30 c = (sd c : Int)) (hb : ∀ c, c < 3 → sd c < 256) (hc : -1 ≤ c ∧ c < 3) : R (d + 1) 73 0 [vR 20, vI b, vI c, vX 9] [] (WS L σ) Q = Q none (WS L (setA σ 30 3 (fun q => (handS sd b c q : Int)))) := by
  have e := r73_l (d := d + 1) (L := L) (Q := Q) (c := c) hb8 hs hb 3 0 (by omega)
  rw [setA_0] at e
  rw [b73_0]
  refine Eq.trans e ?_
  rw [b73_31, r13]
  simp only [am_push_s]
  rw [b73_40]
  simp only [tI_0]
  by_cases h : 0 ≤ c ∧ c < 3
  · have h2 := hb c.toNat (by omega)
    have h3 : clr (sd c.toNat) b < 256 := clr_lt h2
    have hp : 2 ^ b < 2 ^ 8 := two_pow_lt hb8
    rw [if_neg (by omega), b73_43 h.1 h.2, b73_55, setA_in h.1 h.2, i_one_shl (by omega), i_or_nat (by omega) (by omega)]
    congr 2
    funext a' j
    unfold setA st2 handS
    dsimp only
    by_cases h1 : a' = 30 ∧ j = c
    · rw [if_pos h1, if_pos (by omega)]
      rw [if_pos (by omega), h1.2]
    · rw [if_neg h1]
      by_cases h2 : a' = 30 ∧ 0 ≤ j ∧ j < (3 : Nat)
      · rw [if_pos h2, if_pos h2]
        rw [if_neg (by omega)]
      · rw [if_neg h2, if_neg h2]
  · rw [if_pos h, b73_55]
    congr 2
    funext a' j
    unfold setA handS
    dsimp only
    by_cases h2 : a' = 30 ∧ 0 ≤ j ∧ j < (3 : Nat)
    · rw [if_pos h2, if_pos h2]
      rw [if_neg (by omega)]
    · rw [if_neg h2, if_neg h2]
/-- who takes by turns of a kind: w play, m told -/
def tkC (w kind t m : Nat) (told : Nat → Int) : Int :=
  if kind = 1 then (if t % (2 * w) < w then ((t % (2 * w) : Nat) : Int) else ((2 * w - 1 - t % (2 * w) : Nat) : Int))
  else if kind = 2 then (((t + 1) / 2 % w : Nat) : Int)
  else if kind = 3 ∧ t < m ∧ 0 ≤ told t ∧ told t < w then told t else ((t % w : Nat) : Int)
theorem r63 {w kind t m : Nat} (hw : σ 20 1 = (w : Int)) (hw2 : w = 2 ∨ w = 3) (ht : t < 1000) (hm : σ 23 1 = (m : Int)) (hm8 : m ≤ 8) : R (d + 1) 63 0 [vR 20, vI kind, vI t, vX 9, vX 9] [] (WS L σ) Q = Q (some (vI (tkC w kind t m (fun i => σ 24 i)))) (WS L σ) := by
  have hk : KD 23 = 5 := rfl
  have hl : LN L (23 + 1) = 8 := rfl
  have e13 : R (d + 1) 63 0 [vR 20, vI kind, vI t, vX 9, vX 9] [] (WS L σ) Q = R (d + 1) 63 13 [vR 20, vI kind, vI t, vX 9, vX 9] [vI w] (WS L σ) Q := by
    rw [b63_0, b63_8, b63_12, R_ite, hw]
    congr 3
    rcases hw2 with rfl | rfl <;> rfl
  have h1 : i_rem t (2 * w) = ((t % (2 * w) : Nat) : Int) := by
    have := i_rem_nat (a := t) (b := 2 * w) (by omega) (by omega)
    rw [← this]
    rfl
  have h2 : i_rem t w = ((t % w : Nat) : Int) := i_rem_nat (by omega) (by omega)
  have h3 : i_rem (i_div (t + 1) 2) w = (((t + 1) / 2 % w : Nat) : Int) := by
    have := i_div_nat (a := t + 1) (b := 2) (by omega) (by omega)
    rw [show ((t : Int) + 1) = ((t + 1 : Nat) : Int) by omega, show (2 : Int) = ((2 : Nat) : Int) from rfl, this, i_rem_nat (by omega) (by omega)]
  have h4 : t % (2 * w) < 2 * w := Nat.mod_lt _ (by omega)
  rw [e13, b63_13]
  unfold tkC
  by_cases k1 : kind = 1
  · rw [if_neg (by omega), b63_19 (by omega) (by omega), h1, if_pos k1]
    by_cases hl : t % (2 * w) < w
    · rw [if_neg (by omega), b63_32, b63_45, if_pos hl]
    · rw [if_pos (by omega), b63_37 (by omega) (by omega) (by omega), b63_45, if_neg hl]
      congr 3
      omega
  · rw [if_pos (by omega), b63_46, if_neg k1]
    by_cases k2 : kind = 2
    · rw [if_neg (by omega), b63_51 (by omega) (by omega), h3, if_pos k2]
    · rw [if_pos (by omega), b63_59, if_neg k2]
      by_cases k3 : kind = 3
      · rw [if_neg (by omega), b63_64]
        by_cases hm1 : t < m
        · rw [r64 hk (by omega) (by omega) (by rw [hl]; omega)]
          simp only [am_push_s]
          rw [b63_72, r13]
          simp only [am_push_s]
          rw [b63_76]
          simp only [tI_0]
          by_cases hr : 0 ≤ σ (23 + 1) t ∧ σ (23 + 1) t < w
          · rw [if_neg (by omega), b63_79, r64 hk (by omega) (by omega) (by rw [hl]; omega)]
            simp only [am_push_s]
            rw [b63_87, if_pos ⟨k3, hm1, hr.1, hr.2⟩]
          · rw [if_pos hr, b63_88 (by omega), h2, if_neg (fun h => hr h.2.2)]
        · rw [r64n hk (by omega)]
          simp only [am_push_s]
          rw [b63_72, r13]
          simp only [am_push_s]
          rw [b63_76]
          simp only [tI_0]
          rw [if_pos (by omega), b63_88 (by omega), h2, if_neg (fun h => hm1 h.2.1)]
      · rw [if_pos (by omega), b63_88 (by omega), h2, if_neg (fun h => k3 h.1)]
end CM
