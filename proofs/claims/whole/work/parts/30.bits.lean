/-! the machine's bit operations over naturals -/
theorem i_nI (n : Nat) : Int32.ofInt (n : Int) = nI n := Int32.ofInt_eq_ofNat
theorem bv_toInt {x : BitVec 32} (h : x.toNat < 2147483648) : x.toInt = (x.toNat : Int) := BitVec.toInt_eq_toNat_of_lt (by omega)
theorem i32_toInt (x : Int32) : x.toInt = x.toBitVec.toInt := rfl
theorem i_and_nat {a b : Nat} (ha : a < 2147483648) (hb : b < 2147483648) : i_and a b = ((a &&& b : Nat) : Int) := by
  unfold i_and
  rw [i_nI, i_nI, i32_toInt]
  have e : (nI a &&& nI b).toBitVec = (nI a).toBitVec &&& (nI b).toBitVec := rfl
  have h : (nI a &&& nI b).toBitVec.toNat = a &&& b := by rw [e, BitVec.toNat_and, pk_tn (by omega), pk_tn (by omega)]
  have hl : a &&& b ≤ a := Nat.and_le_left
  rw [bv_toInt (by rw [h]; omega), h]
theorem i_or_nat {a b : Nat} (ha : a < 2147483648) (hb : b < 2147483648) : i_or a b = ((a ||| b : Nat) : Int) := by
  unfold i_or
  rw [i_nI, i_nI, i32_toInt]
  have e : (nI a ||| nI b).toBitVec = (nI a).toBitVec ||| (nI b).toBitVec := rfl
  have h : (nI a ||| nI b).toBitVec.toNat = a ||| b := by rw [e, BitVec.toNat_or, pk_tn (by omega), pk_tn (by omega)]
  have hl : a ||| b < 2 ^ 31 := Nat.or_lt_two_pow (by omega) (by omega)
  rw [bv_toInt (by rw [h]; omega), h]
theorem i_shl_nat {a b : Nat} (hb : b < 31) (h : a * 2 ^ b < 2147483648) : i_shl a b = ((a * 2 ^ b : Nat) : Int) := by
  unfold i_shl
  have hand : nI b &&& 31 = nI b := by
    have h1 := pk_andN (n := b) (by omega) (m := 31) 5 (by decide)
    rw [h1, Nat.mod_eq_of_lt (by omega)]
  rw [i_nI, i_nI, hand]
  have hs : ((nI b).toBitVec.smod 32).toNat = b := by
    have : ∀ b, b < 31 → ((nI b).toBitVec.smod 32).toNat = b := by decide +kernel
    exact this b hb
  rw [pk_shlN _ b hs (by omega), nI_toInt (by omega)]
theorem i_shr_nat {a b : Nat} (ha : a < 2147483648) (hb : b < 31) : i_shr a b = ((a / 2 ^ b : Nat) : Int) := by
  unfold i_shr
  have hand : nI b &&& 31 = nI b := by
    have h1 := pk_andN (n := b) (by omega) (m := 31) 5 (by decide)
    rw [h1, Nat.mod_eq_of_lt (by omega)]
  rw [i_nI, i_nI, hand]
  have hs : ((nI b).toBitVec.smod 32).toNat = b := by
    have : ∀ b, b < 31 → ((nI b).toBitVec.smod 32).toNat = b := by decide +kernel
    exact this b hb
  have hle : a / 2 ^ b ≤ a := Nat.div_le_self _ _
  rw [pk_shrN (by omega) _ b hs, nI_toInt (by omega)]
theorem i_ushr_nat {a b : Nat} (ha : a < 2147483648) (hb : b < 31) (hb0 : 0 < b) : i_ushr a b = ((a / 2 ^ b : Nat) : Int) := by
  unfold i_ushr
  rw [i_nI, i_nI]
  have hs : (((nI b).toUInt32 &&& Int32.toUInt32 31).toBitVec % 32).toNat = b := by
    have : ∀ b, b < 31 → (((nI b).toUInt32 &&& Int32.toUInt32 31).toBitVec % 32).toNat = b := by decide +kernel
    exact this b hb
  have hle : a / 2 ^ b ≤ a := Nat.div_le_self _ _
  rw [pk_ushrN (by omega) _ b hs, nI_toInt (by omega)]
theorem i_not (b : Nat) (hb : b < 2147483648) : i_xor b (-1) = -((b : Int) + 1) := by
  unfold i_xor
  have e1 : Int32.ofInt (-1) = (-1 : Int32) := rfl
  have e2 : Int32.ofInt (b : Int) ^^^ (-1 : Int32) = ~~~ (Int32.ofInt (b : Int)) := by
    apply Int32.toBitVec_inj.mp
    show (Int32.ofInt (b : Int)).toBitVec ^^^ BitVec.allOnes 32 = ~~~ (Int32.ofInt (b : Int)).toBitVec
    exact BitVec.xor_allOnes
  rw [e1, e2, Int32.toInt_not, i_tI ⟨by omega, by omega⟩]
  have e3 : (-(b : Int) - 1).bmod (2 ^ 32) = -(b : Int) - 1 := Int.bmod_eq_of_le (by omega) (by omega)
  omega
theorem i_andn_nat {a b : Nat} (ha : a < 2147483648) (hb : b < 2147483648) : i_and a (i_xor b (-1)) = ((a ^^^ (a &&& b) : Nat) : Int) := by
  unfold i_and i_xor
  rw [Int32.ofInt_toInt]
  have e1 : Int32.ofInt (-1) = (-1 : Int32) := rfl
  have e2 : Int32.ofInt (b : Int) ^^^ (-1 : Int32) = ~~~ (Int32.ofInt (b : Int)) := by
    apply Int32.toBitVec_inj.mp
    show (Int32.ofInt (b : Int)).toBitVec ^^^ BitVec.allOnes 32 = ~~~ (Int32.ofInt (b : Int)).toBitVec
    exact BitVec.xor_allOnes
  rw [e1, e2, i_nI, i_nI, i32_toInt]
  have e : (nI a &&& ~~~ nI b).toBitVec = (nI a).toBitVec &&& ~~~ (nI b).toBitVec := rfl
  have h : (nI a &&& ~~~ nI b).toBitVec.toNat = a ^^^ (a &&& b) := by
    rw [e]
    have e3 : (nI a).toBitVec &&& ~~~ (nI b).toBitVec = (nI a).toBitVec ^^^ ((nI a).toBitVec &&& (nI b).toBitVec) := by
      apply BitVec.eq_of_getLsbD_eq
      intro i hi
      simp only [BitVec.getLsbD_and, BitVec.getLsbD_not, BitVec.getLsbD_xor]
      cases (nI a).toBitVec.getLsbD i <;> cases (nI b).toBitVec.getLsbD i <;> simp [hi]
    rw [e3, BitVec.toNat_xor, BitVec.toNat_and, pk_tn (by omega), pk_tn (by omega)]
  have hl : a ^^^ (a &&& b) < 2 ^ 31 := Nat.xor_lt_two_pow (by omega) (Nat.and_lt_two_pow _ (by omega))
  rw [bv_toInt (by rw [h]; omega), h]
theorem i_bit {a b : Nat} (ha : a < 2147483648) (hb : b < 31) : i_and (i_shr a b) 1 = if a.testBit b then 1 else 0 := by
  have hle : a / 2 ^ b ≤ a := Nat.div_le_self _ _
  rw [i_shr_nat ha hb, show (1 : Int) = ((1 : Nat) : Int) from rfl, i_and_nat (by omega) (by omega), Nat.and_one_is_mod, Nat.testBit_eq_decide_div_mod_eq]
  by_cases h : a / 2 ^ b % 2 = 1
  · rw [h]; simp
  · have h2 : a / 2 ^ b % 2 = 0 := by omega
    rw [h2]; simp
theorem i_one_shl {b : Nat} (hb : b < 31) : i_shl 1 b = ((2 ^ b : Nat) : Int) := by
  have h : 2 ^ b < 2 ^ 31 := Nat.pow_lt_pow_right (by decide) hb
  have := i_shl_nat (a := 1) hb (by omega)
  rw [Nat.one_mul] at this
  exact this
/-- the set of those below n for whom p -/
def bits (p : Nat → Bool) : Nat → Nat
  | 0 => 0
  | n + 1 => bits p n + if p n then 2 ^ n else 0
theorem bits_lt (p : Nat → Bool) : ∀ n, bits p n < 2 ^ n
  | 0 => by simp [bits]
  | n + 1 => by
    have := bits_lt p n
    rw [bits, Nat.pow_succ]
    split <;> omega
theorem tb_big {x i : Nat} {n : Nat} (h : x < 2 ^ n) (hi : n ≤ i) : x.testBit i = false := Nat.testBit_lt_two_pow (Nat.lt_of_lt_of_le h (Nat.pow_le_pow_right (by decide) hi))
theorem add_or {x n : Nat} (h : x < 2 ^ n) : x + 2 ^ n = x ||| 2 ^ n := by
  have := Nat.two_pow_add_eq_or_of_lt h 1
  rw [Nat.mul_one] at this
  rw [Nat.add_comm, this, Nat.or_comm]
theorem bits_test (p : Nat → Bool) : ∀ n i, (bits p n).testBit i = (decide (i < n) && p i)
  | 0, i => by simp [bits]
  | n + 1, i => by
    have hlt := bits_lt p n
    have ih := bits_test p n i
    have key : (bits p (n + 1)).testBit i = ((bits p n).testBit i || (p n && decide (n = i))) := by
      rw [bits]
      by_cases hp : p n = true
      · rw [if_pos hp, add_or hlt, Nat.testBit_or, Nat.testBit_two_pow, hp, Bool.true_and]
      · rw [if_neg hp, Nat.add_zero]
        simp [hp]
    rw [key, ih]
    by_cases hi : n = i
    · subst hi
      simp
    · have : decide (i < n + 1) = decide (i < n) := by
        congr 1
        exact propext ⟨fun _ => by omega, fun _ => by omega⟩
      rw [this]
      simp [hi]
theorem bits_succ (p : Nat → Bool) (n : Nat) : bits p (n + 1) = bits p n ||| (if p n then 2 ^ n else 0) := by
  rw [bits]
  split
  · exact add_or (bits_lt p n)
  · simp
theorem tb_ext {x y : Nat} (h : ∀ i, x.testBit i = y.testBit i) : x = y := Nat.eq_iff_testBit_eq.mpr h
theorem bits_of {x n : Nat} (h : x < 2 ^ n) : bits (fun i => x.testBit i) n = x := by
  apply tb_ext
  intro i
  rw [bits_test]
  by_cases hi : i < n
  · simp [hi]
  · rw [tb_big h (by omega)]
    simp
theorem bits_congr {p q : Nat → Bool} {n : Nat} (h : ∀ i, i < n → p i = q i) : bits p n = bits q n := by
  apply tb_ext
  intro i
  rw [bits_test, bits_test]
  by_cases hi : i < n
  · rw [h i hi]
  · simp [hi]
theorem or_lt {a b n : Nat} (ha : a < 2 ^ n) (hb : b < 2 ^ n) : a ||| b < 2 ^ n := Nat.or_lt_two_pow ha hb
theorem two_pow_lt {b n : Nat} (h : b < n) : 2 ^ b < 2 ^ n := Nat.pow_lt_pow_right (by decide) h
/-- a loop over numbers -/
def itr {α : Type} (f : Nat → α → α) : Nat → α → α
  | 0, a => a
  | n + 1, a => f n (itr f n a)
theorem itr_inv {α : Type} {f : Nat → α → α} {I : Nat → α → Prop} {n : Nat} {a : α} (h0 : I 0 a) (hs : ∀ k x, k < n → I k x → I (k + 1) (f k x)) : ∀ k, k ≤ n → I k (itr f k a)
  | 0, _ => h0
  | k + 1, hk => hs k _ (by omega) (itr_inv h0 hs k (by omega))
theorem itr_congr {α : Type} {f g : Nat → α → α} {a : α} : ∀ {n : Nat}, (∀ k, k < n → ∀ x, f k x = g k x) → itr f n a = itr g n a
  | 0, _ => rfl
  | n + 1, h => by
    rw [itr, itr, itr_congr (fun k hk => h k (by omega)), h n (by omega)]
/-- a counted loop of the machine: P k a is 'from the head, with counter k and state a' -/
theorem loop_up {α : Type} {P : Nat → α → Prop} {f : Nat → α → α} {n : Nat} {I : Nat → α → Prop} (hs : ∀ k a, k < n → I k a → P k a = P (k + 1) (f k a)) (hi : ∀ k a, k < n → I k a → I (k + 1) (f k a)) : ∀ (k : Nat) (a : α), k ≤ n → I 0 a → I k (itr f k a) ∧ P 0 a = P k (itr f k a)
  | 0, a, _, h0 => ⟨h0, rfl⟩
  | k + 1, a, hk, h0 => by
    obtain ⟨h1, h2⟩ := loop_up hs hi k a (by omega) h0
    exact ⟨hi k _ (by omega) h1, h2.trans (hs k _ (by omega) h1)⟩
