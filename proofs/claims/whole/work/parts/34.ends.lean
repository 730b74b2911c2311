/-! what is best, from the last boy back: the common mathematics, and the class -/
def oup (o : Nat → Nat) (b v : Nat) : Nat → Nat := fun i => if i = b then v else o i
theorem oup_s {o : Nat → Nat} {b v : Nat} : oup o b v b = v := if_pos rfl
theorem oup_o {o : Nat → Nat} {b v i : Nat} (h : i ≠ b) : oup o b v i = o i := if_neg h
def sdO (o : Nat → Nat) (c : Nat) : Nat := bits (fun b => decide (o b = c + 1)) 8
def tkO (o : Nat → Nat) : Nat := bits (fun b => decide (o b ≠ 0)) 8
def cntO (o : Nat → Nat) : Nat := cnt (fun b => decide (o b ≠ 0)) 8
def frO (n : Nat) (o : Nat → Nat) : Nat := cnt (fun b => decide (o b = 0)) n
def Ov (n : Nat) (o : Nat → Nat) : Prop := (∀ b, o b ≤ 3) ∧ ∀ b, n ≤ b → o b = 0
def EF (W : Nat → Nat → Int) (mv : Nat → Nat) (n : Nat) : Nat → (Nat → Nat) → (Nat → Nat)
  | 0, o => o
  | k + 1, o => if amx (fun b => decide (o b = 0)) (fun b => W (mv (cntO o)) (sdO (EF W mv n k (oup o b (mv (cntO o) + 1))) (mv (cntO o)))) n < 0 then o
    else EF W mv n k (oup o (amx (fun b => decide (o b = 0)) (fun b => W (mv (cntO o)) (sdO (EF W mv n k (oup o b (mv (cntO o) + 1))) (mv (cntO o)))) n).toNat (mv (cntO o) + 1))
/-- whom a captain takes best, k being left behind him -/
def chF (W : Nat → Nat → Int) (mv : Nat → Nat) (n k : Nat) (o : Nat → Nat) (c : Nat) : Int := amx (fun b => decide (o b = 0)) (fun b => W c (sdO (EF W mv n k (oup o b (c + 1))) c)) n
theorem EF_s {W : Nat → Nat → Int} {mv : Nat → Nat} {n k : Nat} {o : Nat → Nat} : EF W mv n (k + 1) o = if chF W mv n k o (mv (cntO o)) < 0 then o else EF W mv n k (oup o (chF W mv n k o (mv (cntO o))).toNat (mv (cntO o) + 1)) := rfl
theorem Ov_oup {n b v : Nat} {o : Nat → Nat} (h : Ov n o) (hb : b < n) (hv : v ≤ 3) : Ov n (oup o b v) := by
  constructor
  · intro i
    unfold oup
    split
    · exact hv
    · exact h.1 i
  · intro i hi
    rw [oup_o (by omega)]
    exact h.2 i hi
theorem chF_r {W : Nat → Nat → Int} {mv : Nat → Nat} {n k : Nat} {o : Nat → Nat} {c : Nat} : -1 ≤ chF W mv n k o c ∧ chF W mv n k o c < n ∧ (0 ≤ chF W mv n k o c → o (chF W mv n k o c).toNat = 0) := by
  have h := amx_r (fun b => decide (o b = 0)) (fun b => W c (sdO (EF W mv n k (oup o b (c + 1))) c)) n
  exact ⟨h.1, h.2.1, fun x => of_decide_eq_true (h.2.2 x)⟩
theorem cnt_lt {p : Nat → Bool} {j : Nat} : ∀ {m : Nat}, j < m → p j = false → cnt p m < m
  | 0, h, _ => absurd h (by omega)
  | m + 1, h, hp => by
    rw [cnt]
    by_cases hq : j < m
    · have := cnt_lt hq hp
      split <;> omega
    · obtain rfl : j = m := by omega
      have := cnt_le p j
      rw [hp]
      simp
      omega
theorem EF_Ov {W : Nat → Nat → Int} {mv : Nat → Nat} {n : Nat} (h8 : n ≤ 8) (hm : ∀ t, t < 8 → mv t < 3) : ∀ k o, Ov n o → Ov n (EF W mv n k o)
  | 0, o, h => h
  | k + 1, o, h => by
    rw [EF_s]
    have hc := chF_r (W := W) (mv := mv) (n := n) (k := k) (o := o) (c := mv (cntO o))
    split
    · exact h
    · have hf := hc.2.2 (by omega)
      have hlt : (chF W mv n k o (mv (cntO o))).toNat < n := by omega
      have hc8 : cntO o < 8 := by
        exact cnt_lt (j := (chF W mv n k o (mv (cntO o))).toNat) (by omega) (by simp [hf])
      have := hm (cntO o) hc8
      exact EF_Ov h8 hm k _ (Ov_oup h hlt (by omega))
theorem bits_cut {p : Nat → Bool} {n m : Nat} (h : ∀ i, n ≤ i → p i = false) (hm : n ≤ m) : bits p m = bits p n := by
  apply tb_ext
  intro i
  rw [bits_test, bits_test]
  by_cases hi : i < n
  · have : i < m := by omega
    simp [hi, this]
  · rw [h i (by omega)]
    simp
theorem sdO_lt {n : Nat} {o : Nat → Nat} {c : Nat} (h : Ov n o) (h8 : n ≤ 8) : sdO o c < 2 ^ n := by
  unfold sdO
  rw [bits_cut (n := n) (fun i hi => by rw [h.2 i hi]; simp) h8]
  exact bits_lt _ n
/-- the class's state of the sides, read -/
def dC (x b : Nat) : Nat := if b < 8 then (x.testBit b).toNat + 2 * (x.testBit (b + 8)).toNat else 0
section EN
variable {d L : Nat} {σ : St} {Q : Option AV → AW → Prop}
theorem tb_255 {i : Nat} : Nat.testBit 255 i = decide (i < 8) := Nat.testBit_two_pow_sub_one 8 i
theorem tb_shr {x i k : Nat} : (x / 2 ^ k).testBit i = x.testBit (i + k) := by
  rw [Nat.testBit_div_two_pow]
theorem tb_shl {x i k : Nat} : (x * 2 ^ k).testBit i = (decide (k ≤ i) && x.testBit (i - k)) := by
  rw [Nat.testBit_mul_two_pow]
theorem r86 {x : Nat} (hx : x < 65536) : R d 86 0 [vI x] [] (WS L σ) Q = Q (some (vI (tkO (dC x)))) (WS L σ) := by
  have h1 : x / 2 ^ 8 ≤ x := Nat.div_le_self _ _
  have e1 : i_shr x 8 = ((x / 2 ^ 8 : Nat) : Int) := i_shr_nat (a := x) (b := 8) (by omega) (by omega)
  have l1 : x ||| x / 2 ^ 8 < 2 ^ 16 := or_lt (by omega) (by omega)
  have e2 : i_and ((x ||| x / 2 ^ 8 : Nat) : Int) 255 = (((x ||| x / 2 ^ 8) &&& 255 : Nat) : Int) := i_and_nat (b := 255) (by omega) (by omega)
  rw [b86_0, e1, i_or_nat (by omega) (by omega), e2]
  have e : (x ||| x / 2 ^ 8) &&& 255 = tkO (dC x) := by
    apply tb_ext
    intro i
    unfold tkO dC
    rw [bits_test, Nat.testBit_and, Nat.testBit_or, tb_shr, tb_255]
    by_cases hi : i < 8
    · simp only [hi, if_true, decide_true, Bool.and_true, Bool.true_and]
      cases x.testBit i <;> cases x.testBit (i + 8) <;> rfl
    · simp [hi]
  rw [e]
theorem r90 {x c : Nat} (hx : x < 65536) (hc : c < 3) : R d 90 0 [vI x, vI c, vX 9, vX 9] [] (WS L σ) Q = Q (some (vI (sdO (dC x) c))) (WS L σ) := by
  have h1 : x / 2 ^ 8 ≤ x := Nat.div_le_self _ _
  have e1 : i_shr x 8 = ((x / 2 ^ 8 : Nat) : Int) := i_shr_nat (a := x) (b := 8) (by omega) (by omega)
  have e2 : i_and x 255 = ((x &&& 255 : Nat) : Int) := i_and_nat (b := 255) (by omega) (by omega)
  have e3 : i_and ((x / 2 ^ 8 : Nat) : Int) 255 = ((x / 2 ^ 8 &&& 255 : Nat) : Int) := i_and_nat (b := 255) (by omega) (by omega)
  have l2 : x &&& 255 ≤ 255 := Nat.and_le_right
  have l3 : x / 2 ^ 8 &&& 255 ≤ 255 := Nat.and_le_right
  rw [b90_0, e1, e2, e3]
  have hc3 : c = 0 ∨ c = 1 ∨ c = 2 := by omega
  rcases hc3 with rfl | rfl | rfl
  · rw [if_neg (by omega), b90_19, i_andn_nat (by omega) (by omega)]
    have e : (x &&& 255) ^^^ (x &&& 255 &&& (x / 2 ^ 8 &&& 255)) = sdO (dC x) 0 := by
      apply tb_ext
      intro i
      unfold sdO dC
      simp only [bits_test, Nat.testBit_xor, Nat.testBit_and, tb_shr, tb_255]
      by_cases hi : i < 8
      · simp only [hi, if_true, decide_true, Bool.and_true, Bool.true_and]
        cases x.testBit i <;> cases x.testBit (i + 8) <;> rfl
      · simp [hi]
    rw [e]
  · rw [if_pos (by omega), b90_25, if_neg (by omega), b90_30, b90_41, i_andn_nat (by omega) (by omega)]
    have e : (x / 2 ^ 8 &&& 255) ^^^ (x / 2 ^ 8 &&& 255 &&& (x &&& 255)) = sdO (dC x) 1 := by
      apply tb_ext
      intro i
      unfold sdO dC
      simp only [bits_test, Nat.testBit_xor, Nat.testBit_and, tb_shr, tb_255]
      by_cases hi : i < 8
      · simp only [hi, if_true, decide_true, Bool.and_true, Bool.true_and]
        cases x.testBit i <;> cases x.testBit (i + 8) <;> rfl
      · simp [hi]
    rw [e]
  · rw [if_pos (by omega), b90_25, if_pos (by omega), b90_38, b90_41, i_and_nat (by omega) (by omega)]
    have e : (x &&& 255) &&& (x / 2 ^ 8 &&& 255) = sdO (dC x) 2 := by
      apply tb_ext
      intro i
      unfold sdO dC
      simp only [bits_test, Nat.testBit_and, tb_shr, tb_255]
      by_cases hi : i < 8
      · simp only [hi, if_true, decide_true, Bool.and_true, Bool.true_and]
        cases x.testBit i <;> cases x.testBit (i + 8) <;> rfl
      · simp [hi]
    rw [e]
/-- the class's state of the sides, a boy having come to a captain -/
def withC (x b c : Nat) : Nat := x ||| ((c + 1) % 2) * 2 ^ b ||| ((c + 1) / 2) * 2 ^ (b + 8)
theorem withC_r {x b c : Nat} (hx : x < 65536) (hb : b < 8) (hc : c < 3) (h0 : dC x b = 0) : withC x b c < 65536 ∧ dC (withC x b c) = oup (dC x) b (c + 1) := by
  have hp : 2 ^ b < 2 ^ 8 := two_pow_lt hb
  have hp2 : 2 ^ (b + 8) < 2 ^ 16 := two_pow_lt (by omega)
  have l1 : ((c + 1) % 2) * 2 ^ b < 2 ^ 16 := by
    have : (c + 1) % 2 = 0 ∨ (c + 1) % 2 = 1 := by omega
    rcases this with h | h <;> rw [h] <;> omega
  have l2 : ((c + 1) / 2) * 2 ^ (b + 8) < 2 ^ 16 := by
    have : (c + 1) / 2 = 0 ∨ (c + 1) / 2 = 1 := by omega
    rcases this with h | h <;> rw [h] <;> omega
  constructor
  · have := or_lt (or_lt (n := 16) hx l1) l2
    exact this
  · funext i
    have hb0 : x.testBit b = false ∧ x.testBit (b + 8) = false := by
      unfold dC at h0
      rw [if_pos hb] at h0
      cases h1 : x.testBit b <;> cases h2 : x.testBit (b + 8) <;> rw [h1, h2] at h0 <;> first | exact ⟨rfl, rfl⟩ | (exfalso; revert h0; decide)
    have tb1 : ∀ j, (((c + 1) % 2) * 2 ^ b).testBit j = (decide ((c + 1) % 2 = 1) && decide (b = j)) := by
      intro j
      have : (c + 1) % 2 = 0 ∨ (c + 1) % 2 = 1 := by omega
      rcases this with h | h <;> rw [h]
      · simp
      · rw [Nat.one_mul, Nat.testBit_two_pow]
        simp
    have tb2 : ∀ j, (((c + 1) / 2) * 2 ^ (b + 8)).testBit j = (decide ((c + 1) / 2 = 1) && decide (b + 8 = j)) := by
      intro j
      have : (c + 1) / 2 = 0 ∨ (c + 1) / 2 = 1 := by omega
      rcases this with h | h <;> rw [h]
      · simp
      · rw [Nat.one_mul, Nat.testBit_two_pow]
        simp
    unfold dC oup withC
    by_cases hi : i < 8
    · rw [if_pos hi]
      simp only [Nat.testBit_or, tb1, tb2]
      by_cases hib : i = b
      · subst hib
        rw [if_pos rfl, hb0.1, hb0.2]
        have hc3 : c = 0 ∨ c = 1 ∨ c = 2 := by omega
        have hne : ¬ i + 8 = i := by omega
        have hne2 : ¬ i = i + 8 := by omega
        rcases hc3 with rfl | rfl | rfl <;> simp [hne, hne2]
      · rw [if_neg hib, if_pos hi]
        have e1 : ¬ b = i := fun h => hib h.symm
        have e2 : ¬ b + 8 = i := by omega
        have e3 : ¬ b = i + 8 := by omega
        have e4 : ¬ b + 8 = i + 8 := by omega
        simp [e1, e2, e3]
    · rw [if_neg hi, if_neg (by omega)]
      exact (if_neg hi).symm
theorem r87 {x b c : Nat} {u : AV} (hx : x < 65536) (hb : b < 8) (hc : c < 3) : R d 87 0 [vI x, vI b, vI c, u] [] (WS L σ) Q = Q (some (vI (withC x b c))) (WS L σ) := by
  have hp : 2 ^ b < 2 ^ 8 := two_pow_lt hb
  have hp2 : 2 ^ (b + 8) < 2 ^ 16 := two_pow_lt (by omega)
  have l1 : ((c + 1) % 2) * 2 ^ b < 2 ^ 16 := by
    have : (c + 1) % 2 = 0 ∨ (c + 1) % 2 = 1 := by omega
    rcases this with h | h <;> rw [h] <;> omega
  have l2 : ((c + 1) / 2) * 2 ^ (b + 8) < 2 ^ 16 := by
    have : (c + 1) / 2 = 0 ∨ (c + 1) / 2 = 1 := by omega
    rcases this with h | h <;> rw [h] <;> omega
  have e1 : i_and ((c : Int) + 1) 1 = (((c + 1) % 2 : Nat) : Int) := by
    have := i_and_nat (a := c + 1) (b := 1) (by omega) (by omega)
    rw [Nat.and_one_is_mod] at this
    exact this
  have e2 : i_shr ((c : Int) + 1) 1 = (((c + 1) / 2 : Nat) : Int) := by
    have := i_shr_nat (a := c + 1) (b := 1) (by omega) (by omega)
    rw [show 2 ^ 1 = 2 from rfl] at this
    exact this
  have l3 : x ||| (c + 1) % 2 * 2 ^ b < 2 ^ 16 := or_lt hx l1
  rw [b87_0 (by omega) (by omega), e1, e2, i_shl_nat (by omega) (by omega), show (b : Int) + 8 = ((b + 8 : Nat) : Int) by omega, i_shl_nat (by omega) (by omega), i_or_nat (by omega) (by omega), i_or_nat (by omega) (by omega)]
  rfl
/-- what holds while ends are reckoned: n boys, worths W, takers mv, stamp s0 -/
def EI (n : Nat) (W : Nat → Nat → Int) (mv : Nat → Nat) (s0 : Nat) (σ : St) : Prop :=
  n ≤ 8 ∧ σ 20 0 = (n : Int) ∧ (∀ c x : Nat, c < 3 → x < 2 ^ n → σ 31 ((c : Int) * 256 + x) = W c x) ∧ (∀ c x : Nat, c < 3 → x < 2 ^ n → -1000000 < W c x) ∧ (∀ t : Nat, t < 8 → mv t < 3 ∧ σ 140 t = (mv t : Int)) ∧ σ 139 3 = (s0 : Int) ∧ s0 < 30000 ∧
  ∀ x : Nat, x < 65536 → ∃ r : Nat, σ 141 x = (r : Int) ∧ r < (s0 + 1) * 65536 ∧ (Ov n (dC x) → r / 65536 = s0 → dC (r % 65536) = EF W mv n (frO n (dC x)) (dC x))
def Fr141 (σ σ' : St) : Prop := ∀ a, a ≠ 141 → σ' a = σ a
theorem Fr141_t {σ σ' σ'' : St} (h : Fr141 σ σ') (h2 : Fr141 σ' σ'') : Fr141 σ σ'' := fun a ha => (h2 a ha).trans (h a ha)
def S88 (n : Nat) (W : Nat → Nat → Int) (mv : Nat → Nat) (s0 L d k : Nat) : Prop := ∀ (σ : St) (x dp : Nat), EI n W mv s0 σ → x < 65536 → Ov n (dC x) → frO n (dC x) = k → dp + k ≤ 8 → ∃ (σ' : St) (y : Nat), EI n W mv s0 σ' ∧ Fr141 σ σ' ∧ y < 65536 ∧ dC y = EF W mv n k (dC x) ∧ ∀ Q, R d 88 0 [vR 139, vI x, vI dp, vX 9, vX 9, vX 9, vX 9] [] (WS L σ) Q = Q (some (vI y)) (WS L σ')
theorem frO_oup {b v : Nat} {o : Nat → Nat} : ∀ {n}, b < n → o b = 0 → v ≠ 0 → frO n o = frO n (oup o b v) + 1 := by
  intro n
  induction n with
  | zero => intro h; omega
  | succ n ih =>
    intro h h0 hv
    unfold frO at ih ⊢
    rw [cnt, cnt]
    by_cases hq : b < n
    · rw [ih hq h0 hv]
      have e : oup o b v n = o n := oup_o (by omega)
      simp only [e]
      omega
    · obtain rfl : b = n := by omega
      have e : cnt (fun i => decide (o i = 0)) b = cnt (fun i => decide (oup o b v i = 0)) b := cnt_congr (fun i hi => by rw [oup_o (by omega)])
      have e2 : oup o b v b = v := oup_s
      rw [e]
      simp only [e2, h0, hv]
      simp
theorem fr_cnt {n : Nat} {o : Nat → Nat} (h8 : n ≤ 8) (h : Ov n o) : cntO o + frO n o = n := by
  unfold cntO frO
  have e : ∀ m, n + m ≤ 8 → cnt (fun b => decide (o b ≠ 0)) (n + m) = cnt (fun b => decide (o b ≠ 0)) n := by
    intro m
    induction m with
    | zero => intro _; rfl
    | succ m ih =>
      intro hm
      rw [← Nat.add_assoc, cnt, ih (by omega), h.2 (n + m) (by omega)]
      simp
  have e2 := e (8 - n) (by omega)
  rw [show n + (8 - n) = 8 by omega] at e2
  rw [e2]
  have e3 : ∀ m, cnt (fun b => decide (o b ≠ 0)) m + cnt (fun b => decide (o b = 0)) m = m := by
    intro m
    induction m with
    | zero => rfl
    | succ m ih =>
      rw [cnt, cnt]
      by_cases hq : o m = 0 <;> simp [hq] <;> simp at ih <;> omega
  exact e3 n
theorem tk_all {n : Nat} {o : Nat → Nat} (h8 : n ≤ 8) (h : Ov n o) : (tkO o = 2 ^ n - 1) = (frO n o = 0) := by
  apply propext
  constructor
  · intro e
    unfold frO
    have hz : ∀ m, m ≤ n → cnt (fun b => decide (o b = 0)) m = 0 := by
      intro m
      induction m with
      | zero => intro _; rfl
      | succ m ih =>
        intro hm
        rw [cnt, ih (by omega)]
        have : (tkO o).testBit m = true := by rw [e, all_t]; simp; omega
        unfold tkO at this
        rw [bits_test] at this
        simp at this
        simp [this.2]
    exact hz n (Nat.le_refl _)
  · intro e
    apply tb_ext
    intro i
    unfold tkO
    rw [bits_test, all_t]
    by_cases hi : i < n
    · have : o i ≠ 0 := by
        intro h0
        have := frO_oup (v := 1) hi h0 (by omega)
        omega
      simp [hi, this]
      omega
    · simp [hi, h.2 i (by omega)]
/-- who is left, as the class's mask -/
theorem left_tb {n : Nat} {o : Nat → Nat} {i : Nat} (h8 : n ≤ 8) (h : Ov n o) : ((2 ^ n - 1) ^^^ ((2 ^ n - 1) &&& tkO o)).testBit i = (decide (i < n) && decide (o i = 0)) := by
  unfold tkO
  rw [Nat.testBit_xor, Nat.testBit_and, bits_test, all_t]
  by_cases hi : i < n
  · have : i < 8 := by omega
    by_cases h0 : o i = 0 <;> simp [hi, h0, this]
  · simp [hi]
theorem EI_lt {n : Nat} {W : Nat → Nat → Int} {mv : Nat → Nat} {s0 : Nat} {σ : St} (h : EI n W mv s0 σ) : n ≤ 8 ∧ σ 20 0 = (n : Int) := ⟨h.1, h.2.1⟩
def vE (W : Nat → Nat → Int) (mv : Nat → Nat) (n k : Nat) (o : Nat → Nat) (c b : Nat) : Int := W c (sdO (EF W mv n k (oup o b (c + 1))) c)
theorem r85_l {n : Nat} {W : Nat → Nat → Int} {mv : Nat → Nat} {s0 L d k x c dp : Nat} (ih88 : S88 n W mv s0 L (d + 2) k) (hx : x < 65536) (hO : Ov n (dC x)) (hf : frO n (dC x) = k + 1) (hdp : dp + k + 1 ≤ 8) (hc : c < 3) {lf : Nat} (hlf : ∀ i, lf.testBit i = (decide (i < n) && decide (dC x i = 0))) (hl2 : lf < 256) :
    ∀ m i u8 u9 (σ : St), i + m = 8 → EI n W mv s0 σ → ∃ σ' : St, EI n W mv s0 σ' ∧ Fr141 σ σ' ∧ ∀ Q, R (d + 3) 85 27 [vR 139, vI x, vI c, vI dp, vI lf, vI (bz (amx (fun b => lf.testBit b) (vE W mv n k (dC x) c) i)), vI (mz (vE W mv n k (dC x) c) (amx (fun b => lf.testBit b) (vE W mv n k (dC x) c) i)), vI i, u8, u9] [] (WS L σ) Q = Q (some (vI (bz (amx (fun b => lf.testBit b) (vE W mv n k (dC x) c) 8)))) (WS L σ') := by
  intro m
  induction m with
  | zero =>
    intro i u8 u9 σ hi hE
    obtain rfl : i = 8 := by omega
    refine ⟨σ, hE, fun _ _ => rfl, fun Q => ?_⟩
    rw [b85_27, if_pos (by omega), b85_98]
  | succ m ih =>
    intro i u8 u9 σ hi hE
    have hb : i_and (i_shr lf i) 1 = if lf.testBit i then 1 else 0 := i_bit (by omega) (by omega)
    by_cases hp : lf.testBit i = true
    · have hp2 := hp
      rw [hlf] at hp2
      have hin : i < n := by simp at hp2; exact hp2.1
      have h0 : dC x i = 0 := by simp at hp2; exact hp2.2
      obtain ⟨wl, wd⟩ := withC_r hx (by omega) hc h0
      have hO2 : Ov n (dC (withC x i c)) := by rw [wd]; exact Ov_oup hO hin (by omega)
      have hfr := frO_oup (v := c + 1) hin h0 (by omega)
      obtain ⟨σ1, y, hE1, hF1, hy, hdy, hR⟩ := ih88 σ (withC x i c) (dp + 1) hE wl hO2 (by rw [wd]; omega) (by omega)
      have hmv : ∀ t, t < 8 → mv t < 3 := fun t ht => (hE.2.2.2.2.1 t ht).1
      have hOy : Ov n (dC y) := by rw [hdy]; exact EF_Ov hE.1 hmv _ _ hO2
      have hsl : sdO (dC y) c < 2 ^ n := sdO_lt hOy hE.1
      have h256 := pw8 hE.1
      have hW := hE1.2.2.1 c (sdO (dC y) c) hc hsl
      have hWl := hE1.2.2.2.1 c (sdO (dC y) c) hc hsl
      have hval : W c (sdO (dC y) c) = vE W mv n k (dC x) c i := by rw [hdy, wd]; rfl
      obtain ⟨m1, m2⟩ := mz_step (ok := fun b => lf.testBit b) (v := vE W mv n k (dC x) c) (i := i) (fun _ => by rw [← hval]; exact hWl)
      by_cases hw : mz (vE W mv n k (dC x) c) (amx (fun b => lf.testBit b) (vE W mv n k (dC x) c) i) < vE W mv n k (dC x) c i
      · obtain ⟨σ2, hE2, hF2, hR2⟩ := ih (i + 1) (vI y) (vI (vE W mv n k (dC x) c i)) σ1 (by omega) hE1
        rw [m1 ⟨hp, hw⟩] at hR2
        refine ⟨σ2, hE2, Fr141_t hF1 hF2, fun Q => ?_⟩
        rw [b85_27, if_neg (by omega), b85_34, hb, if_pos hp, if_neg (by simp), b85_45, r87 hx (by omega) hc]
        simp only [am_push_s]
        rw [b85_53 (by omega), show (dp : Int) + 1 = ((dp + 1 : Nat) : Int) by omega, hR]
        simp only [am_push_s]
        rw [b85_59, r90 hy hc]
        simp only [am_push_s]
        rw [b85_72, r57 hc (by omega)]
        simp only [am_push_s]
        rw [b85_75, hW, hval, if_neg (by omega), b85_84, b85_92 (by omega)]
        refine Eq.trans ?_ (hR2 Q)
        unfold bz
        rw [if_neg (by omega)]
        unfold mz
        rw [if_neg (by omega)]
        rfl
      · obtain ⟨σ2, hE2, hF2, hR2⟩ := ih (i + 1) (vI y) (vI (vE W mv n k (dC x) c i)) σ1 (by omega) hE1
        rw [m2 (fun h => hw h.2)] at hR2
        refine ⟨σ2, hE2, Fr141_t hF1 hF2, fun Q => ?_⟩
        rw [b85_27, if_neg (by omega), b85_34, hb, if_pos hp, if_neg (by simp), b85_45, r87 hx (by omega) hc]
        simp only [am_push_s]
        rw [b85_53 (by omega), show (dp : Int) + 1 = ((dp + 1 : Nat) : Int) by omega, hR]
        simp only [am_push_s]
        rw [b85_59, r90 hy hc]
        simp only [am_push_s]
        rw [b85_72, r57 hc (by omega)]
        simp only [am_push_s]
        rw [b85_75, hW, hval, if_pos (by omega), b85_92 (by omega)]
        exact hR2 Q
    · obtain ⟨σ2, hE2, hF2, hR2⟩ := ih (i + 1) u8 u9 σ (by omega) hE
      have m2 : amx (fun b => lf.testBit b) (vE W mv n k (dC x) c) (i + 1) = amx (fun b => lf.testBit b) (vE W mv n k (dC x) c) i := by
        rw [amx, if_neg (fun h => hp h.1)]
      rw [m2] at hR2
      refine ⟨σ2, hE2, hF2, fun Q => ?_⟩
      rw [b85_27, if_neg (by omega), b85_34, hb, if_neg hp, if_pos (by simp), b85_92 (by omega)]
      exact hR2 Q
theorem r85 {n : Nat} {W : Nat → Nat → Int} {mv : Nat → Nat} {s0 L d k x c dp : Nat} (ih88 : S88 n W mv s0 L (d + 2) k) (hx : x < 65536) (hO : Ov n (dC x)) (hf : frO n (dC x) = k + 1) (hdp : dp + k + 1 ≤ 8) (hc : c < 3) (σ : St) (hE : EI n W mv s0 σ) : ∃ σ' : St, EI n W mv s0 σ' ∧ Fr141 σ σ' ∧ ∀ Q, R (d + 3) 85 0 [vR 139, vI x, vI c, vI dp, vX 9, vX 9, vX 9, vX 9, vX 9, vX 9] [] (WS L σ) Q = Q (some (vI (bz (chF W mv n k (dC x) c)))) (WS L σ') := by
  have h256 := pw8 hE.1
  have h1 := pw1 n
  have hl2 : (2 ^ n - 1) ^^^ ((2 ^ n - 1) &&& tkO (dC x)) < 256 := by
    have := Nat.xor_lt_two_pow (n := 8) (show 2 ^ n - 1 < 2 ^ 8 by omega) (Nat.lt_of_le_of_lt Nat.and_le_left (show 2 ^ n - 1 < 2 ^ 8 by omega) : (2 ^ n - 1) &&& tkO (dC x) < 2 ^ 8)
    exact this
  obtain ⟨σ', hE', hF, hR⟩ := r85_l ih88 hx hO hf hdp hc (lf := (2 ^ n - 1) ^^^ ((2 ^ n - 1) &&& tkO (dC x))) (fun i => left_tb hE.1 hO) hl2 8 0 (vX 9) (vX 9) σ (by omega) hE
  refine ⟨σ', hE', hF, fun Q => ?_⟩
  have htk : tkO (dC x) < 2 ^ 8 := bits_lt _ 8
  rw [b85_0, r34 hE.2.1 hE.1]
  simp only [am_push_s]
  rw [b85_7, r86 hx]
  simp only [am_push_s]
  rw [b85_11, i_andn_nat (by omega) (by omega)]
  refine Eq.trans (hR Q) ?_
  have e : amx (fun b => ((2 ^ n - 1) ^^^ ((2 ^ n - 1) &&& tkO (dC x))).testBit b) (vE W mv n k (dC x) c) 8 = chF W mv n k (dC x) c := by
    rw [amx_8 (n := n) hE.1 (fun i hi => by rw [left_tb hE.1 hO]; simp; omega)]
    exact amx_congr (fun i hi => by rw [left_tb hE.1 hO]; simp [hi]) (fun i hi _ => rfl)
  rw [e]
theorem tk_cnt {o : Nat → Nat} : cnt (fun b => (tkO o).testBit b) 8 = cntO o := by
  unfold tkO cntO
  refine cnt_congr (fun i hi => ?_)
  rw [bits_test]
  simp [hi]
theorem r89 {x : Nat} (hx : x < 65536) : R (d + 1) 89 0 [vR 139, vI x, vX 9] [] (WS L σ) Q = Q (some (vI (if cntO (dC x) < 8 then σ 140 (cntO (dC x)) else 0))) (WS L σ) := by
  have htk : tkO (dC x) < 2 ^ 8 := bits_lt _ 8
  rw [b89_0, r86 hx]
  simp only [am_push_s]
  rw [b89_4, r42 htk, tk_cnt]
  simp only [am_push_s]
  rw [b89_7, r13]
  simp only [am_push_s]
  rw [b89_17]
  simp only [tI_0]
  by_cases h : cntO (dC x) < 8
  · rw [if_neg (by omega), b89_20 (by omega) (by omega), b89_30, if_pos h]
  · rw [if_pos (by omega), b89_29, b89_30, if_neg h]
theorem and_65535 {r : Nat} (h : r < 2147483648) : i_and r 65535 = ((r % 65536 : Nat) : Int) := by
  have := i_and_nat (a := r) (b := 65535) h (by omega)
  rw [show (65535 : Nat) = 2 ^ 16 - 1 from rfl, Nat.and_two_pow_sub_one_eq_mod] at this
  exact this
theorem stamp_or {s y : Nat} (hs : s < 30000) (hy : y < 65536) : i_or (i_shl s 16) y = ((s * 65536 + y : Nat) : Int) := by
  have e1 : i_shl s 16 = ((s * 2 ^ 16 : Nat) : Int) := i_shl_nat (a := s) (b := 16) (by omega) (by omega)
  have e2 := Nat.two_pow_add_eq_or_of_lt (i := 16) (b := y) (by omega) s
  rw [e1, i_or_nat (by omega) (by omega)]
  rw [Nat.mul_comm s (2 ^ 16), ← e2]
theorem EI_put {n : Nat} {W : Nat → Nat → Int} {mv : Nat → Nat} {s0 x y : Nat} (h : EI n W mv s0 σ) (hy : y < 65536) (hd : dC y = EF W mv n (frO n (dC x)) (dC x)) : EI n W mv s0 (st2 σ 141 x ((s0 * 65536 + y : Nat) : Int)) := by
  obtain ⟨h1, h2, h3, h4, h5, h6, h7, h8⟩ := h
  refine ⟨h1, by rw [st2_k (by omega)]; exact h2, ?_, h4, ?_, by rw [st2_k (by omega)]; exact h6, h7, ?_⟩
  · intro c z hc hz
    rw [st2_k (by omega)]
    exact h3 c z hc hz
  · intro t ht
    rw [st2_k (by omega)]
    exact h5 t ht
  · intro z hz
    by_cases hzx : z = x
    · subst hzx
      refine ⟨s0 * 65536 + y, st2_eq, by omega, fun _ _ => ?_⟩
      rw [show (s0 * 65536 + y) % 65536 = y by omega]
      exact hd
    · rw [st2_i (by omega)]
      exact h8 z hz
theorem s88 {n : Nat} {W : Nat → Nat → Int} {mv : Nat → Nat} {s0 L : Nat} : ∀ k d, S88 n W mv s0 L (d + 2 * k + 3) k := by
  intro k
  induction k with
  | zero =>
    intro d σ x dp hE hx hO hf hdp
    have e : tkO (dC x) = 2 ^ n - 1 := by rw [tk_all hE.1 hO]; exact hf
    refine ⟨σ, x, hE, fun _ _ => rfl, hx, rfl, fun Q => ?_⟩
    rw [show d + 2 * 0 + 3 = d + 2 + 1 by omega, b88_0, r86 hx]
    simp only [am_push_s]
    rw [b88_4, r34 hE.2.1 hE.1]
    simp only [am_push_s]
    rw [b88_11, if_neg (by rw [e]; simp), b88_14, b88_19, if_pos (by omega), b88_42]
  | succ k ih =>
    intro d σ x dp hE hx hO hf hdp
    have h256 := pw8 hE.1
    have h1n := pw1 n
    have e : ¬ tkO (dC x) = 2 ^ n - 1 := by rw [tk_all hE.1 hO]; omega
    have hcn := fr_cnt hE.1 hO
    have h8n := hE.1
    have e3 : d + 2 * (k + 1) + 3 = (d + 2 * k + 2) + 2 + 1 := by omega
    have head : ∀ Q, R ((d + 2 * k + 2) + 2 + 1) 88 0 [vR 139, vI x, vI dp, vX 9, vX 9, vX 9, vX 9] [] (WS L σ) Q = R ((d + 2 * k + 2) + 2 + 1) 88 44 [vR 139, vI x, vI dp, vI 0, vX 9, vX 9, vX 9] [] (WS L σ) Q := by
      intro Q
      rw [b88_0, r86 hx]
      simp only [am_push_s]
      rw [b88_4, r34 hE.2.1 hE.1]
      simp only [am_push_s]
      rw [b88_11, if_pos (by omega), b88_18, b88_19, if_neg (by omega), b88_24, if_neg (by omega), b88_30, r13]
      simp only [am_push_s]
      rw [b88_39]
      simp only [tI_0]
      rw [if_pos (by omega)]
    obtain ⟨r, hr1, hr2, hr3⟩ := hE.2.2.2.2.2.2.2 x hx
    have hs0 := hE.2.2.2.2.2.1
    have hs1 := hE.2.2.2.2.2.2.1
    have eu : i_ushr (σ 141 x) 16 = ((r / 65536 : Nat) : Int) := by
      rw [hr1]
      exact i_ushr_nat (a := r) (b := 16) (by omega) (by omega) (by omega)
    rw [hf] at hr3
    by_cases hm : r / 65536 = s0
    · refine ⟨σ, r % 65536, hE, fun _ _ => rfl, Nat.mod_lt _ (by omega), hr3 hO hm, fun Q => ?_⟩
      rw [e3, head, b88_44 (by omega) (by omega), eu, hs0, if_neg (by omega), b88_60 (by omega) (by omega), hr1, and_65535 (by omega)]
    · have hmv := (hE.2.2.2.2.1 (cntO (dC x)) (by omega))
      obtain ⟨σ1, hE1, hF1, hR1⟩ := r85 (ih d) hx hO hf hdp hmv.1 σ hE
      have step : ∀ Q, R ((d + 2 * k + 2) + 2 + 1) 88 44 [vR 139, vI x, vI dp, vI 0, vX 9, vX 9, vX 9] [] (WS L σ) Q = R ((d + 2 * k + 2) + 2 + 1) 88 85 [vR 139, vI x, vI dp, vI 0, vI (mv (cntO (dC x))), vX 9, vX 9] [vI (bz (chF W mv n k (dC x) (mv (cntO (dC x)))))] (WS L σ1) Q := by
        intro Q
        rw [b88_44 (by omega) (by omega), eu, hs0, if_pos (by omega), b88_70, r89 hx, if_pos (by omega)]
        simp only [am_push_s]
        rw [b88_75, hmv.2]
        refine (hR1 _).trans ?_
        simp only [am_push_s]
      by_cases hch : chF W mv n k (dC x) (mv (cntO (dC x))) < 0
      · have hEF : EF W mv n (k + 1) (dC x) = dC x := by rw [EF_s, if_pos hch]
        refine ⟨st2 σ1 141 x ((s0 * 65536 + x : Nat) : Int), x, EI_put hE1 hx (by rw [hf, hEF]), ?_, hx, hEF.symm, fun Q => ?_⟩
        · intro a ha
          funext j
          rw [st2_k ha, hF1 a ha]
        · rw [e3, head, step, b88_85]
          unfold bz
          rw [if_pos hch, if_neg (by omega), b88_92, b88_111 (by omega) (by omega), b88_129, hE1.2.2.2.2.2.1, stamp_or hs1 hx]
      · have hcr := chF_r (W := W) (mv := mv) (n := n) (k := k) (o := dC x) (c := mv (cntO (dC x)))
        generalize hq : chF W mv n k (dC x) (mv (cntO (dC x))) = q at hch hcr step
        obtain ⟨b, rfl⟩ : ∃ b : Nat, q = (b : Int) := ⟨q.toNat, by omega⟩
        have hbn : b < n := by omega
        have h0 : dC x b = 0 := by have := hcr.2.2 (by omega); rwa [Int.toNat_natCast] at this
        obtain ⟨wl, wd⟩ := withC_r hx (by omega) hmv.1 h0
        have hO2 : Ov n (dC (withC x b (mv (cntO (dC x))))) := by rw [wd]; exact Ov_oup hO hbn (by omega)
        have hfr := frO_oup (v := mv (cntO (dC x)) + 1) hbn h0 (by omega)
        obtain ⟨σ2, y, hE2, hF2, hy, hdy, hR2⟩ := ih (d + 1) σ1 (withC x b (mv (cntO (dC x)))) (dp + 1) hE1 wl hO2 (by rw [wd]; omega) (by omega)
        have hEF : dC y = EF W mv n (k + 1) (dC x) := by
          rw [EF_s, hq, if_neg (by omega), hdy, wd, Int.toNat_natCast]
        refine ⟨st2 σ2 141 x ((s0 * 65536 + y : Nat) : Int), y, EI_put hE2 hy (by rw [hf]; exact hEF), ?_, hy, hEF, fun Q => ?_⟩
        · intro a ha
          funext j
          rw [st2_k ha, hF2 a ha, hF1 a ha]
        · rw [e3, head, step, b88_85]
          rw [show bz (b : Int) = b from if_neg (by omega), if_pos (by omega), b88_96, r87 hx (by omega) hmv.1]
          simp only [am_push_s]
          rw [b88_105 (by omega), show (dp : Int) + 1 = ((dp + 1 : Nat) : Int) by omega]
          have hR3 := hR2 (fun r w => R (d + 2 * k + 2 + 2 + 1) 88 111 [vR 139, vI x, vI dp, vI 0, vI (mv (cntO (dC x))), vI b, vX 9] (am_push r []) w Q)
          rw [show d + 1 + 2 * k + 3 = d + 2 * k + 2 + 2 by omega] at hR3
          refine hR3.trans ?_
          simp only [am_push_s]
          rw [b88_111 (by omega) (by omega), b88_129, hE2.2.2.2.2.2.1, stamp_or hs1 hy]
end EN
