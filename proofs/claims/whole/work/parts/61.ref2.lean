/-! the reference: what a side is worth -/
theorem and_any {x n : Nat} {p : Nat → Bool} : (x &&& bits p n = 0) ↔ anyN (fun b => x.testBit b && p b) n = false := by
  constructor
  · intro h
    refine anyN_f (fun i hi => ?_)
    have : (x &&& bits p n).testBit i = false := by rw [h]; simp
    rw [Nat.testBit_and, bits_test] at this
    simpa [hi] using this
  · intro h
    apply tb_ext
    intro i
    rw [Nat.testBit_and, bits_test, Nat.zero_testBit]
    by_cases hi : i < n
    · cases e : (x.testBit i && p i) with
      | false => simpa [hi] using e
      | true =>
        exfalso
        have : anyN (fun b => x.testBit b && p b) n = true := by
          rw [anyN_iff]
          exact ⟨i, hi, e⟩
        rw [h] at this
        simp at this
    · simp [hi]
/-- what the marks say of a boy -/
def mkS (T : Nat → Nat → Int) (b : Nat) : List Cl → Int
  | [] => 0
  | c :: l => (if c.1 = 0 then (if evT (tsT T b) c.2.2 = true then (c.2.1 : Int) else 0) else 0) + mkS T b l
def bV (x : Nat) : List (Int × Int × Int) → Int
  | [] => 0
  | c :: l => (if (x.testBit c.2.1.toNat && x.testBit c.2.2.toNat) = true then c.1 else 0) + bV x l
def kV (T : Nat → Nat → Int) (n x : Nat) : List (Int × Int) → Int
  | [] => 0
  | c :: l => (if anyN (fun b => x.testBit b && decide (T 0 b = c.2)) n = true then 0 else c.1) + kV T n x l
theorem sumN_add {f g : Nat → Int} : ∀ n, sumN (fun b => f b + g b) n = sumN f n + sumN g n
  | 0 => rfl
  | n + 1 => by
    rw [sumN, sumN, sumN, sumN_add n]
    omega
theorem sumN_0 : ∀ n, sumN (fun _ => 0) n = 0
  | 0 => rfl
  | n + 1 => by rw [sumN, sumN_0 n]; rfl
theorem cnt_cut {p : Nat → Bool} {n : Nat} (h8 : n ≤ 8) (h : ∀ i, n ≤ i → p i = false) : cnt p 8 = cnt p n := by
  have e : ∀ m, n + m ≤ 8 → cnt p (n + m) = cnt p n := by
    intro m
    induction m with
    | zero => intro _; rfl
    | succ m ih =>
      intro hm
      rw [← Nat.add_assoc, cnt, ih (by omega), h (n + m) (by omega)]
      rfl
  have e2 := e (8 - n) (by omega)
  rwa [show n + (8 - n) = 8 by omega] at e2
theorem cnt_sum {p : Nat → Bool} {v : Int} : ∀ n, v * (cnt p n : Int) = sumN (fun b => if p b = true then v else 0) n
  | 0 => by simp [cnt, sumN]
  | n + 1 => by
    rw [cnt, sumN, ← cnt_sum n]
    by_cases h : p n = true
    · rw [if_pos h, if_pos h, Int.natCast_add, Int.mul_add]
      simp
    · rw [if_neg h, if_neg h]
      simp
theorem sumCl_e {T : Nat → Nat → Int} {n x : Nat} (h8 : n ≤ 8) : ∀ (l : List Cl), (∀ c, c ∈ l → CG c) → sumCl T n x l = sumN (fun b => if x.testBit b = true then mkS T b l else 0) n + bV x (eB l) - kV T n x (eK l)
  | [], _ => by
    have e : sumN (fun b => if x.testBit b = true then mkS T b [] else 0) n = 0 := by
      rw [sumN_congr (g := fun _ => 0) (fun b _ => by simp [mkS]), sumN_0]
    rw [e]
    simp [sumCl, eB, eK, bV, kV]
  | c :: l, h => by
    have ih := sumCl_e (T := T) (n := n) (x := x) h8 l (fun c hc => h c (List.mem_cons_of_mem _ hc))
    have hc := h c (List.mem_cons_self ..)
    have es : sumN (fun b => if x.testBit b = true then mkS T b (c :: l) else 0) n = sumN (fun b => if x.testBit b = true then (if c.1 = 0 then (if evT (tsT T b) c.2.2 = true then (c.2.1 : Int) else 0) else 0) else 0) n + sumN (fun b => if x.testBit b = true then mkS T b l else 0) n := by
      rw [← sumN_add]
      refine sumN_congr (fun b _ => ?_)
      rw [mkS]
      split <;> simp
    rw [sumCl, ih, es]
    rcases hc.2 with ⟨h1, -⟩ | ⟨h1, a, b, ha, hb, h2⟩ | ⟨h1, k, hk, h2⟩
    · have ev : clV T n x c = sumN (fun b => if x.testBit b = true then (if c.1 = 0 then (if evT (tsT T b) c.2.2 = true then (c.2.1 : Int) else 0) else 0) else 0) n := by
        unfold clV clM
        rw [if_pos h1, if_pos h1, cnt_cut h8 (fun i hi => by unfold mkE; rw [Nat.testBit_and, bits_test]; simp; omega), cnt_sum]
        refine sumN_congr (fun b hb => ?_)
        unfold mkE
        rw [Nat.testBit_and, bits_test]
        cases x.testBit b <;> cases evT (tsT T b) c.2.2 <;> simp [hb, h1]
      have e1 : eB (c :: l) = eB l := by rw [eB, if_neg (by omega)]
      have e2 : eK (c :: l) = eK l := by rw [eK, if_neg (by omega)]
      rw [ev, e1, e2]
      omega
    · have ez : sumN (fun b => if x.testBit b = true then (if c.1 = 0 then (if evT (tsT T b) c.2.2 = true then (c.2.1 : Int) else 0) else 0) else 0) n = 0 := by
        rw [sumN_congr (g := fun _ => 0) (fun b _ => by rw [if_neg (show ¬ c.1 = 0 by omega)]; simp), sumN_0]
      have e1 : eB (c :: l) = ((c.2.1 : Int), (a : Int), (b : Int)) :: eB l := by rw [eB, if_pos h1, h2]; rfl
      have e2 : eK (c :: l) = eK l := by rw [eK, if_neg (by omega)]
      have ev : clV T n x c = if (x.testBit a && x.testBit b) = true then (c.2.1 : Int) else 0 := by
        have em : clM T n c = 2 ^ a ||| 2 ^ b := by
          unfold clM
          rw [if_neg (by omega), if_pos h1, h2]
          simp
        unfold clV
        rw [if_neg (by omega), if_pos h1, em]
        have : (x &&& (2 ^ a ||| 2 ^ b) = 2 ^ a ||| 2 ^ b) ↔ (x.testBit a && x.testBit b) = true := by
          constructor
          · intro h
            have h3 : (x &&& (2 ^ a ||| 2 ^ b)).testBit a = true := by rw [h, Nat.testBit_or, Nat.testBit_two_pow]; simp
            have h4 : (x &&& (2 ^ a ||| 2 ^ b)).testBit b = true := by rw [h, Nat.testBit_or, Nat.testBit_two_pow, Nat.testBit_two_pow]; simp
            rw [Nat.testBit_and] at h3 h4
            simp at h3 h4
            rw [h3, h4]; rfl
          · intro h
            simp only [Bool.and_eq_true] at h
            apply tb_ext
            intro i
            rw [Nat.testBit_and, Nat.testBit_or, Nat.testBit_two_pow, Nat.testBit_two_pow]
            by_cases ia : a = i
            · subst ia
              simp [h.1]
            · by_cases ib : b = i
              · subst ib
                simp [h.2]
              · simp [ia, ib]
        by_cases q : (x.testBit a && x.testBit b) = true
        · rw [if_pos (this.mpr q), if_pos q]
        · rw [if_neg (fun z => q (this.mp z)), if_neg q]
      rw [ez, ev, e1, e2, bV]
      simp only [Int.toNat_natCast]
      omega
    · have ez : sumN (fun b => if x.testBit b = true then (if c.1 = 0 then (if evT (tsT T b) c.2.2 = true then (c.2.1 : Int) else 0) else 0) else 0) n = 0 := by
        rw [sumN_congr (g := fun _ => 0) (fun b _ => by rw [if_neg (show ¬ c.1 = 0 by omega)]; simp), sumN_0]
      have e1 : eB (c :: l) = eB l := by rw [eB, if_neg (by omega)]
      have e2 : eK (c :: l) = ((c.2.1 : Int), (k : Int)) :: eK l := by rw [eK, if_pos h1, h2]; rfl
      have ev : clV T n x c = if anyN (fun b => x.testBit b && decide (T 0 b = (k : Int))) n = true then 0 else -(c.2.1 : Int) := by
        have em : clM T n c = bits (fun b => decide (T 0 b = (k : Int))) n := by
          unfold clM
          rw [if_neg (by omega), if_neg (by omega), h2]
          rfl
        unfold clV
        rw [if_neg (by omega), if_neg (by omega), em]
        by_cases q : x &&& bits (fun b => decide (T 0 b = (k : Int))) n = 0
        · rw [if_pos q, if_neg (by rw [and_any.mp q]; simp)]
        · rw [if_neg q, if_pos]
          cases e : anyN (fun b => x.testBit b && decide (T 0 b = (k : Int))) n with
          | true => rfl
          | false => exact absurd (and_any.mpr e) q
      rw [ez, ev, e1, e2, kV]
      split <;> omega
section RA2
variable {d L N : Nat} {s s' : Int → Int} {cl cl' : Nat → List Cl} {σ σ1 : St} {Q : Option AV → AW → Prop}
theorem r171_l {x : Nat} {p : Int} {n : Nat} (hn : s 0 = (n : Int)) (h8 : n ≤ 8) (hx : x < 256) : ∀ (j k : Nat), k + j = n → R d 171 5 [vR 153, vI x, vI p, vI (if anyN (fun b => x.testBit b && decide (s (130 + b) = p)) k = true then 1 else 0), vI k] [] (WS L (setS σ s)) Q = Q (some (vI (if anyN (fun b => x.testBit b && decide (s (130 + b) = p)) n = true then 1 else 0))) (WS L (setS σ s)) := by
  have e0 : setS σ s 154 0 = s 0 := by rw [ss_e]
  intro j
  induction j with
  | zero =>
    intro k hk
    obtain rfl : k = n := by omega
    rw [b171_5, e0, if_pos (by omega), b171_57 (by split <;> rfl)]
  | succ j ih =>
    intro k hk
    have e4 : setS σ s 154 (130 + k) = s (130 + k) := by rw [ss_e]
    have hb : i_and (i_shr x k) 1 = if x.testBit k then 1 else 0 := i_bit (by omega) (by omega)
    have e := ih (k + 1) (by omega)
    have t : R d 171 45 [vR 153, vI x, vI p, vI (if anyN (fun b => x.testBit b && decide (s (130 + b) = p)) k = true then 1 else 0), vI k] [] (WS L (setS σ s)) Q = R d 171 5 [vR 153, vI x, vI p, vI 1, vI ((k : Int) + 1)] [] (WS L (setS σ s)) Q := by rw [b171_45, b171_50 (by omega)]
    have f : R d 171 49 [vR 153, vI x, vI p, vI (if anyN (fun b => x.testBit b && decide (s (130 + b) = p)) k = true then 1 else 0), vI k] [] (WS L (setS σ s)) Q = R d 171 5 [vR 153, vI x, vI p, vI 0, vI ((k : Int) + 1)] [] (WS L (setS σ s)) Q := by rw [b171_49, b171_50 (by omega)]
    rw [b171_5, e0, if_neg (by omega), b171_16]
    rw [anyN] at e
    by_cases q1 : anyN (fun b => x.testBit b && decide (s (130 + b) = p)) k = true
    · rw [q1] at e
      rw [if_pos (by rw [if_pos q1]; omega), t]
      exact e
    · have q1' : anyN (fun b => x.testBit b && decide (s (130 + b) = p)) k = false := by simpa using q1
      rw [q1'] at e
      rw [if_neg (by rw [if_neg q1]; omega), b171_20, hb]
      by_cases q2 : x.testBit k = true
      · rw [if_neg (by simp [q2]), b171_30 (by omega) (by omega) (by omega), e4]
        by_cases q3 : s (130 + k) = p
        · rw [if_neg (by simpa using q3), t]
          simpa [q2, q3] using e
        · rw [if_pos q3, f]
          simpa [q2, q3] using e
      · rw [if_pos (by simp [q2]), f]
        simpa [q2] using e
theorem r171 {x : Nat} {p : Int} {n : Nat} (hn : s 0 = (n : Int)) (h8 : n ≤ 8) (hx : x < 256) : R d 171 0 [vR 153, vI x, vI p, vX 9, vX 9] [] (WS L (setS σ s)) Q = Q (some (vI (if anyN (fun b => x.testBit b && decide (s (130 + b) = p)) n = true then 1 else 0))) (WS L (setS σ s)) := by
  rw [b171_0]
  exact r171_l hn h8 hx n 0 (by omega)
/-- the truths on the stack -/
def STK (σ : St) (l : List Bool) : Prop := ∀ (i : Nat) (b : Bool), l[i]? = some b → σ 156 ((l.length : Int) - 1 - i) = if b = true then 1 else 0
theorem STK_push {l : List Bool} {b : Bool} (h : STK σ l) : STK (st2 σ 156 (l.length : Int) (if b = true then 1 else 0)) (b :: l) := by
  intro i c hi
  cases i with
  | zero =>
    simp only [List.getElem?_cons_zero, Option.some.injEq] at hi
    subst hi
    rw [show (((b :: l).length : Nat) : Int) - 1 - ((0 : Nat) : Int) = (l.length : Int) by simp, st2_eq]
  | succ i =>
    simp only [List.getElem?_cons_succ] at hi
    have := lt_of_some hi
    rw [show (((b :: l).length : Nat) : Int) - 1 - ((i + 1 : Nat) : Int) = (l.length : Int) - 1 - i by simp; omega, st2_i (by omega)]
    exact h i c hi
theorem STK_tail {l : List Bool} {b : Bool} (h : STK σ (b :: l)) : STK σ l := by
  intro i c hi
  have := h (i + 1) c (by simpa using hi)
  rwa [show (((b :: l).length : Nat) : Int) - 1 - ((i + 1 : Nat) : Int) = (l.length : Int) - 1 - i by simp; omega] at this
theorem STK_head {l : List Bool} {b : Bool} (h : STK σ (b :: l)) : σ 156 (l.length : Int) = if b = true then 1 else 0 := by
  have := h 0 b rfl
  rwa [show (((b :: l).length : Nat) : Int) - 1 - ((0 : Nat) : Int) = (l.length : Int) by simp] at this
/-- one step of the marks -/
theorem r170_1 {y b : Nat} {sm z : Int} {i m : Nat} {stk : List Bool} {u6 u7 u8 u9 u10 : AV} (hy : y < 6) (hb : b < 8) (hm : m ≤ 120) (hi : i < m) (hsm : s (523 + y) = (m : Int)) (hs : s (529 + 140 * y + i) = z) (hz : -10 < z ∧ z < 10000) (hw : stk.length + (if 0 ≤ z then 1 else 0) ≤ 64) (hh : htS [z] stk.length ≠ none) (hST : STK σ stk) : ∃ (σ' : St) (v6 v7 v8 v9 v10 : AV), (∀ a, a ≠ 156 → σ' a = σ a) ∧ STK σ' (ev1 (tsT (trS s) b) z stk) ∧ ∀ Q, R d 170 16 [vR 153, vI y, vI b, vI sm, vI stk.length, vI (529 + 140 * (y : Int) + i), u6, u7, u8, u9, u10] [] (WS L (setS σ s)) Q = R d 170 16 [vR 153, vI y, vI b, vI sm, vI (ev1 (tsT (trS s) b) z stk).length, vI (529 + 140 * (y : Int) + (i + 1 : Nat)), v6, v7, v8, v9, v10] [] (WS L (setS σ' s)) Q := by
  have e1 : setS σ s 154 (523 + y) = (m : Int) := by rw [ss_e]; exact hsm
  have e2 : setS σ s 154 (529 + 140 * (y : Int) + i) = z := by rw [ss_e]; exact hs
  have start : ∀ Q, R d 170 16 [vR 153, vI y, vI b, vI sm, vI stk.length, vI (529 + 140 * (y : Int) + i), u6, u7, u8, u9, u10] [] (WS L (setS σ s)) Q = if z < 0 then R d 170 220 [vR 153, vI y, vI b, vI sm, vI stk.length, vI (529 + 140 * (y : Int) + i), vI z, u7, u8, u9, u10] [] (WS L (setS σ s)) Q else R d 170 55 [vR 153, vI y, vI b, vI sm, vI stk.length, vI (529 + 140 * (y : Int) + i), vI z, u7, u8, u9, u10] [] (WS L (setS σ s)) Q := by
    intro Q
    rw [b170_16 (by omega) (by omega) (by omega) (by omega) (by omega) (by omega), e1, if_neg (by omega), b170_41 (by omega) (by omega), e2]
  have nx : ∀ (σ' : St) (tp : Int) (w6 w7 w8 w9 w10 : AV) (Q : Option AV → AW → Prop), R d 170 365 [vR 153, vI y, vI b, vI sm, vI tp, vI (529 + 140 * (y : Int) + i), w6, w7, w8, w9, w10] [] (WS L (setS σ' s)) Q = R d 170 16 [vR 153, vI y, vI b, vI sm, vI tp, vI (529 + 140 * (y : Int) + (i + 1 : Nat)), w6, w7, w8, w9, w10] [] (WS L (setS σ' s)) Q := by
    intro σ' tp w6 w7 w8 w9 w10 Q
    rw [b170_365 (by omega), show 529 + 140 * (y : Int) + i + 1 = 529 + 140 * (y : Int) + ((i + 1 : Nat) : Int) by omega]
  by_cases hz0 : 0 ≤ z
  · rw [if_pos hz0] at hw
    obtain ⟨w, rfl⟩ : ∃ w : Nat, z = (w : Int) := ⟨z.toNat, by omega⟩
    have r1 : i_rem (w : Int) 4 = ((w % 4 : Nat) : Int) := i_rem_nat (b := 4) (by omega) (by omega)
    have r2 : i_div (w : Int) 4 = ((w / 4 : Nat) : Int) := i_div_nat (b := 4) (by omega) (by omega)
    have r3 : i_rem ((w / 4 : Nat) : Int) 4 = ((w / 4 % 4 : Nat) : Int) := i_rem_nat (b := 4) (by omega) (by omega)
    have r4 : i_div (w : Int) 16 = ((w / 16 : Nat) : Int) := i_div_nat (b := 16) (by omega) (by omega)
    have ev : ev1 (tsT (trS s) b) (w : Int) stk = tsT (trS s) b (w : Int) :: stk := by unfold ev1; rw [if_pos hz0]
    -- which trait
    have key : ∀ Q, R d 170 16 [vR 153, vI y, vI b, vI sm, vI stk.length, vI (529 + 140 * (y : Int) + i), u6, u7, u8, u9, u10] [] (WS L (setS σ s)) Q = R d 170 137 [vR 153, vI y, vI b, vI sm, vI stk.length, vI (529 + 140 * (y : Int) + i), vI (w : Int), vI ((w % 4 : Nat) : Int), u8, u9, u10] [vI (trS s (w % 4) b)] (WS L (setS σ s)) Q := by
      intro Q
      rw [start, if_neg (by omega), b170_55, r1]
      have h4 : w % 4 = 0 ∨ w % 4 = 1 ∨ w % 4 = 2 ∨ w % 4 = 3 := by omega
      rcases h4 with e | e | e | e
      · rw [e, if_neg (by omega), b170_66 (by omega) (by omega) (by omega), ss_e]
        rfl
      · rw [e, if_pos (by omega), b170_79, if_neg (by omega), b170_85 (by omega) (by omega) (by omega), ss_e]
        rfl
      · have e4 : setS σ s 154 (146 + b) = s (146 + b) := by rw [ss_e]
        rw [e, if_pos (by omega), b170_79, if_pos (by omega), b170_98, if_neg (by omega), b170_104 (by omega) (by omega) (by omega), e4]
        have et : trS s 2 b = if s (146 + b) = -1 then 9 else s (146 + b) := rfl
        rw [et]
        by_cases q : s (146 + b) = -1
        · rw [if_neg (by simpa using q), b170_118, if_pos q]
        · rw [if_pos q, b170_123 (by omega) (by omega) (by omega), e4, if_neg q]
      · rw [e, if_pos (by omega), b170_79, if_pos (by omega), b170_98, if_pos (by omega), b170_136]
        rfl
    have cmp : ∀ Q, R d 170 137 [vR 153, vI y, vI b, vI sm, vI stk.length, vI (529 + 140 * (y : Int) + i), vI (w : Int), vI ((w % 4 : Nat) : Int), u8, u9, u10] [vI (trS s (w % 4) b)] (WS L (setS σ s)) Q = R d 170 213 [vR 153, vI y, vI b, vI sm, vI stk.length, vI (529 + 140 * (y : Int) + i), vI (w : Int), vI ((w % 4 : Nat) : Int), vI (trS s (w % 4) b), vI ((w / 4 % 4 : Nat) : Int), vI ((w / 16 : Nat) : Int)] [vI (if tsT (trS s) b (w : Int) = true then 1 else 0), vI stk.length, vR 156] (WS L (setS σ s)) Q := by
      intro Q
      unfold tsT
      rw [Int.toNat_natCast, b170_137, r2, r3, r4]
      by_cases c0 : w / 4 % 4 = 0
      · rw [if_neg (by omega), if_pos c0, b170_165]
        by_cases c1 : trS s (w % 4) b < ((w / 16 : Nat) : Int)
        · rw [if_neg (by omega), b170_172, if_pos (decide_eq_true c1)]
        · rw [if_pos (by omega), b170_176, if_neg (by simpa using c1)]
      · rw [if_pos (by omega), if_neg c0, b170_180]
        by_cases c2 : w / 4 % 4 = 1
        · rw [if_neg (by omega), if_pos c2, b170_186]
          by_cases c1 : trS s (w % 4) b = ((w / 16 : Nat) : Int)
          · rw [if_neg (by simpa using c1), b170_193, if_pos (decide_eq_true c1)]
          · rw [if_pos c1, b170_197, if_neg (by simpa using c1)]
        · rw [if_pos (by omega), if_neg c2, b170_201]
          by_cases c1 : ((w / 16 : Nat) : Int) < trS s (w % 4) b
          · rw [if_neg (by omega), b170_208, if_pos (decide_eq_true c1)]
          · rw [if_pos (by omega), b170_212, if_neg (by simpa using c1)]
    refine ⟨st2 σ 156 (stk.length : Int) (if tsT (trS s) b (w : Int) = true then 1 else 0), vI (w : Int), vI ((w % 4 : Nat) : Int), vI (trS s (w % 4) b), vI ((w / 4 % 4 : Nat) : Int), vI ((w / 16 : Nat) : Int), fun a ha => by funext j; exact st2_k ha, by rw [ev]; exact STK_push hST, fun Q => ?_⟩
    rw [key, cmp, b170_213 (by omega) (by omega) (by split <;> rfl), ss_ot (by omega), b170_214 (by omega), nx, ev]
    rfl
  · by_cases hz1 : z = -1
    · cases stk with
      | nil => exact absurd (by rw [hz1]; rfl) hh
      | cons a l =>
        have hd := STK_head hST
        have hw' : l.length + 1 ≤ 64 := by rw [if_neg hz0] at hw; simpa using hw
        have ev : ev1 (tsT (trS s) b) z (a :: l) = (!a) :: l := by unfold ev1; rw [if_neg hz0, if_pos hz1]
        have ex : setS σ s 156 (l.length : Int) = if a = true then 1 else 0 := by rw [ss_o (by omega)]; exact hd
        have el : (((a :: l).length : Nat) : Int) - 1 = (l.length : Int) := by simp
        refine ⟨st2 σ 156 (l.length : Int) (if (!a) = true then 1 else 0), vI z, u7, u8, u9, u10, fun a ha => by funext j; exact st2_k ha, by rw [ev]; exact STK_push (STK_tail hST), fun Q => ?_⟩
        rw [start, if_pos (by omega), b170_220, if_neg (by omega), b170_226 (by rw [el]; omega) (by rw [el]; omega) (by rw [el]; omega), el, ex, ev]
        cases a with
        | true =>
          rw [if_pos (by simp), b170_250, b170_251 (by omega) (by omega) rfl, ss_ot (by omega), b170_252, nx]
          rfl
        | false =>
          rw [if_neg (by simp), b170_246, b170_251 (by omega) (by omega) rfl, ss_ot (by omega), b170_252, nx]
          rfl
    · match stk, hh, hST, hw with
      | [], hh, _, _ => exact absurd (by simp [htS, hz0, hz1]) hh
      | [_], hh, _, _ => exact absurd (by simp [htS, hz0, hz1]) hh
      | b2 :: b1 :: l, hh, hST, hw =>
        have hw' : l.length + 2 ≤ 64 := by rw [if_neg hz0] at hw; simpa using hw
        have hd2 := STK_head hST
        have hd1 := STK_head (STK_tail hST)
        have ev : ev1 (tsT (trS s) b) z (b2 :: b1 :: l) = (if z = -2 then b1 && b2 else b1 || b2) :: l := by unfold ev1; rw [if_neg hz0, if_neg hz1]
        have ex2 : setS σ s 156 ((l.length : Int) + 1) = if b2 = true then 1 else 0 := by
          rw [ss_o (by omega), ← hd2]
          simp
        have ex1 : setS σ s 156 (l.length : Int) = if b1 = true then 1 else 0 := by rw [ss_o (by omega)]; exact hd1
        have el : (((b2 :: b1 :: l).length : Nat) : Int) + -1 = (l.length : Int) + 1 := by simp only [List.length_cons]; omega
        have el1 : (l.length : Int) + 1 - 1 = (l.length : Int) := by omega
        refine ⟨st2 σ 156 (l.length : Int) (if (if z = -2 then b1 && b2 else b1 || b2) = true then 1 else 0), vI z, u7, u8, u9, u10, fun a ha => by funext j; exact st2_k ha, by rw [ev]; exact STK_push (STK_tail (STK_tail hST)), fun Q => ?_⟩
        rw [start, if_pos (by omega), b170_220, if_pos hz1, b170_255, if_neg (by omega), b170_262 (by rw [el]; omega) (by rw [el]; omega), el, el1, ev]
        have fin : ∀ (v : Int), (v = 0 ∨ v = 1) → R d 170 337 [vR 153, vI y, vI b, vI sm, vI ((l.length : Int) + 1), vI (529 + 140 * (y : Int) + i), vI z, u7, u8, u9, u10] [vI v, vI (l.length : Int), vR 156] (WS L (setS σ s)) Q = R d 170 16 [vR 153, vI y, vI b, vI sm, vI ((l.length : Int) + 1), vI (529 + 140 * (y : Int) + (i + 1 : Nat)), vI z, u7, u8, u9, u10] [] (WS L (setS (st2 σ 156 (l.length : Int) v) s)) Q := by
          intro v hv
          rw [b170_337 (by omega) (by omega) (by rcases hv with rfl | rfl <;> rfl), ss_ot (by omega), b170_338, nx]
        by_cases hz2 : z = -2
        · rw [if_neg (by omega), if_pos hz2, b170_280 (by omega) (by omega) (by omega), el1, ex1]
          cases b1 with
          | false =>
            rw [if_pos (by simp), b170_306, fin 0 (by omega)]
            rfl
          | true =>
            rw [if_neg (by simp), b170_292 (by omega) (by omega), ex2]
            cases b2 with
            | false =>
              rw [if_pos (by simp), b170_306, fin 0 (by omega)]
              rfl
            | true =>
              rw [if_neg (by simp), b170_302, fin 1 (by omega)]
              rfl
        · rw [if_pos hz2, if_neg hz2, b170_310 (by omega) (by omega) (by omega), el1, ex1]
          cases b1 with
          | true =>
            rw [if_pos (by simp), b170_332, fin 1 (by omega)]
            rfl
          | false =>
            rw [if_neg (by simp), b170_322 (by omega) (by omega), ex2]
            cases b2 with
            | false =>
              rw [if_pos (by simp), b170_336, fin 0 (by omega)]
              rfl
            | true =>
              rw [if_neg (by simp), b170_332, fin 1 (by omega)]
              rfl
theorem htS_1 {z : Int} {l : List Int} {h h' : Nat} (e : htS (z :: l) h = some h') : htS [z] h ≠ none ∧ ∀ tst stk, stk.length = h → htS l (ev1 tst z stk).length = some h' ∧ (ev1 tst z stk).length ≤ h + (if 0 ≤ z then 1 else 0) := by
  rw [htS] at e
  by_cases c0 : 0 ≤ z
  · rw [if_pos c0] at e
    refine ⟨by simp [htS, c0], fun tst stk hl => ?_⟩
    unfold ev1
    rw [if_pos c0, if_pos c0, List.length_cons, hl]
    exact ⟨e, Nat.le_refl _⟩
  · rw [if_neg c0] at e
    by_cases c1 : z = -1
    · rw [if_pos c1] at e
      by_cases c2 : 1 ≤ h
      · rw [if_pos c2] at e
        refine ⟨by simp [htS, c0, c1, c2], fun tst stk hl => ?_⟩
        unfold ev1
        rw [if_neg c0, if_pos c1, if_neg c0]
        cases stk with
        | nil => simp at hl; omega
        | cons a l2 =>
          simp only [List.length_cons] at hl ⊢
          rw [hl]
          exact ⟨e, by omega⟩
      · rw [if_neg c2] at e
        simp at e
    · rw [if_neg c1] at e
      by_cases c2 : 2 ≤ h
      · rw [if_pos c2] at e
        refine ⟨by simp [htS, c0, c1, c2], fun tst stk hl => ?_⟩
        unfold ev1
        rw [if_neg c0, if_neg c1, if_neg c0]
        match stk, hl with
        | [], hl => simp at hl; omega
        | [_], hl => simp at hl; omega
        | a :: b :: l2, hl =>
          simp only [List.length_cons] at hl ⊢
          rw [show l2.length + 1 = h - 1 by omega]
          exact ⟨e, by omega⟩
      · rw [if_neg c2] at e
        simp at e
theorem r170_st {y b : Nat} {sm : Int} {m : Nat} (hy : y < 6) (hb : b < 8) (hm : m ≤ 120) (hsm : s (523 + y) = (m : Int)) : ∀ (l : List Int) (i h' : Nat) (stk : List Bool) (u6 u7 u8 u9 u10 : AV) (σ : St), (∀ (j : Nat) (x : Int), l[j]? = some x → s (529 + 140 * y + (i + j : Nat)) = x) → i + l.length ≤ m → (∀ x, x ∈ l → -10 < x ∧ x < 10000) → htS l stk.length = some h' → stk.length + nT l ≤ 64 → STK σ stk → ∃ (σ' : St) (v6 v7 v8 v9 v10 : AV), (∀ a, a ≠ 156 → σ' a = σ a) ∧ STK σ' (evS (tsT (trS s) b) l stk) ∧ ∀ Q, R d 170 16 [vR 153, vI y, vI b, vI sm, vI stk.length, vI (529 + 140 * (y : Int) + i), u6, u7, u8, u9, u10] [] (WS L (setS σ s)) Q = R d 170 16 [vR 153, vI y, vI b, vI sm, vI (evS (tsT (trS s) b) l stk).length, vI (529 + 140 * (y : Int) + (i + l.length : Nat)), v6, v7, v8, v9, v10] [] (WS L (setS σ' s)) Q := by
  intro l
  induction l with
  | nil =>
    intro i h' stk u6 u7 u8 u9 u10 σ hs hi hr hh hw hST
    exact ⟨σ, u6, u7, u8, u9, u10, fun _ _ => rfl, hST, fun Q => rfl⟩
  | cons z l ih =>
    intro i h' stk u6 u7 u8 u9 u10 σ hs hi hr hh hw hST
    obtain ⟨g1, g2⟩ := htS_1 hh
    obtain ⟨g3, g4⟩ := g2 (tsT (trS s) b) stk rfl
    rw [nT] at hw
    simp only [List.length_cons] at hi
    obtain ⟨σ1, v6, v7, v8, v9, v10, a1, a2, a3⟩ := r170_1 (d := d) (L := L) (sm := sm) (i := i) (m := m) (z := z) (u6 := u6) (u7 := u7) (u8 := u8) (u9 := u9) (u10 := u10) hy hb hm (by omega) hsm (hs 0 z rfl) (hr z (List.mem_cons_self ..)) (by omega) g1 hST
    obtain ⟨σ2, w6, w7, w8, w9, w10, b1, b2, b3⟩ := ih (i + 1) h' _ v6 v7 v8 v9 v10 σ1 (fun j x hj => by
      have := hs (j + 1) x (by simpa using hj)
      rwa [show i + 1 + j = i + (j + 1) by omega]) (by omega) (fun x hx => hr x (List.mem_cons_of_mem _ hx)) g3 (by omega) a2
    refine ⟨σ2, w6, w7, w8, w9, w10, fun a ha => (b1 a ha).trans (a1 a ha), b2, fun Q => ?_⟩
    rw [a3, b3, show i + 1 + l.length = i + (z :: l).length by simp; omega]
    rfl
theorem mkS_b {T : Nat → Nat → Int} {b : Nat} : ∀ (l : List Cl), (∀ c, c ∈ l → CG c) → 0 ≤ mkS T b l ∧ mkS T b l ≤ 99 * (l.length : Int)
  | [], _ => by simp [mkS]
  | c :: l, h => by
    have h1 := mkS_b (T := T) (b := b) l (fun c hc => h c (List.mem_cons_of_mem _ hc))
    have h2 := (h c (List.mem_cons_self ..)).1
    rw [mkS]
    simp only [List.length_cons, Int.natCast_succ]
    repeat' split
    all_goals omega
theorem r170_c {y b m : Nat} (hy : y < 6) (hb : b < 8) (hm : m ≤ 120) (hsm : s (523 + y) = (m : Int)) : ∀ (l : List Cl) (i : Nat) (sm : Int) (u6 u7 u8 u9 u10 : AV) (σ : St), (∀ c, c ∈ l → CG c) → l.length ≤ 10 → (∀ (j : Nat) (x : Int), (eS l)[j]? = some x → s (529 + 140 * y + (i + j : Nat)) = x) → i + (eS l).length = m → 0 ≤ sm ∧ sm + 99 * (l.length : Int) ≤ 2000 → ∃ σ' : St, (∀ a, a ≠ 156 → σ' a = σ a) ∧ ∀ Q, R d 170 16 [vR 153, vI y, vI b, vI sm, vI 0, vI (529 + 140 * (y : Int) + i), u6, u7, u8, u9, u10] [] (WS L (setS σ s)) Q = Q (some (vI (sm + mkS (trS s) b l))) (WS L (setS σ' s)) := by
  intro l
  induction l with
  | nil =>
    intro i sm u6 u7 u8 u9 u10 σ hg hl hs hi hb2
    refine ⟨σ, fun _ _ => rfl, fun Q => ?_⟩
    have e1 : setS σ s 154 (523 + y) = (m : Int) := by rw [ss_e]; exact hsm
    have e0 : (eS []).length = 0 := rfl
    rw [b170_16 (by omega) (by omega) (by omega) (by omega) (by omega) (by omega), e1, if_pos (by omega), b170_371]
    simp [mkS]
  | cons c l ih =>
    intro i sm u6 u7 u8 u9 u10 σ hg hl hs hi hb2
    have hgl : ∀ c, c ∈ l → CG c := fun c hc => hg c (List.mem_cons_of_mem _ hc)
    have hc := hg c (List.mem_cons_self ..)
    simp only [List.length_cons] at hl
    have hb3 : sm + 99 * (l.length : Int) + 99 ≤ 2000 := by
      have := hb2.2
      simp only [List.length_cons, Int.natCast_succ] at this
      omega
    by_cases h0 : c.1 = 0
    · have es : eS (c :: l) = c.2.2 ++ ((-10 - (c.2.1 : Int)) :: eS l) := by rw [eS, if_pos h0]
      rw [es] at hs hi
      obtain ⟨mm, hGS, hmm⟩ : ∃ mm, GS c.2.2 mm ∧ mm ≤ 120 := by
        rcases hc.2 with ⟨-, h⟩ | ⟨h, -⟩ | ⟨h, -⟩
        · exact h
        · omega
        · omega
      simp only [List.length_append, List.length_cons] at hi
      have hT := hGS.2.2.2.2
      obtain ⟨σ1, v6, v7, v8, v9, v10, a1, a2, a3⟩ := r170_st (d := d) (L := L) (sm := sm) hy hb hm hsm c.2.2 i 1 [] u6 u7 u8 u9 u10 σ (fun j x hj => hs j x (by
        have := lt_of_some hj
        rw [List.getElem?_append_left this]
        exact hj)) (by omega) hGS.1 (hGS.2.2.1 0) (by simp; omega) (fun i b h => by simp at h)
      rw [GS_ev hGS] at a2 a3
      have hz := hs c.2.2.length (-10 - (c.2.1 : Int)) (by rw [List.getElem?_append_right (Nat.le_refl _)]; simp)
      have hv99 := hc.1
      have e1 : setS σ1 s 154 (523 + y) = (m : Int) := by rw [ss_e]; exact hsm
      have e2 : setS σ1 s 154 (529 + 140 * (y : Int) + ((i + c.2.2.length : Nat) : Int)) = -10 - (c.2.1 : Int) := by rw [ss_e]; exact hz
      have e3 : setS σ1 s 156 0 = if evT (tsT (trS s) b) c.2.2 = true then 1 else 0 := by
        rw [ss_o (by omega)]
        have := STK_head a2
        simpa using this
      have run : ∀ Q, R d 170 16 [vR 153, vI y, vI b, vI sm, vI 0, vI (529 + 140 * (y : Int) + i), u6, u7, u8, u9, u10] [] (WS L (setS σ s)) Q = R d 170 16 [vR 153, vI y, vI b, vI (sm + (if evT (tsT (trS s) b) c.2.2 = true then (c.2.1 : Int) else 0)), vI 0, vI (529 + 140 * (y : Int) + ((i + c.2.2.length + 1 : Nat) : Int)), vI (-10 - (c.2.1 : Int)), v7, v8, v9, v10] [] (WS L (setS σ1 s)) Q := by
        intro Q
        refine (a3 Q).trans ?_
        rw [b170_16 (by omega) (by omega) (by omega) (by omega) (by omega) (by omega), e1, if_neg (by omega), b170_41 (by omega) (by omega), e2, if_pos (by omega), b170_220, if_pos (by omega), b170_255, if_pos (by omega), b170_341, e3]
        by_cases q : evT (tsT (trS s) b) c.2.2 = true
        · rw [if_pos q, if_neg (by omega), b170_354 (by omega), b170_363 (by omega), b170_365 (by omega), if_pos q, show (-10 : Int) - (-10 - (c.2.1 : Int)) = (c.2.1 : Int) by omega, show 529 + 140 * (y : Int) + ((i + c.2.2.length : Nat) : Int) + 1 = 529 + 140 * (y : Int) + ((i + c.2.2.length + 1 : Nat) : Int) by omega]
        · rw [if_neg q, if_pos rfl, b170_362, b170_363 (by omega), b170_365 (by omega), if_neg q, show 529 + 140 * (y : Int) + ((i + c.2.2.length : Nat) : Int) + 1 = 529 + 140 * (y : Int) + ((i + c.2.2.length + 1 : Nat) : Int) by omega]
      obtain ⟨σ2, b1, b2⟩ := ih (i + c.2.2.length + 1) (sm + (if evT (tsT (trS s) b) c.2.2 = true then (c.2.1 : Int) else 0)) (vI (-10 - (c.2.1 : Int))) v7 v8 v9 v10 σ1 hgl (by omega) (fun j x hj => by
        have := hs (c.2.2.length + (j + 1)) x (by
          rw [List.getElem?_append_right (by omega), show c.2.2.length + (j + 1) - c.2.2.length = j + 1 by omega]
          simpa using hj)
        rwa [show i + c.2.2.length + 1 + j = i + (c.2.2.length + (j + 1)) by omega]) (by omega) (by split <;> omega)
      refine ⟨σ2, fun a ha => (b1 a ha).trans (a1 a ha), fun Q => ?_⟩
      rw [run, b2, mkS, if_pos h0]
      congr 3
      omega
    · have es : eS (c :: l) = eS l := by rw [eS, if_neg h0]
      rw [es] at hs hi
      obtain ⟨σ2, b1, b2⟩ := ih i sm u6 u7 u8 u9 u10 σ hgl (by omega) hs hi (by omega)
      refine ⟨σ2, b1, fun Q => ?_⟩
      rw [b2, mkS, if_neg h0]
      congr 3
      omega
theorem r170 {y b : Nat} {cls : List Cl} (hy : y < 6) (hb : b < 8) (hG : YG cls) (hE : ENC s y cls) : ∃ σ' : St, (∀ a, a ≠ 156 → σ' a = σ a) ∧ ∀ Q, R d 170 0 [vR 153, vI y, vI b, vX 9, vX 9, vX 9, vX 9, vX 9, vX 9, vX 9, vX 9] [] (WS L (setS σ s)) Q = Q (some (vI (mkS (trS s) b cls))) (WS L (setS σ' s)) := by
  obtain ⟨g1, g2, g3⟩ := hG
  obtain ⟨-, -, -, -, e5, e6⟩ := hE
  have hl := nSt_len (cls := cls)
  obtain ⟨σ', f1, f2⟩ := r170_c (d := d) (L := L) (y := y) (b := b) (m := (eS cls).length) hy hb (by omega) e5 cls 0 0 (vX 9) (vX 9) (vX 9) (vX 9) (vX 9) σ g2 g3 (fun j x hj => by
    have := e6 j x hj
    rwa [show 0 + j = j by omega]) (by omega) (by omega)
  refine ⟨σ', f1, fun Q => ?_⟩
  rw [b170_0 (by omega) (by omega)]
  have := f2 Q
  rw [show 529 + 140 * (y : Int) + ((0 : Nat) : Int) = 529 + 140 * (y : Int) by omega, Int.zero_add] at this
  exact this
end RA2
