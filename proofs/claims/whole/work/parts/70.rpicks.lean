/-! the reference: picks -/
theorem tb_256 {x j : Nat} (hx : x < 256) (h : 8 ≤ j) : x.testBit j = false := Nat.testBit_lt_two_pow (Nat.lt_of_lt_of_le hx (show 2 ^ 8 ≤ 2 ^ j from Nat.pow_le_pow_right (by omega) h))
section RN4
variable {d L : Nat} {N : Int} {s s' : Int → Int} {cl cl' : Nat → List Cl} {σ σ1 : St} {Q : Option AV → AW → Prop}
theorem RQ_156 {σ' : St} (h : RQ N s σ) (hf : ∀ a, a ≠ 156 → σ' a = σ a) : RQ N s σ' ∧ FQ σ σ' :=
  ⟨⟨by rw [hf 154 (by omega)]; exact h.1, by rw [hf 153 (by omega)]; exact h.2.1, by rw [hf 153 (by omega)]; exact h.2.2.1, fun x hx => by rw [hf 158 (by omega), hf 153 (by omega)]; exact h.2.2.2 x hx⟩, fun a ha => hf a (by omega), by rw [hf 153 (by omega)], by rw [hf 153 (by omega)]⟩
theorem r203_l {x : Nat} (hx : x < 256) (h0 : x ≠ 0) : ∀ (m i : Nat), i + m = 8 → (∀ j, j < i → x.testBit j = false) → R d 203 2 [vI x, vI i] [] (WS L σ) Q = Q (some (vI (amx (fun b => x.testBit b) (fun _ => 0) 8))) (WS L σ) := by
  intro m
  induction m with
  | zero =>
    intro i hi hj
    exfalso
    refine h0 ?_
    apply tb_ext
    intro j
    rw [Nat.zero_testBit]
    by_cases q : j < 8
    · exact hj j (by omega)
    · exact tb_256 hx (by omega)
  | succ m ih =>
    intro i hi hj
    have hb : i_and (i_shr x i) 1 = if x.testBit i then 1 else 0 := i_bit (by omega) (by omega)
    rw [b203_2, hb]
    by_cases q : x.testBit i = true
    · have e := amx_first (ok := fun b => x.testBit b) (i := i) m hj q
      rw [if_pos (by rw [if_pos q]; omega), b203_16, show (8 : Nat) = i + 1 + m by omega, e]
    · rw [if_neg (by rw [if_neg q]; omega), b203_10 (by omega)]
      exact ih (i + 1) (by omega) (fun j hj2 => by
        by_cases q2 : j = i
        · rw [q2]; simpa using q
        · exact hj j (by omega))
theorem amx_ne {ok : Nat → Bool} {v : Nat → Int} {x : Nat} (hx : x < 256) (h0 : x ≠ 0) (hk : ok = fun b => x.testBit b) : 0 ≤ amx ok v 8 := by
  refine Int.not_lt.mp (fun h => ?_)
  rw [amx_none] at h
  refine h0 ?_
  apply tb_ext
  intro j
  rw [Nat.zero_testBit]
  by_cases q : j < 8
  · have := h j q
    rw [hk] at this
    exact this
  · exact tb_256 hx (by omega)
theorem r203 {x : Nat} (hx : x < 256) (h0 : x ≠ 0) : R d 203 0 [vI x, vX 9] [] (WS L σ) Q = Q (some (vI (bz (amx (fun b => x.testBit b) (fun _ => 0) 8)))) (WS L σ) := by
  rw [b203_0]
  unfold bz
  rw [if_neg (Int.not_lt.mpr (amx_ne hx h0 rfl))]
  exact r203_l hx h0 8 0 (by omega) (fun j hj => by omega)
theorem r199_l {c S P : Nat} (hw : WF s cl) (hc : c < 3) (hS : S < 2 ^ nS s) (hP : P < 256) : ∀ (m i : Nat) (σ : St) (bw : Int) (u7 u8 : AV), i + m = nS s → σ 154 = s → (0 ≤ amx (fun b => P.testBit b) (fun b => Wr s cl c (S ||| 2 ^ b)) i → bw = Wr s cl c (S ||| 2 ^ (amx (fun b => P.testBit b) (fun b => Wr s cl c (S ||| 2 ^ b)) i).toNat)) → ∃ σ' : St, (∀ a, a ≠ 156 → σ' a = σ a) ∧ ∀ Q, R (d + 2) 199 9 [vR 153, vI c, vI S, vI P, vI (amx (fun b => P.testBit b) (fun b => Wr s cl c (S ||| 2 ^ b)) i), vI bw, vI i, u7, u8] [] (WS L σ) Q = Q (some (vI (amx (fun b => P.testBit b) (fun b => Wr s cl c (S ||| 2 ^ b)) (nS s)))) (WS L σ') := by
  have w0 := hw.1
  unfold W0 at w0
  have hn : s 0 = (nS s : Int) := by unfold nS; omega
  have h8 : nS s ≤ 8 := by omega
  have p8 := pw8 h8
  intro m
  induction m with
  | zero =>
    intro i σ bw u7 u8 hi h4 hb
    obtain rfl : i = nS s := by omega
    refine ⟨σ, fun _ _ => rfl, fun Q => ?_⟩
    rw [b199_9, h4, if_pos (by omega), b199_97]
  | succ m ih =>
    intro i σ bw u7 u8 hi h4 hb
    have hbi : i_and (i_shr P i) 1 = if P.testBit i then 1 else 0 := i_bit (by omega) (by omega)
    have ea := amx_r (fun b => P.testBit b) (fun b => Wr s cl c (S ||| 2 ^ b)) i
    by_cases q : P.testBit i = true
    · have l1 : 2 ^ i < 2 ^ nS s := two_pow_lt (by omega)
      have l2 : S ||| 2 ^ i < 2 ^ nS s := or_lt hS l1
      obtain ⟨σ1, f1, f2⟩ := r169 (d := d) (L := L) (σ := σ) (c := c) (x := S ||| 2 ^ i) hw hc l2
      have h41 : σ1 154 = s := by rw [f1 154 (by omega), h4]
      rw [ss_self h4, ss_self h41] at f2
      have eam : amx (fun b => P.testBit b) (fun b => Wr s cl c (S ||| 2 ^ b)) (i + 1) = if amx (fun b => P.testBit b) (fun b => Wr s cl c (S ||| 2 ^ b)) i < 0 ∨ bw < Wr s cl c (S ||| 2 ^ i) then (i : Int) else amx (fun b => P.testBit b) (fun b => Wr s cl c (S ||| 2 ^ b)) i := by
        rw [amx]
        by_cases qa : amx (fun b => P.testBit b) (fun b => Wr s cl c (S ||| 2 ^ b)) i < 0
        · rw [if_pos (Or.inl qa), if_pos ⟨q, Or.inl qa⟩]
        · have hbw := hb (by omega)
          by_cases qb : bw < Wr s cl c (S ||| 2 ^ i)
          · have q2 := qb
            rw [hbw] at q2
            rw [if_pos (Or.inr qb), if_pos ⟨q, Or.inr q2⟩]
          · have q2 := qb
            rw [hbw] at q2
            rw [if_neg (fun h => h.2.elim qa q2), if_neg (fun h => h.elim qa qb)]
      have head : ∀ Q, R (d + 2) 199 9 [vR 153, vI c, vI S, vI P, vI (amx (fun b => P.testBit b) (fun b => Wr s cl c (S ||| 2 ^ b)) i), vI bw, vI i, u7, u8] [] (WS L σ) Q = if amx (fun b => P.testBit b) (fun b => Wr s cl c (S ||| 2 ^ b)) i < 0 ∨ bw < Wr s cl c (S ||| 2 ^ i) then R (d + 2) 199 56 [vR 153, vI c, vI S, vI P, vI (amx (fun b => P.testBit b) (fun b => Wr s cl c (S ||| 2 ^ b)) i), vI bw, vI i, vI (Wr s cl c (S ||| 2 ^ i)), u8] [] (WS L σ1) Q else R (d + 2) 199 60 [vR 153, vI c, vI S, vI P, vI (amx (fun b => P.testBit b) (fun b => Wr s cl c (S ||| 2 ^ b)) i), vI bw, vI i, vI (Wr s cl c (S ||| 2 ^ i)), u8] [] (WS L σ1) Q := by
        intro Q
        rw [b199_9, h4, if_neg (by omega), b199_20, hbi, if_neg (by simp [q]), b199_30, i_one_shl (by omega), i_or_nat (by omega) (by omega), f2]
        simp only [am_push_s]
        rw [b199_41]
        by_cases q1 : amx (fun b => P.testBit b) (fun b => Wr s cl c (S ||| 2 ^ b)) i = -1
        · rw [if_pos q1, if_pos (Or.inl (by omega))]
        · rw [if_neg q1, b199_49]
          by_cases q2 : bw < Wr s cl c (S ||| 2 ^ i)
          · rw [if_neg (by omega), if_pos (Or.inr q2)]
          · rw [if_pos (by omega), if_neg (by omega)]
      by_cases q2 : amx (fun b => P.testBit b) (fun b => Wr s cl c (S ||| 2 ^ b)) i < 0 ∨ bw < Wr s cl c (S ||| 2 ^ i)
      · rw [if_pos q2] at eam
        obtain ⟨σ2, g1, g2⟩ := ih (i + 1) σ1 (Wr s cl c (S ||| 2 ^ i)) (vI (Wr s cl c (S ||| 2 ^ i))) (vI 1) (by omega) h41 (fun _ => by rw [eam]; rfl)
        rw [eam] at g2
        refine ⟨σ2, fun a ha => (g1 a ha).trans (f1 a ha), fun Q => ?_⟩
        rw [head, if_pos q2, b199_56, b199_61, if_neg (by omega), b199_68, b199_75, if_neg (by omega), b199_82, b199_89, b199_91 (by omega)]
        exact g2 Q
      · rw [if_neg q2] at eam
        obtain ⟨σ2, g1, g2⟩ := ih (i + 1) σ1 bw (vI (Wr s cl c (S ||| 2 ^ i))) (vI 0) (by omega) h41 (fun h => by rw [eam] at h ⊢; exact hb h)
        rw [eam] at g2
        refine ⟨σ2, fun a ha => (g1 a ha).trans (f1 a ha), fun Q => ?_⟩
        rw [head, if_neg q2, b199_60, b199_61, if_pos rfl, b199_73, b199_75, if_pos rfl, b199_87, b199_89, b199_91 (by omega)]
        exact g2 Q
    · have eam : amx (fun b => P.testBit b) (fun b => Wr s cl c (S ||| 2 ^ b)) (i + 1) = amx (fun b => P.testBit b) (fun b => Wr s cl c (S ||| 2 ^ b)) i := by
        rw [amx, if_neg (fun h => q h.1)]
      obtain ⟨σ2, g1, g2⟩ := ih (i + 1) σ bw u7 u8 (by omega) h4 (by rw [eam]; exact hb)
      rw [eam] at g2
      refine ⟨σ2, g1, fun Q => ?_⟩
      rw [b199_9, h4, if_neg (by omega), b199_20, hbi, if_pos (by simp [q]), b199_91 (by omega)]
      exact g2 Q
theorem r199 {c P : Nat} (hw : WF s cl) (hc : c < 3) (hP : P < 256) (h0 : P ≠ 0) (hb : ∀ b, P.testBit b = true → b < nS s) (h4 : σ 154 = s) : ∃ σ' : St, (∀ a, a ≠ 156 → σ' a = σ a) ∧ ∀ Q, R (d + 2) 199 0 [vR 153, vI c, vI (sdS s c), vI P, vX 9, vX 9, vX 9, vX 9, vX 9] [] (WS L σ) Q = Q (some (vI (dearS s cl c P))) (WS L σ') := by
  have w0 := hw.1
  unfold W0 at w0
  have h8 : nS s ≤ 8 := by unfold nS; omega
  obtain ⟨σ1, f1, f2⟩ := r199_l (d := d) (L := L) (S := sdS s c) hw hc sdS_lt hP (nS s) 0 σ 0 (vX 9) (vX 9) (by omega) h4 (fun h => absurd h (by rw [amx]; omega))
  refine ⟨σ1, f1, fun Q => ?_⟩
  rw [b199_0]
  refine (f2 Q).trans ?_
  unfold dearS bz
  rw [if_neg (Int.not_lt.mpr (amx_ne hP h0 rfl)), amx_8 (n := nS s) h8 (fun i hi => by
    cases q : P.testBit i
    · rfl
    · have := hb i q
      omega)]
theorem r201_l {c : Int} {pool n : Nat} (hn : s 0 = (n : Int)) (h8 : n ≤ 8) (h4 : σ 154 = s) : ∀ (j k : Nat), k + j = n → R d 201 5 [vR 153, vI c, vI pool, vI (bits (fun b => decide (s (146 + b) = c)) k), vI k] [] (WS L σ) Q = R d 201 48 [vR 153, vI c, vI pool, vI (bits (fun b => decide (s (146 + b) = c)) n), vI n] [] (WS L σ) Q := by
  intro j
  induction j with
  | zero =>
    intro k hk
    obtain rfl : k = n := by omega
    rw [b201_5, h4, if_pos (by omega)]
  | succ j ih =>
    intro k hk
    have e := ih (k + 1) (by omega)
    rw [b201_5, h4, if_neg (by omega), b201_16 (by omega) (by omega) (by omega), h4]
    by_cases q : s (146 + k) = c
    · rw [if_neg (by simpa using q), b201_32, b201_40 (by omega), or_tt (p := fun b => decide (s (146 + b) = c)) (by omega) (by simpa using q)]
      exact e
    · rw [if_pos q, b201_39, b201_40 (by omega), or_ff (p := fun b => decide (s (146 + b) = c)) (by omega) (by simpa using q)]
      exact e
theorem frS_lt {c : Int} (h8 : nS s ≤ 8) : frS s c < 256 := Nat.lt_of_lt_of_le (bits_lt _ _) (pw8 h8)
theorem r201 {c pool : Nat} (hw : WF s cl) (hp : pool < 256) (h4 : σ 154 = s) : R d 201 0 [vR 153, vI c, vI pool, vX 9, vX 9] [] (WS L σ) Q = Q (some (vI (fgC (frS s c) pool))) (WS L σ) := by
  have w0 := hw.1
  unfold W0 at w0
  have hn : s 0 = (nS s : Int) := by unfold nS; omega
  have h8 : nS s ≤ 8 := by omega
  have hf := frS_lt (s := s) (c := (c : Int)) h8
  rw [b201_0]
  refine (r201_l (c := (c : Int)) (pool := pool) hn h8 h4 (nS s) 0 (by omega)).trans ?_
  rw [show bits (fun b => decide (s (146 + b) = (c : Int))) (nS s) = frS s c from rfl, b201_48, i_and_nat (by omega) (by omega)]
  unfold fgC
  by_cases q : frS s c &&& pool = 0
  · rw [if_neg (by omega), if_pos q, b201_54, b201_61]
  · rw [if_pos (by omega), if_neg q, b201_58, i_and_nat (by omega) (by omega), b201_61]
theorem r202_l {c z x : Nat} (hw : WF s cl) (hc : c < 3) (hx : x < 256) (hx0 : x ≠ 0) (hz : s (160 + c) = (z : Int)) (h4 : σ 154 = s) : ∀ (m i : Nat) (u4 : AV), i + m = z → (∀ j, j < i → x.testBit (s (163 + 8 * c + (j : Nat))).toNat = false) → R (d + 1) 202 2 [vR 153, vI c, vI x, vI i, u4] [] (WS L σ) Q = Q (some (vI (flC (fun q => s (163 + 8 * c + q)) z x))) (WS L σ) := by
  have w6 := hw.2.2.2.2.2.2.1 c hc
  intro m
  induction m with
  | zero =>
    intro i u4 hi hj
    obtain rfl : i = z := by omega
    have hneg : amx (fun k => x.testBit (s (163 + 8 * (c : Int) + (k : Nat))).toNat) (fun _ => 0) i < 0 := by
      rw [amx_none]
      exact hj
    rw [b202_2 (by omega) (by omega) (by omega), h4, if_pos (by omega), b202_52, r203 hx hx0]
    simp only [am_push_s]
    rw [b202_56]
    unfold flC
    rw [if_pos hneg]
  | succ m ih =>
    intro i u4 hi hj
    have hr := w6.2 i (by omega)
    obtain ⟨b, hb⟩ : ∃ b : Nat, s (163 + 8 * (c : Int) + i) = (b : Int) := ⟨(s (163 + 8 * (c : Int) + i)).toNat, by omega⟩
    have hbit : i_and (i_shr x b) 1 = if x.testBit b then 1 else 0 := i_bit (by omega) (by omega)
    rw [b202_2 (by omega) (by omega) (by omega), h4, if_neg (by omega), b202_16 (by omega) (by omega) (by omega) (by omega) (by omega), h4, hb, hbit]
    by_cases q : x.testBit b = true
    · have e := amx_first (ok := fun k => x.testBit (s (163 + 8 * (c : Int) + (k : Nat))).toNat) (i := i) m hj (by rw [hb]; exact q)
      rw [if_neg (by simp [q]), b202_43]
      unfold flC
      rw [show z = i + 1 + m by omega, e, if_neg (by omega), Int.toNat_natCast]
      dsimp only
      rw [hb]
    · rw [if_pos (by simp [q]), b202_46 (by omega)]
      exact ih (i + 1) _ (by omega) (fun j hj2 => by
        by_cases q2 : j = i
        · rw [q2, hb]; simpa using q
        · exact hj j (by omega))
theorem r202 {c x : Nat} (hw : WF s cl) (hc : c < 3) (hx : x < 256) (hx0 : x ≠ 0) (h4 : σ 154 = s) : R (d + 1) 202 0 [vR 153, vI c, vI x, vX 9, vX 9] [] (WS L σ) Q = Q (some (vI (flC (fun q => s (163 + 8 * c + q)) (s (160 + c)).toNat x))) (WS L σ) := by
  have w6 := hw.2.2.2.2.2.2.1 c hc
  rw [b202_0]
  exact r202_l hw hc hx hx0 (by omega) h4 (s (160 + c)).toNat 0 _ (by omega) (fun j hj => by omega)
theorem mxN_b {ok : Nat → Bool} {v : Nat → Nat} {B : Nat} (h : ∀ i, v i ≤ B) : ∀ n, mxN ok v n ≤ B
  | 0 => Nat.zero_le _
  | n + 1 => by
    have := mxN_b (ok := ok) h n
    rw [mxN]
    split
    · exact h n
    · exact this
theorem mxN_ext {ok : Nat → Bool} {v : Nat → Nat} {n : Nat} (h : ∀ i, n ≤ i → ok i = false) : ∀ m, mxN ok v (n + m) = mxN ok v n
  | 0 => rfl
  | m + 1 => by
    rw [← Nat.add_assoc, mxN, h (n + m) (by omega), if_neg (fun x => by simp at x), mxN_ext h m]
theorem tlS_b (hw : WF s cl) {b : Nat} : tlS s b ≤ 12 := by
  have w0 := hw.1
  unfold W0 at w0
  have := cnt_le (fun k => decide (s (1381 + 8 * k + (s (1369 + k) - 1)) = b)) (s 3).toNat
  unfold tlS
  omega
theorem r204_a {x n : Nat} (hw : WF s cl) (hn : s 0 = (n : Int)) (h8 : n ≤ 8) (hx : x < 256) (h4 : σ 154 = s) : ∀ (j k : Nat), k + j = n → R (d + 1) 204 4 [vR 153, vI x, vI (mxN (fun b => x.testBit b) (tlS s) k), vI k, vX 9] [] (WS L σ) Q = R (d + 1) 204 48 [vR 153, vI x, vI (mxN (fun b => x.testBit b) (tlS s) n), vI n, vX 9] [] (WS L σ) Q := by
  intro j
  induction j with
  | zero =>
    intro k hk
    obtain rfl : k = n := by omega
    rw [b204_4, h4, if_pos (by omega)]
  | succ j ih =>
    intro k hk
    have hb : i_and (i_shr x k) 1 = if x.testBit k then 1 else 0 := i_bit (by omega) (by omega)
    have e := ih (k + 1) (by omega)
    rw [mxN] at e
    have g := fun Q : Option AV → AW → Prop => r205 (d := d) (L := L) (Q := Q) (σ := σ) hw (b := k)
    rw [ss_self h4] at g
    rw [b204_4, h4, if_neg (by omega), b204_14, hb]
    by_cases q : x.testBit k = true
    · rw [if_neg (by simp [q]), b204_23, g]
      simp only [am_push_s]
      rw [b204_28]
      by_cases q2 : mxN (fun b => x.testBit b) (tlS s) k < tlS s k
      · have q3 : x.testBit k = true ∧ mxN (fun b => x.testBit b) (tlS s) k < tlS s k := ⟨q, q2⟩
        rw [if_pos q3] at e
        rw [if_neg (by omega), b204_32, g]
        simp only [am_push_s]
        rw [b204_37, b204_41 (by omega)]
        exact e
      · rw [if_neg (fun h => q2 h.2)] at e
        rw [if_pos (by omega), b204_40, b204_41 (by omega)]
        exact e
    · rw [if_neg (fun h => q h.1)] at e
      rw [if_pos (by simp [q]), b204_40, b204_41 (by omega)]
      exact e
theorem r204_b {x n mx : Nat} (hw : WF s cl) (hn : s 0 = (n : Int)) (h8 : n ≤ 8) (hx : x < 256) (h4 : σ 154 = s) : ∀ (j k : Nat), k + j = n → R (d + 1) 204 53 [vR 153, vI x, vI mx, vI (bits (fun b => x.testBit b && decide (tlS s b = mx)) k), vI k] [] (WS L σ) Q = Q (some (vI (bits (fun b => x.testBit b && decide (tlS s b = mx)) n))) (WS L σ) := by
  intro j
  induction j with
  | zero =>
    intro k hk
    obtain rfl : k = n := by omega
    rw [b204_53, h4, if_pos (by omega), b204_101]
  | succ j ih =>
    intro k hk
    have hb : i_and (i_shr x k) 1 = if x.testBit k then 1 else 0 := i_bit (by omega) (by omega)
    have e := ih (k + 1) (by omega)
    have g := fun Q : Option AV → AW → Prop => r205 (d := d) (L := L) (Q := Q) (σ := σ) hw (b := k)
    rw [ss_self h4] at g
    rw [b204_53, h4, if_neg (by omega), b204_64, hb]
    by_cases q : x.testBit k = true
    · rw [if_neg (by simp [q]), b204_75, g]
      simp only [am_push_s]
      rw [b204_81]
      by_cases q2 : tlS s k = mx
      · rw [if_neg (by omega), b204_85, b204_93 (by omega), or_tt (p := fun b => x.testBit b && decide (tlS s b = mx)) (by omega) (by simp [q, q2])]
        exact e
      · rw [if_pos (by omega), b204_92, b204_93 (by omega), or_ff (p := fun b => x.testBit b && decide (tlS s b = mx)) (by omega) (by simp [q2])]
        exact e
    · rw [if_pos (by simp [q]), b204_92, b204_93 (by omega), or_ff (p := fun b => x.testBit b && decide (tlS s b = mx)) (by omega) (by simp [q])]
      exact e
theorem r204 {x : Nat} (hw : WF s cl) (hx : x < 256) (hb : ∀ b, x.testBit b = true → b < nS s) (h4 : σ 154 = s) : R (d + 1) 204 0 [vR 153, vI x, vX 9, vX 9, vX 9] [] (WS L σ) Q = Q (some (vI (oflC (fun b => x.testBit b) (tlS s) 8))) (WS L σ) := by
  have w0 := hw.1
  unfold W0 at w0
  have hn : s 0 = (nS s : Int) := by unfold nS; omega
  have h8 : nS s ≤ 8 := by omega
  have hf : ∀ i, nS s ≤ i → x.testBit i = false := by
    intro i hi
    cases q : x.testBit i
    · rfl
    · have := hb i q
      omega
  rw [b204_0]
  refine (r204_a hw hn h8 hx h4 (nS s) 0 (by omega)).trans ?_
  rw [b204_48]
  refine (r204_b hw hn h8 hx h4 (nS s) 0 (by omega)).trans ?_
  unfold oflC
  have e1 : mxN (fun b => x.testBit b) (tlS s) 8 = mxN (fun b => x.testBit b) (tlS s) (nS s) := by
    have := mxN_ext (ok := fun b => x.testBit b) (v := tlS s) hf (8 - nS s)
    rwa [show nS s + (8 - nS s) = 8 by omega] at this
  rw [e1, bits_cut (n := nS s) (fun i hi => by dsimp only; rw [hf i hi]; rfl) h8]
theorem leftS_lt (h8 : nS s ≤ 8) : leftS s < 256 := Nat.lt_of_lt_of_le (bits_lt _ _) (pw8 h8)
theorem fgC_ne {fr x : Nat} (h : x ≠ 0) : fgC fr x ≠ 0 := by
  unfold fgC
  split <;> assumption
theorem ofl_ne {x : Nat} {v : Nat → Nat} (hx : x < 256) (h0 : x ≠ 0) : oflC (fun b => x.testBit b) v 8 ≠ 0 := by
  intro h
  have hm : ∀ n, (∃ i, i < n ∧ x.testBit i = true) → ∃ i, i < n ∧ x.testBit i = true ∧ v i = mxN (fun b => x.testBit b) v n := by
    intro n
    induction n with
    | zero => rintro ⟨i, hi, -⟩; omega
    | succ n ih =>
      rintro ⟨i, hi, hb⟩
      rw [mxN]
      by_cases q : x.testBit n = true ∧ mxN (fun b => x.testBit b) v n < v n
      · rw [if_pos q]
        exact ⟨n, by omega, q.1, rfl⟩
      · rw [if_neg q]
        by_cases q2 : ∃ i, i < n ∧ x.testBit i = true
        · obtain ⟨j, j1, j2, j3⟩ := ih q2
          exact ⟨j, by omega, j2, j3⟩
        · have hin : i = n := by
            by_cases q3 : i < n
            · exact absurd ⟨i, q3, hb⟩ q2
            · omega
          subst hin
          have hz : mxN (fun b => x.testBit b) v i = 0 := by
            have : ∀ m, m ≤ i → mxN (fun b => x.testBit b) v m = 0 := by
              intro m
              induction m with
              | zero => intro _; rfl
              | succ m ihm =>
                intro hmi
                rw [mxN, ihm (by omega), if_neg (fun h => q2 ⟨m, by omega, h.1⟩)]
            exact this i (Nat.le_refl _)
          rw [hz] at q ⊢
          exact ⟨i, by omega, hb, by
            by_cases q4 : 0 < v i
            · exact absurd ⟨hb, q4⟩ q
            · omega⟩
  have hex : ∃ i, i < 8 ∧ x.testBit i = true := by
    have := amx_r (fun b => x.testBit b) (fun _ => 0) 8
    have h1 := amx_ne (v := fun _ => 0) hx h0 (ok := fun b => x.testBit b) rfl
    exact ⟨_, by omega, this.2.2 h1⟩
  obtain ⟨i, i1, i2, i3⟩ := hm 8 hex
  have : (oflC (fun b => x.testBit b) v 8).testBit i = true := by
    unfold oflC
    rw [bits_test]
    simp [i1, i2, i3]
  rw [h] at this
  simp at this
theorem r198 {c : Nat} (hw : WF s cl) (hc : c < 3) (h : RQ N s σ) (hN : N < 20000) (h0 : leftS s ≠ 0) : ∃ σ' : St, RQ (N + 1) s σ' ∧ FQ σ σ' ∧ ∀ Q, R (d + 22) 198 0 [vR 153, vI c, vX 9, vX 9, vX 9, vX 9] [] (WS L σ) Q = Q (some (vI (pkS s cl c))) (WS L σ') := by
  have w0 := hw.1
  have w0' := w0
  unfold W0 at w0
  have hn : s 0 = (nS s : Int) := by unfold nS; omega
  have h8 : nS s ≤ 8 := by omega
  have h4 := h.1
  have hl := leftS_lt (s := s) h8
  have hlb : ∀ b, (leftS s).testBit b = true → b < nS s := fun b hb => (leftS_sub hb).1
  have g1 := fun Q : Option AV → AW → Prop => r197 (d := d + 21) (L := L) (Q := Q) (σ := σ) w0'
  have g2 := fun (c : Nat) (Q : Option AV → AW → Prop) => r181 (d := d + 21) (L := L) (Q := Q) (σ := σ) (c := c) w0'
  have g3 := fun (t : Nat) (ht : t < 1000) (Q : Option AV → AW → Prop) => r175 (d := d + 21) (L := L) (Q := Q) (σ := σ) (k := s 4) (t := t) w0' hw.2.2.1 (by omega) ht
  rw [ss_self h4] at g1
  simp only [ss_self h4] at g2 g3
  have start : ∀ Q, R (d + 22) 198 0 [vR 153, vI c, vX 9, vX 9, vX 9, vX 9] [] (WS L σ) Q = R (d + 22) 198 10 [vR 153, vI c, vI (leftS s), vX 9, vX 9, vX 9] [vI (sdS s c)] (WS L σ) Q := by
    intro Q
    rw [b198_0, g1]
    simp only [am_push_s]
    rw [b198_4, g2]
    simp only [am_push_s]
  have up1 : ∀ {σ'}, (∀ a, a ≠ 156 → σ' a = σ a) → RQ (N + 1) s σ' ∧ FQ σ σ' := by
    intro σ' hf
    obtain ⟨x1, x2⟩ := RQ_156 h hf
    exact ⟨⟨x1.1, x1.2.1, by have := x1.2.2.1; omega, x1.2.2.2⟩, x2⟩
  have up0 : RQ (N + 1) s σ ∧ FQ σ σ := up1 (fun _ _ => rfl)
  unfold pkS
  rw [if_neg h0]
  by_cases k1 : s (157 + c) = 1
  · obtain ⟨σ1, f1, f2⟩ := r199 (d := d + 19) (L := L) (σ := σ) hw hc hl h0 hlb h4
    obtain ⟨x1, x2⟩ := up1 f1
    refine ⟨σ1, x1, x2, fun Q => ?_⟩
    rw [start, b198_10 (by omega) (by omega) (by omega), h4, if_pos k1, if_pos k1, b198_60, f2]
    simp only [am_push_s]
    rw [b198_67]
  rw [if_neg k1]
  by_cases k2 : s (157 + c) = 2
  · have hcl : cnt (fun b => (leftS s).testBit b) 8 ≤ nS s := cnt_bits hlb h8
    have htr := tkS_r w0' (kind := kdS s) (t := nS s - cnt (fun b => (leftS s).testBit b) 8 + 1)
    obtain ⟨a, ha⟩ : ∃ a : Nat, tkS s (kdS s) (nS s - cnt (fun b => (leftS s).testBit b) 8 + 1) = (a : Int) := ⟨(tkS s (kdS s) (nS s - cnt (fun b => (leftS s).testBit b) 8 + 1)).toNat, by omega⟩
    have g3' := g3 (nS s - cnt (fun b => (leftS s).testBit b) 8 + 1) (by omega)
    rw [show (s 4).toNat = kdS s from rfl, ha] at g3'
    have eah : ahS s c (leftS s) = if cnt (fun b => (leftS s).testBit b) 8 < 2 then c else a := by
      unfold ahS ahC
      split
      · rfl
      · have : (tkC (s 2).toNat (kdS s) (nS s - cnt (fun b => (leftS s).testBit b) 8 + 1) (s 5).toNat (fun i => s (187 + i))) = (a : Int) := ha
        rw [this]
        rfl
    have hc1 : 1 ≤ cnt (fun b => (leftS s).testBit b) 8 := by
      have h1 := amx_ne (v := fun _ => 0) hl h0 (ok := fun b => (leftS s).testBit b) rfl
      have h2 := amx_r (fun b => (leftS s).testBit b) (fun _ => 0) 8
      have h3 := h2.2.2 h1
      refine Nat.one_le_iff_ne_zero.mpr (fun e => ?_)
      have : ∀ m, m ≤ 8 → cnt (fun b => (leftS s).testBit b) m = 0 → ∀ i, i < m → (leftS s).testBit i = false := by
        intro m
        induction m with
        | zero => intro _ _ i hi; omega
        | succ m ih =>
          intro hm hc i hi
          rw [cnt] at hc
          by_cases q : i = m
          · subst q
            cases q2 : (leftS s).testBit i
            · rfl
            · rw [q2] at hc
              simp at hc
          · exact ih (by omega) (by omega) i (by omega)
      have := this 8 (Nat.le_refl _) e _ (show (amx (fun b => (leftS s).testBit b) (fun _ => 0) 8).toNat < 8 by omega)
      rw [this] at h3
      simp at h3
    have mid : ∀ Q, R (d + 22) 198 0 [vR 153, vI c, vX 9, vX 9, vX 9, vX 9] [] (WS L σ) Q = R (d + 22) 198 91 [vR 153, vI c, vI (leftS s), vI (sdS s c), vX 9, vX 9] [vI a] (WS L σ) Q := by
      intro Q
      rw [start, b198_10 (by omega) (by omega) (by omega), h4, if_neg k1, if_pos k2, b198_68, h4, r200 hl]
      simp only [am_push_s]
      have et : (s 0 - (cnt (fun b => (leftS s).testBit b) 8 : Int)) + 1 = ((nS s - cnt (fun b => (leftS s).testBit b) 8 + 1 : Nat) : Int) := by omega
      rw [b198_85 (by omega) (by omega), et, g3']
      simp only [am_push_s]
    by_cases q : a = c ∨ cnt (fun b => (leftS s).testBit b) 8 = 1
    · have e2 : ahS s c (leftS s) = c := by
        rw [eah]
        split <;> omega
      obtain ⟨σ1, f1, f2⟩ := r199 (d := d + 19) (L := L) (σ := σ) hw hc hl h0 hlb h4
      obtain ⟨x1, x2⟩ := up1 f1
      refine ⟨σ1, x1, x2, fun Q => ?_⟩
      have to107 : R (d + 22) 198 91 [vR 153, vI c, vI (leftS s), vI (sdS s c), vX 9, vX 9] [vI a] (WS L σ) Q = R (d + 22) 198 107 [vR 153, vI c, vI (leftS s), vI (sdS s c), vI a, vX 9] [] (WS L σ) Q := by
        rw [b198_91]
        by_cases q1 : a = c
        · rw [if_pos (by omega)]
        · rw [if_neg (by omega), b198_99, r200 hl]
          simp only [am_push_s]
          rw [b198_103, if_neg (by omega)]
      rw [mid, to107, b198_107, b198_112, if_neg (by omega), b198_119, f2, if_pos k2, e2]
      simp only [am_push_s]
      rw [b198_126, b198_142]
    · have e2 : ahS s c (leftS s) = a := by
        rw [eah, if_neg (by omega)]
      obtain ⟨σ1, f1, f2⟩ := r199 (d := d + 19) (L := L) (σ := σ) (c := a) hw (by omega) hl h0 hlb h4
      obtain ⟨x1, x2⟩ := up1 f1
      refine ⟨σ1, x1, x2, fun Q => ?_⟩
      rw [mid, b198_91, if_neg (by omega), b198_99, r200 hl]
      simp only [am_push_s]
      rw [b198_103, if_pos (by omega), b198_111, b198_112, if_pos rfl, b198_129, g2]
      simp only [am_push_s]
      rw [b198_138, f2, if_pos k2, e2]
      simp only [am_push_s]
      rw [b198_142]
  rw [if_neg k2]
  by_cases k3 : s (157 + c) = 3
  · have hfl : fgC (frS s c) (leftS s) < 256 := fgC_lt hl
    obtain ⟨σ1, f1, f2⟩ := r199 (d := d + 19) (L := L) (σ := σ) hw hc hfl (fgC_ne h0) (fun b hb => hlb b (fg_sub hb)) h4
    obtain ⟨x1, x2⟩ := up1 f1
    refine ⟨σ1, x1, x2, fun Q => ?_⟩
    rw [start, b198_10 (by omega) (by omega) (by omega), h4, if_neg k1, if_neg k2, if_pos k3, if_pos k3, b198_143, r201 hw hl h4]
    simp only [am_push_s]
    rw [b198_152, f2]
    simp only [am_push_s]
    rw [b198_155]
  rw [if_neg k3]
  by_cases k4 : s (157 + c) = 4
  · have hO := oW_Ov hw.2.2.2.2.1 w0.2.2.1
    have hk : (kdS s : Int) = s 4 := by unfold kdS; omega
    obtain ⟨σ1, f1, f2, f3⟩ := r185 (d := d + 19) (L := L) (kd := kdS s) (sw := false) (z := 0) hw h (by omega) rfl
    obtain ⟨x, x1, x2, x3⟩ := r183 (d := d + 21) (L := L) (σ := σ1) hw
    rw [ss_self f1.1] at x3
    have hfr : frO (nS s) (oW s) ≠ 0 := by
      intro e
      have hz := frO_0 e
      refine h0 ?_
      apply tb_ext
      intro i
      rw [Nat.zero_testBit]
      cases q : (leftS s).testBit i
      · rfl
      · obtain ⟨z1, z2⟩ := leftS_sub q
        have := hz i z1
        unfold oW at this
        rw [if_pos z1, z2] at this
        simp at this
    have hle : frO (nS s) (oW s) ≤ nS s := cnt_le _ _
    have hS := s186 (L := L) (sw := false) (sp := σ 153 14 + 1) hw (show kdS s < 4 by unfold kdS; omega) (frO (nS s) (oW s) - 1) (d + 18 - 2 * (frO (nS s) (oW s) - 1))
    rw [show d + 18 - 2 * (frO (nS s) (oW s) - 1) + 2 * (frO (nS s) (oW s) - 1) + 2 = d + 19 + 1 by omega] at hS
    obtain ⟨σ2, z, j1, j2, j3, j4, j5, j6, j7⟩ := r188 (x := x) (c := c) hw hS x1 (by rw [x2]; exact hO) (by rw [x2]; omega) hc f1
    rw [x2] at j6 j7
    refine ⟨σ2, RI_RQ j1 (by have := h.2.1; omega) (by have := h.2.2.1; omega), FQ_t f2 (FrR_FQ j2), fun Q => ?_⟩
    rw [start, b198_10 (by omega) (by omega) (by omega), h4, if_neg k1, if_neg k2, if_neg k3, if_pos k4, if_pos k4, b198_156, h4, ← hk, f3]
    simp only [am_push_n]
    rw [b198_167, x3]
    simp only [am_push_s]
    rw [b198_172]
    refine (j7 _).trans ?_
    simp only [am_push_s]
    rw [b198_176]
    unfold bsS bz
    rw [if_neg (by omega)]
  rw [if_neg k4]
  by_cases k5 : s (157 + c) = 5
  · refine ⟨σ, up0.1, up0.2, fun Q => ?_⟩
    rw [start, b198_10 (by omega) (by omega) (by omega), h4, if_neg k1, if_neg k2, if_neg k3, if_neg k4, if_pos k5, if_pos k5, b198_177, r202 hw hc hl h0 h4]
    simp only [am_push_s]
    rw [b198_183]
  rw [if_neg k5]
  by_cases k6 : s (157 + c) = 6
  · have hol : oflC (fun b => (leftS s).testBit b) (tlS s) 8 < 256 := ofl_lt (Nat.le_refl _)
    obtain ⟨σ1, f1, f2⟩ := r199 (d := d + 19) (L := L) (σ := σ) hw hc hol (ofl_ne hl h0) (fun b hb => hlb b (ofl_sub hb)) h4
    obtain ⟨x1, x2⟩ := up1 f1
    refine ⟨σ1, x1, x2, fun Q => ?_⟩
    rw [start, b198_10 (by omega) (by omega) (by omega), h4, if_neg k1, if_neg k2, if_neg k3, if_neg k4, if_neg k5, if_pos k6, if_pos k6, b198_184, r204 hw hl hlb h4]
    simp only [am_push_s]
    rw [b198_192, f2]
    simp only [am_push_s]
    rw [b198_195]
  rw [if_neg k6]
  refine ⟨σ, up0.1, up0.2, fun Q => ?_⟩
  rw [start, b198_10 (by omega) (by omega) (by omega), h4, if_neg k1, if_neg k2, if_neg k3, if_neg k4, if_neg k5, if_neg k6, b198_196, r203 hl h0]
  simp only [am_push_s]
  rw [b198_200]
theorem q196 {x : Int} (hw : WF s cl) (h : RQ N s σ) (hN : N < 20000) : ∃ σ' : St, RQ (N + 1) s σ' ∧ FQ σ σ' ∧ ∀ Q, R (d + 23) 196 0 [vR 153, vI x] [] (WS L σ) Q = Q (some (vI (aPicks s cl x))) (WS L σ') := by
  have w0 := hw.1
  have w0' := w0
  unfold W0 at w0
  have h4 := h.1
  have g0 := fun Q : Option AV → AW → Prop => r179 (d := d + 21) (L := L) (Q := Q) (σ := σ) (s := s) (x := x) w0.2.2.1
  have g1 := fun Q : Option AV → AW → Prop => r197 (d := d + 22) (L := L) (Q := Q) (σ := σ) w0'
  rw [ss_self h4] at g0 g1
  have up0 : RQ (N + 1) s σ := ⟨h.1, h.2.1, by have := h.2.2.1; omega, h.2.2.2⟩
  unfold aPicks
  by_cases q : 0 ≤ x ∧ x < s 2
  · obtain ⟨c, rfl⟩ : ∃ c : Nat, x = (c : Int) := ⟨x.toNat, by omega⟩
    by_cases q0 : leftS s = 0
    · refine ⟨σ, up0, FQ_r, fun Q => ?_⟩
      rw [b196_0, g0]
      simp only [am_push_s]
      rw [b196_5, if_pos (by rw [tI_t q]; omega), b196_10, g1]
      simp only [am_push_s]
      rw [b196_14, if_neg (by omega), b196_17, b196_27, if_pos q]
      unfold pkS
      rw [if_pos q0]
    · obtain ⟨σ1, f1, f2, f3⟩ := r198 (d := d) (L := L) (c := c) hw (by omega) h hN q0
      refine ⟨σ1, f1, f2, fun Q => ?_⟩
      rw [b196_0, g0]
      simp only [am_push_s]
      rw [b196_5, if_pos (by rw [tI_t q]; omega), b196_10, g1]
      simp only [am_push_s]
      rw [b196_14, if_pos (by omega), b196_22, f3]
      simp only [am_push_s]
      rw [b196_27, if_pos q]
      rfl
  · refine ⟨σ, up0, FQ_r, fun Q => ?_⟩
    rw [b196_0, g0]
    simp only [am_push_s]
    rw [b196_5, if_neg (by rw [tI_f q]; omega), b196_8, if_neg q]
end RN4
