/-! the reference: what is best, from the last boy back -/
def dR (x b : Nat) : Nat := if b < 8 then x / 2 ^ (2 * b) % 4 else 0
theorem mod4_tb {z : Nat} : z % 4 = (z.testBit 0).toNat + 2 * (z.testBit 1).toNat := by
  rw [Nat.testBit_zero, show (1 : Nat) = 0 + 1 from rfl, Nat.testBit_succ, Nat.testBit_zero]
  have h1 : z % 2 = 0 ∨ z % 2 = 1 := by omega
  have h2 : z / 2 % 2 = 0 ∨ z / 2 % 2 = 1 := by omega
  rcases h1 with h1 | h1 <;> rcases h2 with h2 | h2 <;> simp [h1, h2] <;> omega
theorem dR_tb {x b : Nat} (hb : b < 8) : dR x b = (x.testBit (2 * b)).toNat + 2 * (x.testBit (2 * b + 1)).toNat := by
  unfold dR
  rw [if_pos hb, mod4_tb, Nat.testBit_div_two_pow, Nat.testBit_div_two_pow]
  simp [Nat.add_comm]
theorem dR_0 : dR 0 = fun _ => 0 := by
  funext b
  unfold dR
  simp
theorem dR_3 {x b : Nat} : dR x b ≤ 3 := by
  unfold dR
  split <;> omega
theorem orR {x b v : Nat} (hx : x < 65536) (hb : b < 8) (hv : v ≤ 3) (h0 : dR x b = 0) : x ||| v * 2 ^ (2 * b) < 65536 ∧ dR (x ||| v * 2 ^ (2 * b)) = oup (dR x) b v := by
  have hp : 2 ^ (2 * b) ≤ 2 ^ 14 := Nat.pow_le_pow_right (by decide) (by omega)
  have l1 : v * 2 ^ (2 * b) ≤ 3 * 2 ^ 14 := Nat.mul_le_mul hv hp
  refine ⟨or_lt (n := 16) hx (by omega), ?_⟩
  funext i
  by_cases hi : i < 8
  · rw [dR_tb hi]
    simp only [Nat.testBit_or, Nat.testBit_mul_two_pow]
    by_cases hib : i = b
    · subst hib
      rw [oup_s]
      rw [dR_tb hi] at h0
      have z1 : x.testBit (2 * i) = false := by
        cases h : x.testBit (2 * i)
        · rfl
        · rw [h] at h0; simp at h0
      have z2 : x.testBit (2 * i + 1) = false := by
        cases h : x.testBit (2 * i + 1)
        · rfl
        · rw [h] at h0; simp at h0
      rw [z1, z2]
      have e1 : 2 * i - 2 * i = 0 := by omega
      have e2 : 2 * i + 1 - 2 * i = 1 := by omega
      have e3 : 2 * i ≤ 2 * i + 1 := by omega
      simp only [e1, e2, e3, Nat.le_refl, decide_true, Bool.true_and, Bool.false_or]
      rw [← mod4_tb]
      omega
    · rw [oup_o hib, dR_tb hi]
      have f : ∀ j, (j = 2 * i ∨ j = 2 * i + 1) → (decide (2 * b ≤ j) && v.testBit (j - 2 * b)) = false := by
        intro j hj
        by_cases q : 2 * b ≤ j
        · have : v.testBit (j - 2 * b) = false := Nat.testBit_lt_two_pow (Nat.lt_of_le_of_lt hv (Nat.lt_of_lt_of_le (show 3 < 2 ^ 2 by omega) (Nat.pow_le_pow_right (by decide) (by omega))))
          simp [this]
        · simp [q]
      rw [f _ (Or.inl rfl), f _ (Or.inr rfl), Bool.or_false, Bool.or_false]
  · unfold dR oup
    rw [if_neg hi, if_neg (by omega)]
    exact (if_neg hi).symm
section RN1
variable {d L N : Nat} {s s' : Int → Int} {cl cl' : Nat → List Cl} {σ σ1 : St} {Q : Option AV → AW → Prop}
theorem i_dR {x b : Nat} (hx : x < 65536) (hb : b < 8) : i_and (i_shr x (2 * (b : Int))) 3 = (dR x b : Int) := by
  have h1 := Nat.div_le_self x (2 ^ (2 * b))
  have e2 : i_and ((x / 2 ^ (2 * b) : Nat) : Int) 3 = ((x / 2 ^ (2 * b) &&& 3 : Nat) : Int) := i_and_nat (b := 3) (by omega) (by omega)
  rw [show 2 * (b : Int) = ((2 * b : Nat) : Int) by omega, i_shr_nat (by omega) (by omega), e2, show (3 : Nat) = 2 ^ 2 - 1 from rfl, Nat.and_two_pow_sub_one_eq_mod]
  unfold dR
  rw [if_pos hb]
theorem i_orR {x b v : Nat} (hx : x < 65536) (hb : b < 8) (hv : v ≤ 3) : i_or x (i_shl v (2 * (b : Int))) = ((x ||| v * 2 ^ (2 * b) : Nat) : Int) := by
  have hp : 2 ^ (2 * b) ≤ 2 ^ 14 := Nat.pow_le_pow_right (by decide) (by omega)
  have l1 : v * 2 ^ (2 * b) ≤ 3 * 2 ^ 14 := Nat.mul_le_mul hv hp
  rw [show 2 * (b : Int) = ((2 * b : Nat) : Int) by omega, i_shl_nat (by omega) (by omega), i_or_nat (by omega) (by omega)]
theorem r184_l {x : Nat} (hx : x < 65536) : ∀ j k : Nat, k + j = 8 → R d 184 4 [vI x, vI (cnt (fun b => decide (dR x b ≠ 0)) k), vI k] [] (WS L σ) Q = Q (some (vI (cntO (dR x)))) (WS L σ) := by
  intro j
  induction j with
  | zero =>
    intro k hk
    obtain rfl : k = 8 := by omega
    rw [b184_4, if_pos (by omega), b184_34]
    rfl
  | succ j ih =>
    intro k hk
    have hc := cnt_le (fun b => decide (dR x b ≠ 0)) k
    have e := ih (k + 1) (by omega)
    rw [cnt] at e
    rw [b184_4, if_neg (by omega), b184_10 (by omega), i_dR hx (by omega)]
    by_cases q : dR x k = 0
    · rw [if_pos (by omega), b184_25, b184_26 (by omega) (by omega)]
      simpa [q] using e
    · rw [if_neg (by omega), b184_21, b184_26 (by omega) (by omega)]
      simpa [q] using e
theorem r184 {x : Nat} (hx : x < 65536) : R d 184 0 [vI x, vX 9, vX 9] [] (WS L σ) Q = Q (some (vI (cntO (dR x)))) (WS L σ) := by
  rw [b184_0]
  exact r184_l hx 8 0 (by omega)
theorem r189_l {x c : Nat} (hx : x < 65536) (hc : c < 3) : ∀ j k : Nat, k + j = 8 → R d 189 4 [vI x, vI c, vI (bits (fun b => decide (dR x b = c + 1)) k), vI k] [] (WS L σ) Q = Q (some (vI (sdO (dR x) c))) (WS L σ) := by
  intro j
  induction j with
  | zero =>
    intro k hk
    obtain rfl : k = 8 := by omega
    rw [b189_4, if_pos (by omega), b189_39]
    rfl
  | succ j ih =>
    intro k hk
    have e := ih (k + 1) (by omega)
    rw [b189_4, if_neg (by omega), b189_10 (by omega) (by omega), i_dR hx (by omega)]
    by_cases q : dR x k = c + 1
    · rw [if_neg (by omega), b189_24, b189_31 (by omega), or_tt (p := fun b => decide (dR x b = c + 1)) (by omega) (by simpa using q)]
      exact e
    · rw [if_pos (by omega), b189_30, b189_31 (by omega), or_ff (p := fun b => decide (dR x b = c + 1)) (by omega) (by simpa using q)]
      exact e
theorem r189 {x c : Nat} (hx : x < 65536) (hc : c < 3) : R d 189 0 [vI x, vI c, vX 9, vX 9] [] (WS L σ) Q = Q (some (vI (sdO (dR x) c))) (WS L σ) := by
  rw [b189_0]
  exact r189_l hx hc 8 0 (by omega)
theorem oW_3 (hw : WF s cl) {b : Nat} : oW s b ≤ 3 := by
  obtain ⟨w0, -, -, -, w4, -⟩ := hw
  unfold W0 at w0
  unfold oW
  split
  · rename_i h
    unfold nS at h
    have := (w4 b (by omega)).2.2.2
    omega
  · omega
theorem r183_l (hw : WF s cl) : ∀ j k x : Nat, k + j = nS s → x < 65536 → (dR x = fun b => if b < k then oW s b else 0) → ∃ y : Nat, y < 65536 ∧ dR y = oW s ∧ ∀ Q, R d 183 4 [vR 153, vI x, vI k] [] (WS L (setS σ s)) Q = Q (some (vI y)) (WS L (setS σ s)) := by
  have w0 := hw.1
  unfold W0 at w0
  have hn : s 0 = (nS s : Int) := by unfold nS; omega
  have e0 : setS σ s 154 0 = s 0 := by rw [ss_e]
  intro j
  induction j with
  | zero =>
    intro k x hk hx hd
    obtain rfl : k = nS s := by omega
    refine ⟨x, hx, ?_, fun Q => ?_⟩
    · rw [hd]
      funext b
      unfold oW
      split <;> simp_all
    · rw [b183_4, e0, if_pos (by omega), b183_39]
  | succ j ih =>
    intro k x hk hx hd
    have h0 : dR x k = 0 := by rw [hd]; simp
    have h3 := oW_3 hw (b := k)
    obtain ⟨g1, g2⟩ := orR (v := oW s k) hx (show k < 8 by omega) h3 h0
    obtain ⟨y, y1, y2, y3⟩ := ih (k + 1) _ (by omega) g1 (by
      rw [g2, hd]
      funext b
      unfold oup
      by_cases q : b = k
      · rw [if_pos q, if_pos (by omega), q]
      · rw [if_neg q]
        dsimp only
        by_cases q2 : b < k
        · rw [if_pos q2, if_pos (by omega)]
        · rw [if_neg q2, if_neg (by omega)])
    refine ⟨y, y1, y2, fun Q => ?_⟩
    have hs := (hw.2.2.2.2.1 k (by omega)).2.2.2
    have e4 : setS σ s 154 (203 + k) = s (203 + k) := by rw [ss_e]
    have ev : s (203 + k) + 1 = ((oW s k : Nat) : Int) := by
      unfold oW
      rw [if_pos (by omega)]
      omega
    rw [b183_4, e0, if_neg (by omega), b183_14 (by omega) (by omega) (by omega) (by rw [e4]; omega) (by omega) (by omega), e4, ev, i_orR hx (by omega) h3]
    exact y3 Q
theorem r183 (hw : WF s cl) : ∃ y : Nat, y < 65536 ∧ dR y = oW s ∧ ∀ Q, R d 183 0 [vR 153, vX 9, vX 9] [] (WS L (setS σ s)) Q = Q (some (vI y)) (WS L (setS σ s)) := by
  obtain ⟨y, y1, y2, y3⟩ := r183_l (d := d) (L := L) (σ := σ) hw (nS s) 0 0 (by omega) (by omega) (by rw [dR_0]; funext b; simp)
  refine ⟨y, y1, y2, fun Q => ?_⟩
  rw [b183_0]
  exact y3 Q
/-- while ends are looked up -/
def RE (s : Int → Int) (cl : Nat → List Cl) (kd : Nat) (sw : Bool) (σ : St) (x : Nat) : Prop := ∃ y : Nat, y < 65536 ∧ σ 159 x = (y : Int) ∧ dR y = EF (Wr s cl) (mvS s kd sw) (nS s) (frO (nS s) (dR x)) (dR x) ∧ σ 160 x = chF (Wr s cl) (mvS s kd sw) (nS s) (frO (nS s) (dR x) - 1) (dR x) (mvS s kd sw (cntO (dR x)))
def RI (s : Int → Int) (cl : Nat → List Cl) (kd : Nat) (sw : Bool) (sp : Int) (σ : St) : Prop := σ 154 = s ∧ σ 153 14 = sp ∧ σ 153 15 = (kd : Int) ∧ σ 153 16 = (if sw = true then 1 else 0) ∧ (∀ c x : Nat, c < 3 → x < 2 ^ nS s → σ 157 (256 * (c : Int) + x) = Wr s cl c x) ∧ (∀ x : Nat, x < 65536 → σ 158 x ≤ sp) ∧ ∀ x : Nat, x < 65536 → Ov (nS s) (dR x) → σ 158 x = sp → RE s cl kd sw σ x
def FrR (σ σ' : St) : Prop := (∀ a, a ≠ 153 → a ≠ 158 → a ≠ 159 → a ≠ 160 → σ' a = σ a) ∧ ∀ j : Int, j ≠ 17 → σ' 153 j = σ 153 j
theorem FrR_t {σ σ' σ'' : St} (h : FrR σ σ') (h2 : FrR σ' σ'') : FrR σ σ'' := ⟨fun a a1 a2 a3 a4 => (h2.1 a a1 a2 a3 a4).trans (h.1 a a1 a2 a3 a4), fun j hj => (h2.2 j hj).trans (h.2 j hj)⟩
theorem FrR_r : FrR σ σ := ⟨fun _ _ _ _ _ => rfl, fun _ _ => rfl⟩
theorem mvS_3 (hw : WF s cl) {kd : Nat} {sw : Bool} {t : Nat} : mvS s kd sw t < 3 := by
  have w0 := hw.1
  unfold W0 at w0
  exact mvF_r (by omega)
theorem r187 {kd t : Nat} {sw : Bool} {sp : Int} (hw : WF s cl) (h : RI s cl kd sw sp σ) (hk : kd < 4) (ht : t < 1000) : R (d + 1) 187 0 [vR 153, vI t, vX 9] [] (WS L σ) Q = Q (some (vI (mvS s kd sw t))) (WS L σ) := by
  obtain ⟨h1, h2, h3, h4, -⟩ := h
  have w0 := hw.1
  have w0' := w0
  unfold W0 at w0'
  have g := fun Q : Option AV → AW → Prop => r175 (Q := Q) (d := d) (L := L) (σ := σ) (s := s) (k := (kd : Int)) (t := t) w0 hw.2.2.1 (by omega) ht
  rw [ss_self h1] at g
  have hr := tkC_r (w := (s 2).toNat) (kind := kd) (t := t) (m := (s 5).toNat) (told := fun i => s (187 + i)) (by omega)
  have et : tkS s ((kd : Int)).toNat t = tkC (s 2).toNat kd t (s 5).toNat (fun i => s (187 + i)) := rfl
  rw [b187_0, h3, g]
  simp only [am_push_s]
  rw [b187_9, h4, et]
  unfold mvS mvF
  cases sw with
  | false =>
    rw [if_pos (by simp), b187_28, b187_29, if_neg (fun z => by simp at z)]
    congr 3
    omega
  | true =>
    rw [if_neg (by simp), b187_17]
    by_cases q : tkC (s 2).toNat kd t (s 5).toNat (fun i => s (187 + i)) < 2
    · have q' : true = true ∧ (tkC (s 2).toNat kd t (s 5).toNat (fun i => s (187 + i))).toNat < 2 := ⟨rfl, by omega⟩
      rw [if_neg (by omega), b187_22 (by omega), b187_29, if_pos q']
      congr 3
      omega
    · rw [if_pos (by omega), b187_28, b187_29, if_neg (fun z => q (by have := z.2; omega))]
      congr 3
      omega
def S186 (s : Int → Int) (cl : Nat → List Cl) (kd : Nat) (sw : Bool) (sp : Int) (L D k : Nat) : Prop := ∀ (σ : St) (x : Nat), RI s cl kd sw sp σ → x < 65536 → Ov (nS s) (dR x) → frO (nS s) (dR x) = k → ∃ (σ' : St) (y : Nat), RI s cl kd sw sp σ' ∧ FrR σ σ' ∧ σ' 158 x = sp ∧ y < 65536 ∧ dR y = EF (Wr s cl) (mvS s kd sw) (nS s) k (dR x) ∧ ∀ Q, R D 186 0 [vR 153, vI x, vX 9, vX 9] [] (WS L σ) Q = Q (some (vI y)) (WS L σ')
theorem RI_17 {kd : Nat} {sw : Bool} {sp z : Int} (h : RI s cl kd sw sp σ) : RI s cl kd sw sp (st2 σ 153 17 z) := by
  obtain ⟨h1, h2, h3, h4, h5, h6, h7⟩ := h
  refine ⟨?_, ?_, ?_, ?_, fun c x a b => ?_, fun x a => ?_, fun x a b c => ?_⟩
  · funext j
    rw [st2_k (by omega), h1]
  · rw [st2_i (by omega)]; exact h2
  · rw [st2_i (by omega)]; exact h3
  · rw [st2_i (by omega)]; exact h4
  · rw [st2_k (by omega)]; exact h5 c x a b
  · rw [st2_k (by omega)]; exact h6 x a
  · rw [st2_k (by omega)] at c
    unfold RE
    rw [st2_k (by omega), st2_k (by omega)]
    exact h7 x a b c
theorem r188_l {kd k c x : Nat} {sw : Bool} {sp : Int} {D : Nat} (hw : WF s cl) (ih : S186 s cl kd sw sp L (D + 1) k) (hx : x < 65536) (hO : Ov (nS s) (dR x)) (hf : frO (nS s) (dR x) = k + 1) (hc : c < 3) : ∀ (m i : Nat) (σ : St) (bw : Int) (z : Nat) (u7 u8 u9 : AV), i + m = nS s → RI s cl kd sw sp σ → z < 65536 → (0 ≤ amx (fun b => decide (dR x b = 0)) (vE (Wr s cl) (mvS s kd sw) (nS s) k (dR x) c) i → bw = vE (Wr s cl) (mvS s kd sw) (nS s) k (dR x) c (amx (fun b => decide (dR x b = 0)) (vE (Wr s cl) (mvS s kd sw) (nS s) k (dR x) c) i).toNat ∧ dR z = EF (Wr s cl) (mvS s kd sw) (nS s) k (oup (dR x) (amx (fun b => decide (dR x b = 0)) (vE (Wr s cl) (mvS s kd sw) (nS s) k (dR x) c) i).toNat (c + 1))) → ∃ (σ' : St) (z' : Nat), RI s cl kd sw sp σ' ∧ FrR σ σ' ∧ z' < 65536 ∧ dR z' = EF (Wr s cl) (mvS s kd sw) (nS s) k (oup (dR x) (chF (Wr s cl) (mvS s kd sw) (nS s) k (dR x) c).toNat (c + 1)) ∧ σ' 153 17 = (z' : Int) ∧ 0 ≤ chF (Wr s cl) (mvS s kd sw) (nS s) k (dR x) c ∧ ∀ Q, R (D + 2) 188 11 [vR 153, vI x, vI c, vI (amx (fun b => decide (dR x b = 0)) (vE (Wr s cl) (mvS s kd sw) (nS s) k (dR x) c) i), vI bw, vI z, vI i, u7, u8, u9] [] (WS L σ) Q = Q (some (vI (chF (Wr s cl) (mvS s kd sw) (nS s) k (dR x) c))) (WS L σ') := by
  have w0 := hw.1
  unfold W0 at w0
  have hn : s 0 = (nS s : Int) := by unfold nS; omega
  have h8 : nS s ≤ 8 := by omega
  have p8 := pw8 h8
  intro m
  induction m with
  | zero =>
    intro i σ bw z u7 u8 u9 hi hI hz hb
    obtain rfl : i = nS s := by omega
    have hp : 0 ≤ amx (fun b => decide (dR x b = 0)) (vE (Wr s cl) (mvS s kd sw) (nS s) k (dR x) c) (nS s) := by
      refine Int.not_lt.mp (fun h => ?_)
      rw [amx_none] at h
      have : frO (nS s) (dR x) = 0 := by
        unfold frO
        have hz : ∀ m, m ≤ nS s → cnt (fun b => decide (dR x b = 0)) m = 0 := by
          intro m
          induction m with
          | zero => intro _; rfl
          | succ m ihm =>
            intro hm
            rw [cnt, ihm (by omega), h m (by omega)]
            rfl
        exact hz _ (Nat.le_refl _)
      omega
    obtain ⟨hb1, hb2⟩ := hb hp
    refine ⟨st2 σ 153 17 z, z, RI_17 hI, ⟨fun a a1 _ _ _ => by funext j; exact st2_k a1, fun j hj => st2_i hj⟩, hz, hb2, st2_eq, hp, fun Q => ?_⟩
    have e0 : σ 154 0 = s 0 := by rw [hI.1]
    rw [b188_11, e0, if_pos (by omega), b188_133, b188_139]
    rfl
  | succ m ihm =>
    intro i σ bw z u7 u8 u9 hi hI hz hb
    have e0 : σ 154 0 = s 0 := by rw [hI.1]
    have ea := amx_r (fun b => decide (dR x b = 0)) (vE (Wr s cl) (mvS s kd sw) (nS s) k (dR x) c) i
    by_cases q : dR x i = 0
    · obtain ⟨g1, g2⟩ := orR (v := c + 1) hx (show i < 8 by omega) (by omega) q
      have hO2 : Ov (nS s) (dR (x ||| (c + 1) * 2 ^ (2 * i))) := by rw [g2]; exact Ov_oup hO (by omega) (by omega)
      have hfr := frO_oup (v := c + 1) (show i < nS s by omega) q (by omega)
      obtain ⟨σ1, y, f1, f2, -, f3, f4, f5⟩ := ih σ _ hI g1 hO2 (by rw [g2]; omega)
      rw [g2] at f4
      have hOy : Ov (nS s) (dR y) := by rw [f4, ← g2]; exact EF_Ov h8 (fun t _ => mvS_3 hw) _ _ hO2
      have hsl : sdO (dR y) c < 2 ^ nS s := sdO_lt hOy h8
      have hW := f1.2.2.2.2.1 c (sdO (dR y) c) hc hsl
      have hval : Wr s cl c (sdO (dR y) c) = vE (Wr s cl) (mvS s kd sw) (nS s) k (dR x) c i := by rw [f4]; rfl
      have head : ∀ Q, R (D + 2) 188 11 [vR 153, vI x, vI c, vI (amx (fun b => decide (dR x b = 0)) (vE (Wr s cl) (mvS s kd sw) (nS s) k (dR x) c) i), vI bw, vI z, vI i, u7, u8, u9] [] (WS L σ) Q = if amx (fun b => decide (dR x b = 0)) (vE (Wr s cl) (mvS s kd sw) (nS s) k (dR x) c) i < 0 ∨ bw < vE (Wr s cl) (mvS s kd sw) (nS s) k (dR x) c i then R (D + 2) 188 80 [vR 153, vI x, vI c, vI (amx (fun b => decide (dR x b = 0)) (vE (Wr s cl) (mvS s kd sw) (nS s) k (dR x) c) i), vI bw, vI z, vI i, vI y, vI (vE (Wr s cl) (mvS s kd sw) (nS s) k (dR x) c i), u9] [] (WS L σ1) Q else R (D + 2) 188 84 [vR 153, vI x, vI c, vI (amx (fun b => decide (dR x b = 0)) (vE (Wr s cl) (mvS s kd sw) (nS s) k (dR x) c) i), vI bw, vI z, vI i, vI y, vI (vE (Wr s cl) (mvS s kd sw) (nS s) k (dR x) c i), u9] [] (WS L σ1) Q := by
        intro Q
        rw [b188_11, e0, if_neg (by omega), b188_22 (by omega), i_dR hx (by omega), if_neg (by omega), b188_33 (by omega) (by omega), show (c : Int) + 1 = ((c + 1 : Nat) : Int) from rfl, i_orR hx (by omega) (by omega), f5]
        simp only [am_push_s]
        rw [b188_47 (by omega), r189 f3 hc]
        simp only [am_push_s]
        rw [b188_64 (by omega) (by omega) (by omega), hW, hval]
        by_cases q1 : amx (fun b => decide (dR x b = 0)) (vE (Wr s cl) (mvS s kd sw) (nS s) k (dR x) c) i = -1
        · rw [if_pos q1, if_pos (Or.inl (by omega))]
        · rw [if_neg q1, b188_73]
          by_cases q2 : bw < vE (Wr s cl) (mvS s kd sw) (nS s) k (dR x) c i
          · rw [if_neg (by omega), if_pos (Or.inr q2)]
          · rw [if_pos (by omega), if_neg (by omega)]
      have eam : amx (fun b => decide (dR x b = 0)) (vE (Wr s cl) (mvS s kd sw) (nS s) k (dR x) c) (i + 1) = if amx (fun b => decide (dR x b = 0)) (vE (Wr s cl) (mvS s kd sw) (nS s) k (dR x) c) i < 0 ∨ bw < vE (Wr s cl) (mvS s kd sw) (nS s) k (dR x) c i then (i : Int) else amx (fun b => decide (dR x b = 0)) (vE (Wr s cl) (mvS s kd sw) (nS s) k (dR x) c) i := by
        rw [amx]
        by_cases qa : amx (fun b => decide (dR x b = 0)) (vE (Wr s cl) (mvS s kd sw) (nS s) k (dR x) c) i < 0
        · rw [if_pos (Or.inl qa), if_pos ⟨by simpa using q, Or.inl qa⟩]
        · have := (hb (by omega)).1
          rw [← this]
          by_cases qb : bw < vE (Wr s cl) (mvS s kd sw) (nS s) k (dR x) c i
          · rw [if_pos (Or.inr qb), if_pos ⟨by simpa using q, Or.inr qb⟩]
          · rw [if_neg (fun h => h.2.elim qa qb), if_neg (fun h => h.elim qa qb)]
      by_cases q2 : amx (fun b => decide (dR x b = 0)) (vE (Wr s cl) (mvS s kd sw) (nS s) k (dR x) c) i < 0 ∨ bw < vE (Wr s cl) (mvS s kd sw) (nS s) k (dR x) c i
      · rw [if_pos q2] at eam
        obtain ⟨σ2, z', r1, r2, r3, r4, r5, r6, r7⟩ := ihm (i + 1) σ1 (vE (Wr s cl) (mvS s kd sw) (nS s) k (dR x) c i) y (vI y) (vI (vE (Wr s cl) (mvS s kd sw) (nS s) k (dR x) c i)) (vI 1) (by omega) f1 f3 (fun _ => by
          rw [eam]
          exact ⟨rfl, f4⟩)
        rw [eam] at r7
        refine ⟨σ2, z', r1, FrR_t f2 r2, r3, r4, r5, r6, fun Q => ?_⟩
        rw [head, if_pos q2, b188_80, b188_85, if_neg (by omega), b188_92, b188_99, if_neg (by omega), b188_106, b188_112, if_neg (by omega), b188_118, b188_125, b188_127 (by omega)]
        exact r7 Q
      · rw [if_neg q2] at eam
        obtain ⟨σ2, z', r1, r2, r3, r4, r5, r6, r7⟩ := ihm (i + 1) σ1 bw z (vI y) (vI (vE (Wr s cl) (mvS s kd sw) (nS s) k (dR x) c i)) (vI 0) (by omega) f1 hz (fun h => by
          rw [eam] at h ⊢
          exact hb h)
        rw [eam] at r7
        refine ⟨σ2, z', r1, FrR_t f2 r2, r3, r4, r5, r6, fun Q => ?_⟩
        rw [head, if_neg q2, b188_84, b188_85, if_pos rfl, b188_97, b188_99, if_pos rfl, b188_111, b188_112, if_pos rfl, b188_123, b188_125, b188_127 (by omega)]
        exact r7 Q
    · have eam : amx (fun b => decide (dR x b = 0)) (vE (Wr s cl) (mvS s kd sw) (nS s) k (dR x) c) (i + 1) = amx (fun b => decide (dR x b = 0)) (vE (Wr s cl) (mvS s kd sw) (nS s) k (dR x) c) i := by
        rw [amx, if_neg (fun h => q (by simpa using h.1))]
      obtain ⟨σ2, z', r1, r2, r3, r4, r5, r6, r7⟩ := ihm (i + 1) σ bw z u7 u8 u9 (by omega) hI hz (by rw [eam]; exact hb)
      rw [eam] at r7
      refine ⟨σ2, z', r1, r2, r3, r4, r5, r6, fun Q => ?_⟩
      rw [b188_11, e0, if_neg (by omega), b188_22 (by omega), i_dR hx (by omega), if_pos (by omega), b188_127 (by omega)]
      exact r7 Q
theorem r188 {kd k c x : Nat} {sw : Bool} {sp : Int} {D : Nat} (hw : WF s cl) (ih : S186 s cl kd sw sp L (D + 1) k) (hx : x < 65536) (hO : Ov (nS s) (dR x)) (hf : frO (nS s) (dR x) = k + 1) (hc : c < 3) (hI : RI s cl kd sw sp σ) : ∃ (σ' : St) (z' : Nat), RI s cl kd sw sp σ' ∧ FrR σ σ' ∧ z' < 65536 ∧ dR z' = EF (Wr s cl) (mvS s kd sw) (nS s) k (oup (dR x) (chF (Wr s cl) (mvS s kd sw) (nS s) k (dR x) c).toNat (c + 1)) ∧ σ' 153 17 = (z' : Int) ∧ 0 ≤ chF (Wr s cl) (mvS s kd sw) (nS s) k (dR x) c ∧ ∀ Q, R (D + 2) 188 0 [vR 153, vI x, vI c, vX 9, vX 9, vX 9, vX 9, vX 9, vX 9, vX 9] [] (WS L σ) Q = Q (some (vI (chF (Wr s cl) (mvS s kd sw) (nS s) k (dR x) c))) (WS L σ') := by
  obtain ⟨σ', z', r1, r2, r3, r4, r5, r6, r7⟩ := r188_l hw ih hx hO hf hc (nS s) 0 σ 0 x (vX 9) (vX 9) (vX 9) (by omega) hI hx (fun h => absurd h (by rw [amx]; omega))
  refine ⟨σ', z', r1, r2, r3, r4, r5, r6, fun Q => ?_⟩
  rw [b188_0]
  exact r7 Q
end RN1
