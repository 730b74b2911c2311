/-! the reference: even, cut -/
section RN6
variable {d L : Nat} {N : Int} {s s' : Int → Int} {cl cl' : Nat → List Cl} {σ σ1 : St} {Q : Option AV → AW → Prop}
theorem st_b (hw : WF s cl) {b : Nat} (hb : b < nS s) : 0 ≤ s (138 + b) ∧ s (138 + b) ≤ 20 := by
  have w0 := hw.1
  unfold W0 at w0
  exact (hw.2.2.2.2.1 b (by unfold nS at hb; omega)).2.1
theorem r207_t {n : Nat} {z1 : Int} {u4 u5 u6 u7 u8 : AV} (hn : s 0 = (n : Int)) (h8 : n ≤ 8) (hst : ∀ b : Nat, b < n → 0 ≤ s (138 + b) ∧ s (138 + b) ≤ 20) (h4 : σ 154 = s) : ∀ (j k : Nat), k + j = n → R d 207 15 [vR 153, vI z1, vI (sumN (fun b => s (138 + b)) k), vI k, u4, u5, u6, u7, u8] [] (WS L σ) Q = R d 207 44 [vR 153, vI z1, vI (sumN (fun b => s (138 + b)) n), vI n, u4, u5, u6, u7, u8] [] (WS L σ) Q := by
  intro j
  induction j with
  | zero =>
    intro k hk
    obtain rfl : k = n := by omega
    rw [b207_15, h4, if_pos (by omega)]
  | succ j ih =>
    intro k hk
    have hb := hst k (by omega)
    have bd := sumN_le (f := fun b => s (138 + (b : Nat))) (a := 0) (b := 20) (n := k) (fun i hi => hst i (by omega))
    rw [b207_15, h4, if_neg (by omega), b207_25 (by omega) (by omega) (by omega) (by rw [h4]; omega) (by omega), h4]
    have e := ih (k + 1) (by omega)
    rw [sumN] at e
    exact e
theorem r207_s {n x : Nat} {z5 : Int} {u1 u2 u3 u4 u8 : AV} (hn : s 0 = (n : Int)) (h8 : n ≤ 8) (hx : x < 256) (hz : z5 = (x : Int)) (hst : ∀ b : Nat, b < n → 0 ≤ s (138 + b) ∧ s (138 + b) ≤ 20) (h4 : σ 154 = s) : ∀ (j k : Nat), k + j = n → R d 207 71 [vR 153, u1, u2, u3, u4, vI z5, vI (sumN (fun b => if x.testBit b = true then s (138 + b) else 0) k), vI k, u8] [] (WS L σ) Q = R d 207 119 [vR 153, u1, u2, u3, u4, vI z5, vI (sumN (fun b => if x.testBit b = true then s (138 + b) else 0) n), vI n, u8] [] (WS L σ) Q := by
  subst hz
  intro j
  induction j with
  | zero =>
    intro k hk
    obtain rfl : k = n := by omega
    rw [b207_71, h4, if_pos (by omega)]
  | succ j ih =>
    intro k hk
    have hb := hst k (by omega)
    have hbit : i_and (i_shr x k) 1 = if x.testBit k then 1 else 0 := i_bit (by omega) (by omega)
    have bd := sumN_le (f := fun b => if x.testBit b = true then s (138 + (b : Nat)) else 0) (a := 0) (b := 20) (n := k) (fun i hi => by
      have := hst i (by omega)
      split <;> omega)
    have e := ih (k + 1) (by omega)
    rw [sumN] at e
    rw [b207_71, h4, if_neg (by omega), b207_82, hbit]
    by_cases q : x.testBit k = true
    · rw [if_pos q] at e
      rw [if_neg (by simp [q]), b207_95 (by omega) (by omega) (by omega), h4, b207_110 (by omega) (by omega)]
      exact e
    · rw [if_neg q] at e
      rw [if_pos (by simp [q]), b207_109, b207_110 (by omega) (by omega)]
      exact e
theorem ev_sum (hw : WF s cl) {x : Nat} : strT (trS s) x (nS s) + strT (trS s) (cpl (nS s) x) (nS s) = sumN (fun b => s (138 + b)) (nS s) := by
  unfold strT
  rw [← sumN_add]
  refine sumN_congr (fun b hb => ?_)
  have e1 : trS s 1 b = s (138 + b) := rfl
  have e2 : (cpl (nS s) x).testBit b = !x.testBit b := by
    unfold cpl
    rw [Nat.testBit_xor, Nat.testBit_and, all_t]
    simp [hb]
  rw [e1, e2]
  cases x.testBit b <;> simp
theorem ev_g (hw : WF s cl) {x : Nat} : evG s x = absI (2 * strT (trS s) x (nS s) - sumN (fun b => s (138 + b)) (nS s)) := by
  have := ev_sum hw (x := x)
  unfold evG
  congr 1
  omega
theorem r207_x {z1 : Int} (hw : WF s cl) (h4 : σ 154 = s) : ∀ (j x : Nat) (z4 : Int) (u6 u7 u8 : AV), x + j = 2 ^ nS s → (0 ≤ amx (evK s) (fun x => -evG s x) x → z4 = evG s (amx (evK s) (fun x => -evG s x) x).toNat) → ∃ (v6 v7 v8 : AV), ∀ Q, R (d + 1) 207 52 [vR 153, vI z1, vI (sumN (fun b => s (138 + b)) (nS s)), vI (amx (evK s) (fun x => -evG s x) x), vI z4, vI x, u6, u7, u8] [] (WS L σ) Q = R (d + 1) 207 211 [vR 153, vI z1, vI (sumN (fun b => s (138 + b)) (nS s)), vI (evE s), vI (evG s (evE s).toNat), vI ((2 ^ nS s : Nat) : Int), v6, v7, v8] [] (WS L σ) Q := by
  have w0 := hw.1
  unfold W0 at w0
  have hn : s 0 = (nS s : Int) := by unfold nS; omega
  have h8 : nS s ≤ 8 := by omega
  have p8 := pw8 h8
  have esh : i_shl 1 (s 0) = ((2 ^ nS s : Nat) : Int) := by rw [hn]; exact i_one_shl (by omega)
  have hst : ∀ b : Nat, b < nS s → 0 ≤ s (138 + b) ∧ s (138 + b) ≤ 20 := fun b hb => st_b hw hb
  have hT := sumN_le (f := fun b => s (138 + (b : Nat))) (a := 0) (b := 20) (n := nS s) (fun i hi => hst i hi)
  intro j
  induction j with
  | zero =>
    intro x z4 u6 u7 u8 hx hz
    obtain rfl : x = 2 ^ nS s := by omega
    have hz' : z4 = evG s (evE s).toNat := hz (evE_r hw).1
    refine ⟨u6, u7, u8, fun Q => ?_⟩
    rw [b207_52, h4, esh, if_pos (by omega), hz']
    rfl
  | succ j ih =>
    intro x z4 u6 u7 u8 hx hz
    have hS := str_b hw (x := x)
    have ea := amx_r (evK s) (fun x => -evG s x) x
    have ed : i_div (s 0) 2 = ((nS s / 2 : Nat) : Int) := by
      rw [hn]
      exact i_div_nat (b := 2) (by omega) (by omega)
    have eS : sumN (fun b => if x.testBit b = true then s (138 + b) else 0) (nS s) = strT (trS s) x (nS s) := rfl
    have run : ∀ Q, R (d + 1) 207 52 [vR 153, vI z1, vI (sumN (fun b => s (138 + b)) (nS s)), vI (amx (evK s) (fun x => -evG s x) x), vI z4, vI x, u6, u7, u8] [] (WS L σ) Q = if ¬ (cnt (fun b => x.testBit b) 8 : Int) = ((nS s / 2 : Nat) : Int) then R (d + 1) 207 176 [vR 153, vI z1, vI (sumN (fun b => s (138 + b)) (nS s)), vI (amx (evK s) (fun x => -evG s x) x), vI z4, vI x, vI (strT (trS s) x (nS s)), vI (evG s x), u8] [] (WS L σ) Q else R (d + 1) 207 160 [vR 153, vI z1, vI (sumN (fun b => s (138 + b)) (nS s)), vI (amx (evK s) (fun x => -evG s x) x), vI z4, vI x, vI (strT (trS s) x (nS s)), vI (evG s x), u8] [] (WS L σ) Q := by
      intro Q
      rw [b207_52, h4, esh, if_neg (by omega), b207_65]
      refine (r207_s hn h8 (by omega) rfl hst h4 (nS s) 0 (by omega)).trans ?_
      rw [eS, b207_119 (by omega)]
      have to142 : (if sumN (fun b => s (138 + (b : Nat))) (nS s) ≤ 2 * strT (trS s) x (nS s) then R (d + 1) 207 136 [vR 153, vI z1, vI (sumN (fun b => s (138 + b)) (nS s)), vI (amx (evK s) (fun x => -evG s x) x), vI z4, vI x, vI (strT (trS s) x (nS s)), vI (nS s), u8] [] (WS L σ) Q else R (d + 1) 207 127 [vR 153, vI z1, vI (sumN (fun b => s (138 + b)) (nS s)), vI (amx (evK s) (fun x => -evG s x) x), vI z4, vI x, vI (strT (trS s) x (nS s)), vI (nS s), u8] [] (WS L σ) Q) = R (d + 1) 207 142 [vR 153, vI z1, vI (sumN (fun b => s (138 + b)) (nS s)), vI (amx (evK s) (fun x => -evG s x) x), vI z4, vI x, vI (strT (trS s) x (nS s)), vI (nS s), u8] [vI (evG s x)] (WS L σ) Q := by
        rw [ev_g hw]
        unfold absI
        by_cases q : sumN (fun b => s (138 + (b : Nat))) (nS s) ≤ 2 * strT (trS s) x (nS s)
        · rw [if_pos q, b207_136 (by omega) (by omega), if_neg (by omega)]
        · rw [if_neg q, b207_127 (by omega) (by omega), if_pos (by omega)]
          congr 3
          omega
      rw [to142, b207_142, r200 (by omega)]
      simp only [am_push_s]
      rw [b207_149, h4, ed]
    by_cases q : cnt (fun b => x.testBit b) 8 = nS s / 2
    · have qk : evK s x = true := by unfold evK; exact decide_eq_true q
      by_cases q2 : amx (evK s) (fun x => -evG s x) x < 0 ∨ evG s x < z4
      · have eam : amx (evK s) (fun x => -evG s x) (x + 1) = (x : Int) := by
          rw [amx, if_pos]
          refine ⟨qk, ?_⟩
          by_cases q3 : amx (evK s) (fun x => -evG s x) x < 0
          · exact Or.inl q3
          · have := hz (by omega)
            right
            omega
        obtain ⟨v6, v7, v8, f⟩ := ih (x + 1) (evG s x) (vI (strT (trS s) x (nS s))) (vI (evG s x)) (vI 1) (by omega) (fun _ => by rw [eam]; rfl)
        rw [eam] at f
        refine ⟨v6, v7, v8, fun Q => ?_⟩
        have to172 : R (d + 1) 207 160 [vR 153, vI z1, vI (sumN (fun b => s (138 + b)) (nS s)), vI (amx (evK s) (fun x => -evG s x) x), vI z4, vI x, vI (strT (trS s) x (nS s)), vI (evG s x), u8] [] (WS L σ) Q = R (d + 1) 207 172 [vR 153, vI z1, vI (sumN (fun b => s (138 + b)) (nS s)), vI (amx (evK s) (fun x => -evG s x) x), vI z4, vI x, vI (strT (trS s) x (nS s)), vI (evG s x), u8] [] (WS L σ) Q := by
          rw [b207_160]
          by_cases q3 : amx (evK s) (fun x => -evG s x) x = -1
          · rw [if_pos q3]
          · rw [if_neg q3, b207_165, if_neg (by omega)]
        rw [run, if_neg (by omega), to172, b207_172, b207_177, if_neg (by omega), b207_184, b207_190, if_neg (by omega), b207_196, b207_203 (by omega)]
        exact f Q
      · have eam : amx (evK s) (fun x => -evG s x) (x + 1) = amx (evK s) (fun x => -evG s x) x := by
          rw [amx, if_neg]
          intro h
          have := hz (by omega)
          omega
        obtain ⟨v6, v7, v8, f⟩ := ih (x + 1) z4 (vI (strT (trS s) x (nS s))) (vI (evG s x)) (vI 0) (by omega) (by rw [eam]; exact hz)
        rw [eam] at f
        refine ⟨v6, v7, v8, fun Q => ?_⟩
        rw [run, if_neg (by omega), b207_160, if_neg (by omega), b207_165, if_pos (by omega), b207_176, b207_177, if_pos rfl, b207_189, b207_190, if_pos rfl, b207_201, b207_203 (by omega)]
        exact f Q
    · have qk : ¬ evK s x = true := by unfold evK; simpa using q
      have eam : amx (evK s) (fun x => -evG s x) (x + 1) = amx (evK s) (fun x => -evG s x) x := by
        rw [amx, if_neg (fun h => qk h.1)]
      obtain ⟨v6, v7, v8, f⟩ := ih (x + 1) z4 (vI (strT (trS s) x (nS s))) (vI (evG s x)) (vI 0) (by omega) (by rw [eam]; exact hz)
      rw [eam] at f
      refine ⟨v6, v7, v8, fun Q => ?_⟩
      rw [run, if_pos (by omega), b207_176, b207_177, if_pos rfl, b207_189, b207_190, if_pos rfl, b207_201, b207_203 (by omega)]
      exact f Q
theorem q207 {x : Int} (hw : WF s cl) (h4 : σ 154 = s) : R (d + 2) 207 0 [vR 153, vI x, vX 9, vX 9, vX 9, vX 9, vX 9, vX 9, vX 9] [] (WS L σ) Q = Q (some (vI (aEven s x))) (WS L σ) := by
  have w0 := hw.1
  unfold W0 at w0
  have hn : s 0 = (nS s : Int) := by unfold nS; omega
  have h8 : nS s ≤ 8 := by omega
  have hst : ∀ b : Nat, b < nS s → 0 ≤ s (138 + b) ∧ s (138 + b) ≤ 20 := fun b hb => st_b hw hb
  rw [b207_0, r145]
  simp only [am_push_s]
  rw [b207_6]
  unfold aEven
  by_cases q : 0 ≤ x ∧ x < 2
  · obtain ⟨v6, v7, v8, f⟩ := r207_x (d := d + 1) (L := L) (σ := σ) (z1 := x) hw h4 (2 ^ nS s) 0 0 (vX 9) (vX 9) (vX 9) (by omega) (fun h => absurd h (by rw [amx]; omega))
    rw [if_pos (by rw [tI_t (by omega)]; omega), b207_11, if_pos q]
    refine (r207_t hn h8 hst h4 (nS s) 0 (by omega)).trans ?_
    rw [b207_44]
    refine (f Q).trans ?_
    by_cases q1 : x = 0
    · rw [b207_211, if_neg (by omega), b207_215, b207_221, if_pos q1]
    · rw [b207_211, if_pos q1, b207_219, b207_221, if_neg q1]
  · rw [if_neg (by rw [tI_f (by omega)]; omega), b207_9, if_neg q]
theorem r208_x {a b : Nat} {w : Int} (hw : WF s cl) (ha : a < 3) (hb : b < 3) : ∀ (j x : Nat) (z6 z7 : Int) (u9 u10 u11 u12 : AV) (σ : St), x + j = 2 ^ nS s → σ 154 = s → (0 ≤ amx (ctK s) (fun x => Wr s cl a (ctO s cl b x)) x → z6 = Wr s cl a (ctO s cl b (amx (ctK s) (fun x => Wr s cl a (ctO s cl b x)) x).toNat) ∧ z7 = (ctO s cl b (amx (ctK s) (fun x => Wr s cl a (ctO s cl b x)) x).toNat : Int)) → ∃ (σ' : St) (z6' : Int) (x' : AV) (v9 v10 v11 v12 : AV), (∀ a, a ≠ 156 → σ' a = σ a) ∧ ∀ Q, R (d + 2) 208 57 [vR 153, vI a, vI b, vI w, vI ((2 ^ nS s - 1 : Nat) : Int), vI (amx (ctK s) (fun x => Wr s cl a (ctO s cl b x)) x), vI z6, vI z7, vI x, u9, u10, u11, u12] [] (WS L σ) Q = R (d + 2) 208 188 [vR 153, vI a, vI b, vI w, vI ((2 ^ nS s - 1 : Nat) : Int), vI (ctE s cl a b), vI z6', vI (ctO s cl b (ctE s cl a b).toNat), x', v9, v10, v11, v12] [] (WS L σ') Q := by
  have w0 := hw.1
  unfold W0 at w0
  have hn : s 0 = (nS s : Int) := by unfold nS; omega
  have h8 : nS s ≤ 8 := by omega
  have p8 := pw8 h8
  have p1 := pw1 (nS s)
  intro j
  induction j with
  | zero =>
    intro x z6 z7 u9 u10 u11 u12 σ hx h4 hz
    obtain rfl : x = 2 ^ nS s := by omega
    have hz' : z7 = (ctO s cl b (ctE s cl a b).toNat : Int) := (hz (ctE_r hw).1).2
    refine ⟨σ, z6, vI ((2 ^ nS s : Nat) : Int), u9, u10, u11, u12, fun _ _ => rfl, fun Q => ?_⟩
    rw [b208_57, if_pos (by omega), hz']
    rfl
  | succ j ih =>
    intro x z6 z7 u9 u10 u11 u12 σ hx h4 hz
    have hxl : x < 2 ^ nS s := by omega
    have hcm := cpl_m (x := x) h8 (by omega)
    have hc := cpl_e h8 hxl
    have hcl : cpl (nS s) x < 2 ^ nS s := by omega
    have ea := amx_r (ctK s) (fun x => Wr s cl a (ctO s cl b x)) x
    have head : ∀ Q, R (d + 2) 208 57 [vR 153, vI a, vI b, vI w, vI ((2 ^ nS s - 1 : Nat) : Int), vI (amx (ctK s) (fun x => Wr s cl a (ctO s cl b x)) x), vI z6, vI z7, vI x, u9, u10, u11, u12] [] (WS L σ) Q = if cpl (nS s) x < x then R (d + 2) 208 182 [vR 153, vI a, vI b, vI w, vI ((2 ^ nS s - 1 : Nat) : Int), vI (amx (ctK s) (fun x => Wr s cl a (ctO s cl b x)) x), vI z6, vI z7, vI x, vI (cpl (nS s) x), u10, u11, u12] [] (WS L σ) Q else R (d + 2) 208 85 [vR 153, vI a, vI b, vI w, vI ((2 ^ nS s - 1 : Nat) : Int), vI (amx (ctK s) (fun x => Wr s cl a (ctO s cl b x)) x), vI z6, vI z7, vI x, vI (cpl (nS s) x), u10, u11, u12] [] (WS L σ) Q := by
      intro Q
      rw [b208_57, if_neg (by omega), b208_64, hcm]
      by_cases q1 : (x : Int) < (cpl (nS s) x : Int)
      · rw [if_pos q1, if_neg (by omega)]
      · rw [if_neg q1, b208_80]
        by_cases q2 : cpl (nS s) x < x
        · rw [if_pos (by omega), if_pos q2]
        · have hod : nS s = 0 ∨ ∃ m, 2 ^ nS s = 2 * m := by
            cases hnn : nS s with
            | zero => exact Or.inl rfl
            | succ m => exact Or.inr ⟨2 ^ m, by rw [Nat.pow_succ, Nat.mul_comm]⟩
          have h0 : 2 ^ nS s - 1 = 0 := by
            rcases hod with h | ⟨m, h⟩
            · rw [h]
            · omega
          rw [if_neg (by omega), if_neg q2]
    by_cases q : cpl (nS s) x < x
    · have eam : amx (ctK s) (fun x => Wr s cl a (ctO s cl b x)) (x + 1) = amx (ctK s) (fun x => Wr s cl a (ctO s cl b x)) x := by
        rw [amx, if_neg]
        intro h
        have h2 := h.1
        unfold ctK at h2
        have h3 := of_decide_eq_true h2
        omega
      obtain ⟨σ', z6', x', v9, v10, v11, v12, f1, f2⟩ := ih (x + 1) z6 z7 (vI (cpl (nS s) x)) u10 u11 u12 σ (by omega) h4 (by rw [eam]; exact hz)
      rw [eam] at f2
      refine ⟨σ', z6', x', v9, v10, v11, v12, f1, fun Q => ?_⟩
      rw [head, if_pos q, b208_182 (by omega)]
      exact f2 Q
    · have qk : ctK s x = true := by unfold ctK; exact decide_eq_true ⟨hxl, by omega⟩
      obtain ⟨σ1, f1, f2⟩ := r169 (d := d) (L := L) (σ := σ) (c := b) (x := cpl (nS s) x) hw hb hcl
      have h41 : σ1 154 = s := by rw [f1 154 (by omega), h4]
      rw [ss_self h4, ss_self h41] at f2
      obtain ⟨σ2, g1, g2⟩ := r169 (d := d) (L := L) (σ := σ1) (c := b) (x := x) hw hb hxl
      have h42 : σ2 154 = s := by rw [g1 154 (by omega), h41]
      rw [ss_self h41, ss_self h42] at g2
      have ol := ctO_lt (cl := cl) (b := b) h8 hxl
      obtain ⟨σ3, k1, k2⟩ := r169 (d := d) (L := L) (σ := σ2) (c := a) (x := ctO s cl b x) hw ha ol
      have h43 : σ3 154 = s := by rw [k1 154 (by omega), h42]
      rw [ss_self h42, ss_self h43] at k2
      have run : ∀ Q, R (d + 2) 208 57 [vR 153, vI a, vI b, vI w, vI ((2 ^ nS s - 1 : Nat) : Int), vI (amx (ctK s) (fun x => Wr s cl a (ctO s cl b x)) x), vI z6, vI z7, vI x, u9, u10, u11, u12] [] (WS L σ) Q = R (d + 2) 208 118 [vR 153, vI a, vI b, vI w, vI ((2 ^ nS s - 1 : Nat) : Int), vI (amx (ctK s) (fun x => Wr s cl a (ctO s cl b x)) x), vI z6, vI z7, vI x, vI (cpl (nS s) x), vI (ctO s cl b x), u11, u12] [vI (Wr s cl a (ctO s cl b x))] (WS L σ3) Q := by
        intro Q
        rw [head, if_neg q, b208_85, f2]
        simp only [am_push_s]
        rw [b208_92, g2]
        simp only [am_push_s]
        have to109 : R (d + 2) 208 99 [vR 153, vI a, vI b, vI w, vI ((2 ^ nS s - 1 : Nat) : Int), vI (amx (ctK s) (fun x => Wr s cl a (ctO s cl b x)) x), vI z6, vI z7, vI x, vI (cpl (nS s) x), u10, u11, u12] [vI (Wr s cl b x), vI (Wr s cl b (cpl (nS s) x))] (WS L σ2) Q = R (d + 2) 208 109 [vR 153, vI a, vI b, vI w, vI ((2 ^ nS s - 1 : Nat) : Int), vI (amx (ctK s) (fun x => Wr s cl a (ctO s cl b x)) x), vI z6, vI z7, vI x, vI (cpl (nS s) x), u10, u11, u12] [vI (ctO s cl b x)] (WS L σ2) Q := by
          rw [b208_99]
          unfold ctO
          by_cases q2 : Wr s cl b x < Wr s cl b (cpl (nS s) x)
          · rw [if_neg (by omega), if_pos q2, b208_102]
          · rw [if_pos (by omega), if_neg q2, b208_107]
        rw [to109, b208_109, k2]
        simp only [am_push_s]
      have f3 : ∀ a, a ≠ 156 → σ3 a = σ a := fun a ha => (k1 a ha).trans ((g1 a ha).trans (f1 a ha))
      by_cases q2 : amx (ctK s) (fun x => Wr s cl a (ctO s cl b x)) x < 0 ∨ z6 < Wr s cl a (ctO s cl b x)
      · have eam : amx (ctK s) (fun x => Wr s cl a (ctO s cl b x)) (x + 1) = (x : Int) := by
          rw [amx, if_pos]
          refine ⟨qk, ?_⟩
          by_cases q3 : amx (ctK s) (fun x => Wr s cl a (ctO s cl b x)) x < 0
          · exact Or.inl q3
          · have := (hz (by omega)).1
            right
            omega
        obtain ⟨σ', z6', x', v9, v10, v11, v12, i1, i2⟩ := ih (x + 1) (Wr s cl a (ctO s cl b x)) (ctO s cl b x) (vI (cpl (nS s) x)) (vI (ctO s cl b x)) (vI (Wr s cl a (ctO s cl b x))) (vI 1) σ3 (by omega) h43 (fun _ => by rw [eam]; exact ⟨rfl, rfl⟩)
        rw [eam] at i2
        refine ⟨σ', z6', x', v9, v10, v11, v12, fun a ha => (i1 a ha).trans (f3 a ha), fun Q => ?_⟩
        have to133 : R (d + 2) 208 118 [vR 153, vI a, vI b, vI w, vI ((2 ^ nS s - 1 : Nat) : Int), vI (amx (ctK s) (fun x => Wr s cl a (ctO s cl b x)) x), vI z6, vI z7, vI x, vI (cpl (nS s) x), vI (ctO s cl b x), u11, u12] [vI (Wr s cl a (ctO s cl b x))] (WS L σ3) Q = R (d + 2) 208 133 [vR 153, vI a, vI b, vI w, vI ((2 ^ nS s - 1 : Nat) : Int), vI (amx (ctK s) (fun x => Wr s cl a (ctO s cl b x)) x), vI z6, vI z7, vI x, vI (cpl (nS s) x), vI (ctO s cl b x), vI (Wr s cl a (ctO s cl b x)), u12] [] (WS L σ3) Q := by
          rw [b208_118]
          by_cases q3 : amx (ctK s) (fun x => Wr s cl a (ctO s cl b x)) x = -1
          · rw [if_pos q3]
          · rw [if_neg q3, b208_126, if_neg (by omega)]
        rw [run, to133, b208_133, b208_138, if_neg (by omega), b208_145, b208_152, if_neg (by omega), b208_159, b208_166, if_neg (by omega), b208_173, b208_180, b208_182 (by omega)]
        exact i2 Q
      · have eam : amx (ctK s) (fun x => Wr s cl a (ctO s cl b x)) (x + 1) = amx (ctK s) (fun x => Wr s cl a (ctO s cl b x)) x := by
          rw [amx, if_neg]
          intro h
          have := (hz (by omega)).1
          omega
        obtain ⟨σ', z6', x', v9, v10, v11, v12, i1, i2⟩ := ih (x + 1) z6 z7 (vI (cpl (nS s) x)) (vI (ctO s cl b x)) (vI (Wr s cl a (ctO s cl b x))) (vI 0) σ3 (by omega) h43 (by rw [eam]; exact hz)
        rw [eam] at i2
        refine ⟨σ', z6', x', v9, v10, v11, v12, fun a ha => (i1 a ha).trans (f3 a ha), fun Q => ?_⟩
        rw [run, b208_118, if_neg (by omega), b208_126, if_pos (by omega), b208_137, b208_138, if_pos rfl, b208_150, b208_152, if_pos rfl, b208_164, b208_166, if_pos rfl, b208_178, b208_180, b208_182 (by omega)]
        exact i2 Q
theorem q208 {x y z : Int} (hw : WF s cl) (h4 : σ 154 = s) : ∃ σ' : St, (∀ a, a ≠ 156 → σ' a = σ a) ∧ ∀ Q, R (d + 3) 208 0 [vR 153, vI x, vI y, vI z, vX 9, vX 9, vX 9, vX 9, vX 9, vX 9, vX 9, vX 9, vX 9] [] (WS L σ) Q = Q (some (vI (aCut s cl x y z))) (WS L σ') := by
  have w0 := hw.1
  unfold W0 at w0
  have hn : s 0 = (nS s : Int) := by unfold nS; omega
  have h8 : nS s ≤ 8 := by omega
  have p8 := pw8 h8
  have p1 := pw1 (nS s)
  have bad : ¬ ((0 ≤ x ∧ x < 3) ∧ (0 ≤ y ∧ y < 3) ∧ (0 ≤ z ∧ z < 2)) → ∀ Q, R (d + 3) 208 0 [vR 153, vI x, vI y, vI z, vX 9, vX 9, vX 9, vX 9, vX 9, vX 9, vX 9, vX 9, vX 9] [] (WS L σ) Q = Q (some (vI (-1))) (WS L σ) := by
    intro hn Q
    rw [b208_0, r167]
    simp only [am_push_s]
    rw [b208_4]
    by_cases q1 : 0 ≤ x ∧ x < 3
    · rw [if_neg (by rw [tI_t q1]; omega), b208_7, r167]
      simp only [am_push_s]
      rw [b208_11]
      by_cases q2 : 0 ≤ y ∧ y < 3
      · rw [if_neg (by rw [tI_t q2]; omega), b208_14, r145]
        simp only [am_push_s]
        rw [b208_20, if_neg (by rw [tI_f (by omega)]; omega), b208_23]
      · rw [if_pos (by rw [tI_f q2]), b208_23]
    · rw [if_pos (by rw [tI_f q1]), b208_23]
  unfold aCut
  by_cases q : (0 ≤ x ∧ x < 3) ∧ (0 ≤ y ∧ y < 3) ∧ (0 ≤ z ∧ z < 2)
  · rw [if_pos q]
    have start : ∀ Q, R (d + 3) 208 0 [vR 153, vI x, vI y, vI z, vX 9, vX 9, vX 9, vX 9, vX 9, vX 9, vX 9, vX 9, vX 9] [] (WS L σ) Q = R (d + 3) 208 25 [vR 153, vI x, vI y, vI z, vX 9, vX 9, vX 9, vX 9, vX 9, vX 9, vX 9, vX 9, vX 9] [] (WS L σ) Q := by
      intro Q
      rw [b208_0, r167]
      simp only [am_push_s]
      rw [b208_4, if_neg (by rw [tI_t q.1]; omega), b208_7, r167]
      simp only [am_push_s]
      rw [b208_11, if_neg (by rw [tI_t q.2.1]; omega), b208_14, r145]
      simp only [am_push_s]
      rw [b208_20, if_pos (by rw [tI_t (by omega)]; omega)]
    by_cases q1 : x = y
    · rw [if_pos q1]
      refine ⟨σ, fun _ _ => rfl, fun Q => ?_⟩
      rw [start, b208_25, if_neg (by omega), b208_30]
    · rw [if_neg q1]
      obtain ⟨a, rfl⟩ : ∃ a : Nat, x = (a : Int) := ⟨x.toNat, by omega⟩
      obtain ⟨b, rfl⟩ : ∃ b : Nat, y = (b : Int) := ⟨y.toNat, by omega⟩
      have e2 : i_shl 1 (σ 154 0) = ((2 ^ nS s : Nat) : Int) := by rw [h4, hn]; exact i_one_shl (by omega)
      obtain ⟨σ', z6', x', v9, v10, v11, v12, f1, f2⟩ := r208_x (d := d + 1) (L := L) (a := a) (b := b) (w := z) hw (by omega) (by omega) (2 ^ nS s) 0 0 0 (vX 9) (vX 9) (vX 9) (vX 9) σ (by omega) h4 (fun h => absurd h (by rw [amx]; omega))
      refine ⟨σ', f1, fun Q => ?_⟩
      rw [start, b208_25, if_pos q1, b208_33 (by rw [e2]; omega), e2, show ((2 ^ nS s : Nat) : Int) - 1 = ((2 ^ nS s - 1 : Nat) : Int) by omega]
      refine (f2 Q).trans ?_
      rw [Int.toNat_natCast, Int.toNat_natCast]
      by_cases q2 : z = 0
      · rw [b208_188, if_neg (by omega), b208_192, b208_199, if_pos q2]
      · rw [b208_188, if_pos q2, b208_197, b208_199, if_neg q2]
  · rw [if_neg q]
    exact ⟨σ, fun _ _ => rfl, bad q⟩
end RN6
