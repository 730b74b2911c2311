/-! the reference: trades -/
section RN7
variable {d L : Nat} {N : Int} {s s' : Int → Int} {cl cl' : Nat → List Cl} {σ σ1 : St} {Q : Option AV → AW → Prop}
/-- a boy gone, another come -/
theorem i_swap {x g m : Nat} (hx : x < 256) (hg : g < 8) (hm : m < 8) : i_or (i_and (x : Int) (i_xor (i_shl 1 g) (-1))) (i_shl 1 m) = ((clr x g ||| 2 ^ m : Nat) : Int) := by
  have l1 : 2 ^ g < 2 ^ 8 := two_pow_lt hg
  have l2 : 2 ^ m < 2 ^ 8 := two_pow_lt hm
  have e1 : i_and (x : Int) (i_xor (i_shl 1 g) (-1)) = ((clr x g : Nat) : Int) := by
    rw [i_one_shl (by omega)]
    exact i_andn_nat (by omega) (by omega)
  have l3 : clr x g < 256 := clr_lt hx
  rw [e1, i_one_shl (by omega), i_or_nat (by omega) (by omega)]
/-- what a count of trades leaves -/
def TQ (σ0 : St) (p : Int × Int) (σ : St) : Prop := (∀ a, a ≠ 153 → a ≠ 156 → σ a = σ0 a) ∧ (∀ j : Int, j ≠ 18 → j ≠ 19 → σ 153 j = σ0 153 j) ∧ σ 153 18 = p.1 ∧ σ 153 19 = p.2
theorem TQ_RQ {σ0 : St} {p : Int × Int} (h : TQ σ0 p σ) (hq : RQ N s σ0) : RQ N s σ ∧ FQ σ0 σ :=
  ⟨⟨by rw [h.1 154 (by omega) (by omega)]; exact hq.1, by rw [h.2.1 14 (by omega) (by omega)]; exact hq.2.1, by rw [h.2.1 14 (by omega) (by omega)]; exact hq.2.2.1, fun x hx => by rw [h.1 158 (by omega) (by omega), h.2.1 14 (by omega) (by omega)]; exact hq.2.2.2 x hx⟩, fun a ha => h.1 a (by omega) (by omega), h.2.1 3 (by omega) (by omega), h.2.1 25 (by omega) (by omega)⟩
theorem TQ_156 {σ0 σ' : St} {p : Int × Int} (h : TQ σ0 p σ) (hf : ∀ a, a ≠ 156 → σ' a = σ a) : TQ σ0 p σ' :=
  ⟨fun a h1 h2 => (hf a h2).trans (h.1 a h1 h2), fun j h1 h2 => by rw [hf 153 (by omega)]; exact h.2.1 j h1 h2, by rw [hf 153 (by omega)]; exact h.2.2.1, by rw [hf 153 (by omega)]; exact h.2.2.2⟩
theorem TQ_put {σ0 : St} {p : Int × Int} {z z' : Int} (h : TQ σ0 p σ) : TQ σ0 (z, z') (st2 (st2 σ 153 19 z') 153 18 z) :=
  ⟨fun a h1 h2 => by
    funext j
    rw [st2_k h1, st2_k h1, h.1 a h1 h2], fun j h1 h2 => by rw [st2_i h1, st2_i h2]; exact h.2.1 j h1 h2, st2_eq, by rw [st2_i (by omega), st2_eq]⟩
theorem r210_y {a b x : Nat} {u7 : AV} {σ0 : St} (hw : WF s cl) (h4 : σ0 154 = s) (ha : a < 3) (hb : b < 3) (hx : x < nS s) {p0 : Int × Int} (hp0 : trP (nS s) p0) (hl : p0.1 ≤ ((x * nS s : Nat) : Int)) : ∀ (j y : Nat) (u7 : AV) (σ : St), y + j = nS s → TQ σ0 (itr (trY (okS s cl a b) x) y p0) σ → ∃ (σ' : St) (v7 : AV), TQ σ0 (itr (trY (okS s cl a b) x) (nS s) p0) σ' ∧ ∀ Q, R (d + 2) 210 41 [vR 153, vI a, vI b, vI (sdS s a), vI (sdS s b), vI x, vI y, u7] [] (WS L σ) Q = R (d + 2) 210 183 [vR 153, vI a, vI b, vI (sdS s a), vI (sdS s b), vI x, vI (nS s), v7] [] (WS L σ') Q := by
  have w0 := hw.1
  unfold W0 at w0
  have hn : s 0 = (nS s : Int) := by unfold nS; omega
  have h8 : nS s ≤ 8 := by omega
  have p8 := pw8 h8
  have hsA : sdS s a < 2 ^ nS s := sdS_lt
  have hsB : sdS s b < 2 ^ nS s := sdS_lt
  have hxn : x * nS s ≤ 7 * 8 := Nat.mul_le_mul (by omega) h8
  intro j
  induction j with
  | zero =>
    intro y u7 σ hy hT
    obtain rfl : y = nS s := by omega
    have h0 : σ 154 0 = s 0 := by rw [hT.1 154 (by omega) (by omega), h4]
    refine ⟨σ, u7, hT, fun Q => ?_⟩
    rw [b210_41, h0, if_pos (by omega)]
  | succ j ih =>
    intro y u7 σ hy hT
    have hyn : y < nS s := by omega
    have e4 : σ 154 = s := by rw [hT.1 154 (by omega) (by omega), h4]
    have bA : i_and (i_shr (sdS s a) x) 1 = if (sdS s a).testBit x then 1 else 0 := i_bit (by omega) (by omega)
    have bB : i_and (i_shr (sdS s b) y) 1 = if (sdS s b).testBit y then 1 else 0 := i_bit (by omega) (by omega)
    obtain ⟨i1, i2⟩ := trX_P (ok := okS s cl a b) hx hp0 y (by omega)
    have es : itr (trY (okS s cl a b) x) (y + 1) p0 = trY (okS s cl a b) x y (itr (trY (okS s cl a b) x) y p0) := rfl
    have clr_n : ∀ {z g : Nat}, z < 2 ^ nS s → clr z g < 2 ^ nS s := fun hz => Nat.xor_lt_two_pow hz (Nat.lt_of_le_of_lt Nat.and_le_left hz)
    -- nothing of it
    have no : ∀ (σ1 : St) (u7 : AV), okS s cl a b x y = false → TQ σ0 (itr (trY (okS s cl a b) x) y p0) σ1 → ∃ (σ' : St) (v7 : AV), TQ σ0 (itr (trY (okS s cl a b) x) (nS s) p0) σ' ∧ ∀ Q, R (d + 2) 210 177 [vR 153, vI a, vI b, vI (sdS s a), vI (sdS s b), vI x, vI y, u7] [] (WS L σ1) Q = R (d + 2) 210 183 [vR 153, vI a, vI b, vI (sdS s a), vI (sdS s b), vI x, vI (nS s), v7] [] (WS L σ') Q := by
      intro σ1 u7 hok hT1
      have e2 : itr (trY (okS s cl a b) x) (y + 1) p0 = itr (trY (okS s cl a b) x) y p0 := by
        rw [es]
        unfold trY
        rw [hok, if_neg (by simp)]
      obtain ⟨σ', v7, f1, f2⟩ := ih (y + 1) u7 σ1 (by omega) (by rw [e2]; exact hT1)
      refine ⟨σ', v7, f1, fun Q => ?_⟩
      rw [b210_177 (by omega)]
      exact f2 Q
    by_cases q : (sdS s a).testBit x = true ∧ (sdS s b).testBit y = true
    · have lA : clr (sdS s a) x ||| 2 ^ y < 2 ^ nS s := or_lt (clr_n hsA) (two_pow_lt hyn)
      have lB : clr (sdS s b) y ||| 2 ^ x < 2 ^ nS s := or_lt (clr_n hsB) (two_pow_lt hx)
      obtain ⟨σ1, f1, f2⟩ := r169 (d := d) (L := L) (σ := σ) (c := a) (x := clr (sdS s a) x ||| 2 ^ y) hw ha lA
      have e41 : σ1 154 = s := by rw [f1 154 (by omega), e4]
      rw [ss_self e4, ss_self e41] at f2
      obtain ⟨σ2, g1, g2⟩ := r169 (d := d) (L := L) (σ := σ1) (c := a) (x := sdS s a) hw ha hsA
      have e42 : σ2 154 = s := by rw [g1 154 (by omega), e41]
      rw [ss_self e41, ss_self e42] at g2
      have hT2 := TQ_156 hT (fun a ha => (g1 a ha).trans (f1 a ha))
      have run : ∀ Q, R (d + 2) 210 41 [vR 153, vI a, vI b, vI (sdS s a), vI (sdS s b), vI x, vI y, u7] [] (WS L σ) Q = if Wr s cl a (clr (sdS s a) x ||| 2 ^ y) ≤ Wr s cl a (sdS s a) then R (d + 2) 210 177 [vR 153, vI a, vI b, vI (sdS s a), vI (sdS s b), vI x, vI y, vI 1] [] (WS L σ2) Q else R (d + 2) 210 112 [vR 153, vI a, vI b, vI (sdS s a), vI (sdS s b), vI x, vI y, vI 1] [] (WS L σ2) Q := by
        intro Q
        rw [b210_41, e4, if_neg (by omega), b210_52, bA, if_neg (by simp [q.1]), b210_62, bB, if_neg (by simp [q.2]), b210_73, b210_78, if_neg (by omega), b210_85, i_swap (by omega) (by omega) (by omega), f2]
        simp only [am_push_s]
        rw [b210_103, g2]
        simp only [am_push_s]
        rw [b210_109]
      by_cases q2 : Wr s cl a (clr (sdS s a) x ||| 2 ^ y) ≤ Wr s cl a (sdS s a)
      · obtain ⟨σ', v7, k1, k2⟩ := no σ2 (vI 1) (by
          unfold okS wantS
          have : ¬ Wr s cl a (sdS s a) < Wr s cl a (clr (sdS s a) x ||| 2 ^ y) := by omega
          simp [this]) hT2
        refine ⟨σ', v7, k1, fun Q => ?_⟩
        rw [run, if_pos q2]
        exact k2 Q
      · obtain ⟨σ3, j1, j2⟩ := r169 (d := d) (L := L) (σ := σ2) (c := b) (x := clr (sdS s b) y ||| 2 ^ x) hw hb lB
        have e43 : σ3 154 = s := by rw [j1 154 (by omega), e42]
        rw [ss_self e42, ss_self e43] at j2
        obtain ⟨σ4, k1, k2⟩ := r169 (d := d) (L := L) (σ := σ3) (c := b) (x := sdS s b) hw hb hsB
        have e44 : σ4 154 = s := by rw [k1 154 (by omega), e43]
        rw [ss_self e43, ss_self e44] at k2
        have hT4 := TQ_156 hT2 (fun a ha => (k1 a ha).trans (j1 a ha))
        have run2 : ∀ Q, R (d + 2) 210 41 [vR 153, vI a, vI b, vI (sdS s a), vI (sdS s b), vI x, vI y, u7] [] (WS L σ) Q = if Wr s cl b (clr (sdS s b) y ||| 2 ^ x) ≤ Wr s cl b (sdS s b) then R (d + 2) 210 177 [vR 153, vI a, vI b, vI (sdS s a), vI (sdS s b), vI x, vI y, vI 1] [] (WS L σ4) Q else R (d + 2) 210 141 [vR 153, vI a, vI b, vI (sdS s a), vI (sdS s b), vI x, vI y, vI 1] [] (WS L σ4) Q := by
          intro Q
          rw [run, if_neg q2, b210_112, i_swap (by omega) (by omega) (by omega), j2]
          simp only [am_push_s]
          rw [b210_131, k2]
          simp only [am_push_s]
          rw [b210_138]
        by_cases q3 : Wr s cl b (clr (sdS s b) y ||| 2 ^ x) ≤ Wr s cl b (sdS s b)
        · obtain ⟨σ', v7, k1, k2⟩ := no σ4 (vI 1) (by
            unfold okS wantS
            have : ¬ Wr s cl b (sdS s b) < Wr s cl b (clr (sdS s b) y ||| 2 ^ x) := by omega
            simp [this]) hT4
          refine ⟨σ', v7, k1, fun Q => ?_⟩
          rw [run2, if_pos q3]
          exact k2 Q
        · have hok : okS s cl a b x y = true := by
            unfold okS wantS
            have h1 : Wr s cl a (sdS s a) < Wr s cl a (clr (sdS s a) x ||| 2 ^ y) := by omega
            have h2 : Wr s cl b (sdS s b) < Wr s cl b (clr (sdS s b) y ||| 2 ^ x) := by omega
            simp [h1, h2, q.1, q.2]
          have e2 : itr (trY (okS s cl a b) x) (y + 1) p0 = ((itr (trY (okS s cl a b) x) y p0).1 + 1, if (itr (trY (okS s cl a b) x) y p0).1 = 0 then 10 * (x : Int) + y else (itr (trY (okS s cl a b) x) y p0).2) := by
            rw [es]
            unfold trY
            rw [if_pos hok]
          have e18 := hT4.2.2.1
          have e19 := hT4.2.2.2
          have f18 : ∀ z, st2 σ4 153 19 z 153 18 = (itr (trY (okS s cl a b) x) y p0).1 := fun z => by rw [st2_i (by omega)]; exact e18
          obtain ⟨σ', v7, m1, m2⟩ := ih (y + 1) (vI 1) _ (by omega) (by rw [e2]; exact TQ_put hT4)
          refine ⟨σ', v7, m1, fun Q => ?_⟩
          have hi1 := i1.1
          rw [run2, if_neg q3, b210_141, e18]
          by_cases q4 : (itr (trY (okS s cl a b) x) y p0).1 = 0
          · rw [if_pos q4] at m2
            rw [if_neg (by omega), b210_149 (by omega) (by omega), b210_164, b210_167 (by rw [f18]; omega), f18, b210_177 (by omega)]
            exact m2 Q
          · rw [if_neg q4] at m2
            rw [if_pos q4, b210_160, e19, b210_164, b210_167 (by rw [f18]; omega), f18, b210_177 (by omega)]
            exact m2 Q
    · obtain ⟨σ', v7, f1, f2⟩ := no σ (vI 0) (by
        unfold okS wantS
        cases q1 : (sdS s a).testBit x with
        | false => rfl
        | true =>
          cases q2 : (sdS s b).testBit y with
          | false => simp
          | true => exact absurd ⟨q1, q2⟩ q) hT
      refine ⟨σ', v7, f1, fun Q => ?_⟩
      have to77 : R (d + 2) 210 41 [vR 153, vI a, vI b, vI (sdS s a), vI (sdS s b), vI x, vI y, u7] [] (WS L σ) Q = R (d + 2) 210 77 [vR 153, vI a, vI b, vI (sdS s a), vI (sdS s b), vI x, vI y, u7] [] (WS L σ) Q := by
        rw [b210_41, e4, if_neg (by omega), b210_52, bA]
        by_cases q1 : (sdS s a).testBit x = true
        · rw [if_neg (by simp [q1]), b210_62, bB]
          by_cases q2 : (sdS s b).testBit y = true
          · exact absurd ⟨q1, q2⟩ q
          · rw [if_pos (by simp [q2])]
        · rw [if_pos (by simp [q1])]
      rw [to77, b210_77, b210_78, if_pos rfl]
      exact f2 Q
theorem r210_x {a b : Nat} {σ0 : St} (hw : WF s cl) (h4 : σ0 154 = s) (ha : a < 3) (hb : b < 3) : ∀ (j x : Nat) (u6 u7 : AV) (σ : St), x + j = nS s → TQ σ0 (itr (trX (okS s cl a b) (nS s)) x (0, -5)) σ → ∃ σ' : St, TQ σ0 (trdS s cl a b) σ' ∧ ∀ Q, R (d + 2) 210 27 [vR 153, vI a, vI b, vI (sdS s a), vI (sdS s b), vI x, u6, u7] [] (WS L σ) Q = Q none (WS L σ') := by
  have w0 := hw.1
  unfold W0 at w0
  have hn : s 0 = (nS s : Int) := by unfold nS; omega
  intro j
  induction j with
  | zero =>
    intro x u6 u7 σ hx hT
    obtain rfl : x = nS s := by omega
    have h0 : σ 154 0 = s 0 := by rw [hT.1 154 (by omega) (by omega), h4]
    refine ⟨σ, hT, fun Q => ?_⟩
    rw [b210_27, h0, if_pos (by omega), b210_189]
  | succ j ih =>
    intro x u6 u7 σ hx hT
    have h0 : σ 154 0 = s 0 := by rw [hT.1 154 (by omega) (by omega), h4]
    obtain ⟨i1, i2⟩ := trF_P (ok := okS s cl a b) (n := nS s) x (by omega)
    obtain ⟨σ1, v7, f1, f2⟩ := r210_y (d := d) (L := L) (u7 := u7) hw h4 ha hb (show x < nS s by omega) i1 i2 (nS s) 0 u7 σ (by omega) hT
    obtain ⟨σ2, g1, g2⟩ := ih (x + 1) (vI (nS s)) v7 σ1 (by omega) f1
    refine ⟨σ2, g1, fun Q => ?_⟩
    rw [b210_27, h0, if_neg (by omega), b210_38]
    refine (f2 Q).trans ?_
    rw [b210_183 (by omega)]
    exact g2 Q
theorem r210 {a b : Nat} (hw : WF s cl) (h4 : σ 154 = s) (ha : a < 3) (hb : b < 3) : ∃ σ' : St, TQ σ (trdS s cl a b) σ' ∧ ∀ Q, R (d + 2) 210 0 [vR 153, vI a, vI b, vX 9, vX 9, vX 9, vX 9, vX 9] [] (WS L σ) Q = Q none (WS L σ') := by
  have hT : TQ σ (0, -5) (st2 (st2 σ 153 18 0) 153 19 (-5)) := ⟨fun a h1 _ => by
    funext j
    rw [st2_k h1, st2_k h1], fun j h1 h2 => by rw [st2_i h2, st2_i h1], by rw [st2_i (by omega), st2_eq], st2_eq⟩
  have e4 : (st2 (st2 σ 153 18 0) 153 19 (-5)) 154 = s := by rw [hT.1 154 (by omega) (by omega), h4]
  have g := fun (c : Nat) (Q : Option AV → AW → Prop) => r181 (d := d + 1) (L := L) (Q := Q) (σ := st2 (st2 σ 153 18 0) 153 19 (-5)) (c := c) hw.1
  simp only [ss_self e4] at g
  obtain ⟨σ1, f1, f2⟩ := r210_x (d := d) (L := L) hw h4 ha hb (nS s) 0 (vX 9) (vX 9) _ (by omega) hT
  refine ⟨σ1, f1, fun Q => ?_⟩
  rw [b210_0, b210_5, b210_11, g]
  simp only [am_push_s]
  rw [b210_16, g]
  simp only [am_push_s]
  rw [b210_22]
  exact f2 Q
theorem q209 {x y z : Int} (hw : WF s cl) (h : RQ N s σ) : ∃ σ' : St, RQ N s σ' ∧ FQ σ σ' ∧ ∀ Q, R (d + 3) 209 0 [vR 153, vI x, vI y, vI z] [] (WS L σ) Q = Q (some (vI (aTrades s cl x y z))) (WS L σ') := by
  have w0 := hw.1
  unfold W0 at w0
  have h4 := h.1
  have g := fun (x : Int) (Q : Option AV → AW → Prop) => r179 (d := d + 1) (L := L) (Q := Q) (σ := σ) (s := s) (x := x) w0.2.2.1
  simp only [ss_self h4] at g
  unfold aTrades
  by_cases q : (0 ≤ x ∧ x < s 2) ∧ (0 ≤ y ∧ y < s 2) ∧ (0 ≤ z ∧ z < 2)
  · rw [if_pos q]
    have start : ∀ Q, R (d + 3) 209 0 [vR 153, vI x, vI y, vI z] [] (WS L σ) Q = R (d + 3) 209 27 [vR 153, vI x, vI y, vI z] [] (WS L σ) Q := by
      intro Q
      rw [b209_0, g]
      simp only [am_push_s]
      rw [b209_5, if_neg (by rw [tI_t q.1]; omega), b209_8, g]
      simp only [am_push_s]
      rw [b209_13, if_neg (by rw [tI_t q.2.1]; omega), b209_16, r145]
      simp only [am_push_s]
      rw [b209_22, if_pos (by rw [tI_t (by omega)]; omega)]
    by_cases q1 : x = y
    · rw [if_pos q1]
      refine ⟨σ, h, FQ_r, fun Q => ?_⟩
      rw [start, b209_27, if_neg (by omega), b209_32]
    · rw [if_neg q1]
      obtain ⟨a, rfl⟩ : ∃ a : Nat, x = (a : Int) := ⟨x.toNat, by omega⟩
      obtain ⟨b, rfl⟩ : ∃ b : Nat, y = (b : Int) := ⟨y.toNat, by omega⟩
      rw [Int.toNat_natCast, Int.toNat_natCast]
      obtain ⟨σ1, f1, f2⟩ := r210 (d := d) (L := L) (a := a) (b := b) hw h4 (by omega) (by omega)
      obtain ⟨x1, x2⟩ := TQ_RQ f1 h
      refine ⟨σ1, x1, x2, fun Q => ?_⟩
      rw [start, b209_27, if_pos q1, b209_35, f2]
      simp only [am_push_n]
      by_cases q2 : z = 0
      · rw [b209_41, if_neg (by omega), b209_45, f1.2.2.1, b209_56, if_pos q2]
      · rw [b209_41, if_pos q2, b209_52, f1.2.2.2, b209_56, if_neg q2]
  · rw [if_neg q]
    refine ⟨σ, h, FQ_r, fun Q => ?_⟩
    rw [b209_0, g]
    simp only [am_push_s]
    rw [b209_5]
    by_cases q1 : 0 ≤ x ∧ x < s 2
    · rw [if_neg (by rw [tI_t q1]; omega), b209_8, g]
      simp only [am_push_s]
      rw [b209_13]
      by_cases q2 : 0 ≤ y ∧ y < s 2
      · rw [if_neg (by rw [tI_t q2]; omega), b209_16, r145]
        simp only [am_push_s]
        rw [b209_22, if_neg (by rw [tI_f (by omega)]; omega), b209_25]
      · rw [if_pos (by rw [tI_f q2]), b209_25]
    · rw [if_pos (by rw [tI_f q1]), b209_25]
theorem r211_l {a b : Nat} : ∀ (j z : Nat) (s : Int → Int) (σ : St), z + j = 20 → WF s cl → RQ N s σ → (a : Int) < s 2 → (b : Int) < s 2 → ∃ σ' : St, RQ N (tdS cl a b j s).2 σ' ∧ FG σ σ' ∧ WF (tdS cl a b j s).2 cl ∧ ∀ Q, R (d + 3) 211 28 [vR 153, vI a, vI b, vI z] [] (WS L σ) Q = Q (some (vI ((z : Int) + (tdS cl a b j s).1))) (WS L σ') := by
  intro j
  induction j with
  | zero =>
    intro z s σ hz hw h ha hb
    refine ⟨σ, h, FG_r, hw, fun Q => ?_⟩
    rw [b211_28, if_pos (by omega), b211_89]
    congr 3
    show (20 : Int) = z + 0
    omega
  | succ j ih =>
    intro z s σ hz hw h ha hb
    have w0 := hw.1
    have n8 := nS_8 w0
    unfold W0 at w0
    have h4 := h.1
    obtain ⟨σ1, f1, f2⟩ := r210 (d := d) (L := L) (a := a) (b := b) hw h4 (by omega) (by omega)
    obtain ⟨x1, x2⟩ := TQ_RQ f1 h
    by_cases q : (trdS s cl a b).1 = 0
    · rw [tdS, if_pos q]
      refine ⟨σ1, x1, FQ_FG x2, hw, fun Q => ?_⟩
      rw [b211_28, if_neg (by omega), b211_34, f2]
      simp only [am_push_n]
      rw [b211_40, f1.2.2.1, if_neg (by omega), b211_47]
      simp
    · obtain ⟨x, y, hx, hy, e1, e2, e3, w2, n2, s2, w1, n1, s1⟩ := td_s hw ha hb q
      rw [tdS, if_neg q, e2, e3]
      have es1 : setS σ1 s = σ1 := ss_self x1.1
      have d1 : i_div (10 * (x : Int) + y) 10 = (x : Int) := by
        have := i_div_nat (a := 10 * x + y) (b := 10) (by omega) (by omega)
        rw [show 10 * (x : Int) + (y : Int) = ((10 * x + y : Nat) : Int) by omega]
        refine this.trans ?_
        omega
      have d2 : i_rem (10 * (x : Int) + y) 10 = (y : Int) := by
        have := i_rem_nat (a := 10 * x + y) (b := 10) (by omega) (by omega)
        rw [show 10 * (x : Int) + (y : Int) = ((10 * x + y : Nat) : Int) by omega]
        refine this.trans ?_
        omega
      have e19 : σ1 153 19 = 10 * (x : Int) + y := f1.2.2.2.trans e1
      have e19' : setS σ1 (up s (203 + (x : Int)) b) 153 19 = 10 * (x : Int) + y := by rw [ss_o (by omega)]; exact e19
      obtain ⟨σ4, k1, k2, k3, k4⟩ := ih (z + 1) _ (setS σ1 (up (up s (203 + (x : Int)) b) (203 + (y : Int)) a)) (by omega) w2 (RQ_set x1) (by omega) (by omega)
      refine ⟨σ4, k1, FG_t (FQ_FG x2) (FG_t FG_set k2), k3, fun Q => ?_⟩
      rw [b211_28, if_neg (by omega), b211_34, f2]
      simp only [am_push_n]
      rw [b211_40, f1.2.2.1, if_pos q, b211_49 (by rw [e19, d1]; omega) (by rw [e19, d1]; omega) (by rw [e19, d1]; omega), e19, d1, ← es1, ss_st, b211_66 (by rw [e19', d2]; omega) (by rw [e19', d2]; omega) (by rw [e19', d2]; omega), e19', d2, ss_st, b211_83 (by omega)]
      refine (k4 Q).trans ?_
      congr 3
      omega
theorem q211 {x y : Int} (hw : WF s cl) (h : RQ N s σ) : ∃ σ' : St, RQ N (uTrade s cl x y) σ' ∧ FG σ σ' ∧ WF (uTrade s cl x y) cl ∧ ∀ Q, R (d + 4) 211 0 [vR 153, vI x, vI y, vX 9] [] (WS L σ) Q = Q (some (vI (aTrade s cl x y))) (WS L σ') := by
  have w0 := hw.1
  unfold W0 at w0
  have h4 := h.1
  have g := fun (x : Int) (Q : Option AV → AW → Prop) => r179 (d := d + 2) (L := L) (Q := Q) (σ := σ) (s := s) (x := x) w0.2.2.1
  simp only [ss_self h4] at g
  unfold aTrade uTrade
  by_cases q : (0 ≤ x ∧ x < s 2) ∧ (0 ≤ y ∧ y < s 2)
  · rw [if_pos q]
    have start : ∀ Q, R (d + 4) 211 0 [vR 153, vI x, vI y, vX 9] [] (WS L σ) Q = R (d + 4) 211 18 [vR 153, vI x, vI y, vX 9] [] (WS L σ) Q := by
      intro Q
      rw [b211_0, g]
      simp only [am_push_s]
      rw [b211_5, if_neg (by rw [tI_t q.1]; omega), b211_8, g]
      simp only [am_push_s]
      rw [b211_13, if_pos (by rw [tI_t q.2]; omega)]
    by_cases q1 : x = y
    · rw [if_pos q1, if_neg (by omega)]
      refine ⟨σ, h, FG_r, hw, fun Q => ?_⟩
      rw [start, b211_18, if_neg (by omega), b211_23]
    · rw [if_neg q1, if_pos ⟨q, q1⟩]
      obtain ⟨a, rfl⟩ : ∃ a : Nat, x = (a : Int) := ⟨x.toNat, by omega⟩
      obtain ⟨b, rfl⟩ : ∃ b : Nat, y = (b : Int) := ⟨y.toNat, by omega⟩
      rw [Int.toNat_natCast, Int.toNat_natCast]
      obtain ⟨σ', f1, f2, f3, f4⟩ := r211_l (d := d + 1) (L := L) (a := a) (b := b) 20 0 s σ (by omega) hw h (by omega) (by omega)
      refine ⟨σ', f1, f2, f3, fun Q => ?_⟩
      rw [start, b211_18, if_pos q1, b211_26]
      refine (f4 _).trans ?_
      congr 3
      omega
  · rw [if_neg q, if_neg (by omega)]
    refine ⟨σ, h, FG_r, hw, fun Q => ?_⟩
    rw [b211_0, g]
    simp only [am_push_s]
    rw [b211_5]
    by_cases q1 : 0 ≤ x ∧ x < s 2
    · rw [if_neg (by rw [tI_t q1]; omega), b211_8, g]
      simp only [am_push_s]
      rw [b211_13, if_neg (by rw [tI_f (by omega)]; omega), b211_16]
    · rw [if_pos (by rw [tI_f q1]), b211_16]
end RN7
