/-! small methods of the class -/
theorem rf0 : am_rfit 1 0 = true := rfl
theorem rf1 : am_rfit 1 1 = true := rfl
theorem le_t {a b : Int} (h : a ≤ b) : (a ≤ b) = True := eq_true h
theorem le_f {a b : Int} (h : ¬ a ≤ b) : (a ≤ b) = False := eq_false h
theorem lt_t {a b : Int} (h : a < b) : (a < b) = True := eq_true h
theorem lt_f {a b : Int} (h : ¬ a < b) : (a < b) = False := eq_false h
theorem eq_t {a b : Int} (h : a = b) : (a = b) = True := eq_true h
theorem eq_f {a b : Int} (h : ¬ a = b) : (a = b) = False := eq_false h
/-- a truth as the machine's int -/
def tI (p : Prop) [Decidable p] : Int := if p then 1 else 0
theorem tI_t {p : Prop} [Decidable p] (h : p) : tI p = 1 := if_pos h
theorem tI_f {p : Prop} [Decidable p] (h : ¬ p) : tI p = 0 := if_neg h
theorem tI_0 {p : Prop} [Decidable p] : (tI p = 0) = ¬ p := by unfold tI; split <;> simp [*]
theorem tI_1 {p : Prop} [Decidable p] : (tI p = 1) = p := by unfold tI; split <;> simp [*]
theorem rf_tI {p : Prop} [Decidable p] : am_rfit 1 (tI p) = true := by unfold tI; split <;> rfl
section LF
variable {d L : Nat} {σ : St} {Q : Option AV → AW → Prop}
theorem r13 {x y : Int} : R d 13 0 [vI x, vI y] [] (WS L σ) Q = Q (some (vI (tI (0 ≤ x ∧ x < y)))) (WS L σ) := by
  simp only [b13_0, b13_4, b13_9, b13_13]
  unfold tI
  repeat' split
  all_goals first | (rw [b13_14 rfl]; done) | (exfalso; omega)
theorem r17 {c : Nat} (hc : c < 3) : R (d + 1) 17 0 [vR 20, vI c] [] (WS L σ) Q = Q (some (vI (σ 28 c))) (WS L σ) := by
  simp (disch := first | omega | exact rf0 | exact rf1 | exact rf_tI)  only [b17_0, b17_9, b17_12, b17_21, b17_22, r13, am_push_s, am_push_n, rf0, rf1, rf_tI, tI_0, le_t, le_f, lt_t, lt_f, eq_t, eq_f, and_true, true_and, and_false, false_and, not_true_eq_false, not_false_eq_true, if_true, if_false, ↓reduceIte]
theorem r66 {c : Nat} (hc : c < 3) : R (d + 1) 66 0 [vR 20, vI c] [] (WS L σ) Q = Q (some (vI (σ 29 c))) (WS L σ) := by
  simp (disch := first | omega | exact rf0 | exact rf1 | exact rf_tI)  only [b66_0, b66_9, b66_12, b66_21, b66_22, r13, am_push_s, am_push_n, rf0, rf1, rf_tI, tI_0, le_t, le_f, lt_t, lt_f, eq_t, eq_f, and_true, true_and, and_false, false_and, not_true_eq_false, not_false_eq_true, if_true, if_false, ↓reduceIte]
theorem r72 {c : Nat} (hc : c < 3) : R (d + 1) 72 0 [vR 20, vI c] [] (WS L σ) Q = Q (some (vI (σ 30 c))) (WS L σ) := by
  simp (disch := first | omega | exact rf0 | exact rf1 | exact rf_tI)  only [b72_0, b72_9, b72_12, b72_21, b72_22, r13, am_push_s, am_push_n, rf0, rf1, rf_tI, tI_0, le_t, le_f, lt_t, lt_f, eq_t, eq_f, and_true, true_and, and_false, false_and, not_true_eq_false, not_false_eq_true, if_true, if_false, ↓reduceIte]
theorem r55 {c : Nat} {y : Int} {u : AV} (hc : c < 3) : R (d + 1) 55 0 [vR 20, vI c, vI y] [] (WS L σ) Q = Q none (WS L (st2 σ 28 c y)) := by
  simp (disch := first | omega | exact rf0 | exact rf1 | exact rf_tI)  only [b55_0, b55_9, b55_12, b55_19, r13, am_push_s, am_push_n, rf0, rf1, rf_tI, tI_0, le_t, le_f, lt_t, lt_f, eq_t, eq_f, and_true, true_and, and_false, false_and, not_true_eq_false, not_false_eq_true, if_true, if_false, ↓reduceIte]
theorem r67 {c : Nat} {y : Int} (hc : c < 3) : R (d + 1) 67 0 [vR 20, vI c, vI y] [] (WS L σ) Q = Q none (WS L (st2 σ 29 c y)) := by
  simp (disch := first | omega | exact rf0 | exact rf1 | exact rf_tI)  only [b67_0, b67_9, b67_12, b67_19, r13, am_push_s, am_push_n, rf0, rf1, rf_tI, tI_0, le_t, le_f, lt_t, lt_f, eq_t, eq_f, and_true, true_and, and_false, false_and, not_true_eq_false, not_false_eq_true, if_true, if_false, ↓reduceIte]
theorem r69 {c : Nat} (hc : c < 3) : R (d + 1) 69 0 [vR 20, vI c] [] (WS L σ) Q = Q (some (vR (46 + 2 * c))) (WS L σ) := by
  simp (disch := first | omega | exact rf0 | exact rf1 | exact rf_tI)  only [b69_0, b69_9, b69_12, b69_21, b69_22, b69_22n, r13, am_push_s, am_push_n, rf0, rf1, rf_tI, tI_0, le_t, le_f, lt_t, lt_f, eq_t, eq_f, and_true, true_and, and_false, false_and, not_true_eq_false, not_false_eq_true, if_true, if_false, ↓reduceIte, Int.toNat_natCast]
theorem r95 {c : Nat} (hc : c < 12) : R (d + 1) 95 0 [vR 20, vI c] [] (WS L σ) Q = Q (some (vR (53 + 2 * c))) (WS L σ) := by
  simp (disch := first | omega | exact rf0 | exact rf1 | exact rf_tI)  only [b95_0, b95_9, b95_12, b95_21, b95_22, b95_22n, r13, am_push_s, am_push_n, rf0, rf1, rf_tI, tI_0, le_t, le_f, lt_t, lt_f, eq_t, eq_f, and_true, true_and, and_false, false_and, not_true_eq_false, not_false_eq_true, if_true, if_false, ↓reduceIte, Int.toNat_natCast]
theorem r36 {b k : Nat} (hb : b < 8) (hk : k < 4) : R d 36 0 [vR 20, vI b, vI k, vX 9] [] (WS L σ) Q = Q (some (vI (σ 27 ((b : Int) * 4 + k)))) (WS L σ) := by
  simp (disch := first | omega | exact rf0 | exact rf1 | exact rf_tI)  only [b36_0, b36_10, b36_19, b36_28, b36_29, am_push_s, am_push_n, rf0, rf1, rf_tI, tI_0, le_t, le_f, lt_t, lt_f, eq_t, eq_f, and_true, true_and, and_false, false_and, not_true_eq_false, not_false_eq_true, if_true, if_false, ↓reduceIte]
theorem r57 {c x : Nat} (hc : c < 3) (hx : x < 256) : R (d + 1) 57 0 [vR 20, vI c, vI x, vX 9] [] (WS L σ) Q = Q (some (vI (σ 31 ((c : Int) * 256 + x)))) (WS L σ) := by
  simp (disch := first | omega | exact rf0 | exact rf1 | exact rf_tI)  only [b57_0, b57_15, b57_18, b57_27, b57_30, b57_39, b57_40, r13, am_push_s, am_push_n, rf0, rf1, rf_tI, tI_0, le_t, le_f, lt_t, lt_f, eq_t, eq_f, and_true, true_and, and_false, false_and, not_true_eq_false, not_false_eq_true, if_true, if_false, ↓reduceIte]
theorem r43 {c x : Nat} {y : Int} (hc : c < 3) (hx : x < 256) : R (d + 1) 43 0 [vR 20, vI c, vI x, vI y, vX 9] [] (WS L σ) Q = Q none (WS L (st2 σ 31 ((c : Int) * 256 + x) y)) := by
  simp (disch := first | omega | exact rf0 | exact rf1 | exact rf_tI)  only [b43_0, b43_16, b43_19, b43_29, b43_32, b43_40, r13, am_push_s, am_push_n, rf0, rf1, rf_tI, tI_0, le_t, le_f, lt_t, lt_f, eq_t, eq_f, and_true, true_and, and_false, false_and, not_true_eq_false, not_false_eq_true, if_true, if_false, ↓reduceIte]
theorem r53 {r : Nat} (h : KD r = 5) : R d 53 0 [vR r] [] (WS L σ) Q = Q none (WS L (st2 σ r 1 0)) := by
  simp (disch := first | omega | exact rf0 | exact rf1 | exact rf_tI)  only [b53_0, b53_5]
theorem r61 {r : Nat} (h : KD r = 5) : R d 61 0 [vR r] [] (WS L σ) Q = Q (some (vI (tI ((LN L (r + 1) : Int) ≤ σ r 1)))) (WS L σ) := by
  simp (disch := first | omega | exact rf0 | exact rf1 | exact rf_tI)  only [b61_0, b61_12, b61_16, b61_17, am_push_s, am_push_n, rf0, rf1, rf_tI, tI_0, le_t, le_f, lt_t, lt_f, eq_t, eq_f, and_true, true_and, and_false, false_and, not_true_eq_false, not_false_eq_true, if_true, if_false, ↓reduceIte]
  unfold tI
  repeat' split
  all_goals first | rfl | (exfalso; omega)
theorem r64 {r : Nat} {x : Int} (h : KD r = 5) (h0 : 0 ≤ x) (h1 : x < σ r 1) (h2 : σ r 1 ≤ (LN L (r + 1) : Int)) : R d 64 0 [vR r, vI x] [] (WS L σ) Q = Q (some (vI (σ (r + 1) x))) (WS L σ) := by
  simp (disch := first | omega | exact rf0 | exact rf1 | exact rf_tI)  only [b64_0, b64_4, b64_12, b64_21, b64_30, b64_31, am_push_s, am_push_n, rf0, rf1, rf_tI, tI_0, le_t, le_f, lt_t, lt_f, eq_t, eq_f, and_true, true_and, and_false, false_and, not_true_eq_false, not_false_eq_true, if_true, if_false, ↓reduceIte]
theorem r64n {r : Nat} {x : Int} (h : KD r = 5) (h0 : x < 0 ∨ σ r 1 ≤ x) : R d 64 0 [vR r, vI x] [] (WS L σ) Q = Q (some (vI (-1))) (WS L σ) := by
  simp (disch := first | omega | exact rf0 | exact rf1 | exact rf_tI)  only [b64_0, b64_4, b64_30, b64_31]
  repeat' split
  all_goals first | rfl | (exfalso; omega)
theorem r48 {r : Nat} {x : Int} (h : KD r = 5) (h0 : 0 ≤ σ r 1) (h1 : σ r 1 < (LN L (r + 1) : Int)) (hL : (LN L (r + 1) : Int) ≤ 120) : R d 48 0 [vR r, vI x] [] (WS L σ) Q = Q (some (vI (σ r 1 + 1))) (WS L (st2 (st2 σ (r + 1) (σ r 1) x) r 1 (σ r 1 + 1))) := by
  have e : st2 σ (r + 1) (σ r 1) x r 1 = σ r 1 := st2_k (by omega)
  simp (disch := first | omega | exact rf0 | exact rf1 | exact rf_tI)  only [b48_0, b48_7, b48_19, b48_29, b48_39, e, st2_eq, am_push_s, am_push_n, rf0, rf1, rf_tI, tI_0, le_t, le_f, lt_t, lt_f, eq_t, eq_f, and_true, true_and, and_false, false_and, not_true_eq_false, not_false_eq_true, if_true, if_false, ↓reduceIte]
theorem r60 {r : Nat} {x : Int} (h : KD r = 5) (h0 : 0 ≤ σ r 1) (h1 : σ r 1 ≤ (LN L (r + 1) : Int)) (hL : (LN L (r + 1) : Int) ≤ 120) : R (d + 1) 60 0 [vR r, vI x] [] (WS L σ) Q = if x < 0 then Q (some (vI 0)) (WS L (st2 σ r 1 0)) else if σ r 1 = (LN L (r + 1) : Int) then Q (some (vI (-4))) (WS L σ) else Q (some (vI (σ r 1 + 1))) (WS L (st2 (st2 σ (r + 1) (σ r 1) x) r 1 (σ r 1 + 1))) := by
  simp only [b60_0, b60_6]
  by_cases hx : x < 0
  · simp (disch := first | omega | exact rf0 | exact rf1 | exact rf_tI)  only [b60_0, b60_6, b60_10, b60_14, b60_16, b60_20, b60_23, b60_28, b60_33, r53, am_push_s, am_push_n, rf0, rf1, rf_tI, tI_0, le_t, le_f, lt_t, lt_f, eq_t, eq_f, and_true, true_and, and_false, false_and, not_true_eq_false, not_false_eq_true, if_true, if_false, ↓reduceIte]
  · by_cases hf : σ r 1 = (LN L (r + 1) : Int)
    · simp (disch := first | omega | exact rf0 | exact rf1 | exact rf_tI)  only [b60_0, b60_6, b60_10, b60_14, b60_16, b60_20, b60_23, b60_28, b60_33, r61, am_push_s, am_push_n, rf0, rf1, rf_tI, tI_0, le_t, le_f, lt_t, lt_f, eq_t, eq_f, and_true, true_and, and_false, false_and, not_true_eq_false, not_false_eq_true, if_true, if_false, ↓reduceIte]
    · simp (disch := first | omega | exact rf0 | exact rf1 | exact rf_tI)  only [b60_0, b60_6, b60_10, b60_14, b60_16, b60_20, b60_23, b60_28, b60_33, r61, r48, am_push_s, am_push_n, rf0, rf1, rf_tI, tI_0, le_t, le_f, lt_t, lt_f, eq_t, eq_f, and_true, true_and, and_false, false_and, not_true_eq_false, not_false_eq_true, if_true, if_false, ↓reduceIte]
end LF
