/-! the reference: small calls -/
def setS (σ : St) (s : Int → Int) : St := fun a => if a = 154 then s else σ a
section RA1
variable {d L N : Nat} {s s' : Int → Int} {cl cl' : Nat → List Cl} {σ σ1 : St} {Q : Option AV → AW → Prop}
theorem ss_e : setS σ s 154 = s := if_pos rfl
theorem ss_o {a : Nat} (h : a ≠ 154) : setS σ s a = σ a := if_neg h
theorem ss_st {i z : Int} : st2 (setS σ s) 154 i z = setS σ (up s i z) := by
  funext a j
  unfold st2 setS up
  by_cases h : a = 154
  · rw [if_pos h, if_pos h]
    by_cases h2 : j = i
    · rw [if_pos ⟨h, h2⟩, if_pos h2]
    · rw [if_neg (fun x => h2 x.2), if_neg h2]
  · rw [if_neg (fun x => h x.1), if_neg h, if_neg h]
theorem ss_ot {a : Nat} {i z : Int} (h : a ≠ 154) : st2 (setS σ s) a i z = setS (st2 σ a i z) s := by
  funext b j
  unfold st2 setS
  by_cases h1 : b = 154
  · rw [if_pos h1, if_pos h1, if_neg (fun x => h (by rw [← x.1, h1]))]
  · rw [if_neg h1, if_neg h1]
theorem ss_ss : setS (setS σ s) s' = setS σ s' := by
  funext a
  unfold setS
  split <;> rfl
theorem ss_self (h : σ 154 = s) : setS σ s = σ := by
  funext a
  unfold setS
  split
  · rename_i e
    rw [e, h]
  · rfl
theorem up_up {i z z' : Int} : up (up s i z) i z' = up s i z' := by
  funext j
  unfold up
  split <;> rfl
theorem tI_c {p q : Prop} [Decidable p] [Decidable q] (h : p ↔ q) : tI p = tI q := by
  unfold tI
  by_cases hp : p
  · rw [if_pos hp, if_pos (h.mp hp)]
  · rw [if_neg hp, if_neg (fun x => hp (h.mpr x))]
theorem r145 {x y z : Int} : R d 145 0 [vI x, vI y, vI z] [] (WS L σ) Q = Q (some (vI (tI (y ≤ x ∧ x ≤ z)))) (WS L σ) := by
  rw [b145_0]
  by_cases h1 : x < y
  · rw [if_pos h1, b145_14, b145_15 rfl, tI_f (by omega)]
  · rw [if_neg h1, b145_5]
    by_cases h2 : z < x
    · rw [if_pos h2, b145_14, b145_15 rfl, tI_f (by omega)]
    · rw [if_neg h2, b145_10, b145_15 rfl, tI_t (by omega)]
theorem r167 {x : Int} : R (d + 1) 167 0 [vI x] [] (WS L σ) Q = Q (some (vI (tI (0 ≤ x ∧ x < 3)))) (WS L σ) := by
  rw [b167_0, r145]
  simp only [am_push_s]
  rw [b167_6 rf_tI, tI_c (show (0 ≤ x ∧ x ≤ 2) ↔ (0 ≤ x ∧ x < 3) by omega)]
theorem r147 {x : Int} (h : 0 ≤ s 0 ∧ s 0 ≤ 8) : R (d + 1) 147 0 [vR 153, vI x] [] (WS L (setS σ s)) Q = Q (some (vI (tI (0 ≤ x ∧ x < s 0)))) (WS L (setS σ s)) := by
  have e0 : setS σ s 154 0 = s 0 := by rw [ss_e]
  rw [b147_0 (by omega), e0, r145]
  simp only [am_push_s]
  rw [b147_13 rf_tI, tI_c (show (0 ≤ x ∧ x ≤ s 0 - 1) ↔ (0 ≤ x ∧ x < s 0) by omega)]
theorem r179 {x : Int} (h : s 2 = 2 ∨ s 2 = 3) : R (d + 1) 179 0 [vR 153, vI x] [] (WS L (setS σ s)) Q = Q (some (vI (tI (0 ≤ x ∧ x < s 2)))) (WS L (setS σ s)) := by
  have e0 : setS σ s 154 2 = s 2 := by rw [ss_e]
  rw [b179_0 (by omega), e0, r145]
  simp only [am_push_s]
  rw [b179_13 rf_tI, tI_c (show (0 ≤ x ∧ x ≤ s 2 - 1) ↔ (0 ≤ x ∧ x < s 2) by omega)]
theorem q144 {p st f : Int} (hw : WF s cl) : R (d + 5) 144 0 [vR 153, vI p, vI st, vI f, vX 9] [] (WS L (setS σ s)) Q = Q (some (vI (aBoy s p st f))) (WS L (setS σ (uBoy s p st f))) := by
  have w0 := hw.1
  unfold W0 at w0
  have e0 : setS σ s 154 0 = s 0 := by rw [ss_e]
  unfold aBoy uBoy
  rw [b144_0, r145]
  simp only [am_push_s]
  rw [b144_6]
  simp only [tI_0]
  by_cases q1 : 0 ≤ p ∧ p < 4
  · rw [if_neg (by omega), b144_9, r145]
    simp only [am_push_s]
    rw [b144_15]
    simp only [tI_0]
    by_cases q2 : -1 ≤ f ∧ f < 3
    · rw [if_pos (by omega), b144_20, r145, if_pos ⟨q1, q2⟩]
      simp only [am_push_s]
      rw [b144_27]
      simp only [tI_0]
      by_cases q3 : 0 ≤ st ∧ st < 21
      · rw [if_pos (by omega), b144_33, e0, if_pos q3]
        by_cases q4 : s 0 = 8
        · rw [if_neg (by omega), b144_44, if_pos q4, if_neg (by omega)]
        · have g : ∀ (i z : Int), i ≠ 0 → up s i z 0 = s 0 := fun i z h => up_o (fun x => h x.symm)
          rw [if_pos q4, b144_47 (by omega) (by omega) (by omega), if_neg q4, if_pos ⟨⟨q1, q2, q3⟩, by omega⟩, e0, ss_st, b144_67 (by omega) (by omega) (by omega), ss_st, b144_79 (by omega) (by omega) (by omega), ss_st, b144_91 (by omega) (by omega) (by omega), ss_st]
          have e1 : setS σ (up (up (up (up s (130 + s 0) p) (138 + s 0) st) (146 + s 0) f) (203 + s 0) (-1)) 154 0 = s 0 := by rw [ss_e, up_o (by omega), up_o (by omega), up_o (by omega), up_o (by omega)]
          rw [b144_103 (by omega), e1, ss_st, b144_113]
          rfl
      · rw [if_neg (by omega), b144_30, if_neg q3, if_neg (fun x => q3 x.1.2.2)]
    · rw [if_neg (by omega), b144_18, if_neg (fun x => q2 x.2), if_neg (fun x => q2 x.1.2.1)]
  · rw [if_pos (by omega), b144_18, if_neg (fun x => q1 x.1), if_neg (fun x => q1 x.1.1)]
theorem q146 {x y : Int} (hw : WF s cl) : R (d + 5) 146 0 [vR 153, vI x, vI y] [] (WS L (setS σ s)) Q = Q (some (vI (aOf s x y))) (WS L (setS σ s)) := by
  have w0 := hw.1
  unfold W0 at w0
  unfold aOf
  rw [b146_0, r147 w0.1]
  simp only [am_push_s]
  rw [b146_5]
  simp only [tI_0]
  by_cases q1 : 0 ≤ x ∧ x < s 0
  · rw [if_pos (by omega), b146_10]
    by_cases y0 : y = 0
    · rw [if_pos y0, b146_36 (by omega) (by omega) (by omega), ss_e, if_neg (by omega), if_pos y0]
    · rw [if_neg y0]
      by_cases y1 : y = 1
      · rw [if_pos y1, b146_47 (by omega) (by omega) (by omega), ss_e, if_neg (by omega), if_neg y0, if_pos y1]
      · rw [if_neg y1]
        by_cases y2 : y = 2
        · rw [if_pos y2, b146_58 (by omega) (by omega) (by omega), ss_e, if_neg (show ¬ (¬ (0 ≤ x ∧ x < s 0) ∨ ¬ (0 ≤ y ∧ y < 3)) by omega), if_neg y0, if_neg y1]
          by_cases q3 : s (146 + x) = -1
          · rw [if_neg (by omega), b146_72, b146_87, if_pos q3]
          · rw [if_pos q3, b146_77 (by omega) (by omega) (by omega), ss_e, b146_87, if_neg q3]
        · rw [if_neg y2, b146_88, if_pos (by omega)]
  · rw [if_neg (by omega), b146_8, if_pos (by omega)]
theorem q149 : ∀ (j k : Nat) (s : Int → Int), k + j = 8 → R d 149 2 [vR 153, vI k] [] (WS L (setS σ s)) Q = Q none (WS L (setS σ (fun i => if 203 + (k : Int) ≤ i ∧ i < 211 then -1 else s i))) := by
  intro j
  induction j with
  | zero =>
    intro k s hk
    obtain rfl : k = 8 := by omega
    rw [b149_2, if_pos (by omega), b149_25]
    congr 3
    funext i
    rw [if_neg (by omega)]
  | succ j ih =>
    intro k s hk
    rw [b149_2, if_neg (by omega), b149_8 (by omega) (by omega) (by omega), ss_st, b149_19 (by omega)]
    refine (ih (k + 1) _ (by omega)).trans ?_
    congr 3
    funext i
    unfold up
    by_cases e : i = 203 + (k : Int)
    · rw [if_neg (by omega), if_pos e, if_pos (by omega)]
    · rw [if_neg e]
      by_cases e2 : 203 + ((k + 1 : Nat) : Int) ≤ i ∧ i < 211
      · rw [if_pos e2, if_pos (by omega)]
      · rw [if_neg e2, if_neg (by omega)]
theorem r149 : R d 149 0 [vR 153, vX 9] [] (WS L (setS σ s)) Q = Q none (WS L (setS σ (emp s))) := by
  rw [b149_0]
  refine (q149 8 0 s (by omega)).trans ?_
  rfl
theorem q148 {x : Int} : R (d + 5) 148 0 [vR 153, vI x, vX 9] [] (WS L (setS σ s)) Q = Q (some (vI (aPlay s x))) (WS L (setS σ (uPlay s x))) := by
  unfold aPlay uPlay
  rw [b148_0, r145]
  simp only [am_push_s]
  rw [b148_6]
  simp only [tI_0]
  by_cases q : x = 2 ∨ x = 3
  · rw [if_pos (by omega), b148_12, ss_e, ss_st, b148_26, r149, if_pos q, if_pos q]
    simp only [am_push_n]
    rw [b148_30]
  · rw [if_neg (by omega), b148_9, if_neg q, if_neg q]
/-- the two ways to a byte -/
theorem by_bv (x : BitVec 64) (c : Nat) (hc : c ≤ 56) : (x.sshiftRight c &&& 255#64).signExtend 32 = (x >>> c).signExtend 32 &&& 255#32 := by
  apply BitVec.eq_of_getLsbD_eq
  intro i hi
  have h1 : ∀ i, i < 32 → (255#64).getLsbD i = decide (i < 8) := by decide
  have h2 : ∀ i, i < 32 → (255#32).getLsbD i = decide (i < 8) := by decide
  have h64 : i < 64 := by omega
  rw [BitVec.getLsbD_and, h2 i hi, BitVec.getLsbD_signExtend, BitVec.getLsbD_signExtend, if_pos h64, if_pos h64, BitVec.getLsbD_and, h1 i hi, BitVec.getLsbD_sshiftRight, BitVec.getLsbD_ushiftRight]
  by_cases q : i < 8
  · have h3 : c + i < 64 := by omega
    have h4 : ¬ 64 ≤ i := by omega
    simp [q, h3, h4]
  · simp [q]
theorem by_eq {w : Int64} {k : Int} (hk : 0 ≤ k ∧ k < 8) : l_i ((l_shr w (8 * k)) &&& (Int64.ofInt 255)) = byC w k := by
  unfold byC l_i i_and l_shr l_ushr
  rw [Int32.ofInt_toInt]
  congr 1
  apply Int32.toBitVec_inj.mp
  have h : k = 0 ∨ k = 1 ∨ k = 2 ∨ k = 3 ∨ k = 4 ∨ k = 5 ∨ k = 6 ∨ k = 7 := by omega
  rcases h with rfl | rfl | rfl | rfl | rfl | rfl | rfl | rfl
  · exact by_bv w.toBitVec 0 (by omega)
  · exact by_bv w.toBitVec 8 (by omega)
  · exact by_bv w.toBitVec 16 (by omega)
  · exact by_bv w.toBitVec 24 (by omega)
  · exact by_bv w.toBitVec 32 (by omega)
  · exact by_bv w.toBitVec 40 (by omega)
  · exact by_bv w.toBitVec 48 (by omega)
  · exact by_bv w.toBitVec 56 (by omega)
theorem q150_l {t n : Int} {w : Int64} {u : AV} (ht : 0 ≤ t) (hn : n ≤ 8) (hm : t + n ≤ 120) : ∀ (m : Nat) (k : Int) (s : Int → Int), 0 ≤ k → k + m = n → s 7 = t + k → R d 150 35 [vR 153, vL w, u, vI n, vI (n - 1 - k)] [] (WS L (setS σ s)) Q = Q (some (vI (t + n))) (WS L (setS σ (fun j => if j = 7 then t + n else if 10 + t + k ≤ j ∧ j < 10 + t + n then byC w (n - 1 - (j - 10 - t)) else s j))) := by
  intro m
  induction m with
  | zero =>
    intro k s h0 hkm h7
    obtain rfl : k = n := by omega
    rw [b150_35, if_pos (by omega), b150_84, ss_e, h7]
    congr 3
    funext j
    by_cases e : j = 7
    · rw [if_pos e, e, h7]
    · rw [if_neg e, if_neg (by omega)]
  | succ m ih =>
    intro k s h0 hkm h7
    have e7 : setS σ s 154 7 = t + k := by rw [ss_e, h7]
    have e8 : setS σ (up s (10 + (t + k)) (byC w (n - 1 - k))) 154 7 = t + k := by rw [ss_e, up_o (by omega), h7]
    rw [b150_35, if_neg (by omega), b150_40 (by omega) (by omega) (by omega) (by omega), e7, by_eq (by omega), ss_st, b150_67 (by omega), e8, ss_st, b150_78 (by omega), show n - 1 - k + -1 = n - 1 - (k + 1) by omega]
    refine (ih (k + 1) _ (by omega) (by omega) (by rw [up_e]; omega)).trans ?_
    congr 3
    funext j
    unfold up
    by_cases e : j = 7
    · simp only [if_pos e]
    · simp only [if_neg e]
      by_cases e2 : j = 10 + (t + k)
      · rw [if_neg (show ¬ (10 + t + (k + 1) ≤ j ∧ j < 10 + t + n) by omega), if_pos e2, if_pos (show 10 + t + k ≤ j ∧ j < 10 + t + n by omega), e2]
        congr 1
        omega
      · rw [if_neg e2]
        by_cases e3 : 10 + t + (k + 1) ≤ j ∧ j < 10 + t + n
        · rw [if_pos e3, if_pos (show 10 + t + k ≤ j ∧ j < 10 + t + n by omega)]
        · rw [if_neg e3, if_neg (show ¬ (10 + t + k ≤ j ∧ j < 10 + t + n) by omega)]
theorem q150 {w : Int64} {n : Int} {u : AV} (hw : WF s cl) : R (d + 5) 150 0 [vR 153, vL w, u, vI n, vX 9] [] (WS L (setS σ s)) Q = Q (some (vI (aFeed s n))) (WS L (setS σ (uFeed s (byC w) n))) := by
  have w0 := hw.1
  unfold W0 at w0
  have e7 : setS σ s 154 7 = s 7 := by rw [ss_e]
  unfold aFeed uFeed
  rw [b150_0, r145]
  simp only [am_push_s]
  rw [b150_7]
  simp only [tI_0]
  by_cases q : n < 1 ∨ 8 < n
  · rw [if_neg (by omega), b150_10, if_pos q, if_pos q]
  · rw [if_pos (by omega), b150_13 (by omega), e7, if_neg q, if_neg q]
    by_cases q2 : 120 < s 7 + n
    · rw [if_neg (by omega), b150_27, if_pos q2, if_pos q2]
    · rw [if_pos (by omega), b150_30 (by omega), if_neg q2, if_neg q2]
      have e := q150_l (d := d + 5) (L := L) (σ := σ) (Q := Q) (t := s 7) (n := n) (w := w) (u := u) (by omega) (by omega) (by omega) n.toNat 0 s (by omega) (by omega) (by omega)
      rw [show n - 1 - 0 = n - 1 by omega] at e
      refine e.trans ?_
      congr 3
      funext j
      by_cases e1 : j = 7
      · rw [if_pos e1, if_pos e1]
      · rw [if_neg e1, if_neg e1]
        by_cases e2 : 10 + s 7 ≤ j ∧ j < 10 + s 7 + n
        · rw [if_pos (by omega), if_pos e2]
        · rw [if_neg (by omega), if_neg e2]
theorem q166 {x y : Int} (hw : WF s cl) : R (d + 5) 166 0 [vR 153, vI x, vI y, vX 9] [] (WS L (setS σ s)) Q = Q (some (vI (aHas s x y))) (WS L (setS σ (uHas s x y))) := by
  have w0 := hw.1
  unfold W0 at w0
  have e1 : setS σ s 154 1 = s 1 := by rw [ss_e]
  have e4 : setS σ s 154 (154 + x) = s (154 + x) := by rw [ss_e]
  unfold aHas uHas
  by_cases q1 : 0 ≤ x ∧ x < 3
  · by_cases q2 : -1 ≤ y ∧ y < s 1
    · have hq : (0 ≤ x ∧ x < 3) ∧ (-1 ≤ y ∧ y < s 1) := ⟨q1, q2⟩
      rw [if_pos hq, if_pos hq]
      have start : R (d + 5) 166 0 [vR 153, vI x, vI y, vX 9] [] (WS L (setS σ s)) Q = if ¬ s (154 + x) = -1 then R (d + 5) 166 57 [vR 153, vI x, vI y, vI (s (154 + x))] [] (WS L (setS σ (up s (154 + x) y))) Q else R (d + 5) 166 52 [vR 153, vI x, vI y, vI (s (154 + x))] [] (WS L (setS σ (up s (154 + x) y))) Q := by
        rw [b166_0, r167]
        simp only [am_push_s]
        rw [b166_4]
        simp only [tI_0]
        rw [if_neg (by omega), b166_7 (by omega), e1, r145]
        simp only [am_push_s]
        rw [b166_20]
        simp only [tI_0]
        rw [if_pos (by omega), b166_25 (by omega) (by omega) (by omega), e4, ss_st, b166_47]
      by_cases q3 : s (154 + x) = -1
      · rw [if_pos q3, start, if_neg (by simpa using q3), b166_52, b166_58]
      · rw [if_neg q3, start, if_pos q3, b166_57, b166_58]
    · rw [if_neg (fun x => q2 x.2), if_neg (fun x => q2 x.2), b166_0, r167]
      simp only [am_push_s]
      rw [b166_4]
      simp only [tI_0]
      rw [if_neg (by omega), b166_7 (by omega), e1, r145]
      simp only [am_push_s]
      rw [b166_20]
      simp only [tI_0]
      rw [if_neg (by omega), b166_23]
  · rw [if_neg (fun x => q1 x.1), if_neg (fun x => q1 x.1), b166_0, r167]
    simp only [am_push_s]
    rw [b166_4]
    simp only [tI_0]
    rw [if_pos (by omega), b166_23]
theorem q172 {x : Int} : R (d + 5) 172 0 [vR 153, vI x, vX 9] [] (WS L (setS σ s)) Q = Q (some (vI (aTurns s x))) (WS L (setS σ (uTurns s x))) := by
  unfold aTurns uTurns
  rw [b172_0, r145]
  simp only [am_push_s]
  rw [b172_6]
  simp only [tI_0]
  by_cases q : 0 ≤ x ∧ x < 4
  · rw [if_pos (by omega), b172_11, ss_e, ss_st, b172_25, if_pos q, if_pos q]
  · rw [if_neg (by omega), b172_9, if_neg q, if_neg q]
theorem q173 {x : Int} (hw : WF s cl) : R (d + 5) 173 0 [vR 153, vI x] [] (WS L (setS σ s)) Q = Q (some (vI (aTold s x))) (WS L (setS σ (uTold s x))) := by
  have w0 := hw.1
  unfold W0 at w0
  have e5 : setS σ s 154 5 = s 5 := by rw [ss_e]
  unfold aTold uTold
  by_cases q : x = -1
  · rw [if_pos (show -1 ≤ x ∧ x < 3 by omega), if_pos (show x < 0 by omega), if_pos (show -1 ≤ x ∧ x < 3 by omega), if_pos (show x < 0 by omega), b173_0, if_neg (by omega), b173_5, ss_st, b173_12]
  · by_cases q2 : 0 ≤ x ∧ x < 3
    · have start : R (d + 5) 173 0 [vR 153, vI x] [] (WS L (setS σ s)) Q = if ¬ s 5 = 8 then R (d + 5) 173 37 [vR 153, vI x] [] (WS L (setS σ s)) Q else R (d + 5) 173 34 [vR 153, vI x] [] (WS L (setS σ s)) Q := by
        rw [b173_0, if_pos q, b173_14, r167]
        simp only [am_push_s]
        rw [b173_18]
        simp only [tI_0]
        rw [if_pos (by omega), b173_23, e5]
      rw [if_pos (show -1 ≤ x ∧ x < 3 by omega), if_neg (show ¬ x < 0 by omega), if_pos (show -1 ≤ x ∧ x < 3 by omega), if_neg (show ¬ x < 0 by omega)]
      by_cases q3 : s 5 = 8
      · rw [if_pos q3, if_pos q3, start, if_neg (by simpa using q3), b173_34]
      · have e6 : setS σ (up s (187 + s 5) x) 154 5 = s 5 := by rw [ss_e, up_o (by omega)]
        rw [if_neg q3, if_neg q3, start, if_pos q3, b173_37 (by omega) (by omega) (by omega), e5, ss_st, b173_53 (by omega), e6, ss_st, b173_63, ss_e, up_e]
    · rw [if_neg (show ¬ (-1 ≤ x ∧ x < 3) by omega), if_neg (show ¬ (-1 ≤ x ∧ x < 3) by omega), b173_0, if_pos q, b173_14, r167]
      simp only [am_push_s]
      rw [b173_18]
      simp only [tI_0]
      rw [if_neg (by omega), b173_21]
theorem q191 {x : Int} (hw : WF s cl) : R (d + 5) 191 0 [vR 153, vI x] [] (WS L (setS σ s)) Q = Q (some (vI (aRow s x))) (WS L (setS σ (uRow s x))) := by
  have w0 := hw.1
  unfold W0 at w0
  have e5 : setS σ s 154 6 = s 6 := by rw [ss_e]
  unfold aRow uRow
  by_cases q : x = -1
  · rw [if_pos (show -1 ≤ x ∧ x < 8 by omega), if_pos (show x < 0 by omega), if_pos (show -1 ≤ x ∧ x < 8 by omega), if_pos (show x < 0 by omega), b191_0, if_neg (by omega), b191_5, ss_st, b191_13]
  · by_cases q2 : 0 ≤ x ∧ x < 8
    · have start : R (d + 5) 191 0 [vR 153, vI x] [] (WS L (setS σ s)) Q = if ¬ s 6 = 8 then R (d + 5) 191 42 [vR 153, vI x] [] (WS L (setS σ s)) Q else R (d + 5) 191 39 [vR 153, vI x] [] (WS L (setS σ s)) Q := by
        rw [b191_0, if_pos q, b191_15, r145]
        simp only [am_push_s]
        rw [b191_22]
        simp only [tI_0]
        rw [if_pos (by omega), b191_27, e5]
      rw [if_pos (show -1 ≤ x ∧ x < 8 by omega), if_neg (show ¬ x < 0 by omega), if_pos (show -1 ≤ x ∧ x < 8 by omega), if_neg (show ¬ x < 0 by omega)]
      by_cases q3 : s 6 = 8
      · rw [if_pos q3, if_pos q3, start, if_neg (by simpa using q3), b191_39]
      · have e6 : setS σ (up s (195 + s 6) x) 154 6 = s 6 := by rw [ss_e, up_o (by omega)]
        rw [if_neg q3, if_neg q3, start, if_pos q3, b191_42 (by omega) (by omega) (by omega), e5, ss_st, b191_59 (by omega), e6, ss_st, b191_70, ss_e, up_e]
    · rw [if_neg (show ¬ (-1 ≤ x ∧ x < 8) by omega), if_neg (show ¬ (-1 ≤ x ∧ x < 8) by omega), b191_0, if_pos q, b191_15, r145]
      simp only [am_push_s]
      rw [b191_22]
      simp only [tI_0]
      rw [if_neg (by omega), b191_25]
theorem r175 {k : Int} {t : Nat} (hw : W0 s) (h2 : W2 s) (hk : 0 ≤ k ∧ k < 4) (ht : t < 1000) : R d 175 0 [vR 153, vI k, vI t, vX 9, vX 9, vX 9] [] (WS L (setS σ s)) Q = Q (some (vI (tkS s k.toNat t))) (WS L (setS σ s)) := by
  unfold W0 at hw
  have e2 : setS σ s 154 2 = s 2 := by rw [ss_e]
  have e5 : setS σ s 154 5 = s 5 := by rw [ss_e]
  obtain ⟨w, hw1⟩ : ∃ w : Nat, s 2 = (w : Int) := ⟨(s 2).toNat, by omega⟩
  have hw2 : w = 2 ∨ w = 3 := by omega
  have r1 : i_rem t w = ((t % w : Nat) : Int) := i_rem_nat (by omega) (by omega)
  have r2 : i_rem t (2 * w) = ((t % (2 * w) : Nat) : Int) := by
    have := i_rem_nat (a := t) (b := 2 * w) (by omega) (by omega)
    rw [← this]
    rfl
  have r3 : i_rem (i_div ((t : Int) + 1) 2) w = (((t + 1) / 2 % w : Nat) : Int) := by
    have := i_div_nat (a := t + 1) (b := 2) (by omega) (by omega)
    rw [show ((t : Int) + 1) = ((t + 1 : Nat) : Int) by omega, show (2 : Int) = ((2 : Nat) : Int) from rfl, this, i_rem_nat (by omega) (by omega)]
  have h4 : t % (2 * w) < 2 * w := Nat.mod_lt _ (by omega)
  have ew : (s 2).toNat = w := by omega
  unfold tkS tkC
  dsimp only
  rw [ew, b175_0 (by omega), e2, hw1]
  by_cases k1 : k = 1
  · rw [if_pos k1, b175_40 (by omega) (by omega), r2, if_pos (show k.toNat = 1 by omega)]
    by_cases q : t % (2 * w) < w
    · rw [if_neg (by omega), b175_53, b175_66, if_pos q]
    · rw [if_pos (by omega), b175_58 (by omega) (by omega) (by omega), b175_66, if_neg q]
      congr 3
      omega
  · rw [if_neg k1, if_neg (show ¬ k.toNat = 1 by omega)]
    by_cases k2 : k = 2
    · rw [if_pos k2, b175_67 (by omega) (by omega), r3, if_pos (show k.toNat = 2 by omega)]
    · rw [if_neg k2, if_neg (show ¬ k.toNat = 2 by omega)]
      by_cases k3 : k = 3
      · rw [if_pos k3, b175_75, e5]
        by_cases q : (t : Int) < s 5
        · have h2t := h2 t q
          rw [if_neg (by omega), b175_85 (by omega) (by omega) (by omega), ss_e]
          by_cases q2 : s (187 + t) < w
          · rw [if_neg (by omega), b175_99 (by omega) (by omega) (by omega), ss_e, b175_114, if_pos (by omega)]
          · rw [if_pos (by omega), b175_112, b175_114, r1, if_neg (by omega)]
        · rw [if_pos (by omega), b175_112, b175_114, r1, if_neg (by omega)]
      · rw [if_neg k3, b175_115, r1, if_neg (by omega)]
theorem q174 {x : Int} (hw : WF s cl) : R (d + 5) 174 0 [vR 153, vI x] [] (WS L (setS σ s)) Q = Q (some (vI (aTurn s x))) (WS L (setS σ s)) := by
  have w0 := hw.1
  have w0' := w0
  unfold W0 at w0
  unfold aTurn
  rw [b174_0, r145]
  simp only [am_push_s]
  rw [b174_7]
  simp only [tI_0]
  by_cases q : 0 ≤ x ∧ x < 8
  · rw [if_neg (by omega), b174_10, ss_e, show vI x = vI ((x.toNat : Nat) : Int) by rw [natI q.1], r175 w0' hw.2.2.1 (by omega) (by omega), if_pos q]
    simp only [am_push_s]
    rw [b174_21, b174_25]
  · rw [if_pos (by omega), b174_24, b174_25, if_neg q]
theorem q176 {x y : Int} : R (d + 5) 176 0 [vR 153, vI x, vI y, vX 9] [] (WS L (setS σ s)) Q = Q (some (vI (aWay s x y))) (WS L (setS σ (uWay s x y))) := by
  unfold aWay uWay
  rw [b176_0, r167]
  simp only [am_push_s]
  rw [b176_4]
  simp only [tI_0]
  by_cases q1 : 0 ≤ x ∧ x < 3
  · rw [if_neg (by omega), b176_7, r145]
    simp only [am_push_s]
    rw [b176_14]
    simp only [tI_0]
    by_cases q2 : 0 ≤ y ∧ y < 7
    · rw [if_pos (by omega), b176_19 (by omega) (by omega) (by omega), ss_e, ss_st, b176_41, if_pos ⟨q1, q2⟩, if_pos ⟨q1, q2⟩]
    · rw [if_neg (by omega), b176_17, if_neg (fun x => q2 x.2), if_neg (fun x => q2 x.2)]
  · rw [if_pos (by omega), b176_17, if_neg (fun x => q1 x.1), if_neg (fun x => q1 x.1)]
theorem q177 {x y : Int} (hw : WF s cl) : R (d + 5) 177 0 [vR 153, vI x, vI y] [] (WS L (setS σ s)) Q = Q (some (vI (aList s x y))) (WS L (setS σ (uList s x y))) := by
  unfold aList uList
  by_cases q1 : 0 ≤ x ∧ x < 3
  · by_cases q2 : -1 ≤ y ∧ y < 8
    · obtain ⟨c, rfl⟩ : ∃ c : Nat, x = (c : Int) := ⟨x.toNat, by omega⟩
      have w6 := (hw.2.2.2.2.2.2.1 c (by omega)).1
      have e6 : setS σ s 154 (160 + c) = s (160 + c) := by rw [ss_e]
      have start : R (d + 5) 177 0 [vR 153, vI (c : Int), vI y] [] (WS L (setS σ s)) Q = R (d + 5) 177 19 [vR 153, vI (c : Int), vI y] [] (WS L (setS σ s)) Q := by
        rw [b177_0, r167]
        simp only [am_push_s]
        rw [b177_4]
        simp only [tI_0]
        rw [if_neg (by omega), b177_7, r145]
        simp only [am_push_s]
        rw [b177_14]
        simp only [tI_0]
        rw [if_pos (by omega)]
      have hq : (0 ≤ (c : Int) ∧ (c : Int) < 3) ∧ (-1 ≤ y ∧ y < 8) := ⟨q1, q2⟩
      rw [if_pos hq, if_pos hq, start, b177_19]
      by_cases q3 : y = -1
      · rw [if_pos (show y < 0 by omega), if_pos (show y < 0 by omega), if_neg (by omega), b177_24 (by omega) (by omega) (by omega), ss_st, b177_35]
      · rw [if_neg (show ¬ y < 0 by omega), if_neg (show ¬ y < 0 by omega), if_pos q3]
        by_cases q4 : s (160 + c) = 8
        · rw [if_pos q4, if_pos q4, b177_37 (by omega) (by omega) (by omega), e6, if_neg (by omega), b177_52]
        · have e7 : setS σ (up s (163 + 8 * c + s (160 + c)) y) 154 (160 + c) = s (160 + c) := by rw [ss_e, up_o (by omega)]
          rw [if_neg q4, if_neg q4, b177_37 (by omega) (by omega) (by omega), e6, if_pos q4, b177_55 (by omega) (by omega) (by omega) (by omega) (by omega) (by omega) (by omega) (by omega), e6, ss_st, b177_80 (by omega) (by omega) (by omega) (by omega), e7, ss_st, b177_94 (by omega) (by omega) (by omega), ss_e, up_e]
    · rw [if_neg (fun x => q2 x.2), if_neg (fun x => q2 x.2), b177_0, r167]
      simp only [am_push_s]
      rw [b177_4]
      simp only [tI_0]
      rw [if_neg (by omega), b177_7, r145]
      simp only [am_push_s]
      rw [b177_14]
      simp only [tI_0]
      rw [if_neg (by omega), b177_17]
  · rw [if_neg (fun x => q1 x.1), if_neg (fun x => q1 x.1), b177_0, r167]
    simp only [am_push_s]
    rw [b177_4]
    simp only [tI_0]
    rw [if_pos (by omega), b177_17]
theorem q178 {x y : Int} (hw : WF s cl) : R (d + 5) 178 0 [vR 153, vI x, vI y, vX 9] [] (WS L (setS σ s)) Q = Q (some (vI (aGive s x y))) (WS L (setS σ (uGive s x y))) := by
  have w0 := hw.1
  unfold W0 at w0
  have e4 : setS σ s 154 (203 + x) = s (203 + x) := by rw [ss_e]
  unfold aGive uGive
  by_cases q1 : 0 ≤ x ∧ x < s 0
  · have start : R (d + 5) 178 0 [vR 153, vI x, vI y, vX 9] [] (WS L (setS σ s)) Q = R (d + 5) 178 8 [vR 153, vI x, vI y, vX 9] [] (WS L (setS σ s)) Q := by
      rw [b178_0, r147 w0.1]
      simp only [am_push_s]
      rw [b178_5]
      simp only [tI_0]
      rw [if_neg (by omega)]
    have fin : R (d + 5) 178 23 [vR 153, vI x, vI y, vX 9] [] (WS L (setS σ s)) Q = Q (some (vI (if s (203 + x) = -1 then -5 else s (203 + x)))) (WS L (setS σ (up s (203 + x) y))) := by
      rw [b178_23 (by omega) (by omega) (by omega), e4, ss_st, b178_45]
      by_cases q3 : s (203 + x) = -1
      · rw [if_neg (by simpa using q3), b178_50, b178_56, if_pos q3]
      · rw [if_pos q3, b178_55, b178_56, if_neg q3]
    by_cases q2 : y = -1
    · rw [if_pos (show (0 ≤ x ∧ x < s 0) ∧ (-1 ≤ y ∧ y < s 2) by omega), if_pos (show (0 ≤ x ∧ x < s 0) ∧ (-1 ≤ y ∧ y < s 2) by omega), start, b178_8, if_pos q2, fin]
    · by_cases q3 : 0 ≤ y ∧ y < s 2
      · rw [if_pos (show (0 ≤ x ∧ x < s 0) ∧ (-1 ≤ y ∧ y < s 2) by omega), if_pos (show (0 ≤ x ∧ x < s 0) ∧ (-1 ≤ y ∧ y < s 2) by omega), start, b178_8, if_neg q2, b178_13, r179 w0.2.2.1]
        simp only [am_push_s]
        rw [b178_18]
        simp only [tI_0]
        rw [if_pos (by simpa using q3), fin]
      · rw [if_neg (show ¬ ((0 ≤ x ∧ x < s 0) ∧ (-1 ≤ y ∧ y < s 2)) by omega), if_neg (show ¬ ((0 ≤ x ∧ x < s 0) ∧ (-1 ≤ y ∧ y < s 2)) by omega), start, b178_8, if_neg q2, b178_13, r179 w0.2.2.1]
        simp only [am_push_s]
        rw [b178_18]
        simp only [tI_0]
        rw [if_neg (by simpa using q3), b178_21]
  · rw [if_neg (fun x => q1 x.1), if_neg (fun x => q1 x.1), b178_0, r147 w0.1]
    simp only [am_push_s]
    rw [b178_5]
    simp only [tI_0]
    rw [if_pos q1, b178_21]
theorem r181_l {c : Int} {n : Nat} (hn : s 0 = (n : Int)) (h8 : n ≤ 8) : ∀ (j k : Nat), k + j = n → R d 181 4 [vR 153, vI c, vI (bits (fun b => decide (s (203 + b) = c)) k), vI k] [] (WS L (setS σ s)) Q = Q (some (vI (bits (fun b => decide (s (203 + b) = c)) n))) (WS L (setS σ s)) := by
  have e0 : setS σ s 154 0 = s 0 := by rw [ss_e]
  intro j
  induction j with
  | zero =>
    intro k hk
    obtain rfl : k = n := by omega
    rw [b181_4, e0, if_pos (by omega), b181_44]
  | succ j ih =>
    intro k hk
    rw [b181_4, e0, if_neg (by omega), b181_14 (by omega) (by omega) (by omega), ss_e]
    by_cases q : s (203 + k) = c
    · rw [if_neg (by simpa using q), b181_29, b181_36 (by omega), or_tt (by omega) (decide_eq_true q)]
      exact ih (k + 1) (by omega)
    · rw [if_pos q, b181_35, b181_36 (by omega), or_ff (by omega) (decide_eq_false q)]
      exact ih (k + 1) (by omega)
theorem r181 {c : Nat} (hw : W0 s) : R d 181 0 [vR 153, vI c, vX 9, vX 9] [] (WS L (setS σ s)) Q = Q (some (vI (sdS s c))) (WS L (setS σ s)) := by
  have n8 := nS_8 hw
  rw [b181_0]
  exact r181_l n8.2 n8.1 (nS s) 0 (by omega)
theorem q180 {x : Int} (hw : WF s cl) : R (d + 5) 180 0 [vR 153, vI x] [] (WS L (setS σ s)) Q = Q (some (vI (aSide s x))) (WS L (setS σ s)) := by
  have w0 := hw.1
  have w0' := w0
  unfold W0 at w0
  unfold aSide
  rw [b180_0, r179 w0.2.2.1]
  simp only [am_push_s]
  rw [b180_5]
  simp only [tI_0]
  by_cases q : 0 ≤ x ∧ x < s 2
  · rw [if_neg (by omega), b180_8, show vI x = vI ((x.toNat : Nat) : Int) by rw [natI q.1], r181 w0', if_pos q]
    simp only [am_push_s]
    rw [b180_13, b180_17]
  · rw [if_pos (by omega), b180_16, b180_17, if_neg q]
theorem r197_l {n : Nat} (hn : s 0 = (n : Int)) (h8 : n ≤ 8) : ∀ (j k : Nat), k + j = n → R d 197 4 [vR 153, vI (bits (fun b => decide (s (203 + b) = -1)) k), vI k] [] (WS L (setS σ s)) Q = Q (some (vI (bits (fun b => decide (s (203 + b) = -1)) n))) (WS L (setS σ s)) := by
  have e0 : setS σ s 154 0 = s 0 := by rw [ss_e]
  intro j
  induction j with
  | zero =>
    intro k hk
    obtain rfl : k = n := by omega
    rw [b197_4, e0, if_pos (by omega), b197_44]
  | succ j ih =>
    intro k hk
    rw [b197_4, e0, if_neg (by omega), b197_14 (by omega) (by omega) (by omega), ss_e]
    by_cases q : s (203 + k) = -1
    · rw [if_neg (by simpa using q), b197_29, b197_36 (by omega), or_tt (by omega) (decide_eq_true q)]
      exact ih (k + 1) (by omega)
    · rw [if_pos q, b197_35, b197_36 (by omega), or_ff (by omega) (decide_eq_false q)]
      exact ih (k + 1) (by omega)
theorem r197 (hw : W0 s) : R d 197 0 [vR 153, vX 9, vX 9] [] (WS L (setS σ s)) Q = Q (some (vI (leftS s))) (WS L (setS σ s)) := by
  have n8 := nS_8 hw
  rw [b197_0]
  exact r197_l n8.2 n8.1 (nS s) 0 (by omega)
theorem r200_l {x : Nat} (hx : x < 256) : ∀ (j k : Nat), k + j = 8 → R d 200 4 [vI x, vI (cnt (fun b => x.testBit b) k), vI k] [] (WS L σ) Q = Q (some (vI (cnt (fun b => x.testBit b) 8))) (WS L σ) := by
  intro j
  induction j with
  | zero =>
    intro k hk
    obtain rfl : k = 8 := by omega
    rw [b200_4, if_pos (by omega), b200_24]
  | succ j ih =>
    intro k hk
    have hb : i_and (i_shr x k) 1 = if x.testBit k then 1 else 0 := i_bit (by omega) (by omega)
    have hc := cnt_le (fun b => x.testBit b) k
    have e := ih (k + 1) (by omega)
    rw [cnt] at e
    have hr : 0 ≤ i_and (i_shr x k) 1 ∧ i_and (i_shr x k) 1 ≤ 1 := by rw [hb]; split <;> omega
    rw [b200_4, if_neg (by omega), b200_10 (by omega) (by omega), hb]
    by_cases q : x.testBit k = true
    · rw [if_pos q] at e ⊢
      exact e
    · rw [if_neg q] at e ⊢
      exact e
theorem r200 {x : Nat} (hx : x < 256) : R d 200 0 [vI x, vX 9, vX 9] [] (WS L σ) Q = Q (some (vI (cnt (fun b => x.testBit b) 8))) (WS L σ) := by
  rw [b200_0]
  exact r200_l hx 8 0 (by omega)
theorem r205_l (hw : WF s cl) {b : Nat} : ∀ (j k : Nat), k + j = (s 3).toNat → R d 205 4 [vR 153, vI b, vI (cnt (fun k => decide (s (1381 + 8 * k + (s (1369 + k) - 1)) = b)) k), vI k] [] (WS L (setS σ s)) Q = Q (some (vI (tlS s b))) (WS L (setS σ s)) := by
  have w0 := hw.1
  unfold W0 at w0
  have e0 : setS σ s 154 3 = s 3 := by rw [ss_e]
  intro j
  induction j with
  | zero =>
    intro k hk
    obtain rfl : k = (s 3).toNat := by omega
    rw [b205_4, e0, if_pos (by omega), b205_58]
    rfl
  | succ j ih =>
    intro k hk
    have w9 := (hw.2.2.2.2.2.2.2.2 k (by omega)).1
    have e1 : setS σ s 154 (1369 + k) = s (1369 + k) := by rw [ss_e]
    have hc := cnt_le (fun k => decide (s (1381 + 8 * k + (s (1369 + k) - 1)) = b)) k
    have e := ih (k + 1) (by omega)
    rw [cnt] at e
    have ei : 1381 + 8 * (k : Int) + s (1369 + k) - 1 = 1381 + 8 * (k : Int) + (s (1369 + k) - 1) := by omega
    rw [b205_4, e0, if_neg (by omega), b205_14 (by omega) (by omega) (by omega) (by omega) (by omega) (by omega) (by omega) (by omega) (by omega), e1, ss_e, ei]
    by_cases q : s (1381 + 8 * k + (s (1369 + k) - 1)) = b
    · rw [if_pos (by simp [q])] at e
      rw [if_neg (by simpa using q), b205_45, b205_50 (by omega) (by omega)]
      exact e
    · rw [if_neg (by simp [q])] at e
      rw [if_pos q, b205_49, b205_50 (by omega) (by omega), Int.add_zero]
      exact e
theorem r205 (hw : WF s cl) {b : Nat} : R d 205 0 [vR 153, vI b, vX 9, vX 9] [] (WS L (setS σ s)) Q = Q (some (vI (tlS s b))) (WS L (setS σ s)) := by
  rw [b205_0]
  exact r205_l hw (s 3).toNat 0 (by omega)
theorem q216 {x : Int} (hw : WF s cl) : R (d + 5) 216 0 [vR 153, vI x] [] (WS L (setS σ s)) Q = Q (some (vI (aLast s x))) (WS L (setS σ s)) := by
  have w0 := hw.1
  unfold W0 at w0
  unfold aLast
  rw [b216_0, r147 w0.1]
  simp only [am_push_s]
  rw [b216_5]
  simp only [tI_0]
  by_cases q : 0 ≤ x ∧ x < s 0
  · rw [if_neg (by omega), b216_8, show vI x = vI ((x.toNat : Nat) : Int) by rw [natI q.1], r205 hw, if_pos q]
    simp only [am_push_s]
    rw [b216_13, b216_17]
  · rw [if_pos (by omega), b216_16, b216_17, if_neg q]
theorem q230 {x : Int} (hw : WF s cl) : R (d + 5) 230 0 [vR 153, vI x] [] (WS L (setS σ s)) Q = Q (some (vI (aCount s (σ 153 25) x))) (WS L (setS σ s)) := by
  have n8 := nS_8 hw.1
  have p8 := pw8 n8.1
  have hl : leftS s < 256 := Nat.lt_of_lt_of_le (bits_lt _ _) p8
  unfold aCount
  rw [b230_0]
  by_cases q0 : x = 0
  · rw [if_pos q0, if_pos q0, b230_44, ss_e]
  · rw [if_neg q0, if_neg q0]
    by_cases q1 : x = 1
    · rw [if_pos q1, if_pos q1, b230_51, ss_e]
    · rw [if_neg q1, if_neg q1]
      by_cases q2 : x = 2
      · rw [if_pos q2, if_pos q2, b230_58, ss_e]
      · rw [if_neg q2, if_neg q2]
        by_cases q3 : x = 3
        · rw [if_pos q3, if_pos q3, b230_65, ss_e]
        · rw [if_neg q3, if_neg q3]
          by_cases q4 : x = 4
          · rw [if_pos q4, if_pos q4, b230_72, r197 hw.1]
            simp only [am_push_s]
            rw [b230_76, r200 hl]
            simp only [am_push_s]
            rw [b230_79]
          · rw [if_neg q4, if_neg q4]
            by_cases q5 : x = 5
            · rw [if_pos q5, if_pos q5, b230_80, ss_e]
            · rw [if_neg q5, if_neg q5]
              by_cases q6 : x = 6
              · rw [if_pos q6, if_pos q6, b230_88, ss_o (by omega)]
              · rw [if_neg q6, if_neg q6, b230_93]
theorem r219 {k o : Int} : R d 219 0 [vI k, vI o] [] (WS L σ) Q = Q (some (vI (if o = 0 ∨ o = k ∨ (o = 1 ∧ (k = 3 ∨ k = 6)) ∨ (o = 2 ∧ k = 4) then 1 else 0))) (WS L σ) := by
  have t : R d 219 35 [vI k, vI o] [] (WS L σ) Q = Q (some (vI 1)) (WS L σ) := by rw [b219_35, b219_40 rfl]
  have f : R d 219 39 [vI k, vI o] [] (WS L σ) Q = Q (some (vI 0)) (WS L σ) := by rw [b219_39, b219_40 rfl]
  have m : R d 219 25 [vI k, vI o] [] (WS L σ) Q = if o = 2 ∧ k = 4 then Q (some (vI 1)) (WS L σ) else Q (some (vI 0)) (WS L σ) := by
    rw [b219_25]
    by_cases c1 : o = 2
    · rw [if_neg (by omega), b219_30]
      by_cases c2 : k = 4
      · rw [if_neg (by omega), t, if_pos ⟨c1, c2⟩]
      · rw [if_pos c2, f, if_neg (fun x => c2 x.2)]
    · rw [if_pos c1, f, if_neg (fun x => c1 x.1)]
  rw [b219_0]
  by_cases c0 : o = 0
  · rw [if_pos c0, t, if_pos (Or.inl c0)]
  · rw [if_neg c0, b219_4]
    by_cases c1 : o = k
    · rw [if_pos c1, t, if_pos (Or.inr (Or.inl c1))]
    · rw [if_neg c1, b219_9]
      by_cases c2 : o = 1
      · rw [if_neg (by omega), b219_14]
        by_cases c3 : k = 3
        · rw [if_pos c3, t, if_pos (by omega)]
        · rw [if_neg c3, b219_19]
          by_cases c4 : k = 6
          · rw [if_pos c4, t, if_pos (by omega)]
          · rw [if_neg c4, m, if_neg (by omega), if_neg (by omega)]
      · rw [if_pos c2, m]
        by_cases c5 : o = 2 ∧ k = 4
        · rw [if_pos c5, if_pos (by omega)]
        · rw [if_neg c5, if_neg (by omega)]
theorem q227 {x y : Int} (hw : WF s cl) : R (d + 5) 227 0 [vR 153, vI x, vI y] [] (WS L (setS σ s)) Q = Q (some (vI (aAs s x y))) (WS L (setS σ s)) := by
  unfold aAs
  by_cases q1 : 0 ≤ x ∧ x < 3
  · by_cases q2 : 0 ≤ y ∧ y < 7
    · have hq : (0 ≤ x ∧ x < 3) ∧ (0 ≤ y ∧ y < 7) := ⟨q1, q2⟩
      rw [if_pos hq, b227_0, r167]
      simp only [am_push_s]
      rw [b227_4]
      simp only [tI_0]
      rw [if_neg (by omega), b227_7, r145]
      simp only [am_push_s]
      rw [b227_14]
      simp only [tI_0]
      rw [if_pos (by omega), b227_19 (by omega) (by omega) (by omega), ss_e, r219]
      simp only [am_push_s]
      rw [b227_33]
      by_cases q3 : y = 0 ∨ y = s (157 + x) ∨ (y = 1 ∧ (s (157 + x) = 3 ∨ s (157 + x) = 6)) ∨ (y = 2 ∧ s (157 + x) = 4)
      · rw [if_pos q3, if_pos q3, if_neg (by omega), b227_36 (by omega) (by omega) (by omega), ss_e, b227_51]
      · rw [if_neg q3, if_neg q3, if_pos rfl, b227_49, b227_51]
    · rw [if_neg (fun x => q2 x.2), b227_0, r167]
      simp only [am_push_s]
      rw [b227_4]
      simp only [tI_0]
      rw [if_neg (by omega), b227_7, r145]
      simp only [am_push_s]
      rw [b227_14]
      simp only [tI_0]
      rw [if_neg (by omega), b227_17]
  · rw [if_neg (fun x => q1 x.1), b227_0, r167]
    simp only [am_push_s]
    rw [b227_4]
    simp only [tI_0]
    rw [if_pos (by omega), b227_17]
/-- the image, of the reference -/
def cpI (s i : Int → Int) : Int → Int := fun j => if 0 ≤ j ∧ j < 1580 then i j else s j
theorem q228_l : ∀ (m k : Nat) (σ : St), k + m = 1580 → R d 228 2 [vR 153, vI k] [] (WS L σ) Q = R d 228 27 [vR 153, vI 1580] [] (WS L (fun a => if a = 155 then (fun j => if (k : Int) ≤ j ∧ j < 1580 then σ 154 j else σ 155 j) else σ a)) Q := by
  intro m
  induction m with
  | zero =>
    intro k σ hk
    obtain rfl : k = 1580 := by omega
    rw [b228_2, if_pos (by omega)]
    congr 3
    funext a
    split
    · rename_i e
      funext j
      rw [if_neg (by omega), e]
    · rfl
  | succ m ih =>
    intro k σ hk
    rw [b228_2, if_neg (by omega), b228_9 (by omega) (by omega), b228_21 (by omega)]
    refine (ih (k + 1) _ (by omega)).trans ?_
    congr 3
    funext a
    by_cases e : a = 155
    · rw [if_pos e, if_pos e]
      funext j
      rw [st2_k (by omega)]
      by_cases e2 : j = (k : Int)
      · rw [if_neg (by omega), if_pos (by omega), e2, st2_eq]
      · rw [st2_i e2]
        by_cases e3 : ((k + 1 : Nat) : Int) ≤ j ∧ j < 1580
        · rw [if_pos e3, if_pos (by omega)]
        · rw [if_neg e3, if_neg (by omega)]
    · rw [if_neg e, if_neg e]
      funext j
      exact st2_k e
theorem q228 (h : σ 154 = s) : ∃ σ2 : St, σ2 154 = s ∧ σ2 155 = cpI (σ 155) s ∧ σ2 153 3 = 1 ∧ (∀ j : Int, j ≠ 3 → σ2 153 j = σ 153 j) ∧ (∀ a, a ≠ 153 → a ≠ 155 → σ2 a = σ a) ∧ ∀ Q, R (d + 5) 228 0 [vR 153, vX 9] [] (WS L σ) Q = Q (some (vI (s 0))) (WS L σ2) := by
  refine ⟨st2 (fun a => if a = 155 then (fun j => if ((0 : Nat) : Int) ≤ j ∧ j < 1580 then σ 154 j else σ 155 j) else σ a) 153 3 1, ?_, ?_, st2_eq, fun j hj => ?_, fun a h1 h2 => ?_, fun Q => ?_⟩
  · funext j
    rw [st2_k (by omega), if_neg (by omega), h]
  · funext j
    rw [st2_k (by omega), if_pos rfl, h]
    rfl
  · rw [st2_i hj, if_neg (by omega)]
  · funext j
    rw [st2_k h1, if_neg h2]
  · rw [b228_0]
    refine (q228_l 1580 0 σ (by omega)).trans ?_
    rw [b228_27, b228_32, st2_k (by omega), if_neg (by omega), h]
theorem q229_l : ∀ (m k : Nat) (s : Int → Int), k + m = 1580 → R d 229 12 [vR 153, vI k] [] (WS L (setS σ s)) Q = R d 229 37 [vR 153, vI 1580] [] (WS L (setS σ (fun j => if (k : Int) ≤ j ∧ j < 1580 then σ 155 j else s j))) Q := by
  intro m
  induction m with
  | zero =>
    intro k s hk
    obtain rfl : k = 1580 := by omega
    rw [b229_12, if_pos (by omega)]
    congr 3
    funext j
    rw [if_neg (by omega)]
  | succ m ih =>
    intro k s hk
    rw [b229_12, if_neg (by omega), b229_19 (by omega) (by omega), ss_o (show 155 ≠ 154 by omega), ss_st, b229_31 (by omega)]
    refine (ih (k + 1) _ (by omega)).trans ?_
    congr 3
    funext j
    by_cases e3 : ((k + 1 : Nat) : Int) ≤ j ∧ j < 1580
    · rw [if_pos e3, if_pos (by omega)]
    · rw [if_neg e3]
      by_cases e2 : j = (k : Int)
      · rw [if_pos (by omega), e2, up_e]
      · rw [up_o e2, if_neg (by omega)]
theorem q229 (h : σ 153 3 ≠ 0) : R (d + 5) 229 0 [vR 153, vX 9] [] (WS L (setS σ s)) Q = Q (some (vI (σ 155 0))) (WS L (setS σ (cpI s (σ 155)))) := by
  rw [b229_0, ss_o (by omega), if_pos h, b229_10]
  refine (q229_l 1580 0 s (by omega)).trans ?_
  rw [b229_37, ss_e]
  rfl
theorem q229n (h : σ 153 3 = 0) : R (d + 5) 229 0 [vR 153, vX 9] [] (WS L (setS σ s)) Q = Q (some (vI (-3))) (WS L (setS σ s)) := by
  rw [b229_0, ss_o (by omega), if_neg (by simpa using h), b229_7]
end RA1
