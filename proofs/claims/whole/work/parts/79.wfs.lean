/-! every next array is well formed -/
section WU
variable {s s' : Int → Int} {cl cl' : Nat → List Cl}
theorem WF_turns {k : Int} (hw : WF s cl) : WF (uTurns s k) cl := by
  unfold uTurns
  split
  · rename_i q
    obtain ⟨w0, w1, w2, w3, w4, w5, w6, w8, w9⟩ := hw
    unfold W0 at w0
    have hs : ∀ j : Int, (j ≠ 4) → up s 4 k j = s j := fun j hj => up_o hj
    refine ⟨?_, (W1_fr w1 (hs 7 (by omega)) (fun j _ _ => hs j (by omega)) (by omega)), (W2_fr w2 (hs 5 (by omega)) (fun j _ _ => hs j (by omega)) (by omega)), (W3_fr w3 (hs 6 (by omega)) (fun j _ _ => hs j (by omega)) (by omega)), (W4_fr w4 (hs 0 (by omega)) (by omega) (hs 2 (by omega)) (fun j _ _ => hs j (by omega)) (fun j _ _ => hs j (by omega))), (W5_fr w5 (by rw [hs 1 (by omega)]; omega) (fun j _ _ => hs j (by omega))), (W6_fr w6 (fun j _ _ => hs j (by omega))), (W8_fr w8 (hs 1 (by omega)) (by omega) (fun j _ _ => hs j (by omega))), (W9_fr w9 (hs 3 (by omega)) (by rw [hs 0 (by omega)]; omega) (by omega) (by omega) (fun j _ _ => hs j (by omega)))⟩
    unfold W0
    rw [hs 0 (by omega), hs 1 (by omega), hs 2 (by omega), hs 3 (by omega), up_e, hs 5 (by omega), hs 6 (by omega), hs 7 (by omega)]
    omega
  · exact hw
theorem WF_told {c : Int} (hw : WF s cl) : WF (uTold s c) cl := by
  unfold uTold
  split
  · rename_i q
    obtain ⟨w0, w1, w2, w3, w4, w5, w6, w8, w9⟩ := hw
    have hw' : WF s cl := ⟨w0, w1, w2, w3, w4, w5, w6, w8, w9⟩
    unfold W0 at w0
    split
    · have hs : ∀ j : Int, (j ≠ 5) → up s 5 0 j = s j := fun j hj => up_o hj
      refine ⟨?_, (W1_fr w1 (hs 7 (by omega)) (fun j _ _ => hs j (by omega)) (by omega)), fun i hi => by rw [up_e] at hi; omega, (W3_fr w3 (hs 6 (by omega)) (fun j _ _ => hs j (by omega)) (by omega)), (W4_fr w4 (hs 0 (by omega)) (by omega) (hs 2 (by omega)) (fun j _ _ => hs j (by omega)) (fun j _ _ => hs j (by omega))), (W5_fr w5 (by rw [hs 1 (by omega)]; omega) (fun j _ _ => hs j (by omega))), (W6_fr w6 (fun j _ _ => hs j (by omega))), (W8_fr w8 (hs 1 (by omega)) (by omega) (fun j _ _ => hs j (by omega))), (W9_fr w9 (hs 3 (by omega)) (by rw [hs 0 (by omega)]; omega) (by omega) (by omega) (fun j _ _ => hs j (by omega)))⟩
      unfold W0
      rw [hs 0 (by omega), hs 1 (by omega), hs 2 (by omega), hs 3 (by omega), hs 4 (by omega), up_e, hs 6 (by omega), hs 7 (by omega)]
      omega
    · split
      · exact hw'
      · have hs : ∀ j : Int, (j ≠ 5 ∧ j ≠ 187 + s 5) → up (up s (187 + s 5) c) 5 (s 5 + 1) j = s j := fun j hj => by rw [up_o hj.1, up_o hj.2]
        refine ⟨?_, (W1_fr w1 (hs 7 (by omega)) (fun j _ _ => hs j (by omega)) (by omega)), fun i hi => ?_, (W3_fr w3 (hs 6 (by omega)) (fun j _ _ => hs j (by omega)) (by omega)), (W4_fr w4 (hs 0 (by omega)) (by omega) (hs 2 (by omega)) (fun j _ _ => hs j (by omega)) (fun j _ _ => hs j (by omega))), (W5_fr w5 (by rw [hs 1 (by omega)]; omega) (fun j _ _ => hs j (by omega))), (W6_fr w6 (fun j _ _ => hs j (by omega))), (W8_fr w8 (hs 1 (by omega)) (by omega) (fun j _ _ => hs j (by omega))), (W9_fr w9 (hs 3 (by omega)) (by rw [hs 0 (by omega)]; omega) (by omega) (by omega) (fun j _ _ => hs j (by omega)))⟩
        · unfold W0
          rw [hs 0 (by omega), hs 1 (by omega), hs 2 (by omega), hs 3 (by omega), hs 4 (by omega), up_e, hs 6 (by omega), hs 7 (by omega)]
          omega
        · rw [up_e] at hi
          by_cases e : (i : Int) = s 5
          · rw [up_o (by omega), e, up_e]
            omega
          · rw [hs _ (by omega)]
            exact w2 i (by omega)
  · exact hw
theorem WF_row {c : Int} (hw : WF s cl) : WF (uRow s c) cl := by
  unfold uRow
  split
  · rename_i q
    obtain ⟨w0, w1, w2, w3, w4, w5, w6, w8, w9⟩ := hw
    have hw' : WF s cl := ⟨w0, w1, w2, w3, w4, w5, w6, w8, w9⟩
    unfold W0 at w0
    split
    · have hs : ∀ j : Int, (j ≠ 6) → up s 6 0 j = s j := fun j hj => up_o hj
      refine ⟨?_, (W1_fr w1 (hs 7 (by omega)) (fun j _ _ => hs j (by omega)) (by omega)), (W2_fr w2 (hs 5 (by omega)) (fun j _ _ => hs j (by omega)) (by omega)), fun i hi => by rw [up_e] at hi; omega, (W4_fr w4 (hs 0 (by omega)) (by omega) (hs 2 (by omega)) (fun j _ _ => hs j (by omega)) (fun j _ _ => hs j (by omega))), (W5_fr w5 (by rw [hs 1 (by omega)]; omega) (fun j _ _ => hs j (by omega))), (W6_fr w6 (fun j _ _ => hs j (by omega))), (W8_fr w8 (hs 1 (by omega)) (by omega) (fun j _ _ => hs j (by omega))), (W9_fr w9 (hs 3 (by omega)) (by rw [hs 0 (by omega)]; omega) (by omega) (by omega) (fun j _ _ => hs j (by omega)))⟩
      unfold W0
      rw [hs 0 (by omega), hs 1 (by omega), hs 2 (by omega), hs 3 (by omega), hs 4 (by omega), hs 5 (by omega), up_e, hs 7 (by omega)]
      omega
    · split
      · exact hw'
      · have hs : ∀ j : Int, (j ≠ 6 ∧ j ≠ 195 + s 6) → up (up s (195 + s 6) c) 6 (s 6 + 1) j = s j := fun j hj => by rw [up_o hj.1, up_o hj.2]
        refine ⟨?_, (W1_fr w1 (hs 7 (by omega)) (fun j _ _ => hs j (by omega)) (by omega)), (W2_fr w2 (hs 5 (by omega)) (fun j _ _ => hs j (by omega)) (by omega)), fun i hi => ?_, (W4_fr w4 (hs 0 (by omega)) (by omega) (hs 2 (by omega)) (fun j _ _ => hs j (by omega)) (fun j _ _ => hs j (by omega))), (W5_fr w5 (by rw [hs 1 (by omega)]; omega) (fun j _ _ => hs j (by omega))), (W6_fr w6 (fun j _ _ => hs j (by omega))), (W8_fr w8 (hs 1 (by omega)) (by omega) (fun j _ _ => hs j (by omega))), (W9_fr w9 (hs 3 (by omega)) (by rw [hs 0 (by omega)]; omega) (by omega) (by omega) (fun j _ _ => hs j (by omega)))⟩
        · unfold W0
          rw [hs 0 (by omega), hs 1 (by omega), hs 2 (by omega), hs 3 (by omega), hs 4 (by omega), hs 5 (by omega), up_e, hs 7 (by omega)]
          omega
        · rw [up_e] at hi
          by_cases e : (i : Int) = s 6
          · rw [up_o (by omega), e, up_e]
            omega
          · rw [hs _ (by omega)]
            exact w3 i (by omega)
  · exact hw
theorem WF_way {c k : Int} (hw : WF s cl) : WF (uWay s c k) cl := by
  unfold uWay
  split
  · rename_i q
    obtain ⟨w0, w1, w2, w3, w4, w5, w6, w8, w9⟩ := hw
    unfold W0 at w0
    have hs : ∀ j : Int, (j ≠ 157 + c) → up s (157 + c) k j = s j := fun j hj => up_o hj
    refine ⟨(by unfold W0; rw [hs 0 (by omega), hs 1 (by omega), hs 2 (by omega), hs 3 (by omega), hs 4 (by omega), hs 5 (by omega), hs 6 (by omega), hs 7 (by omega)]; exact w0), (W1_fr w1 (hs 7 (by omega)) (fun j _ _ => hs j (by omega)) (by omega)), (W2_fr w2 (hs 5 (by omega)) (fun j _ _ => hs j (by omega)) (by omega)), (W3_fr w3 (hs 6 (by omega)) (fun j _ _ => hs j (by omega)) (by omega)), (W4_fr w4 (hs 0 (by omega)) (by omega) (hs 2 (by omega)) (fun j _ _ => hs j (by omega)) (fun j _ _ => hs j (by omega))), ?_, (W6_fr w6 (fun j _ _ => hs j (by omega))), (W8_fr w8 (hs 1 (by omega)) (by omega) (fun j _ _ => hs j (by omega))), (W9_fr w9 (hs 3 (by omega)) (by rw [hs 0 (by omega)]; omega) (by omega) (by omega) (fun j _ _ => hs j (by omega)))⟩
    intro c' hc'
    obtain ⟨h1, h2⟩ := w5 c' hc'
    rw [hs 1 (by omega), hs (154 + c') (by omega)]
    refine ⟨h1, ?_⟩
    by_cases e : (c' : Int) = c
    · rw [e, up_e]
      omega
    · rw [hs _ (by omega)]
      exact h2
  · exact hw
theorem WF_has {c y : Int} (hw : WF s cl) : WF (uHas s c y) cl := by
  unfold uHas
  split
  · rename_i q
    obtain ⟨w0, w1, w2, w3, w4, w5, w6, w8, w9⟩ := hw
    unfold W0 at w0
    have hs : ∀ j : Int, (j ≠ 154 + c) → up s (154 + c) y j = s j := fun j hj => up_o hj
    refine ⟨(by unfold W0; rw [hs 0 (by omega), hs 1 (by omega), hs 2 (by omega), hs 3 (by omega), hs 4 (by omega), hs 5 (by omega), hs 6 (by omega), hs 7 (by omega)]; exact w0), (W1_fr w1 (hs 7 (by omega)) (fun j _ _ => hs j (by omega)) (by omega)), (W2_fr w2 (hs 5 (by omega)) (fun j _ _ => hs j (by omega)) (by omega)), (W3_fr w3 (hs 6 (by omega)) (fun j _ _ => hs j (by omega)) (by omega)), ?_, ?_, (W6_fr w6 (fun j _ _ => hs j (by omega))), (W8_fr w8 (hs 1 (by omega)) (by omega) (fun j _ _ => hs j (by omega))), (W9_fr w9 (hs 3 (by omega)) (by rw [hs 0 (by omega)]; omega) (by omega) (by omega) (fun j _ _ => hs j (by omega)))⟩
    · intro q' hq
      rw [hs 0 (by omega)] at hq
      rw [hs (130 + q') (by omega), hs (138 + q') (by omega), hs (146 + q') (by omega), hs (203 + q') (by omega), hs 2 (by omega)]
      exact w4 q' hq
    · intro c' hc'
      obtain ⟨h1, h2⟩ := w5 c' hc'
      rw [hs 1 (by omega), hs (157 + c') (by omega)]
      refine ⟨?_, h2⟩
      by_cases e : (c' : Int) = c
      · rw [e, up_e]
        omega
      · rw [hs _ (by omega)]
        exact h1
  · exact hw
theorem WF_list {c b : Int} (hw : WF s cl) : WF (uList s c b) cl := by
  unfold uList
  split
  · rename_i q
    obtain ⟨w0, w1, w2, w3, w4, w5, w6, w8, w9⟩ := hw
    have hw' : WF s cl := ⟨w0, w1, w2, w3, w4, w5, w6, w8, w9⟩
    unfold W0 at w0
    obtain ⟨c, rfl⟩ : ∃ c' : Nat, c = (c' : Int) := ⟨c.toNat, by omega⟩
    have w6c := w6 c (by omega)
    split
    · have hs : ∀ j : Int, (j ≠ 160 + c) → up s (160 + c) 0 j = s j := fun j hj => up_o hj
      refine ⟨(by unfold W0; rw [hs 0 (by omega), hs 1 (by omega), hs 2 (by omega), hs 3 (by omega), hs 4 (by omega), hs 5 (by omega), hs 6 (by omega), hs 7 (by omega)]; exact w0), (W1_fr w1 (hs 7 (by omega)) (fun j _ _ => hs j (by omega)) (by omega)), (W2_fr w2 (hs 5 (by omega)) (fun j _ _ => hs j (by omega)) (by omega)), (W3_fr w3 (hs 6 (by omega)) (fun j _ _ => hs j (by omega)) (by omega)), (W4_fr w4 (hs 0 (by omega)) (by omega) (hs 2 (by omega)) (fun j _ _ => hs j (by omega)) (fun j _ _ => hs j (by omega))), (W5_fr w5 (by rw [hs 1 (by omega)]; omega) (fun j _ _ => hs j (by omega))), ?_, (W8_fr w8 (hs 1 (by omega)) (by omega) (fun j _ _ => hs j (by omega))), (W9_fr w9 (hs 3 (by omega)) (by rw [hs 0 (by omega)]; omega) (by omega) (by omega) (fun j _ _ => hs j (by omega)))⟩
      intro c' hc'
      by_cases e : c' = c
      · subst e
        rw [up_e]
        exact ⟨by omega, fun k hk => by omega⟩
      · rw [hs _ (by omega)]
        refine ⟨(w6 c' hc').1, fun k hk => ?_⟩
        have := (w6 c' hc').1
        rw [hs _ (by omega)]
        exact (w6 c' hc').2 k hk
    · split
      · exact hw'
      · have hs : ∀ j : Int, (j ≠ 160 + c ∧ j ≠ 163 + 8 * c + s (160 + c)) → up (up s (163 + 8 * c + s (160 + c)) b) (160 + c) (s (160 + c) + 1) j = s j := fun j hj => by rw [up_o hj.1, up_o hj.2]
        refine ⟨(by unfold W0; rw [hs 0 (by omega), hs 1 (by omega), hs 2 (by omega), hs 3 (by omega), hs 4 (by omega), hs 5 (by omega), hs 6 (by omega), hs 7 (by omega)]; exact w0), (W1_fr w1 (hs 7 (by omega)) (fun j _ _ => hs j (by omega)) (by omega)), (W2_fr w2 (hs 5 (by omega)) (fun j _ _ => hs j (by omega)) (by omega)), (W3_fr w3 (hs 6 (by omega)) (fun j _ _ => hs j (by omega)) (by omega)), (W4_fr w4 (hs 0 (by omega)) (by omega) (hs 2 (by omega)) (fun j _ _ => hs j (by omega)) (fun j _ _ => hs j (by omega))), (W5_fr w5 (by rw [hs 1 (by omega)]; omega) (fun j _ _ => hs j (by omega))), ?_, (W8_fr w8 (hs 1 (by omega)) (by omega) (fun j _ _ => hs j (by omega))), (W9_fr w9 (hs 3 (by omega)) (by rw [hs 0 (by omega)]; omega) (by omega) (by omega) (fun j _ _ => hs j (by omega)))⟩
        intro c' hc'
        have w6' := (w6 c' hc').1
        by_cases e : c' = c
        · subst e
          rw [up_e]
          refine ⟨by omega, fun k hk => ?_⟩
          by_cases e2 : (k : Int) = s (160 + c')
          · rw [e2, up_o (by omega), up_e]
            omega
          · rw [hs _ (by omega)]
            exact w6c.2 k (by omega)
        · rw [hs _ (by omega)]
          refine ⟨w6', fun k hk => ?_⟩
          rw [hs _ (by omega)]
          exact (w6 c' hc').2 k hk
  · exact hw
theorem WF_give {b c : Int} (hw : WF s cl) : WF (uGive s b c) cl := by
  unfold uGive
  split
  · rename_i q
    have w0 := hw.1
    unfold W0 at w0
    obtain ⟨b, rfl⟩ : ∃ b' : Nat, b = (b' : Int) := ⟨b.toNat, by omega⟩
    exact WF_own hw (by unfold nS; omega) q.2
  · exact hw
theorem WF_play {n : Int} (hw : WF s cl) : WF (uPlay s n) cl := by
  unfold uPlay
  split
  · rename_i q
    obtain ⟨w0, w1, w2, w3, w4, w5, w6, w8, w9⟩ := hw
    unfold W0 at w0
    have h2 : emp (up s 2 n) 2 = n := by rw [emp_o (by omega), up_e]
    have hs : ∀ j : Int, (j ≠ 2 ∧ (j < 203 ∨ 211 ≤ j)) → emp (up s 2 n) j = s j := fun j hj => by rw [emp_o hj.2, up_o hj.1]
    refine ⟨?_, (W1_fr w1 (hs 7 (by omega)) (fun j _ _ => hs j (by omega)) (by omega)), (W2_fr w2 (hs 5 (by omega)) (fun j _ _ => hs j (by omega)) (by omega)), (W3_fr w3 (hs 6 (by omega)) (fun j _ _ => hs j (by omega)) (by omega)), ?_, (W5_fr w5 (by rw [hs 1 (by omega)]; omega) (fun j _ _ => hs j (by omega))), (W6_fr w6 (fun j _ _ => hs j (by omega))), (W8_fr w8 (hs 1 (by omega)) (by omega) (fun j _ _ => hs j (by omega))), (W9_fr w9 (hs 3 (by omega)) (by rw [hs 0 (by omega)]; omega) (by omega) (by omega) (fun j _ _ => hs j (by omega)))⟩
    · unfold W0
      rw [hs 0 (by omega), hs 1 (by omega), h2, hs 3 (by omega), hs 4 (by omega), hs 5 (by omega), hs 6 (by omega), hs 7 (by omega)]
      omega
    · intro q' hq
      rw [hs 0 (by omega)] at hq
      obtain ⟨k1, k2, k3, k4⟩ := w4 q' hq
      rw [hs (130 + q') (by omega), hs (138 + q') (by omega), hs (146 + q') (by omega), h2]
      refine ⟨k1, k2, k3, ?_⟩
      unfold emp
      rw [if_pos (by omega)]
      omega
  · exact hw
theorem WF_boy {p st f : Int} (hw : WF s cl) : WF (uBoy s p st f) cl := by
  unfold uBoy
  split
  · rename_i q
    obtain ⟨w0, w1, w2, w3, w4, w5, w6, w8, w9⟩ := hw
    unfold W0 at w0
    have hs : ∀ j : Int, (j ≠ 0 ∧ j ≠ 130 + s 0 ∧ j ≠ 138 + s 0 ∧ j ≠ 146 + s 0 ∧ j ≠ 203 + s 0) → nBoy s p st f j = s j := fun j hj => by
      unfold nBoy
      rw [up_o hj.1, up_o hj.2.2.2.2, up_o hj.2.2.2.1, up_o hj.2.2.1, up_o hj.2.1]
    have h0 : nBoy s p st f 0 = s 0 + 1 := up_e
    refine ⟨?_, (W1_fr w1 (hs 7 (by omega)) (fun j _ _ => hs j (by omega)) (by omega)), (W2_fr w2 (hs 5 (by omega)) (fun j _ _ => hs j (by omega)) (by omega)), (W3_fr w3 (hs 6 (by omega)) (fun j _ _ => hs j (by omega)) (by omega)), ?_, (W5_fr w5 (by rw [hs 1 (by omega)]; omega) (fun j _ _ => hs j (by omega))), (W6_fr w6 (fun j _ _ => hs j (by omega))), (W8_fr w8 (hs 1 (by omega)) (by omega) (fun j _ _ => hs j (by omega))), W9_fr w9 (hs 3 (by omega)) (by rw [h0]; omega) (by omega) (by omega) (fun j _ _ => hs j (by omega))⟩
    · unfold W0
      rw [h0, hs 1 (by omega), hs 2 (by omega), hs 3 (by omega), hs 4 (by omega), hs 5 (by omega), hs 6 (by omega), hs 7 (by omega)]
      omega
    · intro q' hq
      rw [h0] at hq
      rw [hs 2 (by omega)]
      by_cases e : (q' : Int) = s 0
      · have e1 : nBoy s p st f (130 + q') = p := by
          unfold nBoy
          rw [e, up_o (by omega), up_o (by omega), up_o (by omega), up_o (by omega), up_e]
        have e2 : nBoy s p st f (138 + q') = st := by
          unfold nBoy
          rw [e, up_o (by omega), up_o (by omega), up_o (by omega), up_e]
        have e3 : nBoy s p st f (146 + q') = f := by
          unfold nBoy
          rw [e, up_o (by omega), up_o (by omega), up_e]
        have e4 : nBoy s p st f (203 + q') = -1 := by
          unfold nBoy
          rw [e, up_o (by omega), up_e]
        rw [e1, e2, e3, e4]
        omega
      · rw [hs (130 + q') (by omega), hs (138 + q') (by omega), hs (146 + q') (by omega), hs (203 + q') (by omega)]
        exact w4 q' (by omega)
  · exact hw
theorem WF_tape {n : Int} (hw : WF s cl) (hn : 1 ≤ n ∧ n ≤ 8 ∧ s 7 + n ≤ 120) (h7 : s' 7 = s 7 + n) (hs : ∀ j : Int, (j ≠ 7 ∧ (j < 10 + s 7 ∨ 10 + s 7 + n ≤ j)) → s' j = s j) (hin : ∀ j : Int, 10 + s 7 ≤ j → j < 10 + s 7 + n → 0 ≤ s' j ∧ s' j < 256) : WF s' cl := by
  obtain ⟨w0, w1, w2, w3, w4, w5, w6, w8, w9⟩ := hw
  unfold W0 at w0
  refine ⟨?_, ?_, (W2_fr w2 (hs 5 (by omega)) (fun j _ _ => hs j (by omega)) (by omega)), (W3_fr w3 (hs 6 (by omega)) (fun j _ _ => hs j (by omega)) (by omega)), (W4_fr w4 (hs 0 (by omega)) (by omega) (hs 2 (by omega)) (fun j _ _ => hs j (by omega)) (fun j _ _ => hs j (by omega))), (W5_fr w5 (by rw [hs 1 (by omega)]; omega) (fun j _ _ => hs j (by omega))), (W6_fr w6 (fun j _ _ => hs j (by omega))), (W8_fr w8 (hs 1 (by omega)) (by omega) (fun j _ _ => hs j (by omega))), (W9_fr w9 (hs 3 (by omega)) (by rw [hs 0 (by omega)]; omega) (by omega) (by omega) (fun j _ _ => hs j (by omega)))⟩
  · unfold W0
    rw [hs 0 (by omega), hs 1 (by omega), hs 2 (by omega), hs 3 (by omega), hs 4 (by omega), hs 5 (by omega), hs 6 (by omega), h7]
    omega
  · intro i hi
    rw [h7] at hi
    by_cases e : 10 + s 7 ≤ 10 + (i : Int)
    · exact hin _ e (by omega)
    · rw [hs _ (by omega)]
      exact w1 i (by omega)
theorem WF_feed {f : Int → Int} {n : Int} (hf : ∀ k : Int, 0 ≤ f k ∧ f k < 256) (hw : WF s cl) : WF (uFeed s f n) cl := by
  have w0 := hw.1
  unfold W0 at w0
  unfold uFeed
  split
  · exact hw
  · split
    · exact hw
    · refine WF_tape (n := n) hw (by omega) (if_pos rfl) (fun j hj => ?_) (fun j h1 h2 => ?_)
      · rw [if_neg hj.1, if_neg (by omega)]
      · have q : 10 + s 7 ≤ j ∧ j < 10 + s 7 + n := ⟨h1, h2⟩
        rw [if_neg (by omega), if_pos q]
        exact hf _
/-- what is alike up to 1580 -/
theorem WF_ext (hw : WF s cl) (hs : ∀ j : Int, 0 ≤ j → j < 1580 → s' j = s j) : WF s' cl := by
  obtain ⟨w0, w1, w2, w3, w4, w5, w6, w8, w9⟩ := hw
  unfold W0 at w0
  refine ⟨?_, W1_fr w1 (hs 7 (by omega) (by omega)) (fun j _ _ => hs j (by omega) (by omega)) (by omega), W2_fr w2 (hs 5 (by omega) (by omega)) (fun j _ _ => hs j (by omega) (by omega)) (by omega), W3_fr w3 (hs 6 (by omega) (by omega)) (fun j _ _ => hs j (by omega) (by omega)) (by omega), W4_fr w4 (hs 0 (by omega) (by omega)) (by omega) (hs 2 (by omega) (by omega)) (fun j _ _ => hs j (by omega) (by omega)) (fun j _ _ => hs j (by omega) (by omega)), W5_fr w5 (by rw [hs 1 (by omega) (by omega)]; omega) (fun j _ _ => hs j (by omega) (by omega)), W6_fr w6 (fun j _ _ => hs j (by omega) (by omega)), W8_fr w8 (hs 1 (by omega) (by omega)) (by omega) (fun j _ _ => hs j (by omega) (by omega)), W9_fr w9 (hs 3 (by omega) (by omega)) (by rw [hs 0 (by omega) (by omega)]; omega) (by omega) (by omega) (fun j _ _ => hs j (by omega) (by omega))⟩
  unfold W0
  rw [hs 0 (by omega) (by omega), hs 1 (by omega) (by omega), hs 2 (by omega) (by omega), hs 3 (by omega) (by omega), hs 4 (by omega) (by omega), hs 5 (by omega) (by omega), hs 6 (by omega) (by omega), hs 7 (by omega) (by omega)]
  exact w0
theorem CR_ext {b : Nat} {σ : St} (hw : WF s cl) (hr : CR b s cl σ) (hs : ∀ j : Int, 0 ≤ j → j < 1580 → s' j = s j) : CR b s' cl σ := by
  obtain ⟨w0, w1, w2, w3, w4, w5, w6, w8, w9⟩ := hw
  obtain ⟨c0, c1, c2, c3, c4, c5, c6, c7, c8, c9⟩ := hr
  unfold W0 at w0
  refine ⟨?_, C1_fr c1 rfl rfl (hs 7 (by omega) (by omega)) (fun j _ _ => hs j (by omega) (by omega)) (by omega), C2_fr c2 rfl rfl (hs 5 (by omega) (by omega)) (fun j _ _ => hs j (by omega) (by omega)) (by omega), C3_fr c3 rfl rfl (hs 6 (by omega) (by omega)) (fun j _ _ => hs j (by omega) (by omega)) (by omega), C4_fr c4 rfl (hs 0 (by omega) (by omega)) (by omega) (fun j _ _ => hs j (by omega) (by omega)), C5_fr c5 rfl rfl rfl (hs 0 (by omega) (by omega)) (by omega) (fun j _ _ => hs j (by omega) (by omega)) (fun j _ _ => hs j (by omega) (by omega)), C6_fr c6 w6 (fun _ _ _ => rfl) (fun j _ _ => hs j (by omega) (by omega)), C7_fr c7 rfl (hs 0 (by omega) (by omega)) (by omega) (fun j _ _ => hs j (by omega) (by omega)), C8_fr c8 (fun _ _ _ => rfl) (hs 1 (by omega) (by omega)) (by omega), C9_fr c9 w9 (by omega) (fun _ _ _ => rfl) (hs 3 (by omega) (by omega)) (by omega) (fun j _ _ => hs j (by omega) (by omega))⟩
  unfold C0
  rw [hs 0 (by omega) (by omega), hs 1 (by omega) (by omega), hs 2 (by omega) (by omega), hs 3 (by omega) (by omega), hs 4 (by omega) (by omega)]
  exact c0
end WU
