/-! the strings of class and reference: length, charAt -/
section SG
variable {d L : Nat} {σ : St} {Q : Option AV → AW → Prop}
theorem r22_3 : R (d + 2) 22 0 [vR 3] [] (WS L σ) Q = Q (some (vI 4)) (WS L σ) := by
  rw [b22_0s0, b23_0s0, if_neg (by decide), b23_6s0, b23_14s0 rfl]
  simp only [am_push_s]
  rw [b22_9s0, show i_shr 4 0 = 4 by decide +kernel]
theorem r24_3 {i : Nat} (hi : i < 4) : R (d + 4) 24 0 [vR 3, vI i] [] (WS L σ) Q = Q (some (vI ((am_sbytes 11).getD i 0))) (WS L σ) := by
  have hb : ∀ i, i < 4 → am_rfit 3 (i_ch (i_and ((am_sbytes 11).getD i 0) 255)) = true ∧ i_ch (i_and ((am_sbytes 11).getD i 0) 255) = (am_sbytes 11).getD i 0 := by decide +kernel
  obtain ⟨h1, h2⟩ := hb i hi
  rw [b24_0s0, b25_0s0, if_neg (by decide), b25_6s0, if_neg (by decide), b25_13s0, b25_18s0 rfl]
  simp only [am_push_s]
  rw [b24_4s0, if_neg (by decide), b24_7s0, b26_0s0, b27_0, b28_0, if_neg (by omega), b28_4, if_pos (by omega), b28_16]
  simp only [am_push_s]
  rw [b27_8]
  simp only [am_push_n]
  rw [b26_6s0 (by omega) (by omega) (by rw [Int.toNat_natCast]; exact h1), Int.toNat_natCast, h2]
  simp only [am_push_s]
  rw [b24_15s0 (by rw [← h2]; exact h1)]
theorem r22_4 : R (d + 2) 22 0 [vR 4] [] (WS L σ) Q = Q (some (vI 4)) (WS L σ) := by
  rw [b22_0s1, b23_0s1, if_neg (by decide), b23_6s1, b23_14s1 rfl]
  simp only [am_push_s]
  rw [b22_9s1, show i_shr 4 0 = 4 by decide +kernel]
theorem r24_4 {i : Nat} (hi : i < 4) : R (d + 4) 24 0 [vR 4, vI i] [] (WS L σ) Q = Q (some (vI ((am_sbytes 12).getD i 0))) (WS L σ) := by
  have hb : ∀ i, i < 4 → am_rfit 3 (i_ch (i_and ((am_sbytes 12).getD i 0) 255)) = true ∧ i_ch (i_and ((am_sbytes 12).getD i 0) 255) = (am_sbytes 12).getD i 0 := by decide +kernel
  obtain ⟨h1, h2⟩ := hb i hi
  rw [b24_0s1, b25_0s1, if_neg (by decide), b25_6s1, if_neg (by decide), b25_13s1, b25_18s1 rfl]
  simp only [am_push_s]
  rw [b24_4s1, if_neg (by decide), b24_7s1, b26_0s1, b27_0, b28_0, if_neg (by omega), b28_4, if_pos (by omega), b28_16]
  simp only [am_push_s]
  rw [b27_8]
  simp only [am_push_n]
  rw [b26_6s1 (by omega) (by omega) (by rw [Int.toNat_natCast]; exact h1), Int.toNat_natCast, h2]
  simp only [am_push_s]
  rw [b24_15s1 (by rw [← h2]; exact h1)]
theorem r22_5 : R (d + 2) 22 0 [vR 5] [] (WS L σ) Q = Q (some (vI 4)) (WS L σ) := by
  rw [b22_0s2, b23_0s2, if_neg (by decide), b23_6s2, b23_14s2 rfl]
  simp only [am_push_s]
  rw [b22_9s2, show i_shr 4 0 = 4 by decide +kernel]
theorem r24_5 {i : Nat} (hi : i < 4) : R (d + 4) 24 0 [vR 5, vI i] [] (WS L σ) Q = Q (some (vI ((am_sbytes 13).getD i 0))) (WS L σ) := by
  have hb : ∀ i, i < 4 → am_rfit 3 (i_ch (i_and ((am_sbytes 13).getD i 0) 255)) = true ∧ i_ch (i_and ((am_sbytes 13).getD i 0) 255) = (am_sbytes 13).getD i 0 := by decide +kernel
  obtain ⟨h1, h2⟩ := hb i hi
  rw [b24_0s2, b25_0s2, if_neg (by decide), b25_6s2, if_neg (by decide), b25_13s2, b25_18s2 rfl]
  simp only [am_push_s]
  rw [b24_4s2, if_neg (by decide), b24_7s2, b26_0s2, b27_0, b28_0, if_neg (by omega), b28_4, if_pos (by omega), b28_16]
  simp only [am_push_s]
  rw [b27_8]
  simp only [am_push_n]
  rw [b26_6s2 (by omega) (by omega) (by rw [Int.toNat_natCast]; exact h1), Int.toNat_natCast, h2]
  simp only [am_push_s]
  rw [b24_15s2 (by rw [← h2]; exact h1)]
theorem r22_6 : R (d + 2) 22 0 [vR 6] [] (WS L σ) Q = Q (some (vI 5)) (WS L σ) := by
  rw [b22_0s3, b23_0s3, if_neg (by decide), b23_6s3, b23_14s3 rfl]
  simp only [am_push_s]
  rw [b22_9s3, show i_shr 5 0 = 5 by decide +kernel]
theorem r24_6 {i : Nat} (hi : i < 5) : R (d + 4) 24 0 [vR 6, vI i] [] (WS L σ) Q = Q (some (vI ((am_sbytes 14).getD i 0))) (WS L σ) := by
  have hb : ∀ i, i < 5 → am_rfit 3 (i_ch (i_and ((am_sbytes 14).getD i 0) 255)) = true ∧ i_ch (i_and ((am_sbytes 14).getD i 0) 255) = (am_sbytes 14).getD i 0 := by decide +kernel
  obtain ⟨h1, h2⟩ := hb i hi
  rw [b24_0s3, b25_0s3, if_neg (by decide), b25_6s3, if_neg (by decide), b25_13s3, b25_18s3 rfl]
  simp only [am_push_s]
  rw [b24_4s3, if_neg (by decide), b24_7s3, b26_0s3, b27_0, b28_0, if_neg (by omega), b28_4, if_pos (by omega), b28_16]
  simp only [am_push_s]
  rw [b27_8]
  simp only [am_push_n]
  rw [b26_6s3 (by omega) (by omega) (by rw [Int.toNat_natCast]; exact h1), Int.toNat_natCast, h2]
  simp only [am_push_s]
  rw [b24_15s3 (by rw [← h2]; exact h1)]
theorem r22_7 : R (d + 2) 22 0 [vR 7] [] (WS L σ) Q = Q (some (vI 4)) (WS L σ) := by
  rw [b22_0s4, b23_0s4, if_neg (by decide), b23_6s4, b23_14s4 rfl]
  simp only [am_push_s]
  rw [b22_9s4, show i_shr 4 0 = 4 by decide +kernel]
theorem r24_7 {i : Nat} (hi : i < 4) : R (d + 4) 24 0 [vR 7, vI i] [] (WS L σ) Q = Q (some (vI ((am_sbytes 15).getD i 0))) (WS L σ) := by
  have hb : ∀ i, i < 4 → am_rfit 3 (i_ch (i_and ((am_sbytes 15).getD i 0) 255)) = true ∧ i_ch (i_and ((am_sbytes 15).getD i 0) 255) = (am_sbytes 15).getD i 0 := by decide +kernel
  obtain ⟨h1, h2⟩ := hb i hi
  rw [b24_0s4, b25_0s4, if_neg (by decide), b25_6s4, if_neg (by decide), b25_13s4, b25_18s4 rfl]
  simp only [am_push_s]
  rw [b24_4s4, if_neg (by decide), b24_7s4, b26_0s4, b27_0, b28_0, if_neg (by omega), b28_4, if_pos (by omega), b28_16]
  simp only [am_push_s]
  rw [b27_8]
  simp only [am_push_n]
  rw [b26_6s4 (by omega) (by omega) (by rw [Int.toNat_natCast]; exact h1), Int.toNat_natCast, h2]
  simp only [am_push_s]
  rw [b24_15s4 (by rw [← h2]; exact h1)]
theorem r22_8 : R (d + 2) 22 0 [vR 8] [] (WS L σ) Q = Q (some (vI 3)) (WS L σ) := by
  rw [b22_0s5, b23_0s5, if_neg (by decide), b23_6s5, b23_14s5 rfl]
  simp only [am_push_s]
  rw [b22_9s5, show i_shr 3 0 = 3 by decide +kernel]
theorem r24_8 {i : Nat} (hi : i < 3) : R (d + 4) 24 0 [vR 8, vI i] [] (WS L σ) Q = Q (some (vI ((am_sbytes 16).getD i 0))) (WS L σ) := by
  have hb : ∀ i, i < 3 → am_rfit 3 (i_ch (i_and ((am_sbytes 16).getD i 0) 255)) = true ∧ i_ch (i_and ((am_sbytes 16).getD i 0) 255) = (am_sbytes 16).getD i 0 := by decide +kernel
  obtain ⟨h1, h2⟩ := hb i hi
  rw [b24_0s5, b25_0s5, if_neg (by decide), b25_6s5, if_neg (by decide), b25_13s5, b25_18s5 rfl]
  simp only [am_push_s]
  rw [b24_4s5, if_neg (by decide), b24_7s5, b26_0s5, b27_0, b28_0, if_neg (by omega), b28_4, if_pos (by omega), b28_16]
  simp only [am_push_s]
  rw [b27_8]
  simp only [am_push_n]
  rw [b26_6s5 (by omega) (by omega) (by rw [Int.toNat_natCast]; exact h1), Int.toNat_natCast, h2]
  simp only [am_push_s]
  rw [b24_15s5 (by rw [← h2]; exact h1)]
theorem r22_9 : R (d + 2) 22 0 [vR 9] [] (WS L σ) Q = Q (some (vI 5)) (WS L σ) := by
  rw [b22_0s6, b23_0s6, if_neg (by decide), b23_6s6, b23_14s6 rfl]
  simp only [am_push_s]
  rw [b22_9s6, show i_shr 5 0 = 5 by decide +kernel]
theorem r24_9 {i : Nat} (hi : i < 5) : R (d + 4) 24 0 [vR 9, vI i] [] (WS L σ) Q = Q (some (vI ((am_sbytes 17).getD i 0))) (WS L σ) := by
  have hb : ∀ i, i < 5 → am_rfit 3 (i_ch (i_and ((am_sbytes 17).getD i 0) 255)) = true ∧ i_ch (i_and ((am_sbytes 17).getD i 0) 255) = (am_sbytes 17).getD i 0 := by decide +kernel
  obtain ⟨h1, h2⟩ := hb i hi
  rw [b24_0s6, b25_0s6, if_neg (by decide), b25_6s6, if_neg (by decide), b25_13s6, b25_18s6 rfl]
  simp only [am_push_s]
  rw [b24_4s6, if_neg (by decide), b24_7s6, b26_0s6, b27_0, b28_0, if_neg (by omega), b28_4, if_pos (by omega), b28_16]
  simp only [am_push_s]
  rw [b27_8]
  simp only [am_push_n]
  rw [b26_6s6 (by omega) (by omega) (by rw [Int.toNat_natCast]; exact h1), Int.toNat_natCast, h2]
  simp only [am_push_s]
  rw [b24_15s6 (by rw [← h2]; exact h1)]
theorem r22_10 : R (d + 2) 22 0 [vR 10] [] (WS L σ) Q = Q (some (vI 5)) (WS L σ) := by
  rw [b22_0s7, b23_0s7, if_neg (by decide), b23_6s7, b23_14s7 rfl]
  simp only [am_push_s]
  rw [b22_9s7, show i_shr 5 0 = 5 by decide +kernel]
theorem r24_10 {i : Nat} (hi : i < 5) : R (d + 4) 24 0 [vR 10, vI i] [] (WS L σ) Q = Q (some (vI ((am_sbytes 18).getD i 0))) (WS L σ) := by
  have hb : ∀ i, i < 5 → am_rfit 3 (i_ch (i_and ((am_sbytes 18).getD i 0) 255)) = true ∧ i_ch (i_and ((am_sbytes 18).getD i 0) 255) = (am_sbytes 18).getD i 0 := by decide +kernel
  obtain ⟨h1, h2⟩ := hb i hi
  rw [b24_0s7, b25_0s7, if_neg (by decide), b25_6s7, if_neg (by decide), b25_13s7, b25_18s7 rfl]
  simp only [am_push_s]
  rw [b24_4s7, if_neg (by decide), b24_7s7, b26_0s7, b27_0, b28_0, if_neg (by omega), b28_4, if_pos (by omega), b28_16]
  simp only [am_push_s]
  rw [b27_8]
  simp only [am_push_n]
  rw [b26_6s7 (by omega) (by omega) (by rw [Int.toNat_natCast]; exact h1), Int.toNat_natCast, h2]
  simp only [am_push_s]
  rw [b24_15s7 (by rw [← h2]; exact h1)]
end SG
