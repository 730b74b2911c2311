/-! the calls of the class, by the array: boys, turns, ways, sides -/
def RG (x : Int) : Prop := -2147483648 ≤ x ∧ x ≤ 2147483647
theorem wr1 {x : Int} (h : RG x) : wr (x + 1) = if x = 2147483647 then -2147483648 else x + 1 := by
  unfold RG at h
  by_cases q : x = 2147483647
  · rw [if_pos q, q]
    decide
  · rw [if_neg q]
    exact wr_id (by omega) (by omega)
theorem wr_in {x k : Int} (h : RG x) (h0 : 0 ≤ k ∧ k < 1000) : (0 ≤ wr (x + 1) ∧ wr (x + 1) < k + 1) ↔ (-1 ≤ x ∧ x < k) := by
  have e := wr1 h
  unfold RG at h
  split at e <;> omega
def HC (N : Nat) (s : Int → Int) (cl : Nat → List Cl) (σ : St) : Prop := WF s cl ∧ CR 20 s cl σ ∧ EN N (nS s) σ ∧ 0 ≤ σ 20 5 ∧ σ 20 5 < 900000 ∧ N < 20000
def CP (N : Nat) (s' : Int → Int) (cl' : Nat → List Cl) (σ σ1 : St) : Prop := (∀ a, a < 20 ∨ 77 ≤ a ∧ a < 134 ∨ 150 ≤ a → σ1 a = σ a) ∧ CR 20 s' cl' σ1 ∧ EN (N + 10) (nS s') σ1 ∧ σ 20 5 ≤ σ1 20 5 ∧ σ1 20 5 ≤ σ 20 5 + 10
theorem EN_mono {N N' n : Nat} {σ : St} (h : EN N n σ) (hN : N ≤ N') : EN N' n σ := by
  obtain ⟨s0, q1, q2, q3⟩ := h
  exact ⟨s0, q1, by omega, q3⟩
theorem nS_8 {s : Int → Int} (h : W0 s) : nS s ≤ 8 ∧ s 0 = (nS s : Int) := by
  unfold W0 at h
  unfold nS
  omega
section OP
variable {d L N : Nat} {s s' : Int → Int} {cl cl' : Nat → List Cl} {σ σ1 : St} {Q : Option AV → AW → Prop}
theorem CP_of (h : HC N s cl σ) (hσ : ∀ a, a < 20 ∨ 77 ≤ a → σ1 a = σ a) (hC : CR 20 s' cl' σ1) (h31 : σ1 31 = σ 31) (h5 : σ1 20 5 = σ 20 5) (h0 : s' 0 = s 0) : CP N s' cl' σ σ1 := by
  obtain ⟨hw, hr, he, hv⟩ := h
  have hn : nS s' = nS s := by unfold nS; rw [h0]
  refine ⟨fun a ha => hσ a (by omega), hC, ?_, by omega, by omega⟩
  rw [hn]
  exact EN_mono (EN_fr he (hσ 139 (by omega)) (hσ 140 (by omega)) (hσ 141 (by omega)) (by omega) (fun _ c x _ _ => by unfold Wc; rw [h31]) (nS_8 hw.1).1) (by omega)
theorem CP_r (h : HC N s cl σ) : CP N s cl σ σ := CP_of h (fun _ _ => rfl) h.2.1 rfl rfl rfl
theorem CP_rd (h : HC N s cl σ) (hf : ∀ a, a < 134 ∨ 150 ≤ a → σ1 a = σ a) (he : EN (N + 10) (nS s) σ1) : CP N s cl σ σ1 := by
  have w0 := h.1.1
  unfold W0 at w0
  refine ⟨fun a ha => hf a (by omega), CR_fr h.2.1 (fun j _ => by rw [hf 20 (by omega)]) (fun a _ _ => hf a (by omega)) (by omega) (by omega), he, ?_, ?_⟩
  · rw [hf 20 (by omega)]
    omega
  · rw [hf 20 (by omega)]
    omega
def aOf (s : Int → Int) (b w : Int) : Int := if ¬ (0 ≤ b ∧ b < s 0) ∨ ¬ (0 ≤ w ∧ w < 3) then -1 else if w = 0 then s (130 + b) else if w = 1 then s (138 + b) else if s (146 + b) = -1 then -5 else s (146 + b)
theorem k44 {x y : Int} (h : HC N s cl σ) : ∃ σ1 : St, CP N s cl σ σ1 ∧ ∀ Q, R (d + 30) 44 0 [vR 19, vI x, vI y, vX 9] [] (WS L σ) Q = Q (some (vI (aOf s x y))) (WS L σ1) := by
  refine ⟨σ, CP_r h, fun Q => ?_⟩
  obtain ⟨⟨w0, w1, w2, w3, w4, w5, w6, w8, w9⟩, ⟨c0, c1, c2, c3, c4, c5, c6, c7, c8, c9⟩, -⟩ := h
  unfold W0 at w0
  unfold C0 at c0
  unfold aOf
  rw [b44_0, r13, c0.1]
  simp only [am_push_s]
  rw [b44_11]
  simp only [tI_0]
  by_cases q1 : 0 ≤ x ∧ x < s 0
  · rw [if_neg (by omega), b44_14, r13]
    simp only [am_push_s]
    rw [b44_19]
    simp only [tI_0]
    by_cases q2 : 0 ≤ y ∧ y < 3
    · have e : ∀ k : Nat, k < 4 → σ 27 (x * 4 + k) = trS s k x.toNat := by
        intro k hk
        have := c4 x.toNat k (by omega) hk
        rwa [show ((x.toNat : Nat) : Int) = x by omega] at this
      have f1 : s (130 + (x.toNat : Int)) = s (130 + x) := by rw [show ((x.toNat : Nat) : Int) = x by omega]
      have f2 : s (138 + (x.toNat : Int)) = s (138 + x) := by rw [show ((x.toNat : Nat) : Int) = x by omega]
      have f3 : s (146 + (x.toNat : Int)) = s (146 + x) := by rw [show ((x.toNat : Nat) : Int) = x by omega]
      have hy : y = 0 ∨ y = 1 ∨ y = 2 := by omega
      have g : ∀ k : Nat, k < 3 → R (d + 30) 44 24 [vR 19, vI x, vI (k : Int), vX 9] [] (WS L σ) Q = R (d + 30) 44 33 [vR 19, vI x, vI (k : Int), vX 9] [vI (trS s k x.toNat)] (WS L σ) Q := by
        intro k hk
        rw [b44_24, show vI x = vI ((x.toNat : Nat) : Int) by rw [show ((x.toNat : Nat) : Int) = x by omega], r36 (by omega) (by omega), show ((x.toNat : Nat) : Int) = x by omega, e k (by omega)]
        simp only [am_push_s]
      have w4' := w4 x.toNat (by omega)
      rw [if_pos (by omega), if_neg (by omega)]
      rcases hy with rfl | rfl | rfl
      · rw [show vI 0 = vI ((0 : Nat) : Int) from rfl, g 0 (by omega), b44_33, if_pos (by omega), b44_50, b44_51, if_pos rfl]
        unfold trS
        rw [if_pos rfl, f1]
      · rw [show vI 1 = vI ((1 : Nat) : Int) from rfl, g 1 (by omega), b44_33, if_pos (by omega), b44_50, b44_51, if_neg (by omega), if_pos rfl]
        unfold trS
        rw [if_neg (by omega), if_pos rfl, f2]
      · rw [show vI 2 = vI ((2 : Nat) : Int) from rfl, g 2 (by omega), b44_33, if_neg (by omega), b44_39, if_neg (show ¬ (2 : Int) = 0 by omega), if_neg (show ¬ (2 : Int) = 1 by omega)]
        have et : trS s 2 x.toNat = if s (146 + x) = -1 then 9 else s (146 + x) := by
          unfold trS
          rw [if_neg (by omega), if_neg (by omega), if_pos rfl, f3]
        rw [f3] at w4'
        rw [et]
        by_cases q3 : s (146 + x) = -1
        · rw [if_pos q3, if_neg (by omega), b44_45, b44_51, if_pos q3]
        · rw [if_neg q3, if_pos (by omega), b44_50, b44_51, if_neg q3]
    · rw [if_neg (by omega), b44_22, if_pos (by omega)]
  · rw [if_pos (by omega), b44_22, if_pos (by omega)]
def emp (s : Int → Int) : Int → Int := fun j => if 203 ≤ j ∧ j < 211 then -1 else s j
def aPlay (s : Int → Int) (n : Int) : Int := if n = 2 ∨ n = 3 then s 2 else -2
def uPlay (s : Int → Int) (n : Int) : Int → Int := if n = 2 ∨ n = 3 then emp (up s 2 n) else s
theorem bits_f {p : Nat → Bool} {n : Nat} (h : ∀ i, i < n → p i = false) : bits p n = 0 := by
  apply tb_ext
  intro i
  rw [bits_test]
  by_cases hi : i < n
  · rw [h i hi]
    simp
  · simp [hi]
theorem k45 {x : Int} (h : HC N s cl σ) : ∃ σ1 : St, CP N (uPlay s x) cl σ σ1 ∧ ∀ Q, R (d + 30) 45 0 [vR 19, vI x, vX 9] [] (WS L σ) Q = Q (some (vI (aPlay s x))) (WS L σ1) := by
  have h' := h
  obtain ⟨⟨w0, w1, w2, w3, w4, w5, w6, w8, w9⟩, ⟨c0, c1, c2, c3, c4, c5, c6, c7, c8, c9⟩, -⟩ := h
  unfold W0 at w0
  have c0' := c0
  unfold C0 at c0'
  unfold aPlay uPlay
  by_cases q : x = 2 ∨ x = 3
  · rw [if_pos q, if_pos q]
    have hσ : ∀ a, a ≠ 20 → a ≠ 30 → setA (st2 σ 20 1 x) 30 3 (fun _ => 0) a = σ a := by
      intro a h1 h2
      funext j
      rw [setA_k h2, st2_k h1]
    have h20 : ∀ j : Int, j ≠ 1 → setA (st2 σ 20 1 x) 30 3 (fun _ => 0) 20 j = σ 20 j := by
      intro j hj
      rw [setA_k (by omega), st2_i hj]
    have hs : ∀ j : Int, j ≠ 2 → (j < 203 ∨ 211 ≤ j) → emp (up s 2 x) j = s j := by
      intro j h1 h2
      unfold emp
      rw [if_neg (by omega), up_o h1]
    have e2 : emp (up s 2 x) 2 = x := by
      unfold emp
      rw [if_neg (by omega), up_e]
    refine ⟨setA (st2 σ 20 1 x) 30 3 (fun _ => 0), CP_of h' (fun a ha => hσ a (by omega) (by omega)) ⟨?_, ?_, ?_, ?_, ?_, ?_, ?_, ?_, ?_, ?_⟩ (hσ 31 (by omega) (by omega)) (h20 5 (by omega)) (hs 0 (by omega) (by omega)), fun Q => ?_⟩
    · unfold C0
      rw [h20 0 (by omega), h20 2 (by omega), h20 3 (by omega), h20 4 (by omega), hs 0 (by omega) (by omega), hs 1 (by omega) (by omega), hs 3 (by omega) (by omega), hs 4 (by omega) (by omega), e2, setA_k (by omega), st2_eq]
      exact ⟨c0'.1, rfl, c0'.2.2⟩
    · exact C1_fr c1 (hσ 21 (by omega) (by omega)) (hσ 22 (by omega) (by omega)) (hs 7 (by omega) (by omega)) (fun j _ _ => hs j (by omega) (by omega)) (by omega)
    · exact C2_fr c2 (hσ 23 (by omega) (by omega)) (hσ 24 (by omega) (by omega)) (hs 5 (by omega) (by omega)) (fun j _ _ => hs j (by omega) (by omega)) (by omega)
    · exact C3_fr c3 (hσ 25 (by omega) (by omega)) (hσ 26 (by omega) (by omega)) (hs 6 (by omega) (by omega)) (fun j _ _ => hs j (by omega) (by omega)) (by omega)
    · exact C4_fr c4 (hσ 27 (by omega) (by omega)) (hs 0 (by omega) (by omega)) (by omega) (fun j _ _ => hs j (by omega) (by omega))
    · intro c hc
      have := c5 c hc
      have e0 : sdS (emp (up s 2 x)) c = 0 := by
        unfold sdS
        refine bits_f (fun i hi => ?_)
        have hn : nS (emp (up s 2 x)) = nS s := by unfold nS; rw [hs 0 (by omega) (by omega)]
        rw [hn] at hi
        unfold nS at hi
        unfold emp
        rw [if_pos (by omega)]
        simp
      rw [e0, hs (154 + c) (by omega) (by omega), hs (157 + c) (by omega) (by omega), setA_in (by omega) (by omega), hσ (20 + 8) (by omega) (by omega), hσ (20 + 9) (by omega) (by omega)]
      exact ⟨this.1, this.2.1, rfl⟩
    · exact C6_fr c6 w6 (fun a _ _ => hσ a (by omega) (by omega)) (fun j _ _ => hs j (by omega) (by omega))
    · exact C7_fr c7 (hσ 31 (by omega) (by omega)) (hs 0 (by omega) (by omega)) (by omega) (fun j _ _ => hs j (by omega) (by omega))
    · exact C8_fr c8 (fun a _ _ => hσ a (by omega) (by omega)) (hs 1 (by omega) (by omega)) (by omega)
    · exact C9_fr c9 w9 (by omega) (fun a _ _ => hσ a (by omega) (by omega)) (hs 3 (by omega) (by omega)) (by omega) (fun j _ _ => hs j (by omega) (by omega))
    · have e : R (d + 30) 45 0 [vR 19, vI x, vX 9] [] (WS L σ) Q = R (d + 30) 45 13 [vR 19, vI x, vX 9] [] (WS L σ) Q := by
        rw [b45_0]
        by_cases q2 : x = 2
        · rw [if_pos q2]
        · rw [if_neg q2, b45_5, if_pos (by omega)]
      rw [e, b45_13, b45_29, r46]
      simp only [am_push_n]
      rw [b45_36, c0'.2.1]
  · rw [if_neg q, if_neg q]
    refine ⟨σ, CP_r h', fun Q => ?_⟩
    rw [b45_0, if_neg (by omega), b45_5, if_neg (by omega), b45_10]
def aWorth (s : Int → Int) (cl : Nat → List Cl) (c x : Int) : Int := if 0 ≤ c ∧ c < 3 then (if 0 ≤ x ∧ x < ((2 ^ nS s : Nat) : Int) then Wr s cl c.toNat x.toNat else -1002) else -1001
theorem k56 {c x : Int} (h : HC N s cl σ) : ∃ σ1 : St, CP N s cl σ σ1 ∧ ∀ Q, R (d + 30) 56 0 [vR 19, vI c, vI x] [] (WS L σ) Q = Q (some (vI (aWorth s cl c x))) (WS L σ1) := by
  refine ⟨σ, CP_r h, fun Q => ?_⟩
  obtain ⟨⟨w0, w1, w2, w3, w4, w5, w6, w8, w9⟩, ⟨c0, c1, c2, c3, c4, c5, c6, c7, c8, c9⟩, -⟩ := h
  have hn8 := nS_8 w0
  have p8 := pw8 hn8.1
  have p1 := pw1 (nS s)
  unfold aWorth
  rw [b56_0, r13]
  simp only [am_push_s]
  rw [b56_5]
  simp only [tI_0]
  by_cases q1 : 0 ≤ c ∧ c < 3
  · rw [if_pos (by simpa using q1), if_pos q1, b56_12, r34 (by rw [c0.1]; exact hn8.2) hn8.1]
    simp only [am_push_s]
    rw [b56_20 (by omega), r13]
    simp only [am_push_s]
    rw [b56_25]
    simp only [tI_0]
    by_cases q2 : 0 ≤ x ∧ x < ((2 ^ nS s : Nat) : Int)
    · have e := c7 c.toNat x.toNat (by omega) (by omega)
      rw [if_neg (by omega), if_pos q2, b56_28, show vI c = vI ((c.toNat : Nat) : Int) by rw [show ((c.toNat : Nat) : Int) = c by omega], show vI x = vI ((x.toNat : Nat) : Int) by rw [show ((x.toNat : Nat) : Int) = x by omega], r57 (by omega) (by omega)]
      simp only [am_push_s]
      rw [b56_37, b56_43, ← e]
    · rw [if_pos (by omega), if_neg q2, b56_40, b56_43]
  · rw [if_neg (by simpa using q1), if_neg q1, b56_8]
def aTurns (s : Int → Int) (k : Int) : Int := if 0 ≤ k ∧ k < 4 then s 4 else -1
def uTurns (s : Int → Int) (k : Int) : Int → Int := if 0 ≤ k ∧ k < 4 then up s 4 k else s
theorem k58 {x : Int} (h : HC N s cl σ) : ∃ σ1 : St, CP N (uTurns s x) cl σ σ1 ∧ ∀ Q, R (d + 30) 58 0 [vR 19, vI x, vX 9] [] (WS L σ) Q = Q (some (vI (aTurns s x))) (WS L σ1) := by
  have h' := h
  obtain ⟨⟨w0, w1, w2, w3, w4, w5, w6, w8, w9⟩, ⟨c0, c1, c2, c3, c4, c5, c6, c7, c8, c9⟩, -⟩ := h
  unfold W0 at w0
  have c0' := c0
  unfold C0 at c0'
  have start : ∀ Q, R (d + 30) 58 0 [vR 19, vI x, vX 9] [] (WS L σ) Q = if ¬ ¬ (0 ≤ x ∧ x < 4) then R (d + 30) 58 10 [vR 19, vI x, vX 9] [] (WS L σ) Q else R (d + 30) 58 8 [vR 19, vI x, vX 9] [] (WS L σ) Q := by
    intro Q
    rw [b58_0, r13]
    simp only [am_push_s]
    rw [b58_5]
    simp only [tI_0]
  unfold aTurns uTurns
  by_cases q : 0 ≤ x ∧ x < 4
  · rw [if_pos q, if_pos q]
    have hσ : ∀ a, a ≠ 20 → st2 σ 20 3 x a = σ a := by
      intro a h1
      funext j
      rw [st2_k h1]
    have h20 : ∀ j : Int, j ≠ 3 → st2 σ 20 3 x 20 j = σ 20 j := by
      intro j hj
      rw [st2_i hj]
    have hs : ∀ j : Int, j ≠ 4 → up s 4 x j = s j := fun j hj => up_o hj
    refine ⟨st2 σ 20 3 x, CP_of h' (fun a ha => hσ a (by omega)) ⟨?_, (C1_fr c1 (hσ 21 (by omega)) (hσ 22 (by omega)) (hs 7 (by omega)) (fun j _ _ => hs j (by omega)) (by omega)), (C2_fr c2 (hσ 23 (by omega)) (hσ 24 (by omega)) (hs 5 (by omega)) (fun j _ _ => hs j (by omega)) (by omega)), (C3_fr c3 (hσ 25 (by omega)) (hσ 26 (by omega)) (hs 6 (by omega)) (fun j _ _ => hs j (by omega)) (by omega)), (C4_fr c4 (hσ 27 (by omega)) (hs 0 (by omega)) (by omega) (fun j _ _ => hs j (by omega))), (C5_fr c5 (hσ 28 (by omega)) (hσ 29 (by omega)) (hσ 30 (by omega)) (hs 0 (by omega)) (by omega) (fun j _ _ => hs j (by omega)) (fun j _ _ => hs j (by omega))), (C6_fr c6 w6 (fun a _ _ => hσ a (by omega)) (fun j _ _ => hs j (by omega))), (C7_fr c7 (hσ 31 (by omega)) (hs 0 (by omega)) (by omega) (fun j _ _ => hs j (by omega))), (C8_fr c8 (fun a _ _ => hσ a (by omega)) (hs 1 (by omega)) (by omega)), (C9_fr c9 w9 (by omega) (fun a _ _ => hσ a (by omega)) (hs 3 (by omega)) (by omega) (fun j _ _ => hs j (by omega)))⟩ (hσ 31 (by omega)) (h20 5 (by omega)) (hs 0 (by omega)), fun Q => ?_⟩
    · unfold C0
      rw [h20 0 (by omega), h20 1 (by omega), h20 2 (by omega), h20 4 (by omega), hs 0 (by omega), hs 1 (by omega), hs 2 (by omega), hs 3 (by omega), up_e, st2_eq]
      exact ⟨c0'.1, c0'.2.1, c0'.2.2.1, rfl, c0'.2.2.2.2⟩
    · rw [start, if_pos (by simpa using q), b58_10, b58_26, c0'.2.2.2.1]
  · rw [if_neg q, if_neg q]
    refine ⟨σ, CP_r h', fun Q => ?_⟩
    rw [start, if_neg (by simpa using q), b58_8]
def aTold (s : Int → Int) (c : Int) : Int := if -1 ≤ c ∧ c < 3 then (if c < 0 then 0 else if s 5 = 8 then -4 else s 5 + 1) else -1
def uTold (s : Int → Int) (c : Int) : Int → Int := if -1 ≤ c ∧ c < 3 then (if c < 0 then up s 5 0 else if s 5 = 8 then s else up (up s (187 + s 5) c) 5 (s 5 + 1)) else s
theorem k59 {x : Int} (hx : RG x) (h : HC N s cl σ) : ∃ σ1 : St, CP N (uTold s x) cl σ σ1 ∧ ∀ Q, R (d + 30) 59 0 [vR 19, vI x] [] (WS L σ) Q = Q (some (vI (aTold s x))) (WS L σ1) := by
  have h' := h
  obtain ⟨⟨w0, w1, w2, w3, w4, w5, w6, w8, w9⟩, ⟨c0, c1, c2, c3, c4, c5, c6, c7, c8, c9⟩, -⟩ := h
  unfold W0 at w0
  have hin := wr_in (k := 3) hx (by omega)
  have er : σ 23 1 = s 5 := c2.1
  have hl : LN L (23 + 1) = 8 := rfl
  have hk : KD 23 = 5 := rfl
  unfold aTold uTold
  by_cases q : -1 ≤ x ∧ x < 3
  · have start : ∀ Q, R (d + 30) 59 0 [vR 19, vI x] [] (WS L σ) Q = R (d + 30) 59 10 [vR 19, vI x] [] (WS L σ) Q := by
      intro Q
      rw [b59_0w, r13]
      simp only [am_push_s]
      rw [b59_7]
      simp only [tI_0]
      rw [if_neg (by omega)]
    rw [if_pos q, if_pos q]
    by_cases q1 : x < 0
    · rw [if_pos q1, if_pos q1]
      have hσ : ∀ a, (a ≠ 23) → st2 σ 23 1 0 a = σ a := by
        intro a h1
        funext j
        rw [st2_k h1]
      have h20 : ∀ j : Int, (0 : Int) ≤ 0 → st2 σ 23 1 0 20 j = σ 20 j := fun j _ => by rw [hσ 20 (by omega)]
      have hs : ∀ j : Int, j ≠ 5 → up s 5 0 j = s j := fun j hj => up_o hj
      refine ⟨st2 σ 23 1 0, CP_of h' (fun a ha => hσ a (by omega)) ⟨(by unfold C0; rw [h20 0 (by omega), h20 1 (by omega), h20 2 (by omega), h20 3 (by omega), h20 4 (by omega), hs 0 (by omega), hs 1 (by omega), hs 2 (by omega), hs 3 (by omega), hs 4 (by omega)]; exact c0), (C1_fr c1 (hσ 21 (by omega)) (hσ 22 (by omega)) (hs 7 (by omega)) (fun j _ _ => hs j (by omega)) (by omega)), ?_, (C3_fr c3 (hσ 25 (by omega)) (hσ 26 (by omega)) (hs 6 (by omega)) (fun j _ _ => hs j (by omega)) (by omega)), (C4_fr c4 (hσ 27 (by omega)) (hs 0 (by omega)) (by omega) (fun j _ _ => hs j (by omega))), (C5_fr c5 (hσ 28 (by omega)) (hσ 29 (by omega)) (hσ 30 (by omega)) (hs 0 (by omega)) (by omega) (fun j _ _ => hs j (by omega)) (fun j _ _ => hs j (by omega))), (C6_fr c6 w6 (fun a _ _ => hσ a (by omega)) (fun j _ _ => hs j (by omega))), (C7_fr c7 (hσ 31 (by omega)) (hs 0 (by omega)) (by omega) (fun j _ _ => hs j (by omega))), (C8_fr c8 (fun a _ _ => hσ a (by omega)) (hs 1 (by omega)) (by omega)), (C9_fr c9 w9 (by omega) (fun a _ _ => hσ a (by omega)) (hs 3 (by omega)) (by omega) (fun j _ _ => hs j (by omega)))⟩ (hσ 31 (by omega)) (h20 5 (by omega)) (hs 0 (by omega)), fun Q => ?_⟩
      · exact ⟨by rw [up_e]; exact st2_eq, fun i hi => by rw [up_e] at hi; omega⟩
      · rw [start, b59_10, r60 hk (by omega) (by omega) (by omega), if_pos q1]
        simp only [am_push_s]
        rw [b59_21, b59_25]
    · rw [if_neg q1, if_neg q1]
      by_cases q2 : s 5 = 8
      · rw [if_pos q2, if_pos q2]
        refine ⟨σ, CP_r h', fun Q => ?_⟩
        rw [start, b59_10, r60 hk (by omega) (by omega) (by omega), if_neg q1, if_pos (by omega)]
        simp only [am_push_s]
        rw [b59_21, b59_25]
      · rw [if_neg q2, if_neg q2]
        have hσ : ∀ a, (a ≠ 23 ∧ a ≠ 24) → st2 (st2 σ 24 (s 5) x) 23 1 (s 5 + 1) a = σ a := by
          intro a h1
          funext j
          rw [st2_k h1.1, st2_k h1.2]
        have h20 : ∀ j : Int, (0 : Int) ≤ 0 → st2 (st2 σ 24 (s 5) x) 23 1 (s 5 + 1) 20 j = σ 20 j := fun j _ => by rw [hσ 20 (by omega)]
        have hs : ∀ j : Int, (j ≠ 5 ∧ (j < 187 ∨ 195 ≤ j)) → up (up s (187 + s 5) x) 5 (s 5 + 1) j = s j := fun j hj => by rw [up_o hj.1, up_o (by omega)]
        refine ⟨st2 (st2 σ 24 (s 5) x) 23 1 (s 5 + 1), CP_of h' (fun a ha => hσ a (by omega)) ⟨(by unfold C0; rw [h20 0 (by omega), h20 1 (by omega), h20 2 (by omega), h20 3 (by omega), h20 4 (by omega), hs 0 (by omega), hs 1 (by omega), hs 2 (by omega), hs 3 (by omega), hs 4 (by omega)]; exact c0), (C1_fr c1 (hσ 21 (by omega)) (hσ 22 (by omega)) (hs 7 (by omega)) (fun j _ _ => hs j (by omega)) (by omega)), ?_, (C3_fr c3 (hσ 25 (by omega)) (hσ 26 (by omega)) (hs 6 (by omega)) (fun j _ _ => hs j (by omega)) (by omega)), (C4_fr c4 (hσ 27 (by omega)) (hs 0 (by omega)) (by omega) (fun j _ _ => hs j (by omega))), (C5_fr c5 (hσ 28 (by omega)) (hσ 29 (by omega)) (hσ 30 (by omega)) (hs 0 (by omega)) (by omega) (fun j _ _ => hs j (by omega)) (fun j _ _ => hs j (by omega))), (C6_fr c6 w6 (fun a _ _ => hσ a (by omega)) (fun j _ _ => hs j (by omega))), (C7_fr c7 (hσ 31 (by omega)) (hs 0 (by omega)) (by omega) (fun j _ _ => hs j (by omega))), (C8_fr c8 (fun a _ _ => hσ a (by omega)) (hs 1 (by omega)) (by omega)), (C9_fr c9 w9 (by omega) (fun a _ _ => hσ a (by omega)) (hs 3 (by omega)) (by omega) (fun j _ _ => hs j (by omega)))⟩ (hσ 31 (by omega)) (h20 5 (by omega)) (hs 0 (by omega)), fun Q => ?_⟩
        · refine ⟨by rw [up_e]; exact st2_eq, fun i hi => ?_⟩
          rw [up_e] at hi
          rw [st2_k (by omega), up_o (by omega)]
          by_cases q3 : (i : Int) = s 5
          · rw [q3, up_e]
            exact st2_eq
          · rw [up_o (by omega), st2_i (by omega)]
            exact c2.2 i (by omega)
        · rw [start, b59_10, r60 hk (by omega) (by omega) (by omega), if_neg q1, if_neg (by omega), er]
          simp only [am_push_s]
          rw [b59_21, b59_25]
  · rw [if_neg q, if_neg q]
    refine ⟨σ, CP_r h', fun Q => ?_⟩
    rw [b59_0w, r13]
    simp only [am_push_s]
    rw [b59_7]
    simp only [tI_0]
    rw [if_pos (by omega), b59_24, b59_25]
def aRow (s : Int → Int) (c : Int) : Int := if -1 ≤ c ∧ c < 8 then (if c < 0 then 0 else if s 6 = 8 then -4 else s 6 + 1) else -1
def uRow (s : Int → Int) (c : Int) : Int → Int := if -1 ≤ c ∧ c < 8 then (if c < 0 then up s 6 0 else if s 6 = 8 then s else up (up s (195 + s 6) c) 6 (s 6 + 1)) else s
theorem k102 {x : Int} (hx : RG x) (h : HC N s cl σ) : ∃ σ1 : St, CP N (uRow s x) cl σ σ1 ∧ ∀ Q, R (d + 30) 102 0 [vR 19, vI x] [] (WS L σ) Q = Q (some (vI (aRow s x))) (WS L σ1) := by
  have h' := h
  obtain ⟨⟨w0, w1, w2, w3, w4, w5, w6, w8, w9⟩, ⟨c0, c1, c2, c3, c4, c5, c6, c7, c8, c9⟩, -⟩ := h
  unfold W0 at w0
  have hin := wr_in (k := 8) hx (by omega)
  have er : σ 25 1 = s 6 := c3.1
  have hl : LN L (25 + 1) = 8 := rfl
  have hk : KD 25 = 5 := rfl
  unfold aRow uRow
  by_cases q : -1 ≤ x ∧ x < 8
  · have start : ∀ Q, R (d + 30) 102 0 [vR 19, vI x] [] (WS L σ) Q = R (d + 30) 102 11 [vR 19, vI x] [] (WS L σ) Q := by
      intro Q
      rw [b102_0w, r13]
      simp only [am_push_s]
      rw [b102_8]
      simp only [tI_0]
      rw [if_neg (by omega)]
    rw [if_pos q, if_pos q]
    by_cases q1 : x < 0
    · rw [if_pos q1, if_pos q1]
      have hσ : ∀ a, (a ≠ 25) → st2 σ 25 1 0 a = σ a := by
        intro a h1
        funext j
        rw [st2_k h1]
      have h20 : ∀ j : Int, (0 : Int) ≤ 0 → st2 σ 25 1 0 20 j = σ 20 j := fun j _ => by rw [hσ 20 (by omega)]
      have hs : ∀ j : Int, j ≠ 6 → up s 6 0 j = s j := fun j hj => up_o hj
      refine ⟨st2 σ 25 1 0, CP_of h' (fun a ha => hσ a (by omega)) ⟨(by unfold C0; rw [h20 0 (by omega), h20 1 (by omega), h20 2 (by omega), h20 3 (by omega), h20 4 (by omega), hs 0 (by omega), hs 1 (by omega), hs 2 (by omega), hs 3 (by omega), hs 4 (by omega)]; exact c0), (C1_fr c1 (hσ 21 (by omega)) (hσ 22 (by omega)) (hs 7 (by omega)) (fun j _ _ => hs j (by omega)) (by omega)), (C2_fr c2 (hσ 23 (by omega)) (hσ 24 (by omega)) (hs 5 (by omega)) (fun j _ _ => hs j (by omega)) (by omega)), ?_, (C4_fr c4 (hσ 27 (by omega)) (hs 0 (by omega)) (by omega) (fun j _ _ => hs j (by omega))), (C5_fr c5 (hσ 28 (by omega)) (hσ 29 (by omega)) (hσ 30 (by omega)) (hs 0 (by omega)) (by omega) (fun j _ _ => hs j (by omega)) (fun j _ _ => hs j (by omega))), (C6_fr c6 w6 (fun a _ _ => hσ a (by omega)) (fun j _ _ => hs j (by omega))), (C7_fr c7 (hσ 31 (by omega)) (hs 0 (by omega)) (by omega) (fun j _ _ => hs j (by omega))), (C8_fr c8 (fun a _ _ => hσ a (by omega)) (hs 1 (by omega)) (by omega)), (C9_fr c9 w9 (by omega) (fun a _ _ => hσ a (by omega)) (hs 3 (by omega)) (by omega) (fun j _ _ => hs j (by omega)))⟩ (hσ 31 (by omega)) (h20 5 (by omega)) (hs 0 (by omega)), fun Q => ?_⟩
      · exact ⟨by rw [up_e]; exact st2_eq, fun i hi => by rw [up_e] at hi; omega⟩
      · rw [start, b102_11, r60 hk (by omega) (by omega) (by omega), if_pos q1]
        simp only [am_push_s]
        rw [b102_22, b102_26]
    · rw [if_neg q1, if_neg q1]
      by_cases q2 : s 6 = 8
      · rw [if_pos q2, if_pos q2]
        refine ⟨σ, CP_r h', fun Q => ?_⟩
        rw [start, b102_11, r60 hk (by omega) (by omega) (by omega), if_neg q1, if_pos (by omega)]
        simp only [am_push_s]
        rw [b102_22, b102_26]
      · rw [if_neg q2, if_neg q2]
        have hσ : ∀ a, (a ≠ 25 ∧ a ≠ 26) → st2 (st2 σ 26 (s 6) x) 25 1 (s 6 + 1) a = σ a := by
          intro a h1
          funext j
          rw [st2_k h1.1, st2_k h1.2]
        have h20 : ∀ j : Int, (0 : Int) ≤ 0 → st2 (st2 σ 26 (s 6) x) 25 1 (s 6 + 1) 20 j = σ 20 j := fun j _ => by rw [hσ 20 (by omega)]
        have hs : ∀ j : Int, (j ≠ 6 ∧ (j < 195 ∨ 203 ≤ j)) → up (up s (195 + s 6) x) 6 (s 6 + 1) j = s j := fun j hj => by rw [up_o hj.1, up_o (by omega)]
        refine ⟨st2 (st2 σ 26 (s 6) x) 25 1 (s 6 + 1), CP_of h' (fun a ha => hσ a (by omega)) ⟨(by unfold C0; rw [h20 0 (by omega), h20 1 (by omega), h20 2 (by omega), h20 3 (by omega), h20 4 (by omega), hs 0 (by omega), hs 1 (by omega), hs 2 (by omega), hs 3 (by omega), hs 4 (by omega)]; exact c0), (C1_fr c1 (hσ 21 (by omega)) (hσ 22 (by omega)) (hs 7 (by omega)) (fun j _ _ => hs j (by omega)) (by omega)), (C2_fr c2 (hσ 23 (by omega)) (hσ 24 (by omega)) (hs 5 (by omega)) (fun j _ _ => hs j (by omega)) (by omega)), ?_, (C4_fr c4 (hσ 27 (by omega)) (hs 0 (by omega)) (by omega) (fun j _ _ => hs j (by omega))), (C5_fr c5 (hσ 28 (by omega)) (hσ 29 (by omega)) (hσ 30 (by omega)) (hs 0 (by omega)) (by omega) (fun j _ _ => hs j (by omega)) (fun j _ _ => hs j (by omega))), (C6_fr c6 w6 (fun a _ _ => hσ a (by omega)) (fun j _ _ => hs j (by omega))), (C7_fr c7 (hσ 31 (by omega)) (hs 0 (by omega)) (by omega) (fun j _ _ => hs j (by omega))), (C8_fr c8 (fun a _ _ => hσ a (by omega)) (hs 1 (by omega)) (by omega)), (C9_fr c9 w9 (by omega) (fun a _ _ => hσ a (by omega)) (hs 3 (by omega)) (by omega) (fun j _ _ => hs j (by omega)))⟩ (hσ 31 (by omega)) (h20 5 (by omega)) (hs 0 (by omega)), fun Q => ?_⟩
        · refine ⟨by rw [up_e]; exact st2_eq, fun i hi => ?_⟩
          rw [up_e] at hi
          rw [st2_k (by omega), up_o (by omega)]
          by_cases q3 : (i : Int) = s 6
          · rw [q3, up_e]
            exact st2_eq
          · rw [up_o (by omega), st2_i (by omega)]
            exact c3.2 i (by omega)
        · rw [start, b102_11, r60 hk (by omega) (by omega) (by omega), if_neg q1, if_neg (by omega), er]
          simp only [am_push_s]
          rw [b102_22, b102_26]
  · rw [if_neg q, if_neg q]
    refine ⟨σ, CP_r h', fun Q => ?_⟩
    rw [b102_0w, r13]
    simp only [am_push_s]
    rw [b102_8]
    simp only [tI_0]
    rw [if_pos (by omega), b102_25, b102_26]
theorem tkC_congr {w kind t m : Nat} {f g : Nat → Int} (h : ∀ i, i < m → f i = g i) : tkC w kind t m f = tkC w kind t m g := by
  unfold tkC
  by_cases q : t < m
  · rw [h t q]
  · have e : ∀ f : Nat → Int, (if kind = 3 ∧ t < m ∧ 0 ≤ f t ∧ f t < w then f t else ((t % w : Nat) : Int)) = ((t % w : Nat) : Int) := fun f => if_neg (fun x => q x.2.1)
    rw [e f, e g]
/-- who takes, by the array -/
def tkS (s : Int → Int) (kind t : Nat) : Int := tkC (s 2).toNat kind t (s 5).toNat (fun i => s (187 + i))
theorem tkS_c (hw : WF s cl) (h : C2 20 s σ) {kind t : Nat} : tkC (s 2).toNat kind t (s 5).toNat (fun i => σ 24 i) = tkS s kind t := by
  have w0 := hw.1
  unfold W0 at w0
  exact tkC_congr (fun i hi => h.2 i (by omega))
theorem r63' (hw : WF s cl) (h : CR 20 s cl σ) {k : Int} {t : Nat} (hk : 0 ≤ k) (ht : t < 1000) : R (d + 1) 63 0 [vR 20, vI k, vI t, vX 9, vX 9] [] (WS L σ) Q = Q (some (vI (tkS s k.toNat t))) (WS L σ) := by
  have w0 := hw.1
  unfold W0 at w0
  have c2 := h.2.2.1
  have c0 := h.1
  unfold C0 at c0
  have e := r63 (d := d) (L := L) (σ := σ) (Q := Q) (w := (s 2).toNat) (kind := k.toNat) (t := t) (m := (s 5).toNat) (by rw [c0.2.1]; omega) (by omega) ht (by rw [show σ 23 1 = s 5 from c2.1]; omega) (by omega)
  rw [tkS_c hw c2, show ((k.toNat : Nat) : Int) = k by omega] at e
  exact e
def aTurn (s : Int → Int) (t : Int) : Int := if 0 ≤ t ∧ t < 8 then tkS s (s 4).toNat t.toNat else -1
theorem k62 {x : Int} (h : HC N s cl σ) : ∃ σ1 : St, CP N s cl σ σ1 ∧ ∀ Q, R (d + 30) 62 0 [vR 19, vI x] [] (WS L σ) Q = Q (some (vI (aTurn s x))) (WS L σ1) := by
  refine ⟨σ, CP_r h, fun Q => ?_⟩
  have hw := h.1
  have hr := h.2.1
  have w0 := hw.1
  have c0 := hr.1
  unfold W0 at w0
  unfold C0 at c0
  unfold aTurn
  rw [b62_0, r13]
  simp only [am_push_s]
  rw [b62_6]
  simp only [tI_0]
  by_cases q : 0 ≤ x ∧ x < 8
  · rw [if_neg (by omega), if_pos q, b62_9, c0.2.2.2.1, show vI x = vI ((x.toNat : Nat) : Int) by rw [show ((x.toNat : Nat) : Int) = x by omega], r63' hw hr (by omega) (by omega)]
    simp only [am_push_s]
    rw [b62_24, b62_28]
  · rw [if_pos (by omega), if_neg q, b62_27, b62_28]
def aWay (s : Int → Int) (c k : Int) : Int := if (0 ≤ c ∧ c < 3) ∧ (0 ≤ k ∧ k < 7) then s (157 + c) else -1
def uWay (s : Int → Int) (c k : Int) : Int → Int := if (0 ≤ c ∧ c < 3) ∧ (0 ≤ k ∧ k < 7) then up s (157 + c) k else s
theorem natI {x : Int} (h : 0 ≤ x) : ((x.toNat : Nat) : Int) = x := by omega
theorem k65 {x y : Int} (h : HC N s cl σ) : ∃ σ1 : St, CP N (uWay s x y) cl σ σ1 ∧ ∀ Q, R (d + 30) 65 0 [vR 19, vI x, vI y, vX 9] [] (WS L σ) Q = Q (some (vI (aWay s x y))) (WS L σ1) := by
  have h' := h
  obtain ⟨⟨w0, w1, w2, w3, w4, w5, w6, w8, w9⟩, ⟨c0, c1, c2, c3, c4, c5, c6, c7, c8, c9⟩, -⟩ := h
  unfold W0 at w0
  unfold aWay uWay
  by_cases q : (0 ≤ x ∧ x < 3) ∧ (0 ≤ y ∧ y < 7)
  · rw [if_pos q, if_pos q]
    obtain ⟨⟨x0, x3⟩, y0, y7⟩ := q
    obtain ⟨c, rfl⟩ : ∃ c : Nat, x = (c : Int) := ⟨x.toNat, by omega⟩
    have hσ : ∀ a, a ≠ 29 → st2 σ 29 c y a = σ a := by
      intro a h1
      funext j
      rw [st2_k h1]
    have h20 : ∀ j : Int, (0 : Int) ≤ 0 → st2 σ 29 c y 20 j = σ 20 j := fun j _ => by rw [hσ 20 (by omega)]
    have hs : ∀ j : Int, (j ≠ 157 + c) → up s (157 + c) y j = s j := fun j hj => up_o hj
    refine ⟨st2 σ 29 c y, CP_of h' (fun a ha => hσ a (by omega)) ⟨(by unfold C0; rw [h20 0 (by omega), h20 1 (by omega), h20 2 (by omega), h20 3 (by omega), h20 4 (by omega), hs 0 (by omega), hs 1 (by omega), hs 2 (by omega), hs 3 (by omega), hs 4 (by omega)]; exact c0), (C1_fr c1 (hσ 21 (by omega)) (hσ 22 (by omega)) (hs 7 (by omega)) (fun j _ _ => hs j (by omega)) (by omega)), (C2_fr c2 (hσ 23 (by omega)) (hσ 24 (by omega)) (hs 5 (by omega)) (fun j _ _ => hs j (by omega)) (by omega)), (C3_fr c3 (hσ 25 (by omega)) (hσ 26 (by omega)) (hs 6 (by omega)) (fun j _ _ => hs j (by omega)) (by omega)), (C4_fr c4 (hσ 27 (by omega)) (hs 0 (by omega)) (by omega) (fun j _ _ => hs j (by omega))), ?_, (C6_fr c6 w6 (fun a _ _ => hσ a (by omega)) (fun j _ _ => hs j (by omega))), ?_, (C8_fr c8 (fun a _ _ => hσ a (by omega)) (hs 1 (by omega)) (by omega)), (C9_fr c9 w9 (by omega) (fun a _ _ => hσ a (by omega)) (hs 3 (by omega)) (by omega) (fun j _ _ => hs j (by omega)))⟩ (hσ 31 (by omega)) (h20 5 (by omega)) (hs 0 (by omega)), fun Q => ?_⟩
    · intro c' hc'
      obtain ⟨g1, g2, g3⟩ := c5 c' hc'
      rw [hσ (20 + 8) (by omega), hσ (20 + 10) (by omega), hs (154 + c') (by omega), sdS_fr (hs 0 (by omega)) (fun q _ => hs _ (by omega))]
      refine ⟨g1, ?_, g3⟩
      by_cases e : c' = c
      · rw [e, up_e]
        exact st2_eq
      · rw [hs _ (by omega)]
        exact (st2_i (by omega)).trans g2
    · intro c' x' hc' hx'
      have hn : nS (up s (157 + c) y) = nS s := by unfold nS; rw [hs 0 (by omega)]
      rw [hn] at hx'
      rw [hσ (20 + 11) (by omega), Wr_fr (hs 0 (by omega)) (hs _ (by omega)) (Or.inl rfl) (fun j _ _ => hs j (by omega)) (by omega)]
      exact c7 c' x' hc' hx'
    · rw [b65_0, r13]
      simp only [am_push_s]
      rw [b65_5]
      simp only [tI_0]
      rw [if_neg (by omega), b65_8, r13]
      simp only [am_push_s]
      rw [b65_14]
      simp only [tI_0]
      rw [if_pos (by omega), b65_19, r66 (by omega)]
      simp only [am_push_s]
      rw [b65_27, r67 (by omega)]
      simp only [am_push_n]
      rw [b65_37, show σ 29 c = s (157 + c) from (c5 c (by omega)).2.1]
  · rw [if_neg q, if_neg q]
    refine ⟨σ, CP_r h', fun Q => ?_⟩
    rw [b65_0, r13]
    simp only [am_push_s]
    rw [b65_5]
    simp only [tI_0]
    by_cases q1 : 0 ≤ x ∧ x < 3
    · rw [if_neg (by omega), b65_8, r13]
      simp only [am_push_s]
      rw [b65_14]
      simp only [tI_0]
      rw [if_neg (by omega), b65_17]
    · rw [if_pos (by omega), b65_17]
def aList (s : Int → Int) (c b : Int) : Int := if (0 ≤ c ∧ c < 3) ∧ (-1 ≤ b ∧ b < 8) then (if b < 0 then 0 else if s (160 + c) = 8 then -4 else s (160 + c) + 1) else -1
def uList (s : Int → Int) (c b : Int) : Int → Int := if (0 ≤ c ∧ c < 3) ∧ (-1 ≤ b ∧ b < 8) then (if b < 0 then up s (160 + c) 0 else if s (160 + c) = 8 then s else up (up s (163 + 8 * c + s (160 + c)) b) (160 + c) (s (160 + c) + 1)) else s
theorem k68 {x y : Int} (hy : RG y) (h : HC N s cl σ) : ∃ σ1 : St, CP N (uList s x y) cl σ σ1 ∧ ∀ Q, R (d + 30) 68 0 [vR 19, vI x, vI y] [] (WS L σ) Q = Q (some (vI (aList s x y))) (WS L σ1) := by
  have h' := h
  obtain ⟨⟨w0, w1, w2, w3, w4, w5, w6, w8, w9⟩, ⟨c0, c1, c2, c3, c4, c5, c6, c7, c8, c9⟩, -⟩ := h
  unfold W0 at w0
  have hin := wr_in (k := 8) hy (by omega)
  unfold aList uList
  by_cases q : (0 ≤ x ∧ x < 3) ∧ (-1 ≤ y ∧ y < 8)
  · rw [if_pos q, if_pos q]
    obtain ⟨⟨x0, x3⟩, y0, y7⟩ := q
    obtain ⟨c, rfl⟩ : ∃ c : Nat, x = (c : Int) := ⟨x.toNat, by omega⟩
    have hc : c < 3 := by omega
    have hl := ln_li (L := L) hc
    have hk := kd_li hc
    have hwc := w6 c hc
    have er : σ (46 + 2 * c) 1 = s (160 + c) := (c6 c hc).1
    have start : ∀ Q, R (d + 30) 68 0 [vR 19, vI (c : Int), vI y] [] (WS L σ) Q = R (d + 29) 60 0 [vR (46 + 2 * c), vI y] [] (WS L σ) (fun r w => R (d + 30) 68 33 [vR 19, vI (c : Int), vI y] (am_push r []) w Q) := by
      intro Q
      rw [b68_0, r13]
      simp only [am_push_s]
      rw [b68_5]
      simp only [tI_0]
      rw [if_neg (by omega), b68_8w, r13]
      simp only [am_push_s]
      rw [b68_16]
      simp only [tI_0]
      rw [if_pos (by omega), b68_21, r69 hc]
      simp only [am_push_s]
      rw [b68_29]
    by_cases q1 : y < 0
    · rw [if_pos q1, if_pos q1]
      have hσ : ∀ a, (a ≠ 46 + 2 * c) → st2 σ (46 + 2 * c) 1 0 a = σ a := by
        intro a h1
        funext j
        rw [st2_k h1]
      have h20 : ∀ j : Int, (0 : Int) ≤ 0 → st2 σ (46 + 2 * c) 1 0 20 j = σ 20 j := fun j _ => by rw [hσ 20 (by omega)]
      have hs : ∀ j : Int, (j ≠ 160 + c) → up s (160 + c) 0 j = s j := fun j hj => up_o hj
      refine ⟨st2 σ (46 + 2 * c) 1 0, CP_of h' (fun a ha => hσ a (by omega)) ⟨(by unfold C0; rw [h20 0 (by omega), h20 1 (by omega), h20 2 (by omega), h20 3 (by omega), h20 4 (by omega), hs 0 (by omega), hs 1 (by omega), hs 2 (by omega), hs 3 (by omega), hs 4 (by omega)]; exact c0), (C1_fr c1 (hσ 21 (by omega)) (hσ 22 (by omega)) (hs 7 (by omega)) (fun j _ _ => hs j (by omega)) (by omega)), (C2_fr c2 (hσ 23 (by omega)) (hσ 24 (by omega)) (hs 5 (by omega)) (fun j _ _ => hs j (by omega)) (by omega)), (C3_fr c3 (hσ 25 (by omega)) (hσ 26 (by omega)) (hs 6 (by omega)) (fun j _ _ => hs j (by omega)) (by omega)), (C4_fr c4 (hσ 27 (by omega)) (hs 0 (by omega)) (by omega) (fun j _ _ => hs j (by omega))), (C5_fr c5 (hσ 28 (by omega)) (hσ 29 (by omega)) (hσ 30 (by omega)) (hs 0 (by omega)) (by omega) (fun j _ _ => hs j (by omega)) (fun j _ _ => hs j (by omega))), ?_, (C7_fr c7 (hσ 31 (by omega)) (hs 0 (by omega)) (by omega) (fun j _ _ => hs j (by omega))), (C8_fr c8 (fun a _ _ => hσ a (by omega)) (hs 1 (by omega)) (by omega)), (C9_fr c9 w9 (by omega) (fun a _ _ => hσ a (by omega)) (hs 3 (by omega)) (by omega) (fun j _ _ => hs j (by omega)))⟩ (hσ 31 (by omega)) (h20 5 (by omega)) (hs 0 (by omega)), fun Q => ?_⟩
      · intro c' hc'
        by_cases e : c' = c
        · subst e
          rw [up_e]
          exact ⟨st2_eq, fun k hk => absurd hk (by omega)⟩
        · rw [hs _ (by omega), hσ _ (by omega), hσ _ (by omega)]
          have := (w6 c' hc').1
          refine ⟨(c6 c' hc').1, fun k hk => ?_⟩
          rw [hs _ (by omega)]
          exact (c6 c' hc').2 k hk
      · rw [start, r60 hk (by omega) (by omega) (by omega), if_pos q1]
        simp only [am_push_s]
        rw [b68_33]
    · rw [if_neg q1, if_neg q1]
      by_cases q2 : s (160 + c) = 8
      · rw [if_pos q2, if_pos q2]
        refine ⟨σ, CP_r h', fun Q => ?_⟩
        rw [start, r60 hk (by omega) (by omega) (by omega), if_neg q1, if_pos (by omega)]
        simp only [am_push_s]
        rw [b68_33]
      · rw [if_neg q2, if_neg q2]
        have hσ : ∀ a, (a ≠ 46 + 2 * c ∧ a ≠ 46 + 2 * c + 1) → st2 (st2 σ (46 + 2 * c + 1) (s (160 + c)) y) (46 + 2 * c) 1 (s (160 + c) + 1) a = σ a := by
          intro a h1
          funext j
          rw [st2_k h1.1, st2_k h1.2]
        have h20 : ∀ j : Int, (0 : Int) ≤ 0 → st2 (st2 σ (46 + 2 * c + 1) (s (160 + c)) y) (46 + 2 * c) 1 (s (160 + c) + 1) 20 j = σ 20 j := fun j _ => by rw [hσ 20 (by omega)]
        have hs : ∀ j : Int, (j ≠ 160 + c ∧ (j < 163 + 8 * c ∨ 171 + 8 * c ≤ j)) → up (up s (163 + 8 * c + s (160 + c)) y) (160 + c) (s (160 + c) + 1) j = s j := fun j hj => by rw [up_o hj.1, up_o (by omega)]
        refine ⟨st2 (st2 σ (46 + 2 * c + 1) (s (160 + c)) y) (46 + 2 * c) 1 (s (160 + c) + 1), CP_of h' (fun a ha => hσ a (by omega)) ⟨(by unfold C0; rw [h20 0 (by omega), h20 1 (by omega), h20 2 (by omega), h20 3 (by omega), h20 4 (by omega), hs 0 (by omega), hs 1 (by omega), hs 2 (by omega), hs 3 (by omega), hs 4 (by omega)]; exact c0), (C1_fr c1 (hσ 21 (by omega)) (hσ 22 (by omega)) (hs 7 (by omega)) (fun j _ _ => hs j (by omega)) (by omega)), (C2_fr c2 (hσ 23 (by omega)) (hσ 24 (by omega)) (hs 5 (by omega)) (fun j _ _ => hs j (by omega)) (by omega)), (C3_fr c3 (hσ 25 (by omega)) (hσ 26 (by omega)) (hs 6 (by omega)) (fun j _ _ => hs j (by omega)) (by omega)), (C4_fr c4 (hσ 27 (by omega)) (hs 0 (by omega)) (by omega) (fun j _ _ => hs j (by omega))), (C5_fr c5 (hσ 28 (by omega)) (hσ 29 (by omega)) (hσ 30 (by omega)) (hs 0 (by omega)) (by omega) (fun j _ _ => hs j (by omega)) (fun j _ _ => hs j (by omega))), ?_, (C7_fr c7 (hσ 31 (by omega)) (hs 0 (by omega)) (by omega) (fun j _ _ => hs j (by omega))), (C8_fr c8 (fun a _ _ => hσ a (by omega)) (hs 1 (by omega)) (by omega)), (C9_fr c9 w9 (by omega) (fun a _ _ => hσ a (by omega)) (hs 3 (by omega)) (by omega) (fun j _ _ => hs j (by omega)))⟩ (hσ 31 (by omega)) (h20 5 (by omega)) (hs 0 (by omega)), fun Q => ?_⟩
        · intro c' hc'
          by_cases e : c' = c
          · subst e
            rw [up_e]
            refine ⟨st2_eq, fun i hi => ?_⟩
            rw [up_o (by omega), show 20 + 27 + 2 * c' = 46 + 2 * c' + 1 by omega, st2_k (by omega)]
            by_cases q3 : (i : Int) = s (160 + c')
            · rw [q3, up_e, st2_eq]
            · rw [up_o (by omega), st2_i (by omega), show 46 + 2 * c' + 1 = 20 + 27 + 2 * c' by omega]
              exact (c6 c' hc').2 i (by omega)
          · rw [hs _ (by omega), hσ _ (by omega), hσ _ (by omega)]
            have := (w6 c' hc').1
            refine ⟨(c6 c' hc').1, fun k hk => ?_⟩
            rw [hs _ (by omega)]
            exact (c6 c' hc').2 k hk
        · rw [start, r60 hk (by omega) (by omega) (by omega), if_neg q1, if_neg (by omega), er]
          simp only [am_push_s]
          rw [b68_33]
  · rw [if_neg q, if_neg q]
    refine ⟨σ, CP_r h', fun Q => ?_⟩
    rw [b68_0, r13]
    simp only [am_push_s]
    rw [b68_5]
    simp only [tI_0]
    by_cases q1 : 0 ≤ x ∧ x < 3
    · rw [if_neg (by omega), b68_8w, r13]
      simp only [am_push_s]
      rw [b68_16]
      simp only [tI_0]
      rw [if_neg (by omega), b68_19]
    · rw [if_pos (by omega), b68_19]
def aSide (s : Int → Int) (c : Int) : Int := if 0 ≤ c ∧ c < s 2 then (sdS s c.toNat : Int) else -1
theorem k74 {x : Int} (h : HC N s cl σ) : ∃ σ1 : St, CP N s cl σ σ1 ∧ ∀ Q, R (d + 30) 74 0 [vR 19, vI x] [] (WS L σ) Q = Q (some (vI (aSide s x))) (WS L σ1) := by
  refine ⟨σ, CP_r h, fun Q => ?_⟩
  have w0 := h.1.1
  have c0 := h.2.1.1
  have c5 := h.2.1.2.2.2.2.2.1
  unfold W0 at w0
  unfold C0 at c0
  unfold aSide
  rw [b74_0, r13, c0.2.1]
  simp only [am_push_s]
  rw [b74_11]
  simp only [tI_0]
  by_cases q : 0 ≤ x ∧ x < s 2
  · rw [if_neg (by omega), if_pos q, b74_14, show vI x = vI ((x.toNat : Nat) : Int) by rw [natI q.1], r72 (by omega)]
    simp only [am_push_s]
    rw [b74_22, b74_26, show σ 30 (x.toNat : Int) = (sdS s x.toNat : Int) from (c5 x.toNat (by omega)).2.2]
  · rw [if_pos (by omega), if_neg q, b74_25, b74_26]
def aGive (s : Int → Int) (b c : Int) : Int := if (0 ≤ b ∧ b < s 0) ∧ (-1 ≤ c ∧ c < s 2) then (if s (203 + b) = -1 then -5 else s (203 + b)) else -1
def uGive (s : Int → Int) (b c : Int) : Int → Int := if (0 ≤ b ∧ b < s 0) ∧ (-1 ≤ c ∧ c < s 2) then up s (203 + b) c else s
/-- a boy goes to a captain: sides as bits -/
theorem hand_sd (h0 : 0 ≤ s 0) {b q : Nat} {c : Int} (hb : b < nS s) : handS (sdS s) b c q = sdS (up s (203 + b) c) q := by
  have hn : nS (up s (203 + b) c) = nS s := by unfold nS; rw [up_o (by omega)]
  apply tb_ext
  intro i
  rw [sdS_tb, hn]
  have e : ∀ i : Nat, up s (203 + b) c (203 + i) = if i = b then c else s (203 + i) := by
    intro i
    by_cases q : i = b
    · rw [if_pos q, q, up_e]
    · rw [if_neg q, up_o (by omega)]
  rw [e]
  unfold handS
  by_cases q1 : (q : Int) = c
  · rw [if_pos q1, Nat.testBit_or, clr_tb, sdS_tb, Nat.testBit_two_pow]
    by_cases q2 : i = b
    · subst q2
      simp [hb, q1]
    · have q3 : ¬ b = i := fun x => q2 x.symm
      simp [q2, q3]
  · rw [if_neg q1, clr_tb, sdS_tb]
    by_cases q2 : i = b
    · subst q2
      simp
      intro _ h
      omega
    · have q3 : ¬ b = i := fun x => q2 x.symm
      simp [q2, q3]
theorem hold_s (hw : W4 s) (hw2 : s 2 = 2 ∨ s 2 = 3) {b : Nat} (hb : b < nS s) : holdC (sdS s) b = s (203 + b) := by
  have h4 := (hw b (by unfold nS at hb; omega)).2.2.2
  unfold holdC
  simp only [sdS_tb, hb, decide_true, Bool.true_and, decide_eq_true_eq]
  repeat' split
  all_goals omega
theorem k70 {x y : Int} (hy : RG y) (h : HC N s cl σ) : ∃ σ1 : St, CP N (uGive s x y) cl σ σ1 ∧ ∀ Q, R (d + 30) 70 0 [vR 19, vI x, vI y, vX 9] [] (WS L σ) Q = Q (some (vI (aGive s x y))) (WS L σ1) := by
  have h' := h
  obtain ⟨⟨w0, w1, w2, w3, w4, w5, w6, w8, w9⟩, ⟨c0, c1, c2, c3, c4, c5, c6, c7, c8, c9⟩, -⟩ := h
  have w0' := w0
  unfold W0 at w0
  have c0' := c0
  unfold C0 at c0'
  have hn8 := nS_8 w0'
  have p8 := pw8 hn8.1
  have hin := wr_in (k := s 2) hy (by omega)
  have ew : wr (s 2 + 1) = s 2 + 1 := wr_id (by omega) (by omega)
  unfold aGive uGive
  by_cases q : (0 ≤ x ∧ x < s 0) ∧ (-1 ≤ y ∧ y < s 2)
  · rw [if_pos q, if_pos q]
    obtain ⟨⟨x0, x3⟩, y0, y7⟩ := q
    obtain ⟨b, rfl⟩ : ∃ b : Nat, x = (b : Int) := ⟨x.toNat, by omega⟩
    have hb : b < nS s := by omega
    have hb8 : b < 8 := by omega
    have hsd : ∀ c : Nat, c < 3 → σ 30 c = (sdS s c : Int) := fun c hc => (c5 c hc).2.2
    have hsl : ∀ c : Nat, c < 3 → sdS s c < 256 := fun c _ => Nat.lt_of_lt_of_le sdS_lt p8
    have hh := hold_s w4 w0.2.2.1 hb
    have h4 := (w4 b x3).2.2.2
    have hσ : ∀ a, a ≠ 30 → setA σ 30 3 (fun q => (handS (sdS s) b y q : Int)) a = σ a := by
      intro a h1
      funext j
      rw [setA_k h1]
    have h20 : ∀ j : Int, (0 : Int) ≤ 0 → setA σ 30 3 (fun q => (handS (sdS s) b y q : Int)) 20 j = σ 20 j := fun j _ => by rw [hσ 20 (by omega)]
    have hs : ∀ j : Int, (j < 203 ∨ 211 ≤ j) → up s (203 + b) y j = s j := fun j hj => up_o (by omega)
    refine ⟨setA σ 30 3 (fun q => (handS (sdS s) b y q : Int)), CP_of h' (fun a ha => hσ a (by omega)) ⟨(by unfold C0; rw [h20 0 (by omega), h20 1 (by omega), h20 2 (by omega), h20 3 (by omega), h20 4 (by omega), hs 0 (by omega), hs 1 (by omega), hs 2 (by omega), hs 3 (by omega), hs 4 (by omega)]; exact c0), (C1_fr c1 (hσ 21 (by omega)) (hσ 22 (by omega)) (hs 7 (by omega)) (fun j _ _ => hs j (by omega)) (by omega)), (C2_fr c2 (hσ 23 (by omega)) (hσ 24 (by omega)) (hs 5 (by omega)) (fun j _ _ => hs j (by omega)) (by omega)), (C3_fr c3 (hσ 25 (by omega)) (hσ 26 (by omega)) (hs 6 (by omega)) (fun j _ _ => hs j (by omega)) (by omega)), (C4_fr c4 (hσ 27 (by omega)) (hs 0 (by omega)) (by omega) (fun j _ _ => hs j (by omega))), ?_, (C6_fr c6 w6 (fun a _ _ => hσ a (by omega)) (fun j _ _ => hs j (by omega))), (C7_fr c7 (hσ 31 (by omega)) (hs 0 (by omega)) (by omega) (fun j _ _ => hs j (by omega))), (C8_fr c8 (fun a _ _ => hσ a (by omega)) (hs 1 (by omega)) (by omega)), (C9_fr c9 w9 (by omega) (fun a _ _ => hσ a (by omega)) (hs 3 (by omega)) (by omega) (fun j _ _ => hs j (by omega)))⟩ (hσ 31 (by omega)) (h20 5 (by omega)) (hs 0 (by omega)), fun Q => ?_⟩
    · intro c' hc'
      obtain ⟨g1, g2, g3⟩ := c5 c' hc'
      rw [hσ (20 + 8) (by omega), hσ (20 + 9) (by omega), hs (154 + c') (by omega), hs (157 + c') (by omega), setA_in (by omega) (by omega), Int.toNat_natCast, hand_sd (by omega) hb]
      exact ⟨g1, g2, rfl⟩
    · rw [b70_0, r13, c0'.1]
      simp only [am_push_s]
      rw [b70_11]
      simp only [tI_0]
      rw [if_neg (by omega), b70_14w, r13, c0'.2.1]
      simp only [am_push_s]
      rw [b70_29, ew]
      simp only [tI_0]
      rw [if_pos (by omega), b70_34, r71 hb8 hsd hsl]
      simp only [am_push_s]
      rw [b70_42, r73 hb8 hsd hsl (by omega)]
      simp only [am_push_n]
      rw [b70_52, hh]
      by_cases q1 : s (203 + b) = -1
      · rw [if_neg (by omega), b70_56, b70_62, if_pos q1]
      · rw [if_pos (by omega), b70_61, b70_62, if_neg q1]
  · rw [if_neg q, if_neg q]
    refine ⟨σ, CP_r h', fun Q => ?_⟩
    rw [b70_0, r13, c0'.1]
    simp only [am_push_s]
    rw [b70_11]
    simp only [tI_0]
    by_cases q1 : 0 ≤ x ∧ x < s 0
    · rw [if_neg (by omega), b70_14w, r13, c0'.2.1]
      simp only [am_push_s]
      rw [b70_29, ew]
      simp only [tI_0]
      rw [if_neg (by omega), b70_32]
    · rw [if_pos (by omega), b70_32]
end OP
