/-! the reader of the class, by bytes -/
section RD
variable {d L : Nat} {σ : St} {Q : Option AV → AW → Prop} {t : Nat → Int} {e r : Nat}
theorem st2_id {a : Nat} {i z : Int} (h : σ a i = z) : st2 σ a i z = σ := by
  funext a' j
  unfold st2
  split
  · rename_i q
    rw [q.1, q.2, h]
  · rfl
/-- but the reader's place, byte and fault nothing is another -/
def F7 (σ σ' : St) : Prop := (∀ a, a ≠ 134 → σ' a = σ a) ∧ ∀ i : Int, i < 7 → σ' 134 i = σ 134 i
theorem F7_r : F7 σ σ := ⟨fun _ _ => rfl, fun _ _ => rfl⟩
theorem F7_t {σ' σ'' : St} (h : F7 σ σ') (h2 : F7 σ' σ'') : F7 σ σ'' := ⟨fun a ha => (h2.1 a ha).trans (h.1 a ha), fun i hi => (h2.2 i hi).trans (h.2 i hi)⟩
def TX (t : Nat → Int) (e r : Nat) (σ : St) : Prop := KD r = 5 ∧ KD (r + 1) = 100 ∧ (∀ L, LN L (r + 1) = 120) ∧ r + 1 < 134 ∧ e ≤ 120 ∧ (∀ i : Nat, i < e → σ (r + 1) i = t i ∧ 0 ≤ t i ∧ t i < 256) ∧ σ 134 5 = ((r + 1 : Nat) : Int) ∧ σ 134 6 = (e : Int)
def RO (t : Nat → Int) (e r : Nat) (σ : St) (p : Nat) : Prop := TX t e r σ ∧ p ≤ e ∧ σ 134 7 = (p : Int) ∧ σ 134 8 = hh t e p ∧ σ 134 9 = -1
def RN (t : Nat → Int) (e r : Nat) (σ : St) (p : Nat) : Prop := TX t e r σ ∧ p ≤ e ∧ σ 134 7 = (p : Int) ∧ σ 134 8 = -1 ∧ σ 134 9 = (p : Int)
def RP {α : Type} (t : Nat → Int) (e r : Nat) (σ : St) (res : Nat × Option α) : Prop := if res.2.isSome then RO t e r σ res.1 else RN t e r σ res.1
theorem TX_fr {σ' : St} (h : TX t e r σ) (hf : F7 σ σ') : TX t e r σ' := by
  obtain ⟨h1, h2, h3, h4, h5, h6, h7, h8⟩ := h
  refine ⟨h1, h2, h3, h4, h5, ?_, ?_, ?_⟩
  · rw [hf.1 (r + 1) (by omega)]
    exact h6
  · rw [hf.2 5 (by omega)]
    exact h7
  · rw [hf.2 6 (by omega)]
    exact h8
theorem hh_r (h : TX t e r σ) (p : Nat) : -1 ≤ hh t e p ∧ hh t e p < 256 ∧ (p < e → 0 ≤ hh t e p) := by
  unfold hh
  split
  · rename_i hp
    have := h.2.2.2.2.2.1 p hp
    omega
  · exact ⟨by omega, by omega, fun hp => by omega⟩
theorem r19 {z : Int} {q : Nat} (h : TX t e r σ) (hz : σ 134 7 = z) (hq : z + 1 = (q : Int)) (hqe : q ≤ e) (hf : σ 134 9 = -1) : ∃ σ' : St, F7 σ σ' ∧ RO t e r σ' q ∧ ∀ Q, R d 19 0 [vR 134] [] (WS L σ) Q = Q none (WS L σ') := by
  have hX := h
  obtain ⟨h1, h2, h3, h4, h5, h6, h7, h8⟩ := h
  have hF : ∀ y, F7 σ (st2 (st2 σ 134 7 (q : Int)) 134 8 y) := by
    intro y
    refine ⟨fun a ha => ?_, fun i hi => ?_⟩
    · funext j
      rw [st2_k ha, st2_k ha]
    · rw [st2_i (by omega), st2_i (by omega)]
  refine ⟨st2 (st2 σ 134 7 (q : Int)) 134 8 (hh t e q), hF _, ⟨TX_fr hX (hF _), hqe, ?_, st2_eq, ?_⟩, fun Q => ?_⟩
  · rw [st2_i (by omega), st2_eq]
  · rw [st2_i (by omega), st2_i (by omega), hf]
  · have g6 : st2 σ 134 7 (q : Int) 134 6 = (e : Int) := by rw [st2_i (by omega), h8]
    have g5 : st2 σ 134 7 (q : Int) 134 5 = ((r + 1 : Nat) : Int) := by rw [st2_i (by omega), h7]
    have g7 : st2 σ 134 7 (q : Int) 134 7 = (q : Int) := st2_eq
    rw [b19_0 (by omega), hz, hq, b19_10, if_neg (by omega), b19_18, g6, g7]
    by_cases hlt : q < e
    · have hb := (h6 q hlt).1
      have hk : KD (st2 σ 134 7 (q : Int) 134 5).toNat = 100 := by rw [g5]; exact h2
      have hl : LN L (st2 σ 134 7 (q : Int) 134 5).toNat = 120 := by rw [g5]; exact h3 L
      have hv : st2 σ 134 7 (q : Int) (r + 1) q = hh t e q := by
        rw [st2_k (by omega), hb]
        unfold hh
        rw [if_pos hlt]
      rw [if_neg (by omega), b19_29 hk, g7, hl, if_neg (by omega), b19_41 hk (by omega) (by rw [g7, hl]; omega), g5, g7, Int.toNat_natCast, hv, b19_54, b19_57]
    · have hv : hh t e q = -1 := by
        unfold hh
        rw [if_neg hlt]
      rw [if_pos (by omega), b19_53, b19_54, b19_57, hv]
theorem r21 {p : Nat} (h : RO t e r σ p) : ∃ σ' : St, F7 σ σ' ∧ RN t e r σ' p ∧ ∀ Q, R d 21 0 [vR 134] [] (WS L σ) Q = Q none (WS L σ') := by
  obtain ⟨h1, h2, h3, h4, h5⟩ := h
  have hF : F7 σ (st2 (st2 σ 134 9 (p : Int)) 134 8 (-1)) := by
    refine ⟨fun a ha => ?_, fun i hi => ?_⟩
    · funext j
      rw [st2_k ha, st2_k ha]
    · rw [st2_i (by omega), st2_i (by omega)]
  refine ⟨_, hF, ⟨TX_fr h1 hF, h2, ?_, st2_eq, ?_⟩, fun Q => ?_⟩
  · rw [st2_i (by omega), st2_i (by omega), h3]
  · rw [st2_i (by omega), st2_eq]
  · rw [b21_0, if_neg (by omega), b21_7, h3, b21_15, b21_20]
theorem r21n {p : Nat} (h : RN t e r σ p) : R d 21 0 [vR 134] [] (WS L σ) Q = Q none (WS L σ) := by
  obtain ⟨h1, h2, h3, h4, h5⟩ := h
  rw [b21_0, if_pos (by omega), b21_15, b21_20, st2_id h4]
/-- one step, where a byte stands -/
theorem r19o {p : Nat} (h : RO t e r σ p) (hp : 0 ≤ hh t e p) : ∃ σ' : St, F7 σ σ' ∧ RO t e r σ' (p + 1) ∧ ∀ Q, R d 19 0 [vR 134] [] (WS L σ) Q = Q none (WS L σ') := by
  have hlt := hh_lt (c := hh t e p) rfl hp
  exact r19 (q := p + 1) h.1 h.2.2.1 (by omega) (by omega) h.2.2.2.2
theorem r29 {p : Nat} {c : Int} (h : RO t e r σ p) (hc : 0 ≤ c) : ∃ σ' : St, F7 σ σ' ∧ RP t e r σ' (pW t e [c] p) ∧ ∀ Q, R (d + 1) 29 0 [vR 134, vI c] [] (WS L σ) Q = Q none (WS L σ') := by
  by_cases q : hh t e p = c
  · obtain ⟨σ1, a1, a2, a3⟩ := r19o (d := d) (L := L) h (by omega)
    refine ⟨σ1, a1, ?_, fun Q => ?_⟩
    · unfold RP
      rw [pW, if_pos q]
      exact a2
    · rw [b29_0, h.2.2.2.1, if_neg (by simpa using q), b29_8, a3]
      simp only [am_push_n]
      rw [b29_12, b29_19]
  · obtain ⟨σ1, a1, a2, a3⟩ := r21 (d := d) (L := L) h
    refine ⟨σ1, a1, ?_, fun Q => ?_⟩
    · unfold RP
      rw [pW, if_neg q]
      exact a2
    · rw [b29_0, h.2.2.2.1, if_pos q, b29_15, a3]
      simp only [am_push_n]
      rw [b29_19]
theorem r29n {p : Nat} {c : Int} (h : RN t e r σ p) (hc : 0 ≤ c) : R (d + 1) 29 0 [vR 134, vI c] [] (WS L σ) Q = Q none (WS L σ) := by
  rw [b29_0, h.2.2.2.1, if_pos (by omega), b29_15, r21n h]
  simp only [am_push_n]
  rw [b29_19]
theorem r38 {p lim : Nat} (h : RO t e r σ p) (hl : lim ≤ 10) : ∃ (σ' : St) (v : Int), F7 σ σ' ∧ RP t e r σ' (pDig t e lim p) ∧ (∀ a, (pDig t e lim p).2 = some a → v = (a : Int)) ∧ ∀ Q, R (d + 1) 38 0 [vR 134, vI lim, vX 9] [] (WS L σ) Q = Q (some (vI v)) (WS L σ') := by
  have hr := hh_r h.1 p
  have h8 := h.2.2.2.1
  by_cases q : 48 ≤ hh t e p ∧ hh t e p < 48 + (lim : Int)
  · obtain ⟨σ1, a1, a2, a3⟩ := r19o (d := d) (L := L) h (by omega)
    refine ⟨σ1, hh t e p - 48, a1, ?_, ?_, fun Q => ?_⟩
    · unfold RP pDig
      rw [if_pos q]
      exact a2
    · intro a ha
      unfold pDig at ha
      rw [if_pos q] at ha
      simp only [Option.some.injEq] at ha
      omega
    · rw [b38_0 (by omega), h8, if_neg (by omega), b38_12, if_pos (by omega), b38_23, a3]
      simp only [am_push_n]
      rw [b38_27]
  · obtain ⟨σ1, a1, a2, a3⟩ := r21 (d := d) (L := L) h
    refine ⟨σ1, 0, a1, ?_, ?_, fun Q => ?_⟩
    · unfold RP pDig
      rw [if_neg q]
      exact a2
    · intro a ha
      unfold pDig at ha
      rw [if_neg q] at ha
      simp at ha
    · rw [b38_0 (by omega), h8]
      by_cases q2 : hh t e p - 48 < 0
      · rw [if_pos q2, b38_17, a3]
        simp only [am_push_n]
        rw [b38_21]
      · rw [if_neg q2, b38_12, if_neg (by omega), b38_17, a3]
        simp only [am_push_n]
        rw [b38_21]
theorem r38n {p lim : Nat} (h : RN t e r σ p) : R (d + 1) 38 0 [vR 134, vI lim, vX 9] [] (WS L σ) Q = Q (some (vI 0)) (WS L σ) := by
  have h8 := h.2.2.2.1
  rw [b38_0 (by omega), h8, if_pos (by omega), b38_17, r21n h]
  simp only [am_push_n]
  rw [b38_21]
theorem i_max_p {x : Int} (h : 0 ≤ x) : i_max x 0 = x := by
  unfold i_max
  split
  · omega
  · rfl
theorem r30 {p : Nat} (h : RO t e r σ p) : ∃ (σ' : St) (v : Int), F7 σ σ' ∧ RP t e r σ' (pNum t e p) ∧ (∀ a, (pNum t e p).2 = some a → v = (a : Int)) ∧ ∀ Q, R (d + 1) 30 0 [vR 134, vX 9, vX 9] [] (WS L σ) Q = Q (some (vI v)) (WS L σ') := by
  have hr := hh_r h.1 p
  have h8 := h.2.2.2.1
  have m1 : i_max (-1) 0 = 0 := by decide
  by_cases q : 48 ≤ hh t e p ∧ hh t e p ≤ 57
  · obtain ⟨σ1, a1, a2, a3⟩ := r19o (d := d) (L := L) h (by omega)
    have hr1 := hh_r a2.1 (p + 1)
    have g8 := a2.2.2.2.1
    have start : ∀ Q, R (d + 1) 30 0 [vR 134, vX 9, vX 9] [] (WS L σ) Q = R (d + 1) 30 4 [vR 134, vI (hh t e p - 48), vI 1] [] (WS L σ1) Q := by
      intro Q
      rw [b30_0, b30_4, if_neg (by omega), b30_9, if_neg (by omega), b30_13, if_neg (by omega), b30_22, if_neg (by omega), b30_31 (by rw [m1]; omega) (by rw [m1]; omega) (by rw [m1]; omega), a3]
      simp only [am_push_n]
      rw [b30_52 (by omega), m1, h8]
      rw [show (0 : Int) * 10 + hh t e p - 48 = hh t e p - 48 by omega]
      rfl
    by_cases q2 : hh t e p ≠ 48 ∧ 48 ≤ hh t e (p + 1) ∧ hh t e (p + 1) ≤ 57
    · obtain ⟨σ2, c1, c2, c3⟩ := r19o (d := d) (L := L) a2 (by omega)
      have mp : i_max (hh t e p - 48) 0 = hh t e p - 48 := i_max_p (by omega)
      refine ⟨σ2, 10 * (hh t e p - 48) + (hh t e (p + 1) - 48), F7_t a1 c1, ?_, ?_, fun Q => ?_⟩
      · unfold RP pNum
        rw [if_pos q, if_pos q2]
        exact c2
      · intro a ha
        unfold pNum at ha
        rw [if_pos q, if_pos q2] at ha
        simp only [Option.some.injEq] at ha
        omega
      · rw [start, b30_4, if_neg (by omega), b30_9, if_neg (by omega), b30_13, if_neg (by omega), b30_22, if_neg (by omega), b30_31 (by rw [mp]; omega) (by rw [mp]; omega) (by rw [mp]; omega), c3]
        simp only [am_push_n]
        rw [b30_52 (by omega), b30_4, if_pos (by omega), b30_58, mp, g8, if_pos (by omega), b30_66]
        congr 3
        omega
    · refine ⟨σ1, hh t e p - 48, a1, ?_, ?_, fun Q => ?_⟩
      · unfold RP pNum
        rw [if_pos q, if_neg q2]
        exact a2
      · intro a ha
        unfold pNum at ha
        rw [if_pos q, if_neg q2] at ha
        simp only [Option.some.injEq] at ha
        omega
      · rw [start, b30_4, if_neg (by omega), b30_9]
        have fin : R (d + 1) 30 58 [vR 134, vI (hh t e p - 48), vI 1] [] (WS L σ1) Q = Q (some (vI (hh t e p - 48))) (WS L σ1) := by
          rw [b30_58, if_pos (by omega), b30_66]
        by_cases c1 : hh t e p - 48 = 0
        · rw [if_pos c1, fin]
        · rw [if_neg c1, b30_13]
          by_cases c2 : σ1 134 8 < 48
          · rw [if_pos c2, fin]
          · rw [if_neg c2, b30_22, if_pos (by omega), fin]
  · obtain ⟨σ1, a1, a2, a3⟩ := r21 (d := d) (L := L) h
    refine ⟨σ1, -1, a1, ?_, ?_, fun Q => ?_⟩
    · unfold RP pNum
      rw [if_neg q]
      exact a2
    · intro a ha
      unfold pNum at ha
      rw [if_neg q] at ha
      simp at ha
    · have fin : R (d + 1) 30 58 [vR 134, vI (-1), vI 0] [] (WS L σ) Q = Q (some (vI (-1))) (WS L σ1) := by
        rw [b30_58, if_neg (by omega), b30_62, a3]
        simp only [am_push_n]
        rw [b30_66]
      rw [b30_0, b30_4, if_neg (by omega), b30_9, if_neg (by omega), b30_13]
      by_cases c2 : σ 134 8 < 48
      · rw [if_pos c2, fin]
      · rw [if_neg c2, b30_22, if_pos (by omega), fin]
theorem r30n {p : Nat} (h : RN t e r σ p) : R (d + 1) 30 0 [vR 134, vX 9, vX 9] [] (WS L σ) Q = Q (some (vI (-1))) (WS L σ) := by
  have h8 := h.2.2.2.1
  rw [b30_0, b30_4, if_neg (by omega), b30_9, if_neg (by omega), b30_13, if_pos (by omega), b30_58, if_neg (by omega), b30_62, r21n h]
  simp only [am_push_n]
  rw [b30_66]
end RD
