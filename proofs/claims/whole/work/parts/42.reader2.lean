/-! the reader of the class: what is opened; clauses; a text -/
theorem pb_as {α β γ : Type} {r : Nat × Option α} {f : Nat → α → Nat × Option β} {g : Nat → β → Nat × Option γ} : pb (pb r f) g = pb r (fun q a => pb (f q a) g) := by
  obtain ⟨q, o⟩ := r
  cases o <;> rfl
section R2
variable {d L : Nat} {σ : St} {Q : Option AV → AW → Prop} {t : Nat → Int} {e r : Nat}
theorem r33_s {D : Nat} {x c : Int} (hc : c = 33 ∨ c = 40) (h8 : σ 134 8 = c) : R D 33 0 [vR 134, vI x, vX 9, vX 9] [] (WS L σ) Q = if x < 5 then R D 33 26 [vR 134, vI x, vI (if c = 33 then 1 else 0), vX 9] [] (WS L σ) Q else R D 33 20 [vR 134, vI x, vI (if c = 33 then 1 else 0), vX 9] [] (WS L σ) Q := by
  rw [b33_0, h8]
  rcases hc with rfl | rfl
  · rw [if_neg (by simp), b33_9, b33_14]
    rfl
  · rw [if_pos (by omega), b33_13, b33_14]
    rfl
theorem r32_op {D p : Nat} {u1 u2 u3 : AV} (h8 : σ 134 8 = hh t e p) (c : hh t e p = 33 ∨ hh t e p = 40) : R D 32 0 [vR 134, u1, u2, u3] [] (WS L σ) Q = R D 32 18 [vR 134, u1, u2, u3] [] (WS L σ) Q := by
  rw [b32_0, h8]
  by_cases q : hh t e p = 33
  · rw [if_pos q]
  · rw [if_neg q, b32_9, h8, if_neg (by omega)]
theorem r32_no {D p : Nat} {u1 u2 u3 : AV} (h8 : σ 134 8 = hh t e p) (c : ¬ (hh t e p = 33 ∨ hh t e p = 40)) : R D 32 0 [vR 134, u1, u2, u3] [] (WS L σ) Q = R D 32 24 [vR 134, u1, u2, u3] [] (WS L σ) Q := by
  rw [b32_0, h8, if_neg (by omega), b32_9, h8, if_pos (by omega)]
theorem s32 {n : Nat} (h8n : n ≤ 8) : ∀ k d, k ≤ 5 → S32 n L t e r (d + 3 * k + 3) k := by
  intro k
  induction k with
  | zero =>
    intro d _ σ p hn h
    have h8 := h.2.2.2.1
    by_cases c : hh t e p = 33 ∨ hh t e p = 40
    · obtain ⟨σ1, a1, a2, a3⟩ := r21 (d := d + 1) (L := L) h
      have ep : pF t e 0 p = (p, none) := by rw [pF, if_pos c]
      refine ⟨σ1, 0, a1, by rw [ep]; exact a2, by rw [ep]; intro st hst; simp at hst, fun Q => ?_⟩
      show R (d + 3) 32 0 [vR 134, vI 5, vX 9, vX 9] [] (WS L σ) Q = _
      rw [r32_op h8 c, b32_18, r33_s c h8, if_neg (by omega), b33_20, a3]
      simp only [am_push_n]
      rw [b33_24]
      simp only [am_push_s]
      rw [b32_23]
    · have ep : pF t e 0 p = pTest t e p := by rw [pF, if_neg c]
      obtain ⟨σ1, v, a1, a2, a3, a4⟩ := r32_t (d := d + 1) (L := L) (o := 5) hn h8n h
      refine ⟨σ1, v, a1, by rw [ep]; exact a2, by rw [ep]; exact a3, fun Q => ?_⟩
      show R (d + 3) 32 0 [vR 134, vI 5, vX 9, vX 9] [] (WS L σ) Q = _
      rw [r32_no h8 c]
      exact a4 Q
  | succ k ih =>
    intro d hk
    rw [show d + 3 * (k + 1) + 3 = d + 3 * k + 6 by omega]
    intro σ p hn h
    have ih1 : S32 n L t e r (d + 3 * k + 4) k := by
      have := ih (d + 1) (by omega)
      rwa [show d + 1 + 3 * k + 3 = d + 3 * k + 4 by omega] at this
    have ih0 : S32 n L t e r (d + 3 * k + 1 + 2) k := ih d (by omega)
    have e5 : (((5 - (k + 1) : Nat) : Int)) + 1 = ((5 - k : Nat) : Int) := by omega
    have h8 := h.2.2.2.1
    have p8 := pw8 h8n
    by_cases c : hh t e p = 33 ∨ hh t e p = 40
    · obtain ⟨σ1, a1, a2, a3⟩ := r19o (d := d + 3 * k + 4) (L := L) h (by omega)
      have hn1 : σ1 20 0 = (n : Int) := by rw [a1.1 20 (by omega)]; exact hn
      have start : ∀ Q, R (d + 3 * k + 6) 32 0 [vR 134, vI ((5 - (k + 1) : Nat) : Int), vX 9, vX 9] [] (WS L σ) Q = R (d + 3 * k + 5) 33 30 [vR 134, vI ((5 - (k + 1) : Nat) : Int), vI (if hh t e p = 33 then 1 else 0), vX 9] [] (WS L σ1) (fun rr w => R (d + 3 * k + 6) 32 23 [vR 134, vI ((5 - (k + 1) : Nat) : Int), vX 9, vX 9] (am_push rr []) w Q) := by
        intro Q
        rw [r32_op h8 c, b32_18, r33_s c h8, if_pos (by omega), b33_26, a3]
        simp only [am_push_n]
      by_cases c1 : hh t e p = 33
      · have ep : pF t e (k + 1) p = pb (pF t e k (p + 1)) (fun q st => (q, some (st ++ [-1]))) := by rw [pF, if_pos c1]
        obtain ⟨σ2, v, f1, f2, f3, f4⟩ := ih1 σ1 (p + 1) hn1 a2
        have run : ∀ Q, R (d + 3 * k + 6) 32 0 [vR 134, vI ((5 - (k + 1) : Nat) : Int), vX 9, vX 9] [] (WS L σ) Q = Q (some (vI (i_and ((2 ^ n - 1 : Nat) : Int) (i_xor v (-1))))) (WS L σ2) := by
          intro Q
          rw [start, if_pos c1, b33_30, if_neg (by omega), b33_34, r34 hn1 h8n]
          simp only [am_push_s]
          rw [b33_41 (by omega), e5, f4]
          simp only [am_push_s]
          rw [b33_48]
          simp only [am_push_s]
          rw [b32_23]
        rcases hq : pF t e k (p + 1) with ⟨q', _ | st⟩
        · rw [hq, pb_n rfl] at ep
          rw [hq] at f2
          exact ⟨σ2, _, F7_t a1 f1, by rw [ep]; exact f2, by rw [ep]; intro st hst; simp at hst, run⟩
        · rw [hq, pb_s rfl] at ep
          rw [hq] at f2 f3
          have hv := f3 st rfl
          obtain ⟨-, gst⟩ := pF_G k (p + 1) q' st hq
          refine ⟨σ2, _, F7_t a1 f1, by rw [ep]; exact f2, ?_, run⟩
          rw [ep]
          intro st' hst'
          simp only [Option.some.injEq] at hst'
          subst hst'
          have l := mkE_lt (T := tr σ) (st := st) h8n
          rw [mk_not gst, hv, tr_F7 a1, i_andn_nat (by omega) (by omega)]
      · have c2 : hh t e p = 40 := by omega
        have ep : pF t e (k + 1) p = pb (pE t e (pF t e k) (p + 1)) (fun q st => pb (pW t e [41] q) (fun q _ => (q, some st))) := by rw [pF, if_neg c1, if_pos c2]
        obtain ⟨σ2, v, f1, f2, f3, f4⟩ := r31 (d := d + 3 * k + 1) (L := L) h8n ih0 hn1 a2
        have run : ∀ Q, R (d + 3 * k + 6) 32 0 [vR 134, vI ((5 - (k + 1) : Nat) : Int), vX 9, vX 9] [] (WS L σ) Q = R (d + 3 * k + 5) 33 59 [vR 134, vI ((5 - (k + 1) : Nat) : Int), vI 0, vX 9] [vI v] (WS L σ2) (fun rr w => R (d + 3 * k + 6) 32 23 [vR 134, vI ((5 - (k + 1) : Nat) : Int), vX 9, vX 9] (am_push rr []) w Q) := by
          intro Q
          rw [start, if_neg c1, b33_30, if_pos rfl, b33_52 (by omega), e5, f4]
          simp only [am_push_s]
        rcases hq : pE t e (pF t e k) (p + 1) with ⟨q', _ | st⟩
        · rw [hq, pb_n rfl] at ep
          rw [hq] at f2
          have f2' : RN t e r σ2 q' := f2
          have g8 := f2'.2.2.2.1
          refine ⟨σ2, v, F7_t a1 f1, by rw [ep]; exact f2, by rw [ep]; intro st hst; simp at hst, fun Q => ?_⟩
          rw [run, b33_59, g8, if_pos (by omega), b33_76, r21n f2']
          simp only [am_push_n]
          rw [b33_80]
          simp only [am_push_s]
          rw [b32_23]
        · rw [hq, pb_s rfl] at ep
          rw [hq] at f2 f3
          have f2' : RO t e r σ2 q' := f2
          have hv := f3 st rfl
          have g8 := f2'.2.2.2.1
          by_cases c3 : hh t e q' = 41
          · obtain ⟨σ3, g1, g2, g3⟩ := r19o (d := d + 3 * k + 4) (L := L) f2' (by omega)
            have ew : pW t e [41] q' = (q' + 1, some ()) := by simp [pW, c3]
            rw [ew, pb_s rfl] at ep
            refine ⟨σ3, v, F7_t (F7_t a1 f1) g1, by rw [ep]; exact g2, ?_, fun Q => ?_⟩
            · rw [ep]
              intro st' hst'
              simp only [Option.some.injEq] at hst'
              subst hst'
              rw [hv, tr_F7 a1]
            · rw [run, b33_59, g8, if_neg (by omega), b33_69, g3]
              simp only [am_push_n]
              rw [b33_73, b33_80]
              simp only [am_push_s]
              rw [b32_23]
          · obtain ⟨σ3, g1, g2, g3⟩ := r21 (d := d + 3 * k + 4) (L := L) f2'
            have ew : pW t e [41] q' = (q', none) := by simp [pW, c3]
            rw [ew, pb_n rfl] at ep
            refine ⟨σ3, v, F7_t (F7_t a1 f1) g1, by rw [ep]; exact g2, by rw [ep]; intro st hst; simp at hst, fun Q => ?_⟩
            rw [run, b33_59, g8, if_pos (by omega), b33_76, g3]
            simp only [am_push_n]
            rw [b33_80]
            simp only [am_push_s]
            rw [b32_23]
    · have ep : pF t e (k + 1) p = pTest t e p := by rw [pF, if_neg (by omega), if_neg (by omega)]
      obtain ⟨σ1, v, a1, a2, a3, a4⟩ := r32_t (d := d + 3 * k + 4) (L := L) (o := ((5 - (k + 1) : Nat) : Int)) hn h8n h
      refine ⟨σ1, v, a1, by rw [ep]; exact a2, by rw [ep]; exact a3, fun Q => ?_⟩
      rw [r32_no h8 c]
      exact a4 Q
/-- two boys -/
def pPr (t : Nat → Int) (e p : Nat) : Nat × Option (Nat × Nat) := pb (pDig t e 8 p) (fun p a => pb (pW t e [32] p) (fun p _ => pb (pDig t e 8 p) (fun p b => (p, some (a, b)))))
theorem v8 : vI 8 = vI ((8 : Nat) : Int) := rfl
theorem v4 : vI 4 = vI ((4 : Nat) : Int) := rfl
theorem r37n {p : Nat} (h : RN t e r σ p) : R (d + 2) 37 0 [vR 134, vX 9] [] (WS L σ) Q = Q (some (vI (i_or (i_shl 1 0) (i_shl 1 0)))) (WS L σ) := by
  rw [b37_0, v8, r38n h]
  simp only [am_push_s]
  rw [b37_6, r29n h (by omega)]
  simp only [am_push_n]
  rw [b37_13, v8, r38n h]
  simp only [am_push_s]
  rw [b37_23]
theorem r37 {p : Nat} (h : RO t e r σ p) : ∃ (σ' : St) (v : Int), F7 σ σ' ∧ RP t e r σ' (pPr t e p) ∧ (∀ a, (pPr t e p).2 = some a → v = ((2 ^ a.1 ||| 2 ^ a.2 : Nat) : Int)) ∧ ∀ Q, R (d + 2) 37 0 [vR 134, vX 9] [] (WS L σ) Q = Q (some (vI v)) (WS L σ') := by
  obtain ⟨σ1, v1, a1, a2, a3, a4⟩ := r38 (d := d) (L := L) (lim := 8) h (by omega)
  have s1 : ∀ Q, R (d + 2) 37 0 [vR 134, vX 9] [] (WS L σ) Q = R (d + 1) 29 0 [vR 134, vI 32] [] (WS L σ1) (fun rr w => R (d + 2) 37 13 [vR 134, vI v1] (am_push rr []) w Q) := by
    intro Q
    rw [b37_0, v8, a4]
    simp only [am_push_s]
    rw [b37_6]
  rcases hq : pDig t e 8 p with ⟨q1, _ | av⟩
  · have ep : pPr t e p = (q1, none) := by unfold pPr; rw [hq, pb_n rfl]
    rw [hq] at a2
    have a2' : RN t e r σ1 q1 := a2
    refine ⟨σ1, i_or (i_shl 1 v1) (i_shl 1 0), a1, by rw [ep]; exact a2, by rw [ep]; intro a ha; simp at ha, fun Q => ?_⟩
    rw [s1, r29n a2' (by omega)]
    simp only [am_push_n]
    rw [b37_13, v8, r38n a2']
    simp only [am_push_s]
    rw [b37_23]
  · rw [hq] at a2 a3
    have a2' : RO t e r σ1 q1 := a2
    have hv1 := a3 av rfl
    have hd1 := pDig_v hq
    obtain ⟨σ2, c1, c2, c3⟩ := r29 (d := d) (L := L) (c := 32) a2' (by omega)
    rcases hq2 : pW t e [32] q1 with ⟨q2, _ | u⟩
    · have ep : pPr t e p = (q2, none) := by unfold pPr; rw [hq, pb_s rfl, hq2, pb_n rfl]
      rw [hq2] at c2
      have c2' : RN t e r σ2 q2 := c2
      refine ⟨σ2, i_or (i_shl 1 v1) (i_shl 1 0), F7_t a1 c1, by rw [ep]; exact c2, by rw [ep]; intro a ha; simp at ha, fun Q => ?_⟩
      rw [s1, c3]
      simp only [am_push_n]
      rw [b37_13, v8, r38n c2']
      simp only [am_push_s]
      rw [b37_23]
    · rw [hq2] at c2
      have c2' : RO t e r σ2 q2 := c2
      obtain ⟨σ3, v2, f1, f2, f3, f4⟩ := r38 (d := d) (L := L) (lim := 8) c2' (by omega)
      have run : ∀ Q, R (d + 2) 37 0 [vR 134, vX 9] [] (WS L σ) Q = Q (some (vI (i_or (i_shl 1 v1) (i_shl 1 v2)))) (WS L σ3) := by
        intro Q
        rw [s1, c3]
        simp only [am_push_n]
        rw [b37_13, v8, f4]
        simp only [am_push_s]
        rw [b37_23]
      have ep : pPr t e p = pb (pDig t e 8 q2) (fun p b => (p, some (av, b))) := by unfold pPr; rw [hq, pb_s rfl, hq2, pb_s rfl]
      rcases hq3 : pDig t e 8 q2 with ⟨q3, _ | bv⟩
      · rw [hq3, pb_n rfl] at ep
        rw [hq3] at f2
        exact ⟨σ3, _, F7_t (F7_t a1 c1) f1, by rw [ep]; exact f2, by rw [ep]; intro a ha; simp at ha, run⟩
      · rw [hq3, pb_s rfl] at ep
        rw [hq3] at f2 f3
        have hv2 := f3 bv rfl
        have hd2 := pDig_v hq3
        refine ⟨σ3, _, F7_t (F7_t a1 c1) f1, by rw [ep]; exact f2, ?_, run⟩
        rw [ep]
        intro a ha
        simp only [Option.some.injEq] at ha
        subst ha
        have l1 : 2 ^ av < 2 ^ 8 := two_pow_lt hd1
        have l2 : 2 ^ bv < 2 ^ 8 := two_pow_lt hd2
        rw [hv1, hv2, i_one_shl (by omega), i_one_shl (by omega), i_or_nat (by omega) (by omega)]
theorem r39n {p n : Nat} (h : RN t e r σ p) (hn : σ 20 0 = (n : Int)) (h8 : n ≤ 8) : R (d + 2) 39 0 [vR 134] [] (WS L σ) Q = Q (some (vI (bits (fun b => decide (sgn (tr σ 0 b) 0 = 0)) n))) (WS L σ) := by
  rw [b39_0, v4, r38n h]
  simp only [am_push_s]
  rw [b39_11, show R (d + 1) 35 0 [vR 20, vI 0, vI 0, vI 0, vX 9, vX 9, vX 9, vX 9] [] (WS L σ) = R (d + 1) 35 0 [vR 20, vI ((0 : Nat) : Int), vI 0, vI 0, vX 9, vX 9, vX 9, vX 9] [] (WS L σ) from rfl, r35 hn h8 (by omega)]
  simp only [am_push_s]
  rw [b39_14]
theorem r39 {p n : Nat} (h : RO t e r σ p) (hn : σ 20 0 = (n : Int)) (h8 : n ≤ 8) : ∃ (σ' : St) (v : Int), F7 σ σ' ∧ RP t e r σ' (pDig t e 4 p) ∧ (∀ a, (pDig t e 4 p).2 = some a → v = ((bits (fun b => decide (tr σ 0 b = (a : Int))) n : Nat) : Int)) ∧ ∀ Q, R (d + 2) 39 0 [vR 134] [] (WS L σ) Q = Q (some (vI v)) (WS L σ') := by
  obtain ⟨σ1, v1, a1, a2, a3, a4⟩ := r38 (d := d) (L := L) (lim := 4) h (by omega)
  have hn1 : σ1 20 0 = (n : Int) := by rw [a1.1 20 (by omega)]; exact hn
  refine ⟨σ1, ((bits (fun b => decide (sgn (tr σ1 0 b) v1 = 0)) n : Nat) : Int), a1, a2, ?_, fun Q => ?_⟩
  · intro a ha
    rw [a3 a ha, tr_F7 a1]
    simp only [sgn_0]
  · rw [b39_0, v4, a4]
    simp only [am_push_s]
    rw [b39_11, show R (d + 1) 35 0 [vR 20, vI 0, vI 0, vI v1, vX 9, vX 9, vX 9, vX 9] [] (WS L σ1) = R (d + 1) 35 0 [vR 20, vI ((0 : Nat) : Int), vI 0, vI v1, vX 9, vX 9, vX 9, vX 9] [] (WS L σ1) from rfl, r35 hn1 h8 (by omega)]
    simp only [am_push_s]
    rw [b39_14]
end R2
