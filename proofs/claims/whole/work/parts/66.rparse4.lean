/-! the reference's reader: the clause and the yard -/
section RB4
variable {d D L e y : Nat} {t : Nat → Int} {s s' : Int → Int} {σ : St} {cl cl' : Nat → List Cl} {Q : Option AV → AW → Prop}
theorem pH_ok {bs : List Int} {p : Nat} (hb : ∀ c, c ∈ bs → 0 ≤ c) (hp : p ≤ e) : Ok e p (pH t e bs p) :=
  Ok_pb (pW_ok bs p hb hp) (fun q _ _ hq _ => Ok_pb (pNum_ok hq) (fun q _ _ hq _ => Ok_pb (pW_ok [32] q (by simp) hq) (fun q _ _ hq _ => Ok_self hq)))
theorem p163 {p : Nat} {o : Int} (hC : RPC t e y σ) (ht : TP t e s) (hp : p ≤ e) (hh1 : hh t e p = 98) (h0 : 0 ≤ s (211 + y) ∧ s (211 + y) ≤ 9) : ∃ s' : Int → Int, (s' = s ∨ ∃ v a b : Nat, s' = b3 s y v a b) ∧ (∀ c, (pB t e (p + 1)).2 = some c → ∃ v a b : Nat, c = (1, v, [(a : Int), (b : Int)]) ∧ s' = b3 s y v a b) ∧ ∀ Q, R (d + 40) 163 0 [vR 153, vX 9, vX 9, vX 9, vX 9] [] (WS L (pz σ s p 0 o)) Q = Q none (WS L (pz σ s' (pB t e (p + 1)).1 (wb (pB t e (p + 1))) o)) := by
  have he := hC.2.2.2.1
  have hpe := hh_lt hh1 (by omega)
  have e7 : vI (((8 : Nat) : Int) - 1) = vI 7 := rfl
  obtain ⟨v, v1, v2, v3, v4⟩ := pH_r9 (d := d) (L := L) (o := o) hC ht hp hh1
  have ok0 := pH_ok (t := t) (e := e) (bs := [111, 116, 104, 32]) (p := p + 1) (by simp) (by omega)
  rw [pB_h]
  rcases w0 : pH t e [111, 116, 104, 32] (p + 1) with ⟨q0, _ | v'⟩
  · rw [w0] at v3
    rw [pb_nn]
    refine ⟨s, Or.inl rfl, fun c hc => by simp at hc, fun Q => ?_⟩
    rw [v3 rfl, wb_n]
  rw [w0] at v2 v4 ok0
  have ev := v2 v' rfl
  have run0 := v4 rfl
  have o0 := ok0.2
  dsimp only at o0
  rw [pb_ss]
  unfold pPr
  obtain ⟨a, a1, a2, a3⟩ := p164 (d := d + 38) (L := L) (σ := σ) (s := s) (o := o) (p := q0) (lim := 8) hC ht (by omega) (by omega)
  rw [e7] at a3
  have ok1 := pDig_ok (t := t) (e := e) (lim := 8) (p := q0) o0
  have run1 : ∀ Q, R (d + 40) 163 0 [vR 153, vX 9, vX 9, vX 9, vX 9] [] (WS L (pz σ s p 0 o)) Q = R (d + 40) 163 23 [vR 153, vI v, vX 9, vX 9, vX 9] [vI a] (WS L (pz σ s (pDig t e 8 q0).1 (wb (pDig t e 8 q0)) o)) Q := by
    intro Q
    rw [run0, b163_17]
    refine (a3 _).trans ?_
    simp only [am_push_s]
  rcases w1 : pDig t e 8 q0 with ⟨q1, _ | a'⟩
  · rw [w1] at run1 ok1
    have o1 := ok1.2
    dsimp only at o1
    rw [pb_nn, pb_nn]
    refine ⟨s, Or.inl rfl, fun c hc => by simp at hc, fun Q => ?_⟩
    rw [run1, wb_n]
    exact c163_23 (by dsimp only; omega)
  rw [w1] at run1 ok1 a2
  have ea := a2 a' rfl
  have o1 := ok1.2
  dsimp only at o1
  rw [pb_ss]
  have ok2 := pW_ok (t := t) (e := e) [32] q1 (by simp) o1
  have run2 : ∀ Q, R (d + 40) 163 0 [vR 153, vX 9, vX 9, vX 9, vX 9] [] (WS L (pz σ s p 0 o)) Q = R (d + 40) 163 30 [vR 153, vI v, vI a, vX 9, vX 9] [] (WS L (pz σ s (pW t e [32] q1).1 (wb (pW t e [32] q1)) o)) Q := by
    intro Q
    rw [run1, wb_s, b163_23, p156 hC ht (by dsimp only; omega)]
    simp only [am_push_n]
  rcases w2 : pW t e [32] q1 with ⟨q2, _ | u⟩
  · rw [w2] at run2 ok2
    have o2 := ok2.2
    dsimp only at o2
    rw [pb_nn, pb_nn]
    refine ⟨s, Or.inl rfl, fun c hc => by simp at hc, fun Q => ?_⟩
    rw [run2, wb_n]
    exact c163_30 (by dsimp only; omega)
  rw [w2] at run2 ok2
  have o2 := ok2.2
  dsimp only at o2
  rw [pb_ss]
  obtain ⟨b, b1, b2, b3'⟩ := p164 (d := d + 38) (L := L) (σ := σ) (s := s) (o := o) (p := q2) (lim := 8) hC ht (by omega) (by omega)
  rw [e7] at b3'
  have run3 : ∀ Q, R (d + 40) 163 0 [vR 153, vX 9, vX 9, vX 9, vX 9] [] (WS L (pz σ s p 0 o)) Q = R (d + 40) 163 36 [vR 153, vI v, vI a, vX 9, vX 9] [vI b] (WS L (pz σ s (pDig t e 8 q2).1 (wb (pDig t e 8 q2)) o)) Q := by
    intro Q
    rw [run2, wb_s, b163_30]
    refine (b3' _).trans ?_
    simp only [am_push_s]
  rcases w3 : pDig t e 8 q2 with ⟨q3, _ | b'⟩
  · rw [w3] at run3
    rw [pb_nn, pb_nn]
    refine ⟨s, Or.inl rfl, fun c hc => by simp at hc, fun Q => ?_⟩
    rw [run3, wb_n]
    exact c163_36
  rw [w3] at run3 b2
  have eb := b2 b' rfl
  rw [pb_ss, pb_ss]
  refine ⟨b3 s y v' a' b', Or.inr ⟨v', a', b', rfl⟩, fun c hc => ?_, fun Q => ?_⟩
  · simp only [Option.some.injEq] at hc
    exact ⟨v', a', b', hc.symm, rfl⟩
  · rw [run3, wb_s, b163_36, pz_7, if_neg (by omega), p163_w hC h0, ev, ea, eb]
    rfl
theorem p165 {p : Nat} {o : Int} (hC : RPC t e y σ) (ht : TP t e s) (hp : p ≤ e) (hh1 : hh t e p = 108) (h0 : 0 ≤ s (397 + y) ∧ s (397 + y) ≤ 9) : ∃ s' : Int → Int, (s' = s ∨ ∃ v k : Nat, s' = k2 s y v k) ∧ (∀ c, (pK t e (p + 1)).2 = some c → ∃ v k : Nat, c = (2, v, [(k : Int)]) ∧ s' = k2 s y v k) ∧ ∀ Q, R (d + 40) 165 0 [vR 153, vX 9, vX 9, vX 9] [] (WS L (pz σ s p 0 o)) Q = Q none (WS L (pz σ s' (pK t e (p + 1)).1 (wb (pK t e (p + 1))) o)) := by
  have he := hC.2.2.2.1
  have hpe := hh_lt hh1 (by omega)
  have e7 : vI (((4 : Nat) : Int) - 1) = vI 3 := rfl
  obtain ⟨v, v1, v2, v3, v4⟩ := pH_r10 (d := d) (L := L) (o := o) hC ht hp hh1
  have ok0 := pH_ok (t := t) (e := e) (bs := [97, 99, 107, 32]) (p := p + 1) (by simp) (by omega)
  rw [pK_h]
  rcases w0 : pH t e [97, 99, 107, 32] (p + 1) with ⟨q0, _ | v'⟩
  · rw [w0] at v3
    rw [pb_nn]
    refine ⟨s, Or.inl rfl, fun c hc => by simp at hc, fun Q => ?_⟩
    rw [v3 rfl, wb_n]
  rw [w0] at v2 v4 ok0
  have ev := v2 v' rfl
  have run0 := v4 rfl
  have o0 := ok0.2
  dsimp only at o0
  rw [pb_ss]
  obtain ⟨a, a1, a2, a3⟩ := p164 (d := d + 38) (L := L) (σ := σ) (s := s) (o := o) (p := q0) (lim := 4) hC ht (by omega) (by omega)
  rw [e7] at a3
  have run1 : ∀ Q, R (d + 40) 165 0 [vR 153, vX 9, vX 9, vX 9] [] (WS L (pz σ s p 0 o)) Q = R (d + 40) 165 22 [vR 153, vI v, vX 9, vX 9] [vI a] (WS L (pz σ s (pDig t e 4 q0).1 (wb (pDig t e 4 q0)) o)) Q := by
    intro Q
    rw [run0, b165_17]
    refine (a3 _).trans ?_
    simp only [am_push_s]
  rcases w1 : pDig t e 4 q0 with ⟨q1, _ | a'⟩
  · rw [w1] at run1
    rw [pb_nn]
    refine ⟨s, Or.inl rfl, fun c hc => by simp at hc, fun Q => ?_⟩
    rw [run1, wb_n]
    exact c165_22
  rw [w1] at run1 a2
  have ea := a2 a' rfl
  rw [pb_ss]
  refine ⟨k2 s y v' a', Or.inr ⟨v', a', rfl⟩, fun c hc => ?_, fun Q => ?_⟩
  · simp only [Option.some.injEq] at hc
    exact ⟨v', a', hc.symm, rfl⟩
  · rw [run1, wb_s, b165_22, pz_7, if_neg (by omega), p165_w hC h0, ev, ea]
    rfl
/-- a clause -/
theorem p152 {p : Nat} {acc : List Cl} (hC : RPC t e y σ) (ht : TP t e s) (hp : p ≤ e) (hE : ENC s y acc) (hS : (eS acc).length ≤ p) (hl : acc.length ≤ 9) : ∃ s' : Int → Int, FYR y s s' ∧ (∀ c, (pC t e p).2 = some c → ENC s' y (acc ++ [c]) ∧ (eS (acc ++ [c])).length ≤ (pC t e p).1) ∧ ∀ Q, R (d + 41) 152 0 [vR 153] [] (WS L (pz σ s p 0 0)) Q = Q none (WS L (pz σ s' (pC t e p).1 (wb (pC t e p)) 0)) := by
  have he := hC.2.2.2.1
  have hy := hC.2.1
  have l1 := eB_len (cls := acc)
  have l2 := eK_len (cls := acc)
  have e1 := hE.1
  have e3 := hE.2.2.1
  have e5 := hE.2.2.2.2.1
  have okC := pC_ok (t := t) (p := p) hp
  have start : ∀ Q, R (d + 41) 152 0 [vR 153] [] (WS L (pz σ s p 0 0)) Q = if hh t e p = 98 then R (d + 41) 152 47 [vR 153] [] (WS L (pz σ s p 0 0)) Q else if hh t e p = 108 then R (d + 41) 152 54 [vR 153] [] (WS L (pz σ s p 0 0)) Q else if hh t e p = 109 then R (d + 41) 152 40 [vR 153] [] (WS L (pz σ s p 0 0)) Q else R (d + 41) 152 61 [vR 153] [] (WS L (pz σ s p 0 0)) Q := by
    intro Q
    rw [b152_0, p153 hC ht]
    simp only [am_push_s]
    rw [b152_4]
  unfold pC at okC ⊢
  by_cases q1 : hh t e p = 109
  · rw [if_pos q1] at okC ⊢
    obtain ⟨l, f1, f2, f3⟩ := p154 (d := d) (L := L) hC ht hp q1 (by omega) (by omega)
    have ok2 := okC.2
    refine ⟨em s y l, FYR_em (by omega) (by omega), fun c hc => ?_, fun Q => ?_⟩
    · obtain ⟨g1, g2⟩ := f2 c hc
      refine ⟨ENC_S hE hy g1 g2 hl (by omega), ?_⟩
      rw [eS_app, g2, List.length_append]
      omega
    · rw [start, if_neg (by omega), if_neg (by omega), if_pos q1, b152_40]
      refine (f3 _).trans ?_
      simp only [am_push_n]
      rw [b152_44, b152_66]
      rfl
  · rw [if_neg q1] at okC ⊢
    by_cases q2 : hh t e p = 98
    · rw [if_pos q2] at okC ⊢
      obtain ⟨s', f1, f2, f3⟩ := p163 (d := d) (L := L) (o := 0) hC ht hp q2 (by omega)
      have ok1 := okC.1
      refine ⟨s', ?_, fun c hc => ?_, fun Q => ?_⟩
      · rcases f1 with rfl | ⟨v, a, b, rfl⟩
        · exact FYR_r
        · exact FYR_b3 (by omega) (by omega)
      · obtain ⟨v, a, b, rfl, rfl⟩ := f2 c hc
        refine ⟨ENC_B hE hy hl (by omega), ?_⟩
        rw [eS_app, List.length_append]
        have : (eS [((1, v, [(a : Int), (b : Int)]) : Cl)]).length = 0 := rfl
        omega
      · rw [start, if_pos q2, b152_47]
        refine (f3 _).trans ?_
        simp only [am_push_n]
        rw [b152_51, b152_66]
    · rw [if_neg q2] at okC ⊢
      by_cases q3 : hh t e p = 108
      · rw [if_pos q3] at okC ⊢
        obtain ⟨s', f1, f2, f3⟩ := p165 (d := d) (L := L) (o := 0) hC ht hp q3 (by omega)
        have ok1 := okC.1
        refine ⟨s', ?_, fun c hc => ?_, fun Q => ?_⟩
        · rcases f1 with rfl | ⟨v, k, rfl⟩
          · exact FYR_r
          · exact FYR_k2 (by omega) (by omega)
        · obtain ⟨v, k, rfl, rfl⟩ := f2 c hc
          refine ⟨ENC_K hE hy hl (by omega), ?_⟩
          rw [eS_app, List.length_append]
          have : (eS [((2, v, [(k : Int)]) : Cl)]).length = 0 := rfl
          omega
        · rw [start, if_neg q2, if_pos q3, b152_54]
          refine (f3 _).trans ?_
          simp only [am_push_n]
          rw [b152_58, b152_66]
      · rw [if_neg q3]
        refine ⟨s, FYR_r, fun c hc => by simp at hc, fun Q => ?_⟩
        rw [start, if_neg q2, if_neg q3, if_neg q1, b152_61, pz_t7, b152_66]
        rfl
/-- more clauses -/
theorem p151_l (hC : RPC t e y σ) : ∀ (g : Nat) (acc : List Cl) (p : Nat) (s : Int → Int), acc.length + g = 10 → p ≤ e → TP t e s → ENC s y acc → (eS acc).length ≤ p → ∃ (s' : Int → Int) (v : AV), FYR y s s' ∧ (∀ l, (pCs t e g acc p).2 = some l → ENC s' y l) ∧ ∀ Q, R (d + 42) 151 106 [vR 153, vI acc.length] [] (WS L (pz σ s p 0 0)) Q = R (d + 42) 151 148 [vR 153, v] [] (WS L (pz σ s' (pCs t e g acc p).1 (wb (pCs t e g acc p)) 0)) Q := by
  have he := hC.2.2.2.1
  intro g
  induction g with
  | zero =>
    intro acc p s hg hp ht hE hS
    rw [pCs]
    refine ⟨s, vI acc.length, FYR_r, fun l hl => ?_, fun Q => ?_⟩
    · simp only [Option.some.injEq] at hl
      rw [← hl]
      exact hE
    · rw [b151_106, pz_7, if_neg (by omega), b151_113, if_pos (by omega)]
      rfl
  | succ g ih =>
    intro acc p s hg hp ht hE hS
    have head : ∀ Q, R (d + 42) 151 106 [vR 153, vI acc.length] [] (WS L (pz σ s p 0 0)) Q = if ¬ hh t e p = 59 then R (d + 42) 151 148 [vR 153, vI acc.length] [] (WS L (pz σ s p 0 0)) Q else R (d + 42) 151 138 [vR 153, vI acc.length] [] (WS L (pz σ s ((p + 1 : Nat) : Int) 0 0)) Q := by
      intro Q
      rw [b151_106, pz_7, if_neg (by omega), b151_113, if_neg (by omega), b151_119, p153 hC ht]
      simp only [am_push_s]
      rw [b151_123]
      by_cases q : hh t e p = 59
      · rw [if_neg (by simpa using q), if_neg (by simpa using q), b151_128 (by rw [pz_5]; omega), pz_5, pz_t5]
        rfl
      · rw [if_pos q, if_pos q]
    rw [pCs]
    by_cases q : hh t e p = 59
    · have hpe := hh_lt q (by omega)
      rw [if_pos q]
      obtain ⟨s1, f1, f2, f3⟩ := p152 (d := d) (L := L) (p := p + 1) (acc := acc) hC ht (by omega) hE (by omega) (by omega)
      have okC := pC_ok (t := t) (e := e) (p := p + 1) (by omega)
      have run : ∀ Q, R (d + 42) 151 106 [vR 153, vI acc.length] [] (WS L (pz σ s p 0 0)) Q = R (d + 42) 151 106 [vR 153, vI ((acc.length + 1 : Nat) : Int)] [] (WS L (pz σ s1 (pC t e (p + 1)).1 (wb (pC t e (p + 1))) 0)) Q := by
        intro Q
        rw [head, if_neg (by simpa using q), b151_138]
        refine (f3 _).trans ?_
        simp only [am_push_n]
        rw [b151_142 (by omega)]
        rfl
      rcases w1 : pC t e (p + 1) with ⟨q1, _ | c⟩
      · rw [w1] at run
        rw [pb_nn]
        refine ⟨s1, vI ((acc.length + 1 : Nat) : Int), f1, fun l hl => by simp at hl, fun Q => ?_⟩
        rw [run, wb_n, b151_106, pz_7, if_pos (by omega)]
        rfl
      · rw [w1] at run f2 okC
        obtain ⟨g1, g2⟩ := f2 c rfl
        rw [pb_ss]
        obtain ⟨s2, v, k1, k2', k3⟩ := ih (acc ++ [c]) q1 s1 (by simp; omega) okC.2 (FYR_TP ht f1 he) g1 g2
        refine ⟨s2, v, FYR_t f1 k1, k2', fun Q => ?_⟩
        rw [run, wb_s, ← k3 Q]
        simp
    · rw [if_neg q]
      refine ⟨s, vI acc.length, FYR_r, fun l hl => ?_, fun Q => ?_⟩
      · simp only [Option.some.injEq] at hl
        rw [← hl]
        exact hE
      · rw [head, if_pos q]
        rfl
/-- the yard -/
theorem q151f (h6 : s 1 = 6) : R (d + 42) 151 0 [vR 153, vX 9] [] (WS L (setS σ s)) Q = Q (some (vI (-4))) (WS L (setS σ s)) := by
  have e1 : setS σ s 154 1 = s 1 := by rw [ss_e]
  rw [b151_0, e1, if_neg (by omega), b151_11]
def y0S (s : Int → Int) (y : Nat) : Int → Int := up (up (up (up s 7 0) (211 + y) 0) (397 + y) 0) (523 + y) 0
def y0Z (σ : St) (y e : Int) : St := st2 (st2 σ 153 4 y) 153 6 e
theorem y0_z {y e : Int} : st2 (st2 (st2 (setS (y0Z σ y e) s) 153 5 0) 153 7 0) 153 8 0 = pz (y0Z σ y e) s 0 0 0 := by
  funext a j
  unfold pz setS y0Z st2
  by_cases h : a = 154
  · subst h
    simp
  · by_cases h2 : a = 153
    · subst h2
      simp only [h, if_false, if_true, true_and]
      by_cases j8 : j = 8
      · subst j8
        simp
      · by_cases j7 : j = 7
        · subst j7
          simp
        · by_cases j5 : j = 5
          · subst j5
            simp
          · simp [j5, j7, j8]
    · simp [h, h2]
theorem UY_WF {l : List Cl} (hw : WF s cl) (hl : YG l) {y : Nat} (hy : s 1 = (y : Int)) (h6 : y < 6) (hE : ENC s' y l) (h7 : s' 7 = 0) (h1 : s' 1 = s 1 + 1) (hf : ∀ j : Int, j ≠ 7 → j ≠ 1 → j < 211 ∨ 1369 ≤ j → s' j = s j) (hfy : ∀ y' : Nat, y' ≠ y → (y' : Int) < s 1 → ENC s' y' (cl y')) : WF s' (fun y' : Nat => if (y' : Int) = s 1 then l else cl y') := by
  obtain ⟨w0, w1, w2, w3, w4, w5, w6, w8, w9⟩ := hw
  unfold W0 at w0
  refine ⟨?_, fun i hi => by omega, W2_fr w2 (hf _ (by omega) (by omega) (by omega)) (fun j _ _ => hf _ (by omega) (by omega) (by omega)) (by omega), W3_fr w3 (hf _ (by omega) (by omega) (by omega)) (fun j _ _ => hf _ (by omega) (by omega) (by omega)) (by omega), W4_fr w4 (hf _ (by omega) (by omega) (by omega)) (by omega) (hf _ (by omega) (by omega) (by omega)) (fun j _ _ => hf _ (by omega) (by omega) (by omega)) (fun j _ _ => hf _ (by omega) (by omega) (by omega)), W5_fr w5 (by omega) (fun j _ _ => hf _ (by omega) (by omega) (by omega)), W6_fr w6 (fun j _ _ => hf _ (by omega) (by omega) (by omega)), fun y' hy' => ?_, W9_fr w9 (hf _ (by omega) (by omega) (by omega)) (by rw [hf 0 (by omega) (by omega) (by omega)]; omega) (by omega) (by omega) (fun j _ _ => hf _ (by omega) (by omega) (by omega))⟩
  · unfold W0
    rw [hf 0 (by omega) (by omega) (by omega), hf 2 (by omega) (by omega) (by omega), hf 3 (by omega) (by omega) (by omega), hf 4 (by omega) (by omega) (by omega), hf 5 (by omega) (by omega) (by omega), hf 6 (by omega) (by omega) (by omega), h7, h1]
    omega
  · dsimp only
    by_cases q : y' = y
    · subst q
      rw [if_pos (by omega)]
      exact ⟨hl, hE⟩
    · rw [if_neg (by omega)]
      exact ⟨(w8 y' (by omega)).1, hfy y' q (by omega)⟩
theorem WF_7 (hw : WF s cl) (h7 : s' 7 = 0) (hf : ∀ j : Int, j ≠ 7 → j < 211 ∨ 1369 ≤ j → s' j = s j) (hfy : ∀ y' : Nat, (y' : Int) < s 1 → ENC s' y' (cl y')) : WF s' cl := by
  obtain ⟨w0, w1, w2, w3, w4, w5, w6, w8, w9⟩ := hw
  unfold W0 at w0
  refine ⟨?_, fun i hi => by omega, W2_fr w2 (hf _ (by omega) (by omega)) (fun j _ _ => hf _ (by omega) (by omega)) (by omega), W3_fr w3 (hf _ (by omega) (by omega)) (fun j _ _ => hf _ (by omega) (by omega)) (by omega), W4_fr w4 (hf _ (by omega) (by omega)) (by omega) (hf _ (by omega) (by omega)) (fun j _ _ => hf _ (by omega) (by omega)) (fun j _ _ => hf _ (by omega) (by omega)), W5_fr w5 (by rw [hf 1 (by omega) (by omega)]; omega) (fun j _ _ => hf _ (by omega) (by omega)), W6_fr w6 (fun j _ _ => hf _ (by omega) (by omega)), fun y' hy' => ?_, W9_fr w9 (hf _ (by omega) (by omega)) (by rw [hf 0 (by omega) (by omega)]; omega) (by omega) (by omega) (fun j _ _ => hf _ (by omega) (by omega))⟩
  · unfold W0
    rw [hf 0 (by omega) (by omega), hf 1 (by omega) (by omega), hf 2 (by omega) (by omega), hf 3 (by omega) (by omega), hf 4 (by omega) (by omega), hf 5 (by omega) (by omega), hf 6 (by omega) (by omega), h7]
    omega
  · rw [hf 1 (by omega) (by omega)] at hy'
    exact ⟨(w8 y' hy').1, hfy y' hy'⟩
theorem q151 {σ : St} (hw : WF s cl) (h6 : s 1 < 6) : ∃ (s' : Int → Int) (cl' : Nat → List Cl) (σ2 : St), UY s cl (pY (fun i : Nat => s (10 + i)) (s 7).toNat) s' cl' ∧ WF s' cl' ∧ σ2 154 = s' ∧ (∀ j : Int, j < 4 ∨ 8 < j → σ2 153 j = σ 153 j) ∧ (∀ a, a ≠ 153 → a ≠ 154 → σ2 a = σ a) ∧ ∀ Q, R (d + 42) 151 0 [vR 153, vX 9] [] (WS L (setS σ s)) Q = Q (some (vI (aYard s (pY (fun i : Nat => s (10 + i)) (s 7).toNat)))) (WS L σ2) := by
  have hw' := hw
  obtain ⟨w0, w1, w2, w3, w4, w5, w6, w8, w9⟩ := hw
  unfold W0 at w0
  obtain ⟨e, he⟩ : ∃ e : Nat, s 7 = (e : Int) := ⟨(s 7).toNat, by omega⟩
  obtain ⟨y, hy⟩ : ∃ y : Nat, s 1 = (y : Int) := ⟨(s 1).toNat, by omega⟩
  have et : (s 7).toNat = e := by omega
  rw [et]
  generalize hT : (fun i : Nat => s (10 + i)) = t
  have hti : ∀ i : Nat, t i = s (10 + i) := fun i => by rw [← hT]
  have y0o : ∀ j : Int, j ≠ 7 → j ≠ 211 + y → j ≠ 397 + y → j ≠ 523 + y → y0S s y j = s j := by
    intro j h1 h2 h3 h4
    unfold y0S
    rw [up_o h4, up_o h3, up_o h2, up_o h1]
  have hC : RPC t e y (y0Z σ y e) := ⟨rfl, by omega, rfl, by omega, fun i hi => by
    rw [hti]
    exact w1 i (by omega)⟩
  have hTP : TP t e (y0S s y) := fun i hi => by
    rw [hti]
    exact y0o _ (by omega) (by omega) (by omega) (by omega)
  have hE0 : ENC (y0S s y) y [] := by
    refine ⟨?_, fun i x hx => by simp [eB] at hx, ?_, fun i x hx => by simp [eK] at hx, ?_, fun i x hx => by simp [eS] at hx⟩
    · unfold y0S
      rw [up_o (by omega), up_o (by omega), up_e]
      rfl
    · unfold y0S
      rw [up_o (by omega), up_e]
      rfl
    · unfold y0S
      rw [up_e]
      rfl
  obtain ⟨s1, f1, f2, f3⟩ := p152 (d := d) (L := L) (p := 0) (acc := []) hC hTP (by omega) hE0 (by simp [eS]) (by simp)
  have start : ∀ Q, R (d + 42) 151 0 [vR 153, vX 9] [] (WS L (setS σ s)) Q = R (d + 42) 151 106 [vR 153, vI 1] [] (WS L (pz (y0Z σ y e) s1 (pC t e 0).1 (wb (pC t e 0)) 0)) Q := by
    intro Q
    have x1 : setS σ s 154 1 = s 1 := by rw [ss_e]
    have x7 : ∀ σ : St, setS σ s 154 7 = s 7 := fun σ => by rw [ss_e]
    have z1 : ∀ s1 : Int → Int, setS (y0Z σ y e) s1 153 4 = (y : Int) := fun s1 => by rw [ss_o (by omega)]; rfl
    rw [b151_0, x1, if_pos (by omega), b151_14, x1, hy, ss_ot (by omega), b151_24, x7, he, ss_ot (by omega)]
    show R (d + 42) 151 35 [vR 153, vX 9] [] (WS L (setS (y0Z σ y e) s)) Q = _
    rw [b151_35, ss_st, b151_43 (by rw [z1]; omega) (by rw [z1]; omega) (by rw [z1]; omega), z1, ss_st, b151_57 (by rw [z1]; omega) (by rw [z1]; omega) (by rw [z1]; omega), z1, ss_st, b151_71 (by rw [z1]; omega) (by rw [z1]; omega) (by rw [z1]; omega), z1, ss_st]
    show R (d + 42) 151 85 [vR 153, vX 9] [] (WS L (setS (y0Z σ y e) (y0S s y))) Q = _
    rw [b151_85, b151_90, b151_95, y0_z, b151_100]
    refine (f3 _).trans ?_
    simp only [am_push_n]
  have fall : ∀ s2 : Int → Int, FYR y (y0S s y) s2 → s2 7 = 0 ∧ (∀ j : Int, j ≠ 7 → j < 211 ∨ 1369 ≤ j → s2 j = s j) ∧ ∀ y' : Nat, y' ≠ y → (y' : Int) < s 1 → ENC s2 y' (cl y') := by
    intro s2 hf
    refine ⟨?_, fun j h1 h2 => ?_, fun y' h1 h2 => ?_⟩
    · rw [hf 7 (by omega) (by omega) (by omega) (by omega) (by omega) (by omega)]
      unfold y0S
      rw [up_o (by omega), up_o (by omega), up_o (by omega), up_e]
    · rw [hf j (by omega) (by omega) (by omega) (by omega) (by omega) (by omega)]
      exact y0o j h1 (by omega) (by omega) (by omega)
    · obtain ⟨g, en⟩ := w8 y' h2
      have k : ∀ j : Int, j ≠ 7 → j ≠ 211 + y → j ≠ 397 + y → j ≠ 523 + y → ¬ (217 + 30 * (y : Int) ≤ j ∧ j < 247 + 30 * y) → ¬ (403 + 20 * (y : Int) ≤ j ∧ j < 423 + 20 * y) → ¬ (529 + 140 * (y : Int) ≤ j ∧ j < 669 + 140 * y) → s2 j = s j := by
        intro j a1 a2 a3 a4 a5 a6 a7
        rw [hf j a2 a3 a4 a5 a6 a7]
        exact y0o j a1 a2 a3 a4
      exact ENC_fr en g (k _ (by omega) (by omega) (by omega) (by omega) (by omega) (by omega) (by omega)) (k _ (by omega) (by omega) (by omega) (by omega) (by omega) (by omega) (by omega)) (k _ (by omega) (by omega) (by omega) (by omega) (by omega) (by omega) (by omega)) (fun j a b => k _ (by omega) (by omega) (by omega) (by omega) (by omega) (by omega) (by omega)) (fun j a b => k _ (by omega) (by omega) (by omega) (by omega) (by omega) (by omega) (by omega)) (fun j a b => k _ (by omega) (by omega) (by omega) (by omega) (by omega) (by omega) (by omega))
  -- the last words, by what has been read
  have cfr : ∀ (s2 : Int → Int) (p w : Int), (∀ j : Int, j < 4 ∨ 8 < j → pz (y0Z σ y e) s2 p w 0 153 j = σ 153 j) ∧ ∀ a, a ≠ 153 → a ≠ 154 → pz (y0Z σ y e) s2 p w 0 a = σ a := by
    intro s2 p w
    refine ⟨fun j hj => ?_, fun a h1 h2 => ?_⟩
    · unfold pz y0Z
      rw [if_neg (by omega), if_pos rfl, if_neg (by omega), if_neg (by omega), if_neg (by omega), st2_i (by omega), st2_i (by omega)]
    · unfold pz y0Z
      rw [if_neg h2, if_neg h1]
      funext j
      rw [st2_k h1, st2_k h1]
  have endW : ∀ (s2 : Int → Int) (q : Nat) (v : AV) (Q : Option AV → AW → Prop), q ≤ 1000 → R (d + 42) 151 148 [vR 153, v] [] (WS L (pz (y0Z σ y e) s2 q 1 0)) Q = Q (some (vI (-10 - (q : Int)))) (WS L (pz (y0Z σ y e) s2 q 1 0)) := by
    intro s2 q v Q hq
    rw [b151_148, pz_7, if_pos (by omega), b151_166 (by rw [pz_5]; omega), pz_5]
  have endS : ∀ (s2 : Int → Int) (q : Nat) (v : AV) (Q : Option AV → AW → Prop), q < e → R (d + 42) 151 148 [vR 153, v] [] (WS L (pz (y0Z σ y e) s2 q 0 0)) Q = Q (some (vI (-10 - (q : Int)))) (WS L (pz (y0Z σ y e) s2 q 0 0)) := by
    intro s2 q v Q hq
    have h6 : pz (y0Z σ y e) s2 q 0 0 153 6 = (e : Int) := rfl
    rw [b151_148, pz_7, if_neg (by omega), b151_155, h6, pz_5, if_neg (by omega), b151_166 (by rw [pz_5]; omega), pz_5]
  have endG : ∀ (s2 : Int → Int) (v : AV) (Q : Option AV → AW → Prop), s2 1 = s 1 → R (d + 42) 151 148 [vR 153, v] [] (WS L (pz (y0Z σ y e) s2 e 0 0)) Q = Q (some (vI (s 1))) (WS L (pz (y0Z σ y e) (up s2 1 (s 1 + 1)) e 0 0)) := by
    intro s2 v Q h1
    have h6 : pz (y0Z σ y e) s2 e 0 0 153 6 = (e : Int) := rfl
    have h4 : ∀ s2 : Int → Int, pz (y0Z σ y e) s2 e 0 0 153 4 = (y : Int) := fun _ => rfl
    rw [b151_148, pz_7, if_neg (by omega), b151_155, h6, pz_5, if_pos rfl, b151_174 (by rw [pz_si]; omega), pz_si, pz_t4, b151_184, h4, h1, hy]
  have okC := pC_ok (t := t) (e := e) (p := 0) (by omega)
  -- nothing read
  have bad : ∀ (s2 : Int → Int) (r : Nat × Option (List Cl)) (w : Int), r.2 = none → FYR y (y0S s y) s2 → (∀ Q, R (d + 42) 151 0 [vR 153, vX 9] [] (WS L (setS σ s)) Q = Q (some (vI (-10 - (r.1 : Int)))) (WS L (pz (y0Z σ y e) s2 r.1 w 0))) → ∃ (s' : Int → Int) (cl' : Nat → List Cl) (σ2 : St), UY s cl r s' cl' ∧ WF s' cl' ∧ σ2 154 = s' ∧ (∀ j : Int, j < 4 ∨ 8 < j → σ2 153 j = σ 153 j) ∧ (∀ a, a ≠ 153 → a ≠ 154 → σ2 a = σ a) ∧ ∀ Q, R (d + 42) 151 0 [vR 153, vX 9] [] (WS L (setS σ s)) Q = Q (some (vI (aYard s r))) (WS L σ2) := by
    intro s2 r w hr hf hrun
    obtain ⟨k1, k2', k3⟩ := fall s2 hf
    obtain ⟨c1, c2⟩ := cfr s2 r.1 w
    refine ⟨s2, cl, pz (y0Z σ y e) s2 r.1 w 0, ⟨k1, fun j hj => k2' j hj.1 hj.2.2, fun _ => ⟨k2' 1 (by omega) (by omega), rfl⟩, fun l hl => by rw [hr] at hl; simp at hl⟩, WF_7 hw' k1 k2' (fun y' hy' => k3 y' (by omega) hy'), rfl, c1, c2, fun Q => ?_⟩
    rw [hrun]
    unfold aYard
    rw [if_neg (by omega), hr, if_neg (by simp)]
  unfold pY
  rcases w1 : pC t e 0 with ⟨q1, _ | c⟩
  · rw [w1] at start okC
    have o1 := okC.2
    dsimp only at o1
    rw [pb_nn, pb_nn]
    refine bad s1 (q1, none) 1 rfl f1 (fun Q => ?_)
    rw [start, wb_n, b151_106, pz_7, if_pos (by omega)]
    exact endW s1 q1 _ Q (by omega)
  rw [w1] at start okC f2
  obtain ⟨g1, g2⟩ := f2 c rfl
  rw [pb_ss]
  obtain ⟨s2, v, k1, k2', k3⟩ := p151_l (d := d) (L := L) hC 9 [c] q1 s1 rfl okC.2 (FYR_TP hTP f1 (by omega)) g1 g2
  have run2 : ∀ Q, R (d + 42) 151 0 [vR 153, vX 9] [] (WS L (setS σ s)) Q = R (d + 42) 151 148 [vR 153, v] [] (WS L (pz (y0Z σ y e) s2 (pCs t e 9 [c] q1).1 (wb (pCs t e 9 [c] q1)) 0)) Q := by
    intro Q
    rw [start, wb_s]
    exact k3 Q
  have okS := pCs_ok (t := t) (e := e) 9 [c] q1 okC.2
  have fr2 := FYR_t f1 k1
  rcases w2 : pCs t e 9 [c] q1 with ⟨q2, _ | l⟩
  · rw [w2] at run2 okS
    have o2 := okS.2
    dsimp only at o2
    rw [pb_nn]
    refine bad s2 (q2, none) 1 rfl fr2 (fun Q => ?_)
    rw [run2, wb_n]
    exact endW s2 q2 v Q (by omega)
  rw [w2] at run2 okS k2'
  have o2 := okS.2
  dsimp only at o2
  rw [pb_ss]
  by_cases q : q2 < e
  · rw [if_pos q]
    refine bad s2 (q2, none) 0 rfl fr2 (fun Q => ?_)
    rw [run2, wb_s]
    exact endS s2 q2 v Q q
  · rw [if_neg q]
    obtain rfl : q2 = e := by omega
    have hY : pY t q2 = (q2, some l) := by
      unfold pY
      rw [w1, pb_ss, w2, pb_ss, if_neg q]
    have gY := pY_G (by omega) hY
    have hYG : YG l := ⟨gY.1, gY.2.1, gY.2.2⟩
    obtain ⟨j1, j2, j3⟩ := fall s2 fr2
    obtain ⟨c1, c2⟩ := cfr (up s2 1 (s 1 + 1)) q2 0
    have u1 : ∀ j : Int, j ≠ 1 → up s2 1 (s 1 + 1) j = s2 j := fun j hj => up_o hj
    have enc_up : ∀ (y' : Nat) (l' : List Cl), YG l' → ENC s2 y' l' → ENC (up s2 1 (s 1 + 1)) y' l' := fun y' l' hg he => ENC_fr he hg (u1 _ (by omega)) (u1 _ (by omega)) (u1 _ (by omega)) (fun j _ _ => u1 _ (by omega)) (fun j _ _ => u1 _ (by omega)) (fun j _ _ => u1 _ (by omega))
    have e7 : up s2 1 (s 1 + 1) 7 = 0 := by rw [u1 7 (by omega)]; exact j1
    have fr3 : ∀ j : Int, j ≠ 7 → j ≠ 1 → j < 211 ∨ 1369 ≤ j → up s2 1 (s 1 + 1) j = s j := fun j a b c => by rw [u1 j b]; exact j2 j a c
    refine ⟨up s2 1 (s 1 + 1), fun y' : Nat => if (y' : Int) = s 1 then l else cl y', pz (y0Z σ y q2) (up s2 1 (s 1 + 1)) q2 0 0, ⟨e7, fun j hj => fr3 j hj.1 hj.2.1 hj.2.2, fun h => by simp at h, fun l' hl' => ?_⟩, UY_WF hw' hYG hy (by omega) (enc_up y l hYG (k2' l rfl)) e7 up_e fr3 (fun y' a b => enc_up y' _ (w8 y' b).1 (j3 y' a b)), rfl, c1, c2, fun Q => ?_⟩
    · simp only [Option.some.injEq] at hl'
      rw [hl']
      exact ⟨up_e, rfl⟩
    · rw [run2, wb_s]
      refine (endG s2 v Q (j2 1 (by omega) (by omega))).trans ?_
      unfold aYard
      rw [if_neg (by omega)]
      rfl
end RB4
