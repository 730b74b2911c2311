/-! the reference's reader: clauses -/
theorem eS_app : ∀ (a b : List Cl), eS (a ++ b) = eS a ++ eS b
  | [], b => rfl
  | c :: a, b => by
    show eS (c :: (a ++ b)) = _
    rw [eS, eS, eS_app a b]
    split <;> simp
theorem eB_app : ∀ (a b : List Cl), eB (a ++ b) = eB a ++ eB b
  | [], b => rfl
  | c :: a, b => by
    show eB (c :: (a ++ b)) = _
    rw [eB, eB, eB_app a b]
    split <;> simp
theorem eK_app : ∀ (a b : List Cl), eK (a ++ b) = eK a ++ eK b
  | [], b => rfl
  | c :: a, b => by
    show eK (c :: (a ++ b)) = _
    rw [eK, eK, eK_app a b]
    split <;> simp
theorem get_app {α : Type} {l : List α} {z x : α} {i : Nat} (h : (l ++ [z])[i]? = some x) : l[i]? = some x ∨ i = l.length ∧ x = z := by
  by_cases q : i < l.length
  · rw [List.getElem?_append_left q] at h
    exact Or.inl h
  · have := lt_of_some h
    simp only [List.length_append, List.length_cons, List.length_nil] at this
    rw [List.getElem?_append_right (by omega), show i - l.length = 0 by omega] at h
    simp only [List.getElem?_cons_zero, Option.some.injEq] at h
    exact Or.inr ⟨by omega, h.symm⟩
def FYR (y : Nat) (s s' : Int → Int) : Prop := ∀ j : Int, j ≠ 211 + y → j ≠ 397 + y → j ≠ 523 + y → ¬ (217 + 30 * (y : Int) ≤ j ∧ j < 247 + 30 * y) → ¬ (403 + 20 * (y : Int) ≤ j ∧ j < 423 + 20 * y) → ¬ (529 + 140 * (y : Int) ≤ j ∧ j < 669 + 140 * y) → s' j = s j
theorem FYR_r {y : Nat} {s : Int → Int} : FYR y s s := fun _ _ _ _ _ _ _ => rfl
theorem FYR_t {y : Nat} {s s' s'' : Int → Int} (h : FYR y s s') (h2 : FYR y s' s'') : FYR y s s'' := fun j a b c d e f => (h2 j a b c d e f).trans (h j a b c d e f)
theorem FYR_em {y : Nat} {s : Int → Int} {l : List Int} (h0 : 0 ≤ s (523 + y)) (h1 : s (523 + y) + l.length ≤ 140) : FYR y s (em s y l) := fun j _ _ c _ _ f => em_o c l s (by omega)
theorem FYR_TP {y e : Nat} {t : Nat → Int} {s s' : Int → Int} (h : TP t e s) (hf : FYR y s s') (he : e ≤ 120) : TP t e s' := fun i hi => by
  rw [hf _ (by omega) (by omega) (by omega) (by omega) (by omega) (by omega)]
  exact h i hi
theorem ENC_S {s : Int → Int} {y : Nat} {acc : List Cl} {c : Cl} {l : List Int} (h : ENC s y acc) (hy : y < 6) (hc : c.1 = 0) (hl : eS [c] = l) (hb : acc.length ≤ 9) (hs : (eS acc).length + l.length ≤ 140) : ENC (em s y l) y (acc ++ [c]) := by
  obtain ⟨e1, e2, e3, e4, e5, e6⟩ := h
  have n1 : eB [c] = [] := by rw [eB, if_neg (by omega)]; rfl
  have n2 : eK [c] = [] := by rw [eK, if_neg (by omega)]; rfl
  have l1 := eB_len (cls := acc)
  have l2 := eK_len (cls := acc)
  have fr := FYR_em (y := y) (s := s) (l := l) (by omega) (by omega)
  have lo : ∀ j : Int, j < 523 → em s y l j = s j := fun j hj => em_lo (by omega) hj
  refine ⟨?_, fun i x hx => ?_, ?_, fun i x hx => ?_, ?_, fun i x hx => ?_⟩
  · rw [eB_app, n1, List.append_nil, lo _ (by omega)]
    exact e1
  · rw [eB_app, n1, List.append_nil] at hx
    have := lt_of_some hx
    rw [lo _ (by omega), lo _ (by omega), lo _ (by omega)]
    exact e2 i x hx
  · rw [eK_app, n2, List.append_nil, lo _ (by omega)]
    exact e3
  · rw [eK_app, n2, List.append_nil] at hx
    have := lt_of_some hx
    rw [lo _ (by omega), lo _ (by omega)]
    exact e4 i x hx
  · rw [eS_app, hl, em_c, e5, List.length_append, Int.natCast_add]
  · rw [eS_app, hl] at hx
    by_cases q : i < (eS acc).length
    · rw [List.getElem?_append_left q] at hx
      rw [em_o (by omega) l s (by omega)]
      exact e6 i x hx
    · have := lt_of_some hx
      rw [List.getElem?_append_right (by omega)] at hx
      have := em_i l s (i - (eS acc).length) x (by omega) hy hx
      rw [← this]
      congr 1
      omega
def b3 (s : Int → Int) (y : Nat) (v a b : Int) : Int → Int := up (up (up (up s (217 + 3 * (10 * y + s (211 + y))) v) (217 + 3 * (10 * y + s (211 + y)) + 1) a) (217 + 3 * (10 * y + s (211 + y)) + 2) b) (211 + y) (s (211 + y) + 1)
def k2 (s : Int → Int) (y : Nat) (v k : Int) : Int → Int := up (up (up s (403 + 2 * (10 * y + s (397 + y))) v) (403 + 2 * (10 * y + s (397 + y)) + 1) k) (397 + y) (s (397 + y) + 1)
theorem b3_o {s : Int → Int} {y : Nat} {v a b j : Int} (h1 : j ≠ 211 + y) (h2 : j < 217 + 3 * (10 * y + s (211 + y)) ∨ 217 + 3 * (10 * y + s (211 + y)) + 2 < j) : b3 s y v a b j = s j := by
  unfold b3
  rw [up_o h1, up_o (by omega), up_o (by omega), up_o (by omega)]
theorem k2_o {s : Int → Int} {y : Nat} {v k j : Int} (h1 : j ≠ 397 + y) (h2 : j < 403 + 2 * (10 * y + s (397 + y)) ∨ 403 + 2 * (10 * y + s (397 + y)) + 1 < j) : k2 s y v k j = s j := by
  unfold k2
  rw [up_o h1, up_o (by omega), up_o (by omega)]
theorem FYR_b3 {y : Nat} {s : Int → Int} {v a b : Int} (h0 : 0 ≤ s (211 + y)) (h1 : s (211 + y) ≤ 9) : FYR y s (b3 s y v a b) := fun j a1 _ _ a2 _ _ => b3_o a1 (by omega)
theorem FYR_k2 {y : Nat} {s : Int → Int} {v k : Int} (h0 : 0 ≤ s (397 + y)) (h1 : s (397 + y) ≤ 9) : FYR y s (k2 s y v k) := fun j _ a1 _ _ a2 _ => k2_o a1 (by omega)
theorem ENC_B {s : Int → Int} {y : Nat} {acc : List Cl} {v a b : Nat} (h : ENC s y acc) (hy : y < 6) (hb : acc.length ≤ 9) (hs : (eS acc).length ≤ 140) : ENC (b3 s y v a b) y (acc ++ [(1, v, [(a : Int), (b : Int)])]) := by
  obtain ⟨e1, e2, e3, e4, e5, e6⟩ := h
  have n1 : eB [(1, v, [(a : Int), (b : Int)])] = [((v : Int), (a : Int), (b : Int))] := rfl
  have n2 : eK [(1, v, [(a : Int), (b : Int)])] = [] := rfl
  have n3 : eS [(1, v, [(a : Int), (b : Int)])] = [] := rfl
  have l1 := eB_len (cls := acc)
  have l2 := eK_len (cls := acc)
  have c1 : b3 s y v a b (211 + y) = s (211 + y) + 1 := up_e
  refine ⟨?_, fun i x hx => ?_, ?_, fun i x hx => ?_, ?_, fun i x hx => ?_⟩
  · rw [eB_app, n1, c1, e1]
    simp
  · rw [eB_app, n1] at hx
    rcases get_app hx with hx | ⟨rfl, rfl⟩
    · have := lt_of_some hx
      rw [b3_o (by omega) (by omega), b3_o (by omega) (by omega), b3_o (by omega) (by omega)]
      exact e2 i x hx
    · have i1 : 217 + 30 * (y : Int) + 3 * ((eB acc).length : Int) = 217 + 3 * (10 * y + s (211 + y)) := by omega
      have i2 : 218 + 30 * (y : Int) + 3 * ((eB acc).length : Int) = 217 + 3 * (10 * y + s (211 + y)) + 1 := by omega
      have i3 : 219 + 30 * (y : Int) + 3 * ((eB acc).length : Int) = 217 + 3 * (10 * y + s (211 + y)) + 2 := by omega
      rw [i1, i2, i3]
      unfold b3
      refine ⟨?_, ?_, ?_⟩
      · rw [up_o (by omega), up_o (by omega), up_o (by omega), up_e]
      · rw [up_o (by omega), up_o (by omega), up_e]
      · rw [up_o (by omega), up_e]
  · rw [eK_app, n2, List.append_nil, b3_o (by omega) (by omega)]
    exact e3
  · rw [eK_app, n2, List.append_nil] at hx
    have := lt_of_some hx
    rw [b3_o (by omega) (by omega), b3_o (by omega) (by omega)]
    exact e4 i x hx
  · rw [eS_app, n3, List.append_nil, b3_o (by omega) (by omega)]
    exact e5
  · rw [eS_app, n3, List.append_nil] at hx
    have := lt_of_some hx
    rw [b3_o (by omega) (by omega)]
    exact e6 i x hx
theorem ENC_K {s : Int → Int} {y : Nat} {acc : List Cl} {v k : Nat} (h : ENC s y acc) (hy : y < 6) (hb : acc.length ≤ 9) (hs : (eS acc).length ≤ 140) : ENC (k2 s y v k) y (acc ++ [(2, v, [(k : Int)])]) := by
  obtain ⟨e1, e2, e3, e4, e5, e6⟩ := h
  have n1 : eB [(2, v, [(k : Int)])] = [] := rfl
  have n2 : eK [(2, v, [(k : Int)])] = [((v : Int), (k : Int))] := rfl
  have n3 : eS [(2, v, [(k : Int)])] = [] := rfl
  have l1 := eB_len (cls := acc)
  have l2 := eK_len (cls := acc)
  have c1 : k2 s y v k (397 + y) = s (397 + y) + 1 := up_e
  refine ⟨?_, fun i x hx => ?_, ?_, fun i x hx => ?_, ?_, fun i x hx => ?_⟩
  · rw [eB_app, n1, List.append_nil, k2_o (by omega) (by omega)]
    exact e1
  · rw [eB_app, n1, List.append_nil] at hx
    have := lt_of_some hx
    rw [k2_o (by omega) (by omega), k2_o (by omega) (by omega), k2_o (by omega) (by omega)]
    exact e2 i x hx
  · rw [eK_app, n2, c1, e3]
    simp
  · rw [eK_app, n2] at hx
    rcases get_app hx with hx | ⟨rfl, rfl⟩
    · have := lt_of_some hx
      rw [k2_o (by omega) (by omega), k2_o (by omega) (by omega)]
      exact e4 i x hx
    · have i1 : 403 + 20 * (y : Int) + 2 * ((eK acc).length : Int) = 403 + 2 * (10 * y + s (397 + y)) := by omega
      have i2 : 404 + 20 * (y : Int) + 2 * ((eK acc).length : Int) = 403 + 2 * (10 * y + s (397 + y)) + 1 := by omega
      rw [i1, i2]
      unfold k2
      refine ⟨?_, ?_⟩
      · rw [up_o (by omega), up_o (by omega), up_e]
      · rw [up_o (by omega), up_e]
  · rw [eS_app, n3, List.append_nil, k2_o (by omega) (by omega)]
    exact e5
  · rw [eS_app, n3, List.append_nil] at hx
    have := lt_of_some hx
    rw [k2_o (by omega) (by omega)]
    exact e6 i x hx
section RB3
variable {d D L e y : Nat} {t : Nat → Int} {s : Int → Int} {σ : St} {o : Int} {Q : Option AV → AW → Prop}
theorem c154_21 {p : Nat} {v : Int} (hv : 0 ≤ v ∧ v ≤ 99) : R (d + 7) 154 21 [vR 153, vI v] [] (WS L (pz σ s p 1 o)) Q = Q none (WS L (pz σ s p 1 o)) := by
  rw [b154_21 (by omega), p161n]
  simp only [am_push_n]
  rw [b154_29]
theorem c154_17 {p : Nat} {v : Int} (hv : 0 ≤ v ∧ v ≤ 99) : R (d + 7) 154 17 [vR 153, vI v] [] (WS L (pz σ s p 1 o)) Q = Q none (WS L (pz σ s p 1 o)) := by
  rw [b154_17, p158n]
  simp only [am_push_n]
  exact c154_21 hv
theorem c154_10 {p : Nat} {v : Int} {u : AV} (hv : 0 ≤ v ∧ v ≤ 99) (hp : p ≤ 1000) : R (d + 7) 154 10 [vR 153, u] [vI v] (WS L (pz σ s p 1 o)) Q = Q none (WS L (pz σ s p 1 o)) := by
  rw [b154_10, p156n hp]
  simp only [am_push_n]
  exact c154_17 hv
theorem c154_6 {p : Nat} {u : AV} (hp : p ≤ 1000) : R (d + 7) 154 6 [vR 153, u] [] (WS L (pz σ s p 1 o)) Q = Q none (WS L (pz σ s p 1 o)) := by
  rw [b154_6, p157n]
  simp only [am_push_s]
  exact c154_10 (by omega) hp
theorem p154 {p : Nat} (hC : RPC t e y σ) (ht : TP t e s) (hp : p ≤ e) (hh1 : hh t e p = 109) (h0 : 0 ≤ s (523 + y)) (h1 : s (523 + y) ≤ p) : ∃ l : List Int, l.length + p ≤ (pM t e (p + 1)).1 ∧ (∀ c, (pM t e (p + 1)).2 = some c → c.1 = 0 ∧ eS [c] = l) ∧ ∀ Q, R (d + 40) 154 0 [vR 153, vX 9] [] (WS L (pz σ s p 0 ((5 - 5 : Nat) : Int))) Q = Q none (WS L (pz σ (em s y l) (pM t e (p + 1)).1 (wb (pM t e (p + 1))) ((5 - 5 : Nat) : Int))) := by
  have he := hC.2.2.2.1
  have hpe := hh_lt hh1 (by omega)
  have g1 := fun Q : Option AV → AW → Prop => p155_6 (Q := Q) (d := d + 33) (L := L) (σ := σ) (s := s) (o := ((5 - 5 : Nat) : Int)) hC ht 5 0 p rfl (by omega)
  have eW : pW t e (([109, 97, 114, 107, 32] : List Int).drop 0) p = pW t e [97, 114, 107, 32] (p + 1) := by
    show pW t e (109 :: [97, 114, 107, 32]) p = _
    rw [pW, if_pos hh1]
  rw [eW] at g1
  have ok1 := pW_ok (t := t) (e := e) [97, 114, 107, 32] (p + 1) (by simp) (by omega)
  have run1 : ∀ Q, R (d + 40) 154 0 [vR 153, vX 9] [] (WS L (pz σ s p 0 ((5 - 5 : Nat) : Int))) Q = R (d + 40) 154 6 [vR 153, vX 9] [] (WS L (pz σ s (pW t e [97, 114, 107, 32] (p + 1)).1 (wb (pW t e [97, 114, 107, 32] (p + 1))) ((5 - 5 : Nat) : Int))) Q := by
    intro Q
    rw [b154_0, b155_0a]
    refine (g1 _).trans ?_
    simp only [am_push_n]
  unfold pM
  rcases w1 : pW t e [97, 114, 107, 32] (p + 1) with ⟨q1, _ | u1⟩
  · rw [w1] at run1 ok1
    have o1 := ok1.1
    have o2 := ok1.2
    dsimp only at o1 o2
    rw [pb_nn]
    refine ⟨[], by dsimp only [List.length_nil]; omega, fun c hc => by simp at hc, fun Q => ?_⟩
    rw [run1, wb_n]
    exact c154_6 (by dsimp only; omega)
  rw [w1] at run1 ok1
  have o1 := ok1.1
  have o2 := ok1.2
  dsimp only at o1 o2
  rw [pb_ss]
  obtain ⟨v, v1, v2, v3⟩ := p157 (d := d + 38) (L := L) (σ := σ) (s := s) (o := ((5 - 5 : Nat) : Int)) (p := q1) hC ht o2
  have ok2 := pNum_ok (t := t) (e := e) (p := q1) o2
  have run2 : ∀ Q, R (d + 40) 154 0 [vR 153, vX 9] [] (WS L (pz σ s p 0 ((5 - 5 : Nat) : Int))) Q = R (d + 40) 154 10 [vR 153, vX 9] [vI v] (WS L (pz σ s (pNum t e q1).1 (wb (pNum t e q1)) ((5 - 5 : Nat) : Int))) Q := by
    intro Q
    rw [run1, wb_s, b154_6]
    refine (v3 _).trans ?_
    simp only [am_push_s]
  rcases w2 : pNum t e q1 with ⟨q2, _ | v'⟩
  · rw [w2] at run2 ok2
    have o3 := ok2.1
    have o4 := ok2.2
    dsimp only at o3 o4
    rw [pb_nn]
    refine ⟨[], by dsimp only [List.length_nil]; omega, fun c hc => by simp at hc, fun Q => ?_⟩
    rw [run2, wb_n]
    exact c154_10 v1 (by dsimp only; omega)
  have n2 := pNum_v w2
  rw [w2] at run2 ok2 v2
  have ev := v2 v' rfl
  have o3 := ok2.1
  have o4 := ok2.2
  dsimp only at o3 o4
  rw [pb_ss]
  have ok3 := pW_ok (t := t) (e := e) [32] q2 (by simp) o4
  have run3 : ∀ Q, R (d + 40) 154 0 [vR 153, vX 9] [] (WS L (pz σ s p 0 ((5 - 5 : Nat) : Int))) Q = R (d + 40) 154 17 [vR 153, vI v] [] (WS L (pz σ s (pW t e [32] q2).1 (wb (pW t e [32] q2)) ((5 - 5 : Nat) : Int))) Q := by
    intro Q
    rw [run2, wb_s, b154_10, p156 hC ht (by dsimp only; omega)]
    simp only [am_push_n]
  rcases w3 : pW t e [32] q2 with ⟨q3, _ | u3⟩
  · rw [w3] at run3 ok3
    have o5 := ok3.1
    have o6 := ok3.2
    dsimp only at o5 o6
    rw [pb_nn]
    refine ⟨[], by dsimp only [List.length_nil]; omega, fun c hc => by simp at hc, fun Q => ?_⟩
    rw [run3, wb_n]
    exact c154_17 v1
  rw [w3] at run3 ok3
  have o5 := ok3.1
  have o6 := ok3.2
  dsimp only at o5 o6
  rw [pb_ss]
  obtain ⟨l, f1, f2, f3⟩ := p158 (s := s) (σ := σ) (p := q3) (s160 (t := t) (e := e) (y := y) (L := L) 5 (d + 15) (by omega)) hC ht o6 h0 (by omega)
  have ok4 := pE_ok (t := t) (e := e) (fun p hp => pF_ok (t := t) (e := e) 5 p hp) (p := q3) o6
  have run4 : ∀ Q, R (d + 40) 154 0 [vR 153, vX 9] [] (WS L (pz σ s p 0 ((5 - 5 : Nat) : Int))) Q = R (d + 40) 154 21 [vR 153, vI v] [] (WS L (pz σ (em s y l) (pE t e (pF t e 5) q3).1 (wb (pE t e (pF t e 5) q3)) ((5 - 5 : Nat) : Int))) Q := by
    intro Q
    rw [run3, wb_s, b154_17]
    refine (f3 _).trans ?_
    simp only [am_push_n]
  rcases w4 : pE t e (pF t e 5) q3 with ⟨q4, _ | st⟩
  · rw [w4] at run4 ok4 f1
    have o7 := ok4.1
    have o8 := ok4.2
    dsimp only at o7 o8 f1
    rw [pb_nn]
    refine ⟨l, by dsimp only; omega, fun c hc => by simp at hc, fun Q => ?_⟩
    rw [run4, wb_n]
    exact c154_21 v1
  rw [w4] at run4 ok4 f1 f2
  have o7 := ok4.1
  have o8 := ok4.2
  have e4 := f2 st rfl
  dsimp only at o7 o8 f1
  rw [pb_ss]
  refine ⟨l ++ [-10 - v], by simp; omega, fun c hc => ?_, fun Q => ?_⟩
  · simp only [Option.some.injEq] at hc
    rw [← hc, e4, ev]
    exact ⟨rfl, rfl⟩
  · rw [run4, wb_s, b154_21 (by omega), p161 hC (by rw [em_c]; omega) (by rw [em_c]; omega)]
    simp only [am_push_n]
    rw [b154_29, em_app]
    rfl
theorem c163_36 {p : Nat} {u1 u2 u3 u4 : AV} {v : Int} : R d 163 36 [vR 153, u1, u2, u3, u4] [vI v] (WS L (pz σ s p 1 o)) Q = Q none (WS L (pz σ s p 1 o)) := by
  rw [b163_36, pz_7, if_pos (by omega), b163_118]
theorem c163_30 {p : Nat} {u1 u2 u3 u4 : AV} (hp : p ≤ 1000) : R (d + 7) 163 30 [vR 153, u1, u2, u3, u4] [] (WS L (pz σ s p 1 o)) Q = Q none (WS L (pz σ s p 1 o)) := by
  rw [b163_30, p164n hp]
  simp only [am_push_s]
  exact c163_36
theorem c163_23 {p : Nat} {u2 u3 u4 : AV} {v w : Int} (hp : p ≤ 1000) : R (d + 7) 163 23 [vR 153, vI v, u2, u3, u4] [vI w] (WS L (pz σ s p 1 o)) Q = Q none (WS L (pz σ s p 1 o)) := by
  rw [b163_23, p156n hp]
  simp only [am_push_n]
  exact c163_30 hp
theorem c163_17 {p : Nat} {u2 u3 u4 : AV} {v : Int} (hp : p ≤ 1000) : R (d + 7) 163 17 [vR 153, vI v, u2, u3, u4] [] (WS L (pz σ s p 1 o)) Q = Q none (WS L (pz σ s p 1 o)) := by
  rw [b163_17, p164n hp]
  simp only [am_push_s]
  exact c163_23 hp
theorem c163_10 {p : Nat} {v : Int} {u1 u2 u3 u4 : AV} (hp : p ≤ 1000) : R (d + 7) 163 10 [vR 153, u1, u2, u3, u4] [vI v] (WS L (pz σ s p 1 o)) Q = Q none (WS L (pz σ s p 1 o)) := by
  rw [b163_10, p156n hp]
  simp only [am_push_n]
  exact c163_17 hp
theorem c163_6 {p : Nat} {u1 u2 u3 u4 : AV} (hp : p ≤ 1000) : R (d + 7) 163 6 [vR 153, u1, u2, u3, u4] [] (WS L (pz σ s p 1 o)) Q = Q none (WS L (pz σ s p 1 o)) := by
  rw [b163_6, p157n]
  simp only [am_push_s]
  exact c163_10 hp
theorem p163_w {p : Nat} {v a b : Int} {u4 : AV} (hC : RPC t e y σ) (h0 : 0 ≤ s (211 + y) ∧ s (211 + y) ≤ 9) : R d 163 44 [vR 153, vI v, vI a, vI b, u4] [] (WS L (pz σ s p 0 o)) Q = Q none (WS L (pz σ (b3 s y v a b) p 0 o)) := by
  obtain ⟨g1, g2, g3, g4, g5⟩ := hC
  have e1 : ∀ s' : Int → Int, pz σ s' p 0 o 154 (211 + (pz σ s' p 0 o 153 4)) = s' (211 + y) := by
    intro s'
    rw [pz_4, g1, pz_si]
  rw [b163_44 (by rw [pz_4]; omega) (by rw [pz_4]; omega) (by rw [pz_4]; omega) (by rw [pz_4]; omega) (by rw [e1, pz_4]; omega) (by rw [e1, pz_4]; omega) (by rw [e1, pz_4]; omega) (by rw [e1, pz_4]; omega) (by rw [e1, pz_4]; omega), e1, pz_4, g1, pz_t4, b163_81 (by omega) (by omega) (by omega), pz_t4, b163_91 (by omega) (by omega) (by omega), pz_t4]
  rw [b163_101 (by rw [pz_4]; omega) (by rw [pz_4]; omega) (by rw [pz_4]; omega) (by rw [e1, up_o (by omega), up_o (by omega), up_o (by omega)]; omega), e1, pz_4, g1, up_o (by omega), up_o (by omega), up_o (by omega), pz_t4, b163_118]
  rfl
theorem p165_w {p : Nat} {v a : Int} {u4 : AV} (hC : RPC t e y σ) (h0 : 0 ≤ s (397 + y) ∧ s (397 + y) ≤ 9) : R d 165 30 [vR 153, vI v, vI a, u4] [] (WS L (pz σ s p 0 o)) Q = Q none (WS L (pz σ (k2 s y v a) p 0 o)) := by
  obtain ⟨g1, g2, g3, g4, g5⟩ := hC
  have e1 : ∀ s' : Int → Int, pz σ s' p 0 o 154 (397 + (pz σ s' p 0 o 153 4)) = s' (397 + y) := by
    intro s'
    rw [pz_4, g1, pz_si]
  rw [b165_30 (by rw [pz_4]; omega) (by rw [pz_4]; omega) (by rw [pz_4]; omega) (by rw [pz_4]; omega) (by rw [e1, pz_4]; omega) (by rw [e1, pz_4]; omega) (by rw [e1, pz_4]; omega) (by rw [e1, pz_4]; omega) (by rw [e1, pz_4]; omega), e1, pz_4, g1, pz_t4, b165_65 (by omega) (by omega) (by omega), pz_t4]
  rw [b165_74 (by rw [pz_4]; omega) (by rw [pz_4]; omega) (by rw [pz_4]; omega) (by rw [e1, up_o (by omega), up_o (by omega)]; omega), e1, pz_4, g1, up_o (by omega), up_o (by omega), pz_t4, b165_91]
  rfl
/-- ahead of a clause's own: the word, the number, the blank -/
theorem pH_r9 {p : Nat} (hC : RPC t e y σ) (ht : TP t e s) (hp : p ≤ e) (hh1 : hh t e p = 98) : ∃ v : Int, (0 ≤ v ∧ v ≤ 99) ∧ (∀ a, (pH t e [111, 116, 104, 32] (p + 1)).2 = some a → v = (a : Int)) ∧ ((pH t e [111, 116, 104, 32] (p + 1)).2 = none → ∀ Q, R (d + 40) 163 0 [vR 153, vX 9, vX 9, vX 9, vX 9] [] (WS L (pz σ s p 0 o)) Q = Q none (WS L (pz σ s (pH t e [111, 116, 104, 32] (p + 1)).1 1 o))) ∧ ((pH t e [111, 116, 104, 32] (p + 1)).2.isSome → ∀ Q, R (d + 40) 163 0 [vR 153, vX 9, vX 9, vX 9, vX 9] [] (WS L (pz σ s p 0 o)) Q = R (d + 40) 163 17 [vR 153, vI v, vX 9, vX 9, vX 9] [] (WS L (pz σ s (pH t e [111, 116, 104, 32] (p + 1)).1 0 o)) Q) := by
  have he := hC.2.2.2.1
  have hpe := hh_lt hh1 (by omega)
  have g1 := fun Q : Option AV → AW → Prop => p155_9 (Q := Q) (d := d + 33) (L := L) (σ := σ) (s := s) (o := o) hC ht 5 0 p rfl (by omega)
  have eW : pW t e (([98, 111, 116, 104, 32] : List Int).drop 0) p = pW t e [111, 116, 104, 32] (p + 1) := by
    show pW t e (98 :: [111, 116, 104, 32]) p = _
    rw [pW, if_pos hh1]
  rw [eW] at g1
  have ok1 := pW_ok (t := t) (e := e) [111, 116, 104, 32] (p + 1) (by simp) (by omega)
  have run1 : ∀ Q, R (d + 40) 163 0 [vR 153, vX 9, vX 9, vX 9, vX 9] [] (WS L (pz σ s p 0 o)) Q = R (d + 40) 163 6 [vR 153, vX 9, vX 9, vX 9, vX 9] [] (WS L (pz σ s (pW t e [111, 116, 104, 32] (p + 1)).1 (wb (pW t e [111, 116, 104, 32] (p + 1))) o)) Q := by
    intro Q
    rw [b163_0, b155_0b]
    refine (g1 _).trans ?_
    simp only [am_push_n]
  unfold pH
  rcases w1 : pW t e [111, 116, 104, 32] (p + 1) with ⟨q1, _ | u1⟩
  · rw [w1] at run1 ok1
    have o2 := ok1.2
    dsimp only at o2
    rw [pb_nn]
    refine ⟨0, by omega, fun a ha => by simp at ha, fun _ Q => ?_, fun h => by simp at h⟩
    rw [run1, wb_n]
    exact c163_6 (by dsimp only; omega)
  rw [w1] at run1 ok1
  have o2 := ok1.2
  dsimp only at o2
  rw [pb_ss]
  obtain ⟨v, v1, v2, v3⟩ := p157 (d := d + 38) (L := L) (σ := σ) (s := s) (o := o) (p := q1) hC ht o2
  have ok2 := pNum_ok (t := t) (e := e) (p := q1) o2
  have run2 : ∀ Q, R (d + 40) 163 0 [vR 153, vX 9, vX 9, vX 9, vX 9] [] (WS L (pz σ s p 0 o)) Q = R (d + 40) 163 10 [vR 153, vX 9, vX 9, vX 9, vX 9] [vI v] (WS L (pz σ s (pNum t e q1).1 (wb (pNum t e q1)) o)) Q := by
    intro Q
    rw [run1, wb_s, b163_6]
    refine (v3 _).trans ?_
    simp only [am_push_s]
  rcases w2 : pNum t e q1 with ⟨q2, _ | v'⟩
  · rw [w2] at run2 ok2
    have o4 := ok2.2
    dsimp only at o4
    rw [pb_nn]
    refine ⟨v, v1, fun a ha => by simp at ha, fun _ Q => ?_, fun h => by simp at h⟩
    rw [run2, wb_n]
    exact c163_10 (by dsimp only; omega)
  rw [w2] at run2 ok2 v2
  have ev := v2 v' rfl
  have o4 := ok2.2
  dsimp only at o4
  rw [pb_ss]
  have ok3 := pW_ok (t := t) (e := e) [32] q2 (by simp) o4
  have run3 : ∀ Q, R (d + 40) 163 0 [vR 153, vX 9, vX 9, vX 9, vX 9] [] (WS L (pz σ s p 0 o)) Q = R (d + 40) 163 17 [vR 153, vI v, vX 9, vX 9, vX 9] [] (WS L (pz σ s (pW t e [32] q2).1 (wb (pW t e [32] q2)) o)) Q := by
    intro Q
    rw [run2, wb_s, b163_10, p156 hC ht (by dsimp only; omega)]
    simp only [am_push_n]
  rcases w3 : pW t e [32] q2 with ⟨q3, _ | u3⟩
  · rw [w3] at run3 ok3
    have o6 := ok3.2
    dsimp only at o6
    rw [pb_nn]
    refine ⟨v, v1, fun a ha => by simp at ha, fun _ Q => ?_, fun h => by simp at h⟩
    rw [run3, wb_n]
    exact c163_17 (by dsimp only; omega)
  rw [w3] at run3
  rw [pb_ss]
  refine ⟨v, v1, fun a ha => ?_, fun h => by simp at h, fun _ Q => ?_⟩
  · simp only [Option.some.injEq] at ha
    rw [ev, ha]
  · rw [run3, wb_s]
theorem c165_22 {p : Nat} {u2 u3 : AV} {x v : Int} : R d 165 22 [vR 153, vI x, u2, u3] [vI v] (WS L (pz σ s p 1 o)) Q = Q none (WS L (pz σ s p 1 o)) := by
  rw [b165_22, pz_7, if_pos (by omega), b165_91]
theorem c165_17 {p : Nat} {u2 u3 : AV} {x : Int} (hp : p ≤ 1000) : R (d + 7) 165 17 [vR 153, vI x, u2, u3] [] (WS L (pz σ s p 1 o)) Q = Q none (WS L (pz σ s p 1 o)) := by
  rw [b165_17, p164n hp]
  simp only [am_push_s]
  exact c165_22
theorem c165_10 {p : Nat} {v : Int} {u1 u2 u3 : AV} (hp : p ≤ 1000) : R (d + 7) 165 10 [vR 153, u1, u2, u3] [vI v] (WS L (pz σ s p 1 o)) Q = Q none (WS L (pz σ s p 1 o)) := by
  rw [b165_10, p156n hp]
  simp only [am_push_n]
  exact c165_17 hp
theorem c165_6 {p : Nat} {u1 u2 u3 : AV} (hp : p ≤ 1000) : R (d + 7) 165 6 [vR 153, u1, u2, u3] [] (WS L (pz σ s p 1 o)) Q = Q none (WS L (pz σ s p 1 o)) := by
  rw [b165_6, p157n]
  simp only [am_push_s]
  exact c165_10 hp
theorem pH_r10 {p : Nat} (hC : RPC t e y σ) (ht : TP t e s) (hp : p ≤ e) (hh1 : hh t e p = 108) : ∃ v : Int, (0 ≤ v ∧ v ≤ 99) ∧ (∀ a, (pH t e [97, 99, 107, 32] (p + 1)).2 = some a → v = (a : Int)) ∧ ((pH t e [97, 99, 107, 32] (p + 1)).2 = none → ∀ Q, R (d + 40) 165 0 [vR 153, vX 9, vX 9, vX 9] [] (WS L (pz σ s p 0 o)) Q = Q none (WS L (pz σ s (pH t e [97, 99, 107, 32] (p + 1)).1 1 o))) ∧ ((pH t e [97, 99, 107, 32] (p + 1)).2.isSome → ∀ Q, R (d + 40) 165 0 [vR 153, vX 9, vX 9, vX 9] [] (WS L (pz σ s p 0 o)) Q = R (d + 40) 165 17 [vR 153, vI v, vX 9, vX 9] [] (WS L (pz σ s (pH t e [97, 99, 107, 32] (p + 1)).1 0 o)) Q) := by
  have he := hC.2.2.2.1
  have hpe := hh_lt hh1 (by omega)
  have g1 := fun Q : Option AV → AW → Prop => p155_10 (Q := Q) (d := d + 33) (L := L) (σ := σ) (s := s) (o := o) hC ht 5 0 p rfl (by omega)
  have eW : pW t e (([108, 97, 99, 107, 32] : List Int).drop 0) p = pW t e [97, 99, 107, 32] (p + 1) := by
    show pW t e (108 :: [97, 99, 107, 32]) p = _
    rw [pW, if_pos hh1]
  rw [eW] at g1
  have ok1 := pW_ok (t := t) (e := e) [97, 99, 107, 32] (p + 1) (by simp) (by omega)
  have run1 : ∀ Q, R (d + 40) 165 0 [vR 153, vX 9, vX 9, vX 9] [] (WS L (pz σ s p 0 o)) Q = R (d + 40) 165 6 [vR 153, vX 9, vX 9, vX 9] [] (WS L (pz σ s (pW t e [97, 99, 107, 32] (p + 1)).1 (wb (pW t e [97, 99, 107, 32] (p + 1))) o)) Q := by
    intro Q
    rw [b165_0, b155_0c]
    refine (g1 _).trans ?_
    simp only [am_push_n]
  unfold pH
  rcases w1 : pW t e [97, 99, 107, 32] (p + 1) with ⟨q1, _ | u1⟩
  · rw [w1] at run1 ok1
    have o2 := ok1.2
    dsimp only at o2
    rw [pb_nn]
    refine ⟨0, by omega, fun a ha => by simp at ha, fun _ Q => ?_, fun h => by simp at h⟩
    rw [run1, wb_n]
    exact c165_6 (by dsimp only; omega)
  rw [w1] at run1 ok1
  have o2 := ok1.2
  dsimp only at o2
  rw [pb_ss]
  obtain ⟨v, v1, v2, v3⟩ := p157 (d := d + 38) (L := L) (σ := σ) (s := s) (o := o) (p := q1) hC ht o2
  have ok2 := pNum_ok (t := t) (e := e) (p := q1) o2
  have run2 : ∀ Q, R (d + 40) 165 0 [vR 153, vX 9, vX 9, vX 9] [] (WS L (pz σ s p 0 o)) Q = R (d + 40) 165 10 [vR 153, vX 9, vX 9, vX 9] [vI v] (WS L (pz σ s (pNum t e q1).1 (wb (pNum t e q1)) o)) Q := by
    intro Q
    rw [run1, wb_s, b165_6]
    refine (v3 _).trans ?_
    simp only [am_push_s]
  rcases w2 : pNum t e q1 with ⟨q2, _ | v'⟩
  · rw [w2] at run2 ok2
    have o4 := ok2.2
    dsimp only at o4
    rw [pb_nn]
    refine ⟨v, v1, fun a ha => by simp at ha, fun _ Q => ?_, fun h => by simp at h⟩
    rw [run2, wb_n]
    exact c165_10 (by dsimp only; omega)
  rw [w2] at run2 ok2 v2
  have ev := v2 v' rfl
  have o4 := ok2.2
  dsimp only at o4
  rw [pb_ss]
  have ok3 := pW_ok (t := t) (e := e) [32] q2 (by simp) o4
  have run3 : ∀ Q, R (d + 40) 165 0 [vR 153, vX 9, vX 9, vX 9] [] (WS L (pz σ s p 0 o)) Q = R (d + 40) 165 17 [vR 153, vI v, vX 9, vX 9] [] (WS L (pz σ s (pW t e [32] q2).1 (wb (pW t e [32] q2)) o)) Q := by
    intro Q
    rw [run2, wb_s, b165_10, p156 hC ht (by dsimp only; omega)]
    simp only [am_push_n]
  rcases w3 : pW t e [32] q2 with ⟨q3, _ | u3⟩
  · rw [w3] at run3 ok3
    have o6 := ok3.2
    dsimp only at o6
    rw [pb_nn]
    refine ⟨v, v1, fun a ha => by simp at ha, fun _ Q => ?_, fun h => by simp at h⟩
    rw [run3, wb_n]
    exact c165_17 (by dsimp only; omega)
  rw [w3] at run3
  rw [pb_ss]
  refine ⟨v, v1, fun a ha => ?_, fun h => by simp at h, fun _ Q => ?_⟩
  · simp only [Option.some.injEq] at ha
    rw [ev, ha]
  · rw [run3, wb_s]
end RB3
