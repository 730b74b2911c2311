/-! the reference's reader of yards -/
def pz (σ : St) (s : Int → Int) (p w o : Int) : St := fun a => if a = 154 then s else if a = 153 then (fun j => if j = 5 then p else if j = 7 then w else if j = 8 then o else σ 153 j) else σ a
def RPC (t : Nat → Int) (e y : Nat) (σ : St) : Prop := σ 153 4 = (y : Int) ∧ y < 6 ∧ σ 153 6 = (e : Int) ∧ e ≤ 120 ∧ ∀ i : Nat, i < e → 0 ≤ t i ∧ t i < 256
def TP (t : Nat → Int) (e : Nat) (s : Int → Int) : Prop := ∀ i : Nat, i < e → s (10 + i) = t i
def wb {α : Type} (r : Nat × Option α) : Int := if r.2.isSome then 0 else 1
theorem wb_s {α : Type} {q : Nat} {a : α} : wb (q, some a) = 0 := rfl
theorem wb_n {α : Type} {q : Nat} : wb (q, (none : Option α)) = 1 := rfl
def em1 (s : Int → Int) (y : Nat) (x : Int) : Int → Int := up (up s (529 + 140 * y + s (523 + y)) x) (523 + y) (s (523 + y) + 1)
def em (s : Int → Int) (y : Nat) : List Int → Int → Int
  | [] => s
  | x :: l => em (em1 s y x) y l
theorem em_app {y : Nat} : ∀ (a b : List Int) (s : Int → Int), em s y (a ++ b) = em (em s y a) y b
  | [], b, s => rfl
  | x :: a, b, s => by
    show em (em1 s y x) y (a ++ b) = _
    rw [em_app a b]
    rfl
theorem em1_c {s : Int → Int} {y : Nat} {x : Int} : em1 s y x (523 + y) = s (523 + y) + 1 := up_e
theorem em1_o {s : Int → Int} {y : Nat} {x j : Int} (h1 : j ≠ 523 + y) (h2 : j ≠ 529 + 140 * y + s (523 + y)) : em1 s y x j = s j := by
  unfold em1
  rw [up_o h1, up_o h2]
theorem em_c {y : Nat} : ∀ (l : List Int) (s : Int → Int), em s y l (523 + y) = s (523 + y) + l.length
  | [], s => by simp [em]
  | x :: l, s => by
    rw [em, em_c l, em1_c]
    simp only [List.length_cons, Int.natCast_succ]
    omega
theorem em_o {y : Nat} {j : Int} (h1 : j ≠ 523 + y) : ∀ (l : List Int) (s : Int → Int), (j < 529 + 140 * y + s (523 + y) ∨ 529 + 140 * y + s (523 + y) + l.length ≤ j) → em s y l j = s j
  | [], s, _ => rfl
  | x :: l, s, h => by
    simp only [List.length_cons, Int.natCast_succ] at h
    rw [em, em_o h1 l (em1 s y x) (by rw [em1_c]; omega), em1_o h1 (by omega)]
theorem em_i {y : Nat} : ∀ (l : List Int) (s : Int → Int) (i : Nat) (x : Int), 0 ≤ s (523 + y) → y < 6 → l[i]? = some x → em s y l (529 + 140 * y + s (523 + y) + i) = x
  | [], s, i, x, _, _, h => by simp at h
  | z :: l, s, 0, x, h0, hy, h => by
    simp only [List.getElem?_cons_zero, Option.some.injEq] at h
    subst h
    rw [em, em_o (by omega) l (em1 s y z) (by rw [em1_c]; omega)]
    unfold em1
    rw [up_o (by omega), show 529 + 140 * (y : Int) + s (523 + y) + ((0 : Nat) : Int) = 529 + 140 * (y : Int) + s (523 + y) by omega, up_e]
  | z :: l, s, i + 1, x, h0, hy, h => by
    simp only [List.getElem?_cons_succ] at h
    have := em_i l (em1 s y z) i x (by rw [em1_c]; omega) hy h
    rw [em1_c] at this
    rw [em, ← this]
    congr 1
    omega
theorem em_lo {y : Nat} {j : Int} {l : List Int} {s : Int → Int} (h0 : 0 ≤ s (523 + y)) (hj : j < 523) : em s y l j = s j := em_o (by omega) l s (by omega)
theorem em_TP {t : Nat → Int} {e y : Nat} {l : List Int} {s : Int → Int} (h : TP t e s) (he : e ≤ 120) (h0 : 0 ≤ s (523 + y)) : TP t e (em s y l) := fun i hi => by rw [em_lo h0 (by omega)]; exact h i hi
section RB
variable {d L e y : Nat} {t : Nat → Int} {s : Int → Int} {σ : St} {o : Int} {Q : Option AV → AW → Prop}
theorem pz_s {p w : Int} : pz σ s p w o 154 = s := rfl
theorem pz_si {p w i : Int} : pz σ s p w o 154 i = s i := rfl
theorem pz_5 {p w : Int} : pz σ s p w o 153 5 = p := rfl
theorem pz_7 {p w : Int} : pz σ s p w o 153 7 = w := rfl
theorem pz_8 {p w : Int} : pz σ s p w o 153 8 = o := rfl
theorem pz_4 {p w : Int} : pz σ s p w o 153 4 = σ 153 4 := rfl
theorem pz_6 {p w : Int} : pz σ s p w o 153 6 = σ 153 6 := rfl
theorem pz_t4 {p w i z : Int} : st2 (pz σ s p w o) 154 i z = pz σ (up s i z) p w o := by
  funext a j
  unfold st2 pz up
  by_cases h : a = 154
  · rw [if_pos h, if_pos h]
    by_cases h2 : j = i
    · rw [if_pos ⟨h, h2⟩, if_pos h2]
    · rw [if_neg (fun x => h2 x.2), if_neg h2]
  · rw [if_neg (fun x => h x.1), if_neg h, if_neg h]
theorem pz_t5 {p w z : Int} : st2 (pz σ s p w o) 153 5 z = pz σ s z w o := by
  funext a j
  unfold st2 pz
  by_cases h : a = 153
  · subst h
    by_cases h2 : j = 5 <;> simp [h2]
  · rw [if_neg (fun x => h x.1), if_neg h, if_neg h]
theorem pz_t7 {p w z : Int} : st2 (pz σ s p w o) 153 7 z = pz σ s p z o := by
  funext a j
  unfold st2 pz
  by_cases h : a = 153
  · subst h
    by_cases h2 : j = 7 <;> simp [h2]
  · rw [if_neg (fun x => h x.1), if_neg h, if_neg h]
theorem pz_t8 {p w z : Int} : st2 (pz σ s p w o) 153 8 z = pz σ s p w z := by
  funext a j
  unfold st2 pz
  by_cases h : a = 153
  · subst h
    by_cases h2 : j = 8 <;> simp [h2]
  · rw [if_neg (fun x => h x.1), if_neg h, if_neg h]
theorem p153 {p : Nat} {w : Int} (h : RPC t e y σ) (ht : TP t e s) : R d 153 0 [vR 153] [] (WS L (pz σ s p w o)) Q = Q (some (vI (hh t e p))) (WS L (pz σ s p w o)) := by
  obtain ⟨h1, h2, h3, h4, h5⟩ := h
  rw [b153_0, pz_6, h3, pz_5]
  unfold hh
  by_cases q : p < e
  · rw [if_neg (by omega), if_pos q, b153_11 (by rw [pz_5]; omega) (by rw [pz_5]; omega) (by rw [pz_5]; omega), b153_27, pz_5, pz_si, ht p q]
  · rw [if_pos (by omega), if_neg q, b153_26, b153_27]
theorem pW_1 {c : Int} {p : Nat} : pW t e [c] p = if hh t e p = c then (p + 1, some ()) else (p, none) := rfl
theorem p156 {p : Nat} {c : Int} (h : RPC t e y σ) (ht : TP t e s) (hp : p ≤ 1000) : R (d + 1) 156 0 [vR 153, vI c] [] (WS L (pz σ s p 0 o)) Q = Q none (WS L (pz σ s (pW t e [c] p).1 (wb (pW t e [c] p)) o)) := by
  rw [b156_0, pz_7, if_neg (by simp), b156_8, p153 h ht]
  simp only [am_push_s]
  rw [b156_12, pW_1]
  by_cases q : hh t e p = c
  · rw [if_pos q, b156_20, b156_21 rfl, pz_t7, b156_24, pz_7, if_pos rfl, pz_5, b156_40, b156_41 (by omega), pz_t5, b156_45, if_pos q]
    rfl
  · rw [if_neg q, b156_16, b156_21 rfl, pz_t7, b156_24, pz_7, if_neg (by omega), pz_5, b156_36, b156_41 (by omega), pz_t5, b156_45, if_neg q, Int.add_zero]
    rfl
theorem p156n {p : Nat} {c : Int} (hp : p ≤ 1000) : R (d + 1) 156 0 [vR 153, vI c] [] (WS L (pz σ s p 1 o)) Q = Q none (WS L (pz σ s p 1 o)) := by
  rw [b156_0, pz_7, if_pos (by simp), b156_16, b156_21 rfl, pz_t7, b156_24, pz_7, if_neg (by omega), pz_5, b156_36, b156_41 (by omega), pz_t5, b156_45, Int.add_zero]
theorem p161 {p : Nat} {x : Int} (h : RPC t e y σ) (h0 : 0 ≤ s (523 + y)) (h1 : s (523 + y) < 140) : R d 161 0 [vR 153, vI x] [] (WS L (pz σ s p 0 o)) Q = Q none (WS L (pz σ (em1 s y x) p 0 o)) := by
  obtain ⟨g1, g2, g3, g4, g5⟩ := h
  have e1 : ∀ s' : Int → Int, pz σ s' p 0 o 154 (523 + (pz σ s' p 0 o 153 4)) = s' (523 + y) := by
    intro s'
    rw [pz_4, g1, pz_si]
  rw [b161_0, pz_7, if_neg (by simp), b161_7 (by rw [pz_4]; omega) (by rw [pz_4]; omega) (by rw [pz_4]; omega) (by rw [pz_4]; omega) (by rw [pz_4]; omega) (by rw [e1, pz_4]; omega) (by rw [e1, pz_4]; omega) (by rw [e1, pz_4]; omega), e1, pz_4, g1, pz_t4]
  have e2 : (up s (529 + 140 * (y : Int) + s (523 + y)) x) (523 + y) = s (523 + y) := up_o (by omega)
  rw [b161_39 (by rw [pz_4]; omega) (by rw [pz_4]; omega) (by rw [pz_4]; omega) (by rw [e1, e2]; omega), e1, e2, pz_4, g1, pz_t4, b161_56]
  rfl
theorem p161n {p : Nat} {x : Int} : R d 161 0 [vR 153, vI x] [] (WS L (pz σ s p 1 o)) Q = Q none (WS L (pz σ s p 1 o)) := by
  rw [b161_0, pz_7, if_pos (by simp), b161_56]
theorem p164 {p lim : Nat} (h : RPC t e y σ) (ht : TP t e s) (hp : p ≤ 1000) (hl : 1 ≤ lim ∧ lim ≤ 10) : ∃ v : Int, RG v ∧ (∀ a, (pDig t e lim p).2 = some a → v = (a : Int)) ∧ ∀ Q, R (d + 1) 164 0 [vR 153, vI ((lim : Int) - 1), vX 9] [] (WS L (pz σ s p 0 o)) Q = Q (some (vI v)) (WS L (pz σ s (pDig t e lim p).1 (wb (pDig t e lim p)) o)) := by
  have hb : -1 ≤ hh t e p ∧ hh t e p < 256 := by
    unfold hh
    split
    · have := h.2.2.2.2 p (by assumption)
      omega
    · omega
  have start : ∀ Q, R (d + 1) 164 0 [vR 153, vI ((lim : Int) - 1), vX 9] [] (WS L (pz σ s p 0 o)) Q = if 48 ≤ hh t e p ∧ hh t e p < 48 + (lim : Int) then R (d + 1) 164 28 [vR 153, vI ((lim : Int) - 1), vX 9] [vR 153] (WS L (pz σ s p 0 o)) Q else R (d + 1) 164 24 [vR 153, vI ((lim : Int) - 1), vX 9] [vR 153] (WS L (pz σ s p 0 o)) Q := by
    intro Q
    rw [b164_0, pz_7, if_neg (by simp), b164_8, p153 h ht]
    simp only [am_push_s]
    rw [b164_12 (by omega), r145]
    simp only [am_push_s]
    rw [b164_21]
    by_cases q : 48 ≤ hh t e p ∧ hh t e p < 48 + (lim : Int)
    · rw [if_pos q, tI_t (by omega), if_pos (by omega)]
    · rw [if_neg q, tI_f (by omega), if_neg (by omega)]
  unfold pDig
  by_cases q : 48 ≤ hh t e p ∧ hh t e p < 48 + (lim : Int)
  · rw [if_pos q]
    refine ⟨hh t e p - 48, by unfold RG; omega, fun a ha => ?_, fun Q => ?_⟩
    · simp only [Option.some.injEq] at ha
      omega
    · rw [start, if_pos q, b164_28, b164_29 rfl, pz_t7, b164_32, pz_7, if_pos rfl, b164_43, p153 h ht]
      simp only [am_push_s]
      rw [b164_47 (by omega), b164_50, pz_7, if_pos rfl, pz_5, b164_67, b164_68 (by omega), pz_t5, b164_72]
      rfl
  · rw [if_neg q]
    refine ⟨0, by unfold RG; omega, fun a ha => by simp at ha, fun Q => ?_⟩
    rw [start, if_neg q, b164_24, b164_29 rfl, pz_t7, b164_32, pz_7, if_neg (by omega), b164_39, b164_50, pz_7, if_neg (by omega), pz_5, b164_63, b164_68 (by omega), pz_t5, b164_72, Int.add_zero]
    rfl
theorem p164n {p : Nat} {x : Int} (hp : p ≤ 1000) : R (d + 1) 164 0 [vR 153, vI x, vX 9] [] (WS L (pz σ s p 1 o)) Q = Q (some (vI 0)) (WS L (pz σ s p 1 o)) := by
  rw [b164_0, pz_7, if_pos (by simp), b164_24, b164_29 rfl, pz_t7, b164_32, pz_7, if_neg (by omega), b164_39, b164_50, pz_7, if_neg (by omega), pz_5, b164_63, b164_68 (by omega), pz_t5, b164_72, Int.add_zero]
theorem p157n {p : Nat} : R (d + 1) 157 0 [vR 153, vX 9, vX 9] [] (WS L (pz σ s p 1 o)) Q = Q (some (vI 0)) (WS L (pz σ s p 1 o)) := by
  rw [b157_0, pz_7, if_pos (by simp), b157_22, b157_27 rfl, pz_t7, b157_30, b157_34, if_neg (by omega), b157_39, pz_7, if_pos (by omega), b157_97]
theorem hh_b {p : Nat} (h : RPC t e y σ) : -1 ≤ hh t e p ∧ hh t e p < 256 := by
  unfold hh
  split
  · have := h.2.2.2.2 p (by assumption)
    omega
  · omega
theorem p157_i {p : Nat} {v : Int} {i : Int} (h : RPC t e y σ) (ht : TP t e s) (hp : p ≤ e) (hv : 0 ≤ v ∧ v ≤ 9) (hi : i = 0 ∨ i = 1) : R (d + 1) 157 34 [vR 153, vI v, vI i] [] (WS L (pz σ s p 0 o)) Q = if (48 ≤ hh t e p ∧ hh t e p ≤ 57) ∧ (i = 0 ∨ 0 < v) then R (d + 1) 157 34 [vR 153, vI (10 * v + hh t e p - 48), vI (i + 1)] [] (WS L (pz σ s ((p + 1 : Nat) : Int) 0 o)) Q else Q (some (vI v)) (WS L (pz σ s p 0 o)) := by
  have hb := hh_b (p := p) h
  have he := h.2.2.2.1
  rw [b157_34, if_neg (by omega), b157_39, pz_7, if_neg (by omega), b157_46, p153 h ht]
  simp only [am_push_s]
  rw [b157_50, r145]
  simp only [am_push_s]
  rw [b157_57]
  have step : R (d + 1) 157 68 [vR 153, vI v, vI i] [] (WS L (pz σ s p 0 o)) Q = R (d + 1) 157 34 [vR 153, vI (10 * v + hh t e p - 48), vI (i + 1)] [] (WS L (pz σ s ((p + 1 : Nat) : Int) 0 o)) Q := by
    rw [b157_68 (by omega), p153 h ht]
    simp only [am_push_s]
    rw [b157_76 (by omega) (by omega) (by rw [pz_5]; omega), pz_5, pz_t5, b157_91 (by omega)]
    rfl
  by_cases q : 48 ≤ hh t e p ∧ hh t e p ≤ 57
  · rw [tI_t q, if_neg (by omega), b157_60]
    rcases hi with rfl | rfl
    · have : (48 ≤ hh t e p ∧ hh t e p ≤ 57) ∧ ((0 : Int) = 0 ∨ 0 < v) := ⟨q, Or.inl rfl⟩
      rw [if_pos rfl, if_pos this, step]
    · rw [if_neg (by omega), b157_64]
      by_cases q2 : 0 < v
      · have : (48 ≤ hh t e p ∧ hh t e p ≤ 57) ∧ ((1 : Int) = 0 ∨ 0 < v) := ⟨q, Or.inr q2⟩
        rw [if_neg (by omega), if_pos this, step]
      · rw [if_pos (by omega), b157_97, if_neg (by omega)]
  · rw [tI_f q, if_pos rfl, b157_97, if_neg (by omega)]
theorem p157_2 {p : Nat} {v : Int} : R (d + 1) 157 34 [vR 153, vI v, vI 2] [] (WS L (pz σ s p 0 o)) Q = Q (some (vI v)) (WS L (pz σ s p 0 o)) := by
  rw [b157_34, if_pos (by omega), b157_97]
theorem p157 {p : Nat} (h : RPC t e y σ) (ht : TP t e s) (hp : p ≤ e) : ∃ v : Int, (0 ≤ v ∧ v ≤ 99) ∧ (∀ a, (pNum t e p).2 = some a → v = (a : Int)) ∧ ∀ Q, R (d + 1) 157 0 [vR 153, vX 9, vX 9] [] (WS L (pz σ s p 0 o)) Q = Q (some (vI v)) (WS L (pz σ s (pNum t e p).1 (wb (pNum t e p)) o)) := by
  have hb := hh_b (p := p) h
  have hb1 := hh_b (p := p + 1) h
  have start : ∀ Q, R (d + 1) 157 0 [vR 153, vX 9, vX 9] [] (WS L (pz σ s p 0 o)) Q = if 48 ≤ hh t e p ∧ hh t e p ≤ 57 then R (d + 1) 157 34 [vR 153, vI 0, vI 0] [] (WS L (pz σ s p 0 o)) Q else Q (some (vI 0)) (WS L (pz σ s p 1 o)) := by
    intro Q
    rw [b157_0, pz_7, if_neg (by simp), b157_8, p153 h ht]
    simp only [am_push_s]
    rw [b157_12, r145]
    simp only [am_push_s]
    rw [b157_19]
    by_cases q : 48 ≤ hh t e p ∧ hh t e p ≤ 57
    · rw [tI_t q, if_pos (by omega), if_pos q, b157_26, b157_27 rfl, pz_t7, b157_30]
    · rw [tI_f q, if_neg (by omega), if_neg q, b157_22, b157_27 rfl, pz_t7, b157_30, b157_34, if_neg (by omega), b157_39, pz_7, if_pos (by omega), b157_97]
  unfold pNum
  by_cases q : 48 ≤ hh t e p ∧ hh t e p ≤ 57
  · have hp1 : p < e := by
      refine Nat.lt_of_not_le (fun z => ?_)
      have : hh t e p = -1 := by unfold hh; rw [if_neg (by omega)]
      omega
    have q0 : (48 ≤ hh t e p ∧ hh t e p ≤ 57) ∧ ((0 : Int) = 0 ∨ (0 : Int) < 0) := ⟨q, Or.inl rfl⟩
    have s1 : ∀ Q, R (d + 1) 157 0 [vR 153, vX 9, vX 9] [] (WS L (pz σ s p 0 o)) Q = R (d + 1) 157 34 [vR 153, vI (hh t e p - 48), vI 1] [] (WS L (pz σ s ((p + 1 : Nat) : Int) 0 o)) Q := by
      intro Q
      rw [start, if_pos q, p157_i h ht hp (by omega) (by omega), if_pos q0, show 10 * (0 : Int) + hh t e p - 48 = hh t e p - 48 by omega]
      rfl
    rw [if_pos q]
    by_cases q2 : hh t e p ≠ 48 ∧ 48 ≤ hh t e (p + 1) ∧ hh t e (p + 1) ≤ 57
    · have q3 : (48 ≤ hh t e (p + 1) ∧ hh t e (p + 1) ≤ 57) ∧ ((1 : Int) = 0 ∨ 0 < hh t e p - 48) := ⟨q2.2, Or.inr (by omega)⟩
      rw [if_pos q2]
      refine ⟨10 * (hh t e p - 48) + hh t e (p + 1) - 48, by omega, fun a ha => ?_, fun Q => ?_⟩
      · simp only [Option.some.injEq] at ha
        omega
      · rw [s1, p157_i h ht (by omega) (by omega) (by omega), if_pos q3]
        refine p157_2.trans ?_
        rfl
    · rw [if_neg q2]
      refine ⟨hh t e p - 48, by omega, fun a ha => ?_, fun Q => ?_⟩
      · simp only [Option.some.injEq] at ha
        omega
      · rw [s1, p157_i h ht (by omega) (by omega) (by omega), if_neg (by omega)]
        rfl
  · rw [if_neg q]
    refine ⟨0, by omega, fun a ha => by simp at ha, fun Q => ?_⟩
    rw [start, if_neg q]
    rfl
theorem p155n_6 {p : Nat} (hp : p ≤ 1000) : ∀ m i : Nat, i + m = 5 → R (d + 6) 155 2 [vR 153, vR 6, vI i] [] (WS L (pz σ s p 1 o)) Q = Q none (WS L (pz σ s p 1 o)) := by
  intro m
  induction m with
  | zero =>
    intro i hi
    rw [b155_2a, r22_6]
    simp only [am_push_s]
    rw [b155_7a, if_pos (by omega), b155_25a]
  | succ m ih =>
    intro i hi
    rw [b155_2a, r22_6]
    simp only [am_push_s]
    rw [b155_7a, if_neg (by omega), b155_10a, r24_6 (by omega)]
    simp only [am_push_s]
    rw [b155_16a, p156n hp]
    simp only [am_push_n]
    rw [b155_19a (by omega)]
    exact ih (i + 1) (by omega)
theorem p155_6 (h : RPC t e y σ) (ht : TP t e s) : ∀ (m i p : Nat), i + m = 5 → p + m ≤ 1000 → R (d + 6) 155 2 [vR 153, vR 6, vI i] [] (WS L (pz σ s p 0 o)) Q = Q none (WS L (pz σ s (pW t e ([109, 97, 114, 107, 32].drop i) p).1 (wb (pW t e ([109, 97, 114, 107, 32].drop i) p)) o)) := by
  intro m
  induction m with
  | zero =>
    intro i p hi hp
    obtain rfl : i = 5 := by omega
    rw [b155_2a, r22_6]
    simp only [am_push_s]
    rw [b155_7a, if_pos (by omega), b155_25a]
    rfl
  | succ m ih =>
    intro i p hi hp
    have hd : ([109, 97, 114, 107, 32] : List Int).drop i = ([109, 97, 114, 107, 32] : List Int).getD i 0 :: ([109, 97, 114, 107, 32] : List Int).drop (i + 1) := drop_s (by show i < 5; omega)
    have hb : (am_sbytes 14).getD i 0 = ([109, 97, 114, 107, 32] : List Int).getD i 0 := by
      have : i = 0 ∨ i = 1 ∨ i = 2 ∨ i = 3 ∨ i = 4 := by omega
      rcases this with rfl | rfl | rfl | rfl | rfl <;> rfl
    rw [b155_2a, r22_6]
    simp only [am_push_s]
    rw [b155_7a, if_neg (by omega), b155_10a, r24_6 (by omega)]
    simp only [am_push_s]
    rw [b155_16a, hb, p156 h ht (by omega)]
    simp only [am_push_n]
    rw [b155_19a (by omega), pW_1, hd, pW]
    by_cases q : hh t e p = ([109, 97, 114, 107, 32] : List Int).getD i 0
    · rw [if_pos q, if_pos q]
      exact ih (i + 1) (p + 1) (by omega) (by omega)
    · rw [if_neg q, if_neg q]
      exact p155n_6 (by omega) m (i + 1) (by omega)
theorem p155n_9 {p : Nat} (hp : p ≤ 1000) : ∀ m i : Nat, i + m = 5 → R (d + 6) 155 2 [vR 153, vR 9, vI i] [] (WS L (pz σ s p 1 o)) Q = Q none (WS L (pz σ s p 1 o)) := by
  intro m
  induction m with
  | zero =>
    intro i hi
    rw [b155_2b, r22_9]
    simp only [am_push_s]
    rw [b155_7b, if_pos (by omega), b155_25b]
  | succ m ih =>
    intro i hi
    rw [b155_2b, r22_9]
    simp only [am_push_s]
    rw [b155_7b, if_neg (by omega), b155_10b, r24_9 (by omega)]
    simp only [am_push_s]
    rw [b155_16b, p156n hp]
    simp only [am_push_n]
    rw [b155_19b (by omega)]
    exact ih (i + 1) (by omega)
theorem p155_9 (h : RPC t e y σ) (ht : TP t e s) : ∀ (m i p : Nat), i + m = 5 → p + m ≤ 1000 → R (d + 6) 155 2 [vR 153, vR 9, vI i] [] (WS L (pz σ s p 0 o)) Q = Q none (WS L (pz σ s (pW t e ([98, 111, 116, 104, 32].drop i) p).1 (wb (pW t e ([98, 111, 116, 104, 32].drop i) p)) o)) := by
  intro m
  induction m with
  | zero =>
    intro i p hi hp
    obtain rfl : i = 5 := by omega
    rw [b155_2b, r22_9]
    simp only [am_push_s]
    rw [b155_7b, if_pos (by omega), b155_25b]
    rfl
  | succ m ih =>
    intro i p hi hp
    have hd : ([98, 111, 116, 104, 32] : List Int).drop i = ([98, 111, 116, 104, 32] : List Int).getD i 0 :: ([98, 111, 116, 104, 32] : List Int).drop (i + 1) := drop_s (by show i < 5; omega)
    have hb : (am_sbytes 17).getD i 0 = ([98, 111, 116, 104, 32] : List Int).getD i 0 := by
      have : i = 0 ∨ i = 1 ∨ i = 2 ∨ i = 3 ∨ i = 4 := by omega
      rcases this with rfl | rfl | rfl | rfl | rfl <;> rfl
    rw [b155_2b, r22_9]
    simp only [am_push_s]
    rw [b155_7b, if_neg (by omega), b155_10b, r24_9 (by omega)]
    simp only [am_push_s]
    rw [b155_16b, hb, p156 h ht (by omega)]
    simp only [am_push_n]
    rw [b155_19b (by omega), pW_1, hd, pW]
    by_cases q : hh t e p = ([98, 111, 116, 104, 32] : List Int).getD i 0
    · rw [if_pos q, if_pos q]
      exact ih (i + 1) (p + 1) (by omega) (by omega)
    · rw [if_neg q, if_neg q]
      exact p155n_9 (by omega) m (i + 1) (by omega)
theorem p155n_10 {p : Nat} (hp : p ≤ 1000) : ∀ m i : Nat, i + m = 5 → R (d + 6) 155 2 [vR 153, vR 10, vI i] [] (WS L (pz σ s p 1 o)) Q = Q none (WS L (pz σ s p 1 o)) := by
  intro m
  induction m with
  | zero =>
    intro i hi
    rw [b155_2c, r22_10]
    simp only [am_push_s]
    rw [b155_7c, if_pos (by omega), b155_25c]
  | succ m ih =>
    intro i hi
    rw [b155_2c, r22_10]
    simp only [am_push_s]
    rw [b155_7c, if_neg (by omega), b155_10c, r24_10 (by omega)]
    simp only [am_push_s]
    rw [b155_16c, p156n hp]
    simp only [am_push_n]
    rw [b155_19c (by omega)]
    exact ih (i + 1) (by omega)
theorem p155_10 (h : RPC t e y σ) (ht : TP t e s) : ∀ (m i p : Nat), i + m = 5 → p + m ≤ 1000 → R (d + 6) 155 2 [vR 153, vR 10, vI i] [] (WS L (pz σ s p 0 o)) Q = Q none (WS L (pz σ s (pW t e ([108, 97, 99, 107, 32].drop i) p).1 (wb (pW t e ([108, 97, 99, 107, 32].drop i) p)) o)) := by
  intro m
  induction m with
  | zero =>
    intro i p hi hp
    obtain rfl : i = 5 := by omega
    rw [b155_2c, r22_10]
    simp only [am_push_s]
    rw [b155_7c, if_pos (by omega), b155_25c]
    rfl
  | succ m ih =>
    intro i p hi hp
    have hd : ([108, 97, 99, 107, 32] : List Int).drop i = ([108, 97, 99, 107, 32] : List Int).getD i 0 :: ([108, 97, 99, 107, 32] : List Int).drop (i + 1) := drop_s (by show i < 5; omega)
    have hb : (am_sbytes 18).getD i 0 = ([108, 97, 99, 107, 32] : List Int).getD i 0 := by
      have : i = 0 ∨ i = 1 ∨ i = 2 ∨ i = 3 ∨ i = 4 := by omega
      rcases this with rfl | rfl | rfl | rfl | rfl <;> rfl
    rw [b155_2c, r22_10]
    simp only [am_push_s]
    rw [b155_7c, if_neg (by omega), b155_10c, r24_10 (by omega)]
    simp only [am_push_s]
    rw [b155_16c, hb, p156 h ht (by omega)]
    simp only [am_push_n]
    rw [b155_19c (by omega), pW_1, hd, pW]
    by_cases q : hh t e p = ([108, 97, 99, 107, 32] : List Int).getD i 0
    · rw [if_pos q, if_pos q]
      exact ih (i + 1) (p + 1) (by omega) (by omega)
    · rw [if_neg q, if_neg q]
      exact p155n_10 (by omega) m (i + 1) (by omega)
theorem p162_7i {p i : Nat} {w : Int} (h : RPC t e y σ) (ht : TP t e s) (hp : p ≤ e) (hi : i < 4) : R (d + 5) 162 2 [vR 153, vR 7, vI i] [] (WS L (pz σ s p w o)) Q = if hh t e p = (am_sbytes 15).getD i 0 then Q (some (vI i)) (WS L (pz σ s ((p + 1 : Nat) : Int) w o)) else R (d + 5) 162 2 [vR 153, vR 7, vI ((i + 1 : Nat) : Int)] [] (WS L (pz σ s p w o)) Q := by
  have he := h.2.2.2.1
  rw [b162_2a, r22_7]
  simp only [am_push_s]
  rw [b162_7a, if_neg (by omega), b162_10a, p153 h ht]
  simp only [am_push_s]
  rw [b162_14a, r24_7 (by omega)]
  simp only [am_push_s]
  rw [b162_19a]
  by_cases q : hh t e p = (am_sbytes 15).getD i 0
  · rw [if_neg (by simpa using q), if_pos q, b162_22a (by rw [pz_5]; omega), pz_5, pz_t5, b162_32a]
    rfl
  · rw [if_pos q, if_neg q, b162_34a (by omega)]
    rfl
theorem p162_7e {p : Nat} {w : Int} : R (d + 5) 162 2 [vR 153, vR 7, vI 4] [] (WS L (pz σ s p w o)) Q = Q (some (vI (-1))) (WS L (pz σ s p w o)) := by
  rw [b162_2a, r22_7]
  simp only [am_push_s]
  rw [b162_7a, if_pos (by omega), b162_40a]
theorem p162_8i {p i : Nat} {w : Int} (h : RPC t e y σ) (ht : TP t e s) (hp : p ≤ e) (hi : i < 3) : R (d + 5) 162 2 [vR 153, vR 8, vI i] [] (WS L (pz σ s p w o)) Q = if hh t e p = (am_sbytes 16).getD i 0 then Q (some (vI i)) (WS L (pz σ s ((p + 1 : Nat) : Int) w o)) else R (d + 5) 162 2 [vR 153, vR 8, vI ((i + 1 : Nat) : Int)] [] (WS L (pz σ s p w o)) Q := by
  have he := h.2.2.2.1
  rw [b162_2b, r22_8]
  simp only [am_push_s]
  rw [b162_7b, if_neg (by omega), b162_10b, p153 h ht]
  simp only [am_push_s]
  rw [b162_14b, r24_8 (by omega)]
  simp only [am_push_s]
  rw [b162_19b]
  by_cases q : hh t e p = (am_sbytes 16).getD i 0
  · rw [if_neg (by simpa using q), if_pos q, b162_22b (by rw [pz_5]; omega), pz_5, pz_t5, b162_32b]
    rfl
  · rw [if_pos q, if_neg q, b162_34b (by omega)]
    rfl
theorem p162_8e {p : Nat} {w : Int} : R (d + 5) 162 2 [vR 153, vR 8, vI 3] [] (WS L (pz σ s p w o)) Q = Q (some (vI (-1))) (WS L (pz σ s p w o)) := by
  rw [b162_2b, r22_8]
  simp only [am_push_s]
  rw [b162_7b, if_pos (by omega), b162_40b]
theorem p162_7 {p : Nat} {w : Int} (h : RPC t e y σ) (ht : TP t e s) (hp : p ≤ e) : R (d + 5) 162 0 [vR 153, vR 7, vX 9] [] (WS L (pz σ s p w o)) Q = match whC (hh t e p) with
    | some v => Q (some (vI v)) (WS L (pz σ s ((p + 1 : Nat) : Int) w o))
    | none => Q (some (vI (-1))) (WS L (pz σ s p w o)) := by
  rw [b162_0a]
  refine (p162_7i (i := 0) h ht hp (by omega)).trans ?_
  rw [show (am_sbytes 15).getD 0 0 = 112 from rfl]
  unfold whC
  by_cases q1 : hh t e p = 112
  · rw [if_pos q1, if_pos q1]
  rw [if_neg q1, if_neg q1, p162_7i h ht hp (by omega), show (am_sbytes 15).getD (0 + 1) 0 = 115 from rfl]
  by_cases q2 : hh t e p = 115
  · rw [if_pos q2, if_pos q2]
  rw [if_neg q2, if_neg q2, p162_7i h ht hp (by omega), show (am_sbytes 15).getD (0 + 1 + 1) 0 = 102 from rfl]
  by_cases q3 : hh t e p = 102
  · rw [if_pos q3, if_pos q3]
  rw [if_neg q3, if_neg q3, p162_7i h ht hp (by omega), show (am_sbytes 15).getD (0 + 1 + 1 + 1) 0 = 110 from rfl]
  by_cases q4 : hh t e p = 110
  · rw [if_pos q4, if_pos q4]
  rw [if_neg q4, if_neg q4]
  exact p162_7e
theorem p162_8 {p : Nat} {w : Int} (h : RPC t e y σ) (ht : TP t e s) (hp : p ≤ e) : R (d + 5) 162 0 [vR 153, vR 8, vX 9] [] (WS L (pz σ s p w o)) Q = if 60 ≤ hh t e p ∧ hh t e p ≤ 62 then Q (some (vI (((hh t e p - 60).toNat : Nat) : Int))) (WS L (pz σ s ((p + 1 : Nat) : Int) w o)) else Q (some (vI (-1))) (WS L (pz σ s p w o)) := by
  rw [b162_0b]
  refine (p162_8i (i := 0) h ht hp (by omega)).trans ?_
  rw [show (am_sbytes 16).getD 0 0 = 60 from rfl]
  by_cases q1 : hh t e p = 60
  · rw [if_pos q1, if_pos (by omega), q1]
    rfl
  rw [if_neg q1, p162_8i h ht hp (by omega), show (am_sbytes 16).getD (0 + 1) 0 = 61 from rfl]
  by_cases q2 : hh t e p = 61
  · rw [if_pos q2, if_pos (by omega), q2]
    rfl
  rw [if_neg q2, p162_8i h ht hp (by omega), show (am_sbytes 16).getD (0 + 1 + 1) 0 = 62 from rfl]
  by_cases q3 : hh t e p = 62
  · rw [if_pos q3, if_pos (by omega), q3]
    rfl
  rw [if_neg q3, if_neg (by omega)]
  exact p162_8e
end RB
