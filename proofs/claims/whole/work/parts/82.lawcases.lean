/-! the cases of the law (printed by wip/whole/gen_cases.py) -/
section LC
variable {d L i : Nat} {scr : Int → Int} {σ : St}
theorem law_188 {x : Int} (hS : ∀ j, RG (scr j)) (h : LI scr i σ) (hi : i < 1900) (hx : 0 ≤ x ∧ x + 3 < (L : Int) ∧ (L : Int) < 100000) : ∃ σ2 : St, LI scr (i + 1) σ2 ∧ ∀ Q, R (d + 60) 232 188 [vR 0, vR 19, vR 153, vI x] [] (WS L σ) Q = R (d + 60) 232 1189 [vR 0, vR 19, vR 153, vI x] [] (WS L σ2) Q := by
  have h' := h
  obtain ⟨s, cl, l, hw, hr, hE, hv, hv7, hq, hI, hT, h0⟩ := h
  have hC : HC (10 * i) s cl σ := ⟨hw, hr, hE, by omega, by omega, by omega⟩
  obtain ⟨σ1, f1, f2⟩ := k12 (d := d + 29) (L := L) (p := scr (x + 1)) (st := scr (x + 2)) (f := scr (x + 3)) (hS _) hC
  have q1 := CP_RQ f1 hq
  have e4 : σ1 154 = s := q1.1
  have e0 : σ 0 = scr := h0
  have e1 : σ1 0 = scr := by rw [f1.1 0 (by omega)]; exact h0
  have g2 := fun Q : Option AV → AW → Prop => q144 (d := d + 54) (L := L) (Q := Q) (σ := σ1) (s := s) (p := scr (x + 1)) (st := scr (x + 2)) (f := scr (x + 3)) hw
  simp only [ss_self e4] at g2
  refine Exists.intro (setS σ1 (uBoy s (scr (x + 1)) (scr (x + 2)) (scr (x + 3)))) (And.intro (LI_s h' hw hr hE hv hv7 hq hI hT h0 (WF_boy hw) f1 (RQ_set (RQ_le q1 (by omega))) FG_set) (fun Q => ?_))
  rw [b232_188 (by omega) (by omega) (by omega) (by omega) (by omega) (by omega) (by omega) (by omega) (by omega), e0]
  refine (f2 _).trans ?_
  simp only [am_push_s]
  rw [b232_207 (by omega) (by omega) (by omega) (by omega) (by omega) (by omega) (by omega) (by omega) (by omega), e1]
  refine (g2 _).trans ?_
  simp only [am_push_s]
  rw [b232_226, if_pos rfl]
theorem law_231 {x : Int} (hS : ∀ j, RG (scr j)) (h : LI scr i σ) (hi : i < 1900) (hx : 0 ≤ x ∧ x + 3 < (L : Int) ∧ (L : Int) < 100000) : ∃ σ2 : St, LI scr (i + 1) σ2 ∧ ∀ Q, R (d + 60) 232 231 [vR 0, vR 19, vR 153, vI x] [] (WS L σ) Q = R (d + 60) 232 1189 [vR 0, vR 19, vR 153, vI x] [] (WS L σ2) Q := by
  have h' := h
  obtain ⟨s, cl, l, hw, hr, hE, hv, hv7, hq, hI, hT, h0⟩ := h
  have hC : HC (10 * i) s cl σ := ⟨hw, hr, hE, by omega, by omega, by omega⟩
  obtain ⟨σ1, f1, f2⟩ := k44 (d := d + 29) (L := L) (x := scr (x + 1)) (y := scr (x + 2)) hC
  have q1 := CP_RQ f1 hq
  have e4 : σ1 154 = s := q1.1
  have e0 : σ 0 = scr := h0
  have e1 : σ1 0 = scr := by rw [f1.1 0 (by omega)]; exact h0
  have g2 := fun Q : Option AV → AW → Prop => q146 (d := d + 54) (L := L) (Q := Q) (σ := σ1) (s := s) (x := scr (x + 1)) (y := scr (x + 2)) hw
  rw [ss_self e4] at g2
  refine Exists.intro σ1 (And.intro (LI_s h' hw hr hE hv hv7 hq hI hT h0 hw f1 (RQ_le q1 (by omega)) FG_r) (fun Q => ?_))
  rw [b232_231 (by omega) (by omega) (by omega) (by omega) (by omega) (by omega), e0]
  refine (f2 _).trans ?_
  simp only [am_push_s]
  rw [b232_245 (by omega) (by omega) (by omega) (by omega) (by omega) (by omega), e1]
  refine (g2 _).trans ?_
  simp only [am_push_s]
  rw [b232_259, if_pos rfl]
theorem law_264 {x : Int} (hS : ∀ j, RG (scr j)) (h : LI scr i σ) (hi : i < 1900) (hx : 0 ≤ x ∧ x + 3 < (L : Int) ∧ (L : Int) < 100000) : ∃ σ2 : St, LI scr (i + 1) σ2 ∧ ∀ Q, R (d + 60) 232 264 [vR 0, vR 19, vR 153, vI x] [] (WS L σ) Q = R (d + 60) 232 1189 [vR 0, vR 19, vR 153, vI x] [] (WS L σ2) Q := by
  have h' := h
  obtain ⟨s, cl, l, hw, hr, hE, hv, hv7, hq, hI, hT, h0⟩ := h
  have hC : HC (10 * i) s cl σ := ⟨hw, hr, hE, by omega, by omega, by omega⟩
  obtain ⟨σ1, f1, f2⟩ := k45 (d := d + 29) (L := L) (x := scr (x + 1)) hC
  have q1 := CP_RQ f1 hq
  have e4 : σ1 154 = s := q1.1
  have e0 : σ 0 = scr := h0
  have e1 : σ1 0 = scr := by rw [f1.1 0 (by omega)]; exact h0
  have g2 := fun Q : Option AV → AW → Prop => q148 (d := d + 54) (L := L) (Q := Q) (σ := σ1) (s := s) (x := scr (x + 1))
  simp only [ss_self e4] at g2
  refine Exists.intro (setS σ1 (uPlay s (scr (x + 1)))) (And.intro (LI_s h' hw hr hE hv hv7 hq hI hT h0 (WF_play hw) f1 (RQ_set (RQ_le q1 (by omega))) FG_set) (fun Q => ?_))
  rw [b232_264 (by omega) (by omega) (by omega), e0]
  refine (f2 _).trans ?_
  simp only [am_push_s]
  rw [b232_273 (by omega) (by omega) (by omega), e1]
  refine (g2 _).trans ?_
  simp only [am_push_s]
  rw [b232_282, if_pos rfl]
theorem law_363 {x : Int} (hS : ∀ j, RG (scr j)) (h : LI scr i σ) (hi : i < 1900) (hx : 0 ≤ x ∧ x + 3 < (L : Int) ∧ (L : Int) < 100000) : ∃ σ2 : St, LI scr (i + 1) σ2 ∧ ∀ Q, R (d + 60) 232 363 [vR 0, vR 19, vR 153, vI x] [] (WS L σ) Q = R (d + 60) 232 1189 [vR 0, vR 19, vR 153, vI x] [] (WS L σ2) Q := by
  have h' := h
  obtain ⟨s, cl, l, hw, hr, hE, hv, hv7, hq, hI, hT, h0⟩ := h
  have hC : HC (10 * i) s cl σ := ⟨hw, hr, hE, by omega, by omega, by omega⟩
  obtain ⟨σ1, f1, f2⟩ := k54 (d := d + 29) (L := L) (x := scr (x + 1)) (y := scr (x + 2)) (hS _) hC
  have q1 := CP_RQ f1 hq
  have e4 : σ1 154 = s := q1.1
  have e0 : σ 0 = scr := h0
  have e1 : σ1 0 = scr := by rw [f1.1 0 (by omega)]; exact h0
  have g2 := fun Q : Option AV → AW → Prop => q166 (d := d + 54) (L := L) (Q := Q) (σ := σ1) (s := s) (x := scr (x + 1)) (y := scr (x + 2)) hw
  simp only [ss_self e4] at g2
  refine Exists.intro (setS σ1 (uHas s (scr (x + 1)) (scr (x + 2)))) (And.intro (LI_s h' hw hr hE hv hv7 hq hI hT h0 (WF_has hw) f1 (RQ_set (RQ_le q1 (by omega))) FG_set) (fun Q => ?_))
  rw [b232_363 (by omega) (by omega) (by omega) (by omega) (by omega) (by omega), e0]
  refine (f2 _).trans ?_
  simp only [am_push_s]
  rw [b232_377 (by omega) (by omega) (by omega) (by omega) (by omega) (by omega), e1]
  refine (g2 _).trans ?_
  simp only [am_push_s]
  rw [b232_391, if_pos rfl]
theorem law_396 {x : Int} (hS : ∀ j, RG (scr j)) (h : LI scr i σ) (hi : i < 1900) (hx : 0 ≤ x ∧ x + 3 < (L : Int) ∧ (L : Int) < 100000) : ∃ σ2 : St, LI scr (i + 1) σ2 ∧ ∀ Q, R (d + 60) 232 396 [vR 0, vR 19, vR 153, vI x] [] (WS L σ) Q = R (d + 60) 232 1189 [vR 0, vR 19, vR 153, vI x] [] (WS L σ2) Q := by
  have h' := h
  obtain ⟨s, cl, l, hw, hr, hE, hv, hv7, hq, hI, hT, h0⟩ := h
  have hC : HC (10 * i) s cl σ := ⟨hw, hr, hE, by omega, by omega, by omega⟩
  obtain ⟨σ1, f1, f2⟩ := k56 (d := d + 29) (L := L) (c := scr (x + 1)) (x := scr (x + 2)) hC
  have q1 := CP_RQ f1 hq
  have e4 : σ1 154 = s := q1.1
  have e0 : σ 0 = scr := h0
  have e1 : σ1 0 = scr := by rw [f1.1 0 (by omega)]; exact h0
  obtain ⟨σ2, g1, g2⟩ := q168 (d := d + 54) (L := L) (σ := σ1) (s := s) (c := scr (x + 1)) (x := scr (x + 2)) hw
  rw [ss_self e4, ss_self (show σ2 154 = s by rw [g1 154 (by omega)]; exact e4)] at g2
  obtain ⟨x1, x2⟩ := RQ_156 q1 g1
  refine Exists.intro σ2 (And.intro (LI_s h' hw hr hE hv hv7 hq hI hT h0 hw f1 (RQ_le x1 (by omega)) (FQ_FG x2)) (fun Q => ?_))
  rw [b232_396 (by omega) (by omega) (by omega) (by omega) (by omega) (by omega), e0]
  refine (f2 _).trans ?_
  simp only [am_push_s]
  rw [b232_410 (by omega) (by omega) (by omega) (by omega) (by omega) (by omega), e1]
  refine (g2 _).trans ?_
  simp only [am_push_s]
  rw [b232_424, if_pos rfl]
theorem law_429 {x : Int} (hS : ∀ j, RG (scr j)) (h : LI scr i σ) (hi : i < 1900) (hx : 0 ≤ x ∧ x + 3 < (L : Int) ∧ (L : Int) < 100000) : ∃ σ2 : St, LI scr (i + 1) σ2 ∧ ∀ Q, R (d + 60) 232 429 [vR 0, vR 19, vR 153, vI x] [] (WS L σ) Q = R (d + 60) 232 1189 [vR 0, vR 19, vR 153, vI x] [] (WS L σ2) Q := by
  have h' := h
  obtain ⟨s, cl, l, hw, hr, hE, hv, hv7, hq, hI, hT, h0⟩ := h
  have hC : HC (10 * i) s cl σ := ⟨hw, hr, hE, by omega, by omega, by omega⟩
  obtain ⟨σ1, f1, f2⟩ := k58 (d := d + 29) (L := L) (x := scr (x + 1)) hC
  have q1 := CP_RQ f1 hq
  have e4 : σ1 154 = s := q1.1
  have e0 : σ 0 = scr := h0
  have e1 : σ1 0 = scr := by rw [f1.1 0 (by omega)]; exact h0
  have g2 := fun Q : Option AV → AW → Prop => q172 (d := d + 54) (L := L) (Q := Q) (σ := σ1) (s := s) (x := scr (x + 1))
  simp only [ss_self e4] at g2
  refine Exists.intro (setS σ1 (uTurns s (scr (x + 1)))) (And.intro (LI_s h' hw hr hE hv hv7 hq hI hT h0 (WF_turns hw) f1 (RQ_set (RQ_le q1 (by omega))) FG_set) (fun Q => ?_))
  rw [b232_429 (by omega) (by omega) (by omega), e0]
  refine (f2 _).trans ?_
  simp only [am_push_s]
  rw [b232_438 (by omega) (by omega) (by omega), e1]
  refine (g2 _).trans ?_
  simp only [am_push_s]
  rw [b232_447, if_pos rfl]
theorem law_452 {x : Int} (hS : ∀ j, RG (scr j)) (h : LI scr i σ) (hi : i < 1900) (hx : 0 ≤ x ∧ x + 3 < (L : Int) ∧ (L : Int) < 100000) : ∃ σ2 : St, LI scr (i + 1) σ2 ∧ ∀ Q, R (d + 60) 232 452 [vR 0, vR 19, vR 153, vI x] [] (WS L σ) Q = R (d + 60) 232 1189 [vR 0, vR 19, vR 153, vI x] [] (WS L σ2) Q := by
  have h' := h
  obtain ⟨s, cl, l, hw, hr, hE, hv, hv7, hq, hI, hT, h0⟩ := h
  have hC : HC (10 * i) s cl σ := ⟨hw, hr, hE, by omega, by omega, by omega⟩
  obtain ⟨σ1, f1, f2⟩ := k59 (d := d + 29) (L := L) (x := scr (x + 1)) (hS _) hC
  have q1 := CP_RQ f1 hq
  have e4 : σ1 154 = s := q1.1
  have e0 : σ 0 = scr := h0
  have e1 : σ1 0 = scr := by rw [f1.1 0 (by omega)]; exact h0
  have g2 := fun Q : Option AV → AW → Prop => q173 (d := d + 54) (L := L) (Q := Q) (σ := σ1) (s := s) (x := scr (x + 1)) hw
  simp only [ss_self e4] at g2
  refine Exists.intro (setS σ1 (uTold s (scr (x + 1)))) (And.intro (LI_s h' hw hr hE hv hv7 hq hI hT h0 (WF_told hw) f1 (RQ_set (RQ_le q1 (by omega))) FG_set) (fun Q => ?_))
  rw [b232_452 (by omega) (by omega) (by omega), e0]
  refine (f2 _).trans ?_
  simp only [am_push_s]
  rw [b232_461 (by omega) (by omega) (by omega), e1]
  refine (g2 _).trans ?_
  simp only [am_push_s]
  rw [b232_470, if_pos rfl]
theorem law_475 {x : Int} (hS : ∀ j, RG (scr j)) (h : LI scr i σ) (hi : i < 1900) (hx : 0 ≤ x ∧ x + 3 < (L : Int) ∧ (L : Int) < 100000) : ∃ σ2 : St, LI scr (i + 1) σ2 ∧ ∀ Q, R (d + 60) 232 475 [vR 0, vR 19, vR 153, vI x] [] (WS L σ) Q = R (d + 60) 232 1189 [vR 0, vR 19, vR 153, vI x] [] (WS L σ2) Q := by
  have h' := h
  obtain ⟨s, cl, l, hw, hr, hE, hv, hv7, hq, hI, hT, h0⟩ := h
  have hC : HC (10 * i) s cl σ := ⟨hw, hr, hE, by omega, by omega, by omega⟩
  obtain ⟨σ1, f1, f2⟩ := k62 (d := d + 29) (L := L) (x := scr (x + 1)) hC
  have q1 := CP_RQ f1 hq
  have e4 : σ1 154 = s := q1.1
  have e0 : σ 0 = scr := h0
  have e1 : σ1 0 = scr := by rw [f1.1 0 (by omega)]; exact h0
  have g2 := fun Q : Option AV → AW → Prop => q174 (d := d + 54) (L := L) (Q := Q) (σ := σ1) (s := s) (x := scr (x + 1)) hw
  rw [ss_self e4] at g2
  refine Exists.intro σ1 (And.intro (LI_s h' hw hr hE hv hv7 hq hI hT h0 hw f1 (RQ_le q1 (by omega)) FG_r) (fun Q => ?_))
  rw [b232_475 (by omega) (by omega) (by omega), e0]
  refine (f2 _).trans ?_
  simp only [am_push_s]
  rw [b232_484 (by omega) (by omega) (by omega), e1]
  refine (g2 _).trans ?_
  simp only [am_push_s]
  rw [b232_493, if_pos rfl]
theorem law_498 {x : Int} (hS : ∀ j, RG (scr j)) (h : LI scr i σ) (hi : i < 1900) (hx : 0 ≤ x ∧ x + 3 < (L : Int) ∧ (L : Int) < 100000) : ∃ σ2 : St, LI scr (i + 1) σ2 ∧ ∀ Q, R (d + 60) 232 498 [vR 0, vR 19, vR 153, vI x] [] (WS L σ) Q = R (d + 60) 232 1189 [vR 0, vR 19, vR 153, vI x] [] (WS L σ2) Q := by
  have h' := h
  obtain ⟨s, cl, l, hw, hr, hE, hv, hv7, hq, hI, hT, h0⟩ := h
  have hC : HC (10 * i) s cl σ := ⟨hw, hr, hE, by omega, by omega, by omega⟩
  obtain ⟨σ1, f1, f2⟩ := k65 (d := d + 29) (L := L) (x := scr (x + 1)) (y := scr (x + 2)) hC
  have q1 := CP_RQ f1 hq
  have e4 : σ1 154 = s := q1.1
  have e0 : σ 0 = scr := h0
  have e1 : σ1 0 = scr := by rw [f1.1 0 (by omega)]; exact h0
  have g2 := fun Q : Option AV → AW → Prop => q176 (d := d + 54) (L := L) (Q := Q) (σ := σ1) (s := s) (x := scr (x + 1)) (y := scr (x + 2))
  simp only [ss_self e4] at g2
  refine Exists.intro (setS σ1 (uWay s (scr (x + 1)) (scr (x + 2)))) (And.intro (LI_s h' hw hr hE hv hv7 hq hI hT h0 (WF_way hw) f1 (RQ_set (RQ_le q1 (by omega))) FG_set) (fun Q => ?_))
  rw [b232_498 (by omega) (by omega) (by omega) (by omega) (by omega) (by omega), e0]
  refine (f2 _).trans ?_
  simp only [am_push_s]
  rw [b232_512 (by omega) (by omega) (by omega) (by omega) (by omega) (by omega), e1]
  refine (g2 _).trans ?_
  simp only [am_push_s]
  rw [b232_526, if_pos rfl]
theorem law_531 {x : Int} (hS : ∀ j, RG (scr j)) (h : LI scr i σ) (hi : i < 1900) (hx : 0 ≤ x ∧ x + 3 < (L : Int) ∧ (L : Int) < 100000) : ∃ σ2 : St, LI scr (i + 1) σ2 ∧ ∀ Q, R (d + 60) 232 531 [vR 0, vR 19, vR 153, vI x] [] (WS L σ) Q = R (d + 60) 232 1189 [vR 0, vR 19, vR 153, vI x] [] (WS L σ2) Q := by
  have h' := h
  obtain ⟨s, cl, l, hw, hr, hE, hv, hv7, hq, hI, hT, h0⟩ := h
  have hC : HC (10 * i) s cl σ := ⟨hw, hr, hE, by omega, by omega, by omega⟩
  obtain ⟨σ1, f1, f2⟩ := k68 (d := d + 29) (L := L) (x := scr (x + 1)) (y := scr (x + 2)) (hS _) hC
  have q1 := CP_RQ f1 hq
  have e4 : σ1 154 = s := q1.1
  have e0 : σ 0 = scr := h0
  have e1 : σ1 0 = scr := by rw [f1.1 0 (by omega)]; exact h0
  have g2 := fun Q : Option AV → AW → Prop => q177 (d := d + 54) (L := L) (Q := Q) (σ := σ1) (s := s) (x := scr (x + 1)) (y := scr (x + 2)) hw
  simp only [ss_self e4] at g2
  refine Exists.intro (setS σ1 (uList s (scr (x + 1)) (scr (x + 2)))) (And.intro (LI_s h' hw hr hE hv hv7 hq hI hT h0 (WF_list hw) f1 (RQ_set (RQ_le q1 (by omega))) FG_set) (fun Q => ?_))
  rw [b232_531 (by omega) (by omega) (by omega) (by omega) (by omega) (by omega), e0]
  refine (f2 _).trans ?_
  simp only [am_push_s]
  rw [b232_545 (by omega) (by omega) (by omega) (by omega) (by omega) (by omega), e1]
  refine (g2 _).trans ?_
  simp only [am_push_s]
  rw [b232_559, if_pos rfl]
theorem law_564 {x : Int} (hS : ∀ j, RG (scr j)) (h : LI scr i σ) (hi : i < 1900) (hx : 0 ≤ x ∧ x + 3 < (L : Int) ∧ (L : Int) < 100000) : ∃ σ2 : St, LI scr (i + 1) σ2 ∧ ∀ Q, R (d + 60) 232 564 [vR 0, vR 19, vR 153, vI x] [] (WS L σ) Q = R (d + 60) 232 1189 [vR 0, vR 19, vR 153, vI x] [] (WS L σ2) Q := by
  have h' := h
  obtain ⟨s, cl, l, hw, hr, hE, hv, hv7, hq, hI, hT, h0⟩ := h
  have hC : HC (10 * i) s cl σ := ⟨hw, hr, hE, by omega, by omega, by omega⟩
  obtain ⟨σ1, f1, f2⟩ := k70 (d := d + 29) (L := L) (x := scr (x + 1)) (y := scr (x + 2)) (hS _) hC
  have q1 := CP_RQ f1 hq
  have e4 : σ1 154 = s := q1.1
  have e0 : σ 0 = scr := h0
  have e1 : σ1 0 = scr := by rw [f1.1 0 (by omega)]; exact h0
  have g2 := fun Q : Option AV → AW → Prop => q178 (d := d + 54) (L := L) (Q := Q) (σ := σ1) (s := s) (x := scr (x + 1)) (y := scr (x + 2)) hw
  simp only [ss_self e4] at g2
  refine Exists.intro (setS σ1 (uGive s (scr (x + 1)) (scr (x + 2)))) (And.intro (LI_s h' hw hr hE hv hv7 hq hI hT h0 (WF_give hw) f1 (RQ_set (RQ_le q1 (by omega))) FG_set) (fun Q => ?_))
  rw [b232_564 (by omega) (by omega) (by omega) (by omega) (by omega) (by omega), e0]
  refine (f2 _).trans ?_
  simp only [am_push_s]
  rw [b232_578 (by omega) (by omega) (by omega) (by omega) (by omega) (by omega), e1]
  refine (g2 _).trans ?_
  simp only [am_push_s]
  rw [b232_592, if_pos rfl]
theorem law_597 {x : Int} (hS : ∀ j, RG (scr j)) (h : LI scr i σ) (hi : i < 1900) (hx : 0 ≤ x ∧ x + 3 < (L : Int) ∧ (L : Int) < 100000) : ∃ σ2 : St, LI scr (i + 1) σ2 ∧ ∀ Q, R (d + 60) 232 597 [vR 0, vR 19, vR 153, vI x] [] (WS L σ) Q = R (d + 60) 232 1189 [vR 0, vR 19, vR 153, vI x] [] (WS L σ2) Q := by
  have h' := h
  obtain ⟨s, cl, l, hw, hr, hE, hv, hv7, hq, hI, hT, h0⟩ := h
  have hC : HC (10 * i) s cl σ := ⟨hw, hr, hE, by omega, by omega, by omega⟩
  obtain ⟨σ1, f1, f2⟩ := k74 (d := d + 29) (L := L) (x := scr (x + 1)) hC
  have q1 := CP_RQ f1 hq
  have e4 : σ1 154 = s := q1.1
  have e0 : σ 0 = scr := h0
  have e1 : σ1 0 = scr := by rw [f1.1 0 (by omega)]; exact h0
  have g2 := fun Q : Option AV → AW → Prop => q180 (d := d + 54) (L := L) (Q := Q) (σ := σ1) (s := s) (x := scr (x + 1)) hw
  rw [ss_self e4] at g2
  refine Exists.intro σ1 (And.intro (LI_s h' hw hr hE hv hv7 hq hI hT h0 hw f1 (RQ_le q1 (by omega)) FG_r) (fun Q => ?_))
  rw [b232_597 (by omega) (by omega) (by omega), e0]
  refine (f2 _).trans ?_
  simp only [am_push_s]
  rw [b232_606 (by omega) (by omega) (by omega), e1]
  refine (g2 _).trans ?_
  simp only [am_push_s]
  rw [b232_615, if_pos rfl]
theorem law_620 {x : Int} (hS : ∀ j, RG (scr j)) (h : LI scr i σ) (hi : i < 1900) (hx : 0 ≤ x ∧ x + 3 < (L : Int) ∧ (L : Int) < 100000) : ∃ σ2 : St, LI scr (i + 1) σ2 ∧ ∀ Q, R (d + 60) 232 620 [vR 0, vR 19, vR 153, vI x] [] (WS L σ) Q = R (d + 60) 232 1189 [vR 0, vR 19, vR 153, vI x] [] (WS L σ2) Q := by
  have h' := h
  obtain ⟨s, cl, l, hw, hr, hE, hv, hv7, hq, hI, hT, h0⟩ := h
  have hC : HC (10 * i) s cl σ := ⟨hw, hr, hE, by omega, by omega, by omega⟩
  obtain ⟨σ1, f1, f2⟩ := k75 (d := d + 29) (L := L) (x := scr (x + 1)) hC
  have q1 := CP_RQ f1 hq
  have e4 : σ1 154 = s := q1.1
  have e0 : σ 0 = scr := h0
  have e1 : σ1 0 = scr := by rw [f1.1 0 (by omega)]; exact h0
  obtain ⟨σ2, x1, x2, g2⟩ := q196 (d := d + 36) (L := L) (σ := σ1) (x := scr (x + 1)) hw q1 (by omega)
  refine Exists.intro σ2 (And.intro (LI_s h' hw hr hE hv hv7 hq hI hT h0 hw f1 (RQ_le x1 (by omega)) (FQ_FG x2)) (fun Q => ?_))
  rw [b232_620 (by omega) (by omega) (by omega), e0]
  refine (f2 _).trans ?_
  simp only [am_push_s]
  rw [b232_629 (by omega) (by omega) (by omega), e1]
  refine (g2 _).trans ?_
  simp only [am_push_s]
  rw [b232_638, if_pos rfl]
theorem law_682 {x : Int} (hS : ∀ j, RG (scr j)) (h : LI scr i σ) (hi : i < 1900) (hx : 0 ≤ x ∧ x + 3 < (L : Int) ∧ (L : Int) < 100000) : ∃ σ2 : St, LI scr (i + 1) σ2 ∧ ∀ Q, R (d + 60) 232 682 [vR 0, vR 19, vR 153, vI x] [] (WS L σ) Q = R (d + 60) 232 1189 [vR 0, vR 19, vR 153, vI x] [] (WS L σ2) Q := by
  have h' := h
  obtain ⟨s, cl, l, hw, hr, hE, hv, hv7, hq, hI, hT, h0⟩ := h
  have hC : HC (10 * i) s cl σ := ⟨hw, hr, hE, by omega, by omega, by omega⟩
  obtain ⟨σ1, f1, f2⟩ := k99 (d := d + 29) (L := L) hC
  have q1 := CP_RQ f1 hq
  have e4 : σ1 154 = s := q1.1
  have e0 : σ 0 = scr := h0
  have e1 : σ1 0 = scr := by rw [f1.1 0 (by omega)]; exact h0
  obtain ⟨σ2, x1, x2, g2⟩ := q182 (d := d + 39) (L := L) (σ := σ1) hw q1 (by omega)
  refine Exists.intro σ2 (And.intro (LI_s h' hw hr hE hv hv7 hq hI hT h0 hw f1 (RQ_le x1 (by omega)) (FQ_FG x2)) (fun Q => ?_))
  rw [b232_682]
  refine (f2 _).trans ?_
  simp only [am_push_s]
  rw [b232_686]
  refine (g2 _).trans ?_
  simp only [am_push_s]
  rw [b232_690, if_pos rfl]
theorem law_695 {x : Int} (hS : ∀ j, RG (scr j)) (h : LI scr i σ) (hi : i < 1900) (hx : 0 ≤ x ∧ x + 3 < (L : Int) ∧ (L : Int) < 100000) : ∃ σ2 : St, LI scr (i + 1) σ2 ∧ ∀ Q, R (d + 60) 232 695 [vR 0, vR 19, vR 153, vI x] [] (WS L σ) Q = R (d + 60) 232 1189 [vR 0, vR 19, vR 153, vI x] [] (WS L σ2) Q := by
  have h' := h
  obtain ⟨s, cl, l, hw, hr, hE, hv, hv7, hq, hI, hT, h0⟩ := h
  have hC : HC (10 * i) s cl σ := ⟨hw, hr, hE, by omega, by omega, by omega⟩
  obtain ⟨σ1, f1, f2⟩ := k100 (d := d + 29) (L := L) (x := scr (x + 1)) hC
  have q1 := CP_RQ f1 hq
  have e4 : σ1 154 = s := q1.1
  have e0 : σ 0 = scr := h0
  have e1 : σ1 0 = scr := by rw [f1.1 0 (by omega)]; exact h0
  obtain ⟨σ2, x1, x2, g2⟩ := q190 (d := d + 39) (L := L) (σ := σ1) (x := scr (x + 1)) hw q1 (by omega)
  refine Exists.intro σ2 (And.intro (LI_s h' hw hr hE hv hv7 hq hI hT h0 hw f1 (RQ_le x1 (by omega)) (FQ_FG x2)) (fun Q => ?_))
  rw [b232_695 (by omega) (by omega) (by omega), e0]
  refine (f2 _).trans ?_
  simp only [am_push_s]
  rw [b232_704 (by omega) (by omega) (by omega), e1]
  refine (g2 _).trans ?_
  simp only [am_push_s]
  rw [b232_713, if_pos rfl]
theorem law_718 {x : Int} (hS : ∀ j, RG (scr j)) (h : LI scr i σ) (hi : i < 1900) (hx : 0 ≤ x ∧ x + 3 < (L : Int) ∧ (L : Int) < 100000) : ∃ σ2 : St, LI scr (i + 1) σ2 ∧ ∀ Q, R (d + 60) 232 718 [vR 0, vR 19, vR 153, vI x] [] (WS L σ) Q = R (d + 60) 232 1189 [vR 0, vR 19, vR 153, vI x] [] (WS L σ2) Q := by
  have h' := h
  obtain ⟨s, cl, l, hw, hr, hE, hv, hv7, hq, hI, hT, h0⟩ := h
  have hC : HC (10 * i) s cl σ := ⟨hw, hr, hE, by omega, by omega, by omega⟩
  obtain ⟨σ1, f1, f2⟩ := k102 (d := d + 29) (L := L) (x := scr (x + 1)) (hS _) hC
  have q1 := CP_RQ f1 hq
  have e4 : σ1 154 = s := q1.1
  have e0 : σ 0 = scr := h0
  have e1 : σ1 0 = scr := by rw [f1.1 0 (by omega)]; exact h0
  have g2 := fun Q : Option AV → AW → Prop => q191 (d := d + 54) (L := L) (Q := Q) (σ := σ1) (s := s) (x := scr (x + 1)) hw
  simp only [ss_self e4] at g2
  refine Exists.intro (setS σ1 (uRow s (scr (x + 1)))) (And.intro (LI_s h' hw hr hE hv hv7 hq hI hT h0 (WF_row hw) f1 (RQ_set (RQ_le q1 (by omega))) FG_set) (fun Q => ?_))
  rw [b232_718 (by omega) (by omega) (by omega), e0]
  refine (f2 _).trans ?_
  simp only [am_push_s]
  rw [b232_727 (by omega) (by omega) (by omega), e1]
  refine (g2 _).trans ?_
  simp only [am_push_s]
  rw [b232_736, if_pos rfl]
theorem law_741 {x : Int} (hS : ∀ j, RG (scr j)) (h : LI scr i σ) (hi : i < 1900) (hx : 0 ≤ x ∧ x + 3 < (L : Int) ∧ (L : Int) < 100000) : ∃ σ2 : St, LI scr (i + 1) σ2 ∧ ∀ Q, R (d + 60) 232 741 [vR 0, vR 19, vR 153, vI x] [] (WS L σ) Q = R (d + 60) 232 1189 [vR 0, vR 19, vR 153, vI x] [] (WS L σ2) Q := by
  have h' := h
  obtain ⟨s, cl, l, hw, hr, hE, hv, hv7, hq, hI, hT, h0⟩ := h
  have hC : HC (10 * i) s cl σ := ⟨hw, hr, hE, by omega, by omega, by omega⟩
  obtain ⟨σ1, f1, f2⟩ := k103 (d := d + 29) (L := L) (x := scr (x + 1)) hC
  have q1 := CP_RQ f1 hq
  have e4 : σ1 154 = s := q1.1
  have e0 : σ 0 = scr := h0
  have e1 : σ1 0 = scr := by rw [f1.1 0 (by omega)]; exact h0
  obtain ⟨σ2, x1, x2, g2⟩ := q192 (d := d + 39) (L := L) (σ := σ1) (x := scr (x + 1)) hw q1 (by omega)
  refine Exists.intro σ2 (And.intro (LI_s h' hw hr hE hv hv7 hq hI hT h0 hw f1 (RQ_le x1 (by omega)) (FQ_FG x2)) (fun Q => ?_))
  rw [b232_741 (by omega) (by omega) (by omega), e0]
  refine (f2 _).trans ?_
  simp only [am_push_s]
  rw [b232_750 (by omega) (by omega) (by omega), e1]
  refine (g2 _).trans ?_
  simp only [am_push_s]
  rw [b232_759, if_pos rfl]
theorem law_764 {x : Int} (hS : ∀ j, RG (scr j)) (h : LI scr i σ) (hi : i < 1900) (hx : 0 ≤ x ∧ x + 3 < (L : Int) ∧ (L : Int) < 100000) : ∃ σ2 : St, LI scr (i + 1) σ2 ∧ ∀ Q, R (d + 60) 232 764 [vR 0, vR 19, vR 153, vI x] [] (WS L σ) Q = R (d + 60) 232 1189 [vR 0, vR 19, vR 153, vI x] [] (WS L σ2) Q := by
  have h' := h
  obtain ⟨s, cl, l, hw, hr, hE, hv, hv7, hq, hI, hT, h0⟩ := h
  have hC : HC (10 * i) s cl σ := ⟨hw, hr, hE, by omega, by omega, by omega⟩
  obtain ⟨σ1, f1, f2⟩ := k106 (d := d + 29) (L := L) (x := scr (x + 1)) hC
  have q1 := CP_RQ f1 hq
  have e4 : σ1 154 = s := q1.1
  have e0 : σ 0 = scr := h0
  have e1 : σ1 0 = scr := by rw [f1.1 0 (by omega)]; exact h0
  obtain ⟨σ2, x1, x2, g2⟩ := q193 (d := d + 39) (L := L) (σ := σ1) (x := scr (x + 1)) hw q1 (by omega)
  refine Exists.intro σ2 (And.intro (LI_s h' hw hr hE hv hv7 hq hI hT h0 hw f1 (RQ_le x1 (by omega)) (FQ_FG x2)) (fun Q => ?_))
  rw [b232_764 (by omega) (by omega) (by omega), e0]
  refine (f2 _).trans ?_
  simp only [am_push_s]
  rw [b232_773 (by omega) (by omega) (by omega), e1]
  refine (g2 _).trans ?_
  simp only [am_push_s]
  rw [b232_782, if_pos rfl]
theorem law_787 {x : Int} (hS : ∀ j, RG (scr j)) (h : LI scr i σ) (hi : i < 1900) (hx : 0 ≤ x ∧ x + 3 < (L : Int) ∧ (L : Int) < 100000) : ∃ σ2 : St, LI scr (i + 1) σ2 ∧ ∀ Q, R (d + 60) 232 787 [vR 0, vR 19, vR 153, vI x] [] (WS L σ) Q = R (d + 60) 232 1189 [vR 0, vR 19, vR 153, vI x] [] (WS L σ2) Q := by
  have h' := h
  obtain ⟨s, cl, l, hw, hr, hE, hv, hv7, hq, hI, hT, h0⟩ := h
  have hC : HC (10 * i) s cl σ := ⟨hw, hr, hE, by omega, by omega, by omega⟩
  obtain ⟨σ1, f1, f2⟩ := k108 (d := d + 29) (L := L) hC
  have q1 := CP_RQ f1 hq
  have e4 : σ1 154 = s := q1.1
  have e0 : σ 0 = scr := h0
  have e1 : σ1 0 = scr := by rw [f1.1 0 (by omega)]; exact h0
  obtain ⟨σ2, x1, x2, g2⟩ := q195 (d := d + 39) (L := L) (σ := σ1) hw q1 (by omega)
  refine Exists.intro σ2 (And.intro (LI_s h' hw hr hE hv hv7 hq hI hT h0 hw f1 (RQ_le x1 (by omega)) (FQ_FG x2)) (fun Q => ?_))
  rw [b232_787]
  refine (f2 _).trans ?_
  simp only [am_push_s]
  rw [b232_791]
  refine (g2 _).trans ?_
  simp only [am_push_s]
  rw [b232_795, if_pos rfl]
theorem law_800 {x : Int} (hS : ∀ j, RG (scr j)) (h : LI scr i σ) (hi : i < 1900) (hx : 0 ≤ x ∧ x + 3 < (L : Int) ∧ (L : Int) < 100000) : ∃ σ2 : St, LI scr (i + 1) σ2 ∧ ∀ Q, R (d + 60) 232 800 [vR 0, vR 19, vR 153, vI x] [] (WS L σ) Q = R (d + 60) 232 1189 [vR 0, vR 19, vR 153, vI x] [] (WS L σ2) Q := by
  have h' := h
  obtain ⟨s, cl, l, hw, hr, hE, hv, hv7, hq, hI, hT, h0⟩ := h
  have hC : HC (10 * i) s cl σ := ⟨hw, hr, hE, by omega, by omega, by omega⟩
  obtain ⟨σ1, f1, f2⟩ := k109 (d := d + 29) (L := L) (x := scr (x + 1)) hC
  have q1 := CP_RQ f1 hq
  have e4 : σ1 154 = s := q1.1
  have e0 : σ 0 = scr := h0
  have e1 : σ1 0 = scr := by rw [f1.1 0 (by omega)]; exact h0
  have g2 := fun Q : Option AV → AW → Prop => q207 (d := d + 57) (L := L) (Q := Q) (σ := σ1) (x := scr (x + 1)) hw e4
  refine Exists.intro σ1 (And.intro (LI_s h' hw hr hE hv hv7 hq hI hT h0 hw f1 (RQ_le q1 (by omega)) FG_r) (fun Q => ?_))
  rw [b232_800 (by omega) (by omega) (by omega), e0]
  refine (f2 _).trans ?_
  simp only [am_push_s]
  rw [b232_809 (by omega) (by omega) (by omega), e1]
  refine (g2 _).trans ?_
  simp only [am_push_s]
  rw [b232_818, if_pos rfl]
theorem law_823 {x : Int} (hS : ∀ j, RG (scr j)) (h : LI scr i σ) (hi : i < 1900) (hx : 0 ≤ x ∧ x + 3 < (L : Int) ∧ (L : Int) < 100000) : ∃ σ2 : St, LI scr (i + 1) σ2 ∧ ∀ Q, R (d + 60) 232 823 [vR 0, vR 19, vR 153, vI x] [] (WS L σ) Q = R (d + 60) 232 1189 [vR 0, vR 19, vR 153, vI x] [] (WS L σ2) Q := by
  have h' := h
  obtain ⟨s, cl, l, hw, hr, hE, hv, hv7, hq, hI, hT, h0⟩ := h
  have hC : HC (10 * i) s cl σ := ⟨hw, hr, hE, by omega, by omega, by omega⟩
  obtain ⟨σ1, f1, f2⟩ := k111 (d := d + 29) (L := L) (x := scr (x + 1)) (y := scr (x + 2)) (z := scr (x + 3)) hC
  have q1 := CP_RQ f1 hq
  have e4 : σ1 154 = s := q1.1
  have e0 : σ 0 = scr := h0
  have e1 : σ1 0 = scr := by rw [f1.1 0 (by omega)]; exact h0
  obtain ⟨σ2, g1, g2⟩ := q208 (d := d + 56) (L := L) (σ := σ1) (s := s) (x := scr (x + 1)) (y := scr (x + 2)) (z := scr (x + 3)) hw e4
  obtain ⟨x1, x2⟩ := RQ_156 q1 g1
  refine Exists.intro σ2 (And.intro (LI_s h' hw hr hE hv hv7 hq hI hT h0 hw f1 (RQ_le x1 (by omega)) (FQ_FG x2)) (fun Q => ?_))
  rw [b232_823 (by omega) (by omega) (by omega) (by omega) (by omega) (by omega) (by omega) (by omega) (by omega), e0]
  refine (f2 _).trans ?_
  simp only [am_push_s]
  rw [b232_842 (by omega) (by omega) (by omega) (by omega) (by omega) (by omega) (by omega) (by omega) (by omega), e1]
  refine (g2 _).trans ?_
  simp only [am_push_s]
  rw [b232_861, if_pos rfl]
theorem law_866 {x : Int} (hS : ∀ j, RG (scr j)) (h : LI scr i σ) (hi : i < 1900) (hx : 0 ≤ x ∧ x + 3 < (L : Int) ∧ (L : Int) < 100000) : ∃ σ2 : St, LI scr (i + 1) σ2 ∧ ∀ Q, R (d + 60) 232 866 [vR 0, vR 19, vR 153, vI x] [] (WS L σ) Q = R (d + 60) 232 1189 [vR 0, vR 19, vR 153, vI x] [] (WS L σ2) Q := by
  have h' := h
  obtain ⟨s, cl, l, hw, hr, hE, hv, hv7, hq, hI, hT, h0⟩ := h
  have hC : HC (10 * i) s cl σ := ⟨hw, hr, hE, by omega, by omega, by omega⟩
  obtain ⟨σ1, f1, f2⟩ := k113 (d := d + 29) (L := L) (x := scr (x + 1)) (y := scr (x + 2)) (z := scr (x + 3)) hC
  have q1 := CP_RQ f1 hq
  have e4 : σ1 154 = s := q1.1
  have e0 : σ 0 = scr := h0
  have e1 : σ1 0 = scr := by rw [f1.1 0 (by omega)]; exact h0
  obtain ⟨σ2, x1, x2, g2⟩ := q209 (d := d + 56) (L := L) (σ := σ1) (x := scr (x + 1)) (y := scr (x + 2)) (z := scr (x + 3)) hw q1 
  refine Exists.intro σ2 (And.intro (LI_s h' hw hr hE hv hv7 hq hI hT h0 hw f1 (RQ_le x1 (by omega)) (FQ_FG x2)) (fun Q => ?_))
  rw [b232_866 (by omega) (by omega) (by omega) (by omega) (by omega) (by omega) (by omega) (by omega) (by omega), e0]
  refine (f2 _).trans ?_
  simp only [am_push_s]
  rw [b232_885 (by omega) (by omega) (by omega) (by omega) (by omega) (by omega) (by omega) (by omega) (by omega), e1]
  refine (g2 _).trans ?_
  simp only [am_push_s]
  rw [b232_904, if_pos rfl]
theorem law_909 {x : Int} (hS : ∀ j, RG (scr j)) (h : LI scr i σ) (hi : i < 1900) (hx : 0 ≤ x ∧ x + 3 < (L : Int) ∧ (L : Int) < 100000) : ∃ σ2 : St, LI scr (i + 1) σ2 ∧ ∀ Q, R (d + 60) 232 909 [vR 0, vR 19, vR 153, vI x] [] (WS L σ) Q = R (d + 60) 232 1189 [vR 0, vR 19, vR 153, vI x] [] (WS L σ2) Q := by
  have h' := h
  obtain ⟨s, cl, l, hw, hr, hE, hv, hv7, hq, hI, hT, h0⟩ := h
  have hC : HC (10 * i) s cl σ := ⟨hw, hr, hE, by omega, by omega, by omega⟩
  obtain ⟨σ1, f1, f2⟩ := k116 (d := d + 29) (L := L) (x := scr (x + 1)) (y := scr (x + 2)) hC
  have q1 := CP_RQ f1 hq
  have e4 : σ1 154 = s := q1.1
  have e0 : σ 0 = scr := h0
  have e1 : σ1 0 = scr := by rw [f1.1 0 (by omega)]; exact h0
  obtain ⟨σ2, x1, x2, x3, g2⟩ := q211 (d := d + 55) (L := L) (σ := σ1) (x := scr (x + 1)) (y := scr (x + 2)) hw q1
  refine Exists.intro σ2 (And.intro (LI_s h' hw hr hE hv hv7 hq hI hT h0 x3 f1 (RQ_le x1 (by omega)) x2) (fun Q => ?_))
  rw [b232_909 (by omega) (by omega) (by omega) (by omega) (by omega) (by omega), e0]
  refine (f2 _).trans ?_
  simp only [am_push_s]
  rw [b232_923 (by omega) (by omega) (by omega) (by omega) (by omega) (by omega), e1]
  refine (g2 _).trans ?_
  simp only [am_push_s]
  rw [b232_937, if_pos rfl]
theorem law_942 {x : Int} (hS : ∀ j, RG (scr j)) (h : LI scr i σ) (hi : i < 1900) (hx : 0 ≤ x ∧ x + 3 < (L : Int) ∧ (L : Int) < 100000) : ∃ σ2 : St, LI scr (i + 1) σ2 ∧ ∀ Q, R (d + 60) 232 942 [vR 0, vR 19, vR 153, vI x] [] (WS L σ) Q = R (d + 60) 232 1189 [vR 0, vR 19, vR 153, vI x] [] (WS L σ2) Q := by
  have h' := h
  obtain ⟨s, cl, l, hw, hr, hE, hv, hv7, hq, hI, hT, h0⟩ := h
  have hC : HC (10 * i) s cl σ := ⟨hw, hr, hE, by omega, by omega, by omega⟩
  obtain ⟨σ1, f1, f2⟩ := k118 (d := d + 29) (L := L) (x := scr (x + 1)) (y := scr (x + 2)) (z := scr (x + 3)) hC
  have q1 := CP_RQ f1 hq
  have e4 : σ1 154 = s := q1.1
  have e0 : σ 0 = scr := h0
  have e1 : σ1 0 = scr := by rw [f1.1 0 (by omega)]; exact h0
  have g2 := fun Q : Option AV → AW → Prop => q212 (d := d + 56) (L := L) (Q := Q) (σ := σ1) (x := scr (x + 1)) (y := scr (x + 2)) (z := scr (x + 3)) hw e4
  refine Exists.intro σ1 (And.intro (LI_s h' hw hr hE hv hv7 hq hI hT h0 hw f1 (RQ_le q1 (by omega)) FG_r) (fun Q => ?_))
  rw [b232_942 (by omega) (by omega) (by omega) (by omega) (by omega) (by omega) (by omega) (by omega) (by omega), e0]
  refine (f2 _).trans ?_
  simp only [am_push_s]
  rw [b232_961 (by omega) (by omega) (by omega) (by omega) (by omega) (by omega) (by omega) (by omega) (by omega), e1]
  refine (g2 _).trans ?_
  simp only [am_push_s]
  rw [b232_980, if_pos rfl]
theorem law_985 {x : Int} (hS : ∀ j, RG (scr j)) (h : LI scr i σ) (hi : i < 1900) (hx : 0 ≤ x ∧ x + 3 < (L : Int) ∧ (L : Int) < 100000) : ∃ σ2 : St, LI scr (i + 1) σ2 ∧ ∀ Q, R (d + 60) 232 985 [vR 0, vR 19, vR 153, vI x] [] (WS L σ) Q = R (d + 60) 232 1189 [vR 0, vR 19, vR 153, vI x] [] (WS L σ2) Q := by
  have h' := h
  obtain ⟨s, cl, l, hw, hr, hE, hv, hv7, hq, hI, hT, h0⟩ := h
  have hC : HC (10 * i) s cl σ := ⟨hw, hr, hE, by omega, by omega, by omega⟩
  obtain ⟨σ1, f1, f2⟩ := k121 (d := d + 29) (L := L) (x := scr (x + 1)) (y := scr (x + 2)) (hS _) hC
  have q1 := CP_RQ f1 hq
  have e4 : σ1 154 = s := q1.1
  have e0 : σ 0 = scr := h0
  have e1 : σ1 0 = scr := by rw [f1.1 0 (by omega)]; exact h0
  obtain ⟨σ2, x1, x2, g2⟩ := q213 (d := d + 47) (L := L) (σ := σ1) (x := scr (x + 1)) (y := scr (x + 2)) hw q1 
  refine Exists.intro σ2 (And.intro (LI_s h' hw hr hE hv hv7 hq hI hT h0 hw f1 (RQ_le x1 (by omega)) (FQ_FG x2)) (fun Q => ?_))
  rw [b232_985 (by omega) (by omega) (by omega) (by omega) (by omega) (by omega), e0]
  refine (f2 _).trans ?_
  simp only [am_push_s]
  rw [b232_999 (by omega) (by omega) (by omega) (by omega) (by omega) (by omega), e1]
  refine (g2 _).trans ?_
  simp only [am_push_s]
  rw [b232_1013, if_pos rfl]
theorem law_1018 {x : Int} (hS : ∀ j, RG (scr j)) (h : LI scr i σ) (hi : i < 1900) (hx : 0 ≤ x ∧ x + 3 < (L : Int) ∧ (L : Int) < 100000) : ∃ σ2 : St, LI scr (i + 1) σ2 ∧ ∀ Q, R (d + 60) 232 1018 [vR 0, vR 19, vR 153, vI x] [] (WS L σ) Q = R (d + 60) 232 1189 [vR 0, vR 19, vR 153, vI x] [] (WS L σ2) Q := by
  have h' := h
  obtain ⟨s, cl, l, hw, hr, hE, hv, hv7, hq, hI, hT, h0⟩ := h
  have hC : HC (10 * i) s cl σ := ⟨hw, hr, hE, by omega, by omega, by omega⟩
  obtain ⟨σ1, f1, f2⟩ := k127 (d := d + 29) (L := L) (x := scr (x + 1)) hC
  have q1 := CP_RQ f1 hq
  have e4 : σ1 154 = s := q1.1
  have e0 : σ 0 = scr := h0
  have e1 : σ1 0 = scr := by rw [f1.1 0 (by omega)]; exact h0
  have g2 := fun Q : Option AV → AW → Prop => q216 (d := d + 54) (L := L) (Q := Q) (σ := σ1) (s := s) (x := scr (x + 1)) hw
  rw [ss_self e4] at g2
  refine Exists.intro σ1 (And.intro (LI_s h' hw hr hE hv hv7 hq hI hT h0 hw f1 (RQ_le q1 (by omega)) FG_r) (fun Q => ?_))
  rw [b232_1018 (by omega) (by omega) (by omega), e0]
  refine (f2 _).trans ?_
  simp only [am_push_s]
  rw [b232_1027 (by omega) (by omega) (by omega), e1]
  refine (g2 _).trans ?_
  simp only [am_push_s]
  rw [b232_1036, if_pos rfl]
theorem law_1107 {x : Int} (hS : ∀ j, RG (scr j)) (h : LI scr i σ) (hi : i < 1900) (hx : 0 ≤ x ∧ x + 3 < (L : Int) ∧ (L : Int) < 100000) : ∃ σ2 : St, LI scr (i + 1) σ2 ∧ ∀ Q, R (d + 60) 232 1107 [vR 0, vR 19, vR 153, vI x] [] (WS L σ) Q = R (d + 60) 232 1189 [vR 0, vR 19, vR 153, vI x] [] (WS L σ2) Q := by
  have h' := h
  obtain ⟨s, cl, l, hw, hr, hE, hv, hv7, hq, hI, hT, h0⟩ := h
  have hC : HC (10 * i) s cl σ := ⟨hw, hr, hE, by omega, by omega, by omega⟩
  obtain ⟨σ1, f1, f2⟩ := k136 (d := d + 29) (L := L) (x := scr (x + 1)) (y := scr (x + 2)) hC
  have q1 := CP_RQ f1 hq
  have e4 : σ1 154 = s := q1.1
  have e0 : σ 0 = scr := h0
  have e1 : σ1 0 = scr := by rw [f1.1 0 (by omega)]; exact h0
  have g2 := fun Q : Option AV → AW → Prop => q227 (d := d + 54) (L := L) (Q := Q) (σ := σ1) (s := s) (x := scr (x + 1)) (y := scr (x + 2)) hw
  rw [ss_self e4] at g2
  refine Exists.intro σ1 (And.intro (LI_s h' hw hr hE hv hv7 hq hI hT h0 hw f1 (RQ_le q1 (by omega)) FG_r) (fun Q => ?_))
  rw [b232_1107 (by omega) (by omega) (by omega) (by omega) (by omega) (by omega), e0]
  refine (f2 _).trans ?_
  simp only [am_push_s]
  rw [b232_1121 (by omega) (by omega) (by omega) (by omega) (by omega) (by omega), e1]
  refine (g2 _).trans ?_
  simp only [am_push_s]
  rw [b232_1135, if_pos rfl]
end LC
