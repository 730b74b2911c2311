/-! the law: the other cases -/
section LD
variable {d L i : Nat} {scr : Int → Int} {σ : St}
theorem byC_r {w : Int64} {k : Int} : 0 ≤ byC w k ∧ byC w k < 256 := by
  unfold byC
  exact i_and_255
theorem law_287 {x : Int} (hS : ∀ j, RG (scr j)) (h : LI scr i σ) (hi : i < 1900) (hx : 0 ≤ x ∧ x + 3 < (L : Int) ∧ (L : Int) < 100000) : ∃ σ2 : St, LI scr (i + 1) σ2 ∧ ∀ Q, R (d + 60) 232 287 [vR 0, vR 19, vR 153, vI x] [] (WS L σ) Q = R (d + 60) 232 1189 [vR 0, vR 19, vR 153, vI x] [] (WS L σ2) Q := by
  have h' := h
  obtain ⟨s, cl, l, hw, hr, hE, hv, hv7, hq, hI, hT, h0⟩ := h
  have hC : HC (10 * i) s cl σ := ⟨hw, hr, hE, by omega, by omega, by omega⟩
  obtain ⟨σ1, f1, f2⟩ := k47 (d := d + 29) (L := L) (w := (l_shl (i_l (scr (x + 1))) 32) ||| ((i_l (scr (x + 2))) &&& (Int64.ofInt 4294967295))) (n := scr (x + 3)) (u := vX 9) hC
  have q1 := CP_RQ f1 hq
  have e4 : σ1 154 = s := q1.1
  have e0 : σ 0 = scr := h0
  have e1 : σ1 0 = scr := by rw [f1.1 0 (by omega)]; exact h0
  have g2 := fun Q : Option AV → AW → Prop => q150 (d := d + 54) (L := L) (Q := Q) (σ := σ1) (s := s) (w := (l_shl (i_l (scr (x + 1))) 32) ||| ((i_l (scr (x + 2))) &&& (Int64.ofInt 4294967295))) (n := scr (x + 3)) (u := vX 9) hw
  simp only [ss_self e4] at g2
  refine ⟨setS σ1 (uFeed s (byC ((l_shl (i_l (scr (x + 1))) 32) ||| ((i_l (scr (x + 2))) &&& (Int64.ofInt 4294967295)))) (scr (x + 3))), LI_s h' hw hr hE hv hv7 hq hI hT h0 (WF_feed (fun _ => byC_r) hw) f1 (RQ_set (RQ_le q1 (by omega))) FG_set, fun Q => ?_⟩
  rw [b232_287 (by omega) (by omega) (by omega) (by omega) (by omega) (by omega) (by omega) (by omega) (by omega), e0]
  refine (f2 _).trans ?_
  simp only [am_push_s]
  rw [b232_316 (by omega) (by omega) (by omega) (by omega) (by omega) (by omega) (by omega) (by omega) (by omega), e1]
  refine (g2 _).trans ?_
  simp only [am_push_s]
  rw [b232_345, if_pos rfl]
theorem CR_y {b : Nat} {s s' : Int → Int} {cl : Nat → List Cl} {σ : St} (hw : WF s cl) (hr : CR b s cl σ) (hs : ∀ j : Int, (j < 211 ∨ 1369 ≤ j) → s' j = s j) : CR b s' cl σ := by
  obtain ⟨w0, w1, w2, w3, w4, w5, w6, w8, w9⟩ := hw
  obtain ⟨c0, c1, c2, c3, c4, c5, c6, c7, c8, c9⟩ := hr
  unfold W0 at w0
  refine ⟨?_, C1_fr c1 rfl rfl (hs 7 (by omega)) (fun j _ _ => hs j (by omega)) (by omega), C2_fr c2 rfl rfl (hs 5 (by omega)) (fun j _ _ => hs j (by omega)) (by omega), C3_fr c3 rfl rfl (hs 6 (by omega)) (fun j _ _ => hs j (by omega)) (by omega), C4_fr c4 rfl (hs 0 (by omega)) (by omega) (fun j _ _ => hs j (by omega)), C5_fr c5 rfl rfl rfl (hs 0 (by omega)) (by omega) (fun j _ _ => hs j (by omega)) (fun j _ _ => hs j (by omega)), C6_fr c6 w6 (fun _ _ _ => rfl) (fun j _ _ => hs j (by omega)), C7_fr c7 rfl (hs 0 (by omega)) (by omega) (fun j _ _ => hs j (by omega)), C8_fr c8 (fun _ _ _ => rfl) (hs 1 (by omega)) (by omega), C9_fr c9 w9 (by omega) (fun _ _ _ => rfl) (hs 3 (by omega)) (by omega) (fun j _ _ => hs j (by omega))⟩
  unfold C0
  rw [hs 0 (by omega), hs 1 (by omega), hs 2 (by omega), hs 3 (by omega), hs 4 (by omega)]
  exact c0
theorem law_350 {x : Int} (h : LI scr i σ) (hi : i < 1900) : ∃ σ2 : St, LI scr (i + 1) σ2 ∧ ∀ Q, R (d + 60) 232 350 [vR 0, vR 19, vR 153, vI x] [] (WS L σ) Q = R (d + 60) 232 1189 [vR 0, vR 19, vR 153, vI x] [] (WS L σ2) Q := by
  have h' := h
  obtain ⟨s, cl, l, hw, hr, hE, hv, hv7, hq, hI, hT, h0⟩ := h
  have hC : HC (10 * i) s cl σ := ⟨hw, hr, hE, by omega, by omega, by omega⟩
  have w0 := hw.1
  unfold W0 at w0
  by_cases h6 : s 1 = 6
  · obtain ⟨σ1, f1, f2⟩ := k49f (d := d + 29) (L := L) hC h6
    have q1 := CP_RQ f1 hq
    have e4 : σ1 154 = s := q1.1
    have g2 := fun Q : Option AV → AW → Prop => q151f (d := d + 17) (L := L) (Q := Q) (σ := σ1) (s := s) h6
    rw [ss_self e4] at g2
    refine ⟨σ1, LI_s h' hw hr hE hv hv7 hq hI hT h0 hw f1 (RQ_le q1 (by omega)) FG_r, fun Q => ?_⟩
    rw [b232_350]
    refine (f2 _).trans ?_
    simp only [am_push_s]
    rw [b232_354]
    refine (g2 _).trans ?_
    simp only [am_push_s]
    rw [b232_358, if_pos rfl]
  · have q := CP_RQ (CP_r hC) hq
    have e4 : σ 154 = s := q.1
    obtain ⟨s', cl', σx, u1, u2, -⟩ := q151 (d := d + 17) (L := L) (σ := σ) hw (show s 1 < 6 by omega)
    obtain ⟨σ1, f1, f2⟩ := k49 (d := d + 29) (L := L) hC (show s 1 < 6 by omega) (t := fun i : Nat => s (10 + i)) (fun _ _ => rfl) u1
    have q1 := CP_RQ f1 hq
    have e41 : σ1 154 = s := q1.1
    obtain ⟨s2, cl2, σ2, v1, v2, v3, v4, v5, v6⟩ := q151 (d := d + 17) (L := L) (σ := σ1) hw (show s 1 < 6 by omega)
    rw [ss_self e41] at v6
    have ag : cl2 = cl' ∧ s2 1 = s' 1 := by
      obtain ⟨-, -, u5, u6⟩ := u1
      obtain ⟨-, -, v5', v6'⟩ := v1
      rcases hres : (pY (fun i : Nat => s (10 + i)) (s 7).toNat).2 with _ | l2
      · obtain ⟨a1, a2⟩ := u5 hres
        obtain ⟨b1, b2⟩ := v5' hres
        exact ⟨by rw [a2, b2], by rw [a1, b1]⟩
      · obtain ⟨a1, a2⟩ := u6 l2 hres
        obtain ⟨b1, b2⟩ := v6' l2 hres
        exact ⟨by rw [a2, b2], by rw [a1, b1]⟩
    have ag2 : ∀ j : Int, (j < 211 ∨ 1369 ≤ j) → s2 j = s' j := by
      intro j hj
      by_cases j7 : j = 7
      · rw [j7, v1.1, u1.1]
      · by_cases j1 : j = 1
        · rw [j1, ag.2]
        · rw [v1.2.1 j ⟨j7, j1, hj⟩, u1.2.1 j ⟨j7, j1, hj⟩]
    obtain ⟨ag1, -⟩ := ag
    subst ag1
    have f1' : CP (10 * i) s2 cl2 σ σ1 := by
      obtain ⟨p1, p2, p3, p4, p5⟩ := f1
      refine ⟨p1, CR_y u2 p2 ag2, ?_, p4, p5⟩
      have : nS s2 = nS s' := by unfold nS; rw [ag2 0 (by omega)]
      rw [this]
      exact p3
    have hRQ : RQ (10 * (i : Int)) s2 σ2 := ⟨v3, by rw [v4 14 (by omega)]; exact q1.2.1, by rw [v4 14 (by omega)]; exact q1.2.2.1, fun x hx => by rw [v5 158 (by omega) (by omega), v4 14 (by omega)]; exact q1.2.2.2 x hx⟩
    have hFG : FG σ1 σ2 := ⟨fun a ha => v5 a (by omega) (by omega), v4 3 (by omega), v4 25 (by omega)⟩
    refine ⟨σ2, LI_s h' hw hr hE hv hv7 hq hI hT h0 v2 f1' (RQ_le hRQ (by omega)) hFG, fun Q => ?_⟩
    rw [b232_350]
    refine (f2 _).trans ?_
    simp only [am_push_s]
    rw [b232_354]
    refine (v6 _).trans ?_
    simp only [am_push_s]
    rw [b232_358, if_pos rfl]
theorem law_643 {x : Int} (h : LI scr i σ) (hi : i < 1700) (hx : 0 ≤ x ∧ x + 3 < (L : Int) ∧ (L : Int) < 100000) : ∃ σ2 : St, LI scr (i + 1) σ2 ∧ ∀ Q, R (d + 60) 232 643 [vR 0, vR 19, vR 153, vI x] [] (WS L σ) Q = R (d + 60) 232 1189 [vR 0, vR 19, vR 153, vI x] [] (WS L σ2) Q := by
  have h' := h
  obtain ⟨s, cl, l, hw, hr, hE, hv, hv7, hq, hI, hT, h0⟩ := h
  have hC : HC (10 * i) s cl σ := ⟨hw, hr, hE, by omega, by omega, by omega⟩
  have e0 : σ 0 = scr := h0
  have key : ∀ k : Int, ∃ σ1 σ2 : St, σ1 0 = scr ∧ LI scr (i + 1) σ2 ∧ (∀ Q, R (d + 59) 96 0 [vR 19, vI k] [] (WS L σ) Q = Q (some (vI (s 0))) (WS L σ1)) ∧ ∀ Q, R (d + 59) 206 0 [vR 153, vI k, vX 9, vX 9, vX 9, vX 9, vX 9] [] (WS L σ1) Q = Q (some (vI (s 0))) (WS L σ2) := by
    intro k
    obtain ⟨σ1, f1, f2⟩ := k96 (d := d + 29) (L := L) (k := k) hC (by omega)
    have q1 := CP_RQ f1 hq
    obtain ⟨σ2, x1, x2, g2⟩ := q206 (d := d + 36) (L := L) (σ := σ1) (k := k) hw q1 (by omega)
    exact ⟨σ1, σ2, by rw [f1.1 0 (by omega)]; exact h0, LI_s h' hw hr hE hv hv7 hq hI hT h0 (WF_game hw) f1 (RQ_le x1 (by omega)) x2, f2, g2⟩
  by_cases q : scr (x + 1) = 0
  · obtain ⟨σ1, σ2, e1, hL, f2, g2⟩ := key 0
    refine ⟨σ2, hL, fun Q => ?_⟩
    rw [b232_643 (by omega) (by omega) (by omega), e0, if_pos q, b232_656, b232_657]
    refine (f2 _).trans ?_
    simp only [am_push_s]
    rw [b232_660 (by omega) (by omega) (by omega), e1, if_pos q, b232_673, b232_674]
    refine (g2 _).trans ?_
    simp only [am_push_s]
    rw [b232_677, if_pos rfl]
  · obtain ⟨σ1, σ2, e1, hL, f2, g2⟩ := key 1
    refine ⟨σ2, hL, fun Q => ?_⟩
    rw [b232_643 (by omega) (by omega) (by omega), e0, if_neg q, b232_652, b232_657]
    refine (f2 _).trans ?_
    simp only [am_push_s]
    rw [b232_660 (by omega) (by omega) (by omega), e1, if_neg q, b232_669, b232_674]
    refine (g2 _).trans ?_
    simp only [am_push_s]
    rw [b232_677, if_pos rfl]
theorem law_1166 {x : Int} (h : LI scr i σ) (hi : i < 1900) (hx : 0 ≤ x ∧ x + 3 < (L : Int) ∧ (L : Int) < 100000) : ∃ σ2 : St, LI scr (i + 1) σ2 ∧ ∀ Q, R (d + 60) 232 1166 [vR 0, vR 19, vR 153, vI x] [] (WS L σ) Q = R (d + 60) 232 1189 [vR 0, vR 19, vR 153, vI x] [] (WS L σ2) Q := by
  have h' := h
  obtain ⟨s, cl, l, hw, hr, hE, hv, hv7, hq, hI, hT, h0⟩ := h
  have hC : HC (10 * i) s cl σ := ⟨hw, hr, hE, by omega, by omega, by omega⟩
  obtain ⟨σ1, f1, f2⟩ := k142 (d := d + 29) (L := L) (x := scr (x + 1)) hC
  have q1 := CP_RQ f1 hq
  have e4 : σ1 154 = s := q1.1
  have e0 : σ 0 = scr := h0
  have e1 : σ1 0 = scr := by rw [f1.1 0 (by omega)]; exact h0
  have ec : σ1 153 25 = σ 150 1 := by rw [f1.1 153 (by omega), hT.2.2.2.2.1, hT.2.1]
  have g2 := fun Q : Option AV → AW → Prop => q230 (d := d + 54) (L := L) (Q := Q) (σ := σ1) (s := s) (x := scr (x + 1)) hw
  rw [ss_self e4, ec] at g2
  refine ⟨σ1, LI_s h' hw hr hE hv hv7 hq hI hT h0 hw f1 (RQ_le q1 (by omega)) FG_r, fun Q => ?_⟩
  rw [b232_1166 (by omega) (by omega) (by omega), e0]
  refine (f2 _).trans ?_
  simp only [am_push_s]
  rw [b232_1175 (by omega) (by omega) (by omega), e1]
  refine (g2 _).trans ?_
  simp only [am_push_s]
  rw [b232_1184, if_pos rfl]
theorem law_1084 {x : Int} (h : LI scr i σ) (hi : i < 1900) (hx : 0 ≤ x ∧ x + 3 < (L : Int) ∧ (L : Int) < 100000) : ∃ σ2 : St, LI scr (i + 1) σ2 ∧ ∀ Q, R (d + 60) 232 1084 [vR 0, vR 19, vR 153, vI x] [] (WS L σ) Q = R (d + 60) 232 1189 [vR 0, vR 19, vR 153, vI x] [] (WS L σ2) Q := by
  have h' := h
  obtain ⟨s, cl, l, hw, hr, hE, hv, hv7, hq, hI, hT, h0⟩ := h
  have hC : HC (10 * i) s cl σ := ⟨hw, hr, hE, by omega, by omega, by omega⟩
  have e0 : σ 0 = scr := h0
  obtain ⟨t1, t2, t3, t4, t5, t6⟩ := hT
  have f2 := fun Q : Option AV → AW → Prop => k135 (d := d + 29) (L := L) (σ := σ) (Q := Q) (x := scr (x + 1)) t1 t3 t4
  have g2 := fun Q : Option AV → AW → Prop => q226 (d := d + 58) (L := L) (σ := σ) (Q := Q) (x := scr (x + 1)) t1 t5 t6
  refine ⟨σ, LI_s h' hw hr hE hv hv7 hq hI ⟨t1, t2, t3, t4, t5, t6⟩ h0 hw (CP_r hC) (RQ_le hq (by omega)) FG_r, fun Q => ?_⟩
  rw [b232_1084 (by omega) (by omega) (by omega), e0]
  refine (f2 _).trans ?_
  simp only [am_push_s]
  rw [b232_1093 (by omega) (by omega) (by omega), e0]
  refine (g2 _).trans ?_
  simp only [am_push_s]
  rw [b232_1102, if_pos rfl]
theorem law_1041 {x : Int} (h : LI scr i σ) (hi : i < 1900) (hx : 0 ≤ x ∧ x + 3 < (L : Int) ∧ (L : Int) < 100000) : ∃ σ2 : St, LI scr (i + 1) σ2 ∧ ∀ Q, R (d + 60) 232 1041 [vR 0, vR 19, vR 153, vI x] [] (WS L σ) Q = R (d + 60) 232 1189 [vR 0, vR 19, vR 153, vI x] [] (WS L σ2) Q := by
  obtain ⟨s, cl, l, hw, hr, hE, hv, hv7, hq, hI, hT, h0⟩ := h
  have hC : HC (10 * i) s cl σ := ⟨hw, hr, hE, by omega, by omega, by omega⟩
  have n8 := (nS_8 hw.1).1
  obtain ⟨σ1, f1, f2, f3, f4, f5⟩ := k128 (d := d + 29) (L := L) (c := scr (x + 1)) (a := scr (x + 2)) (x := scr (x + 3)) hC
  have e0 : σ 0 = scr := h0
  have e1 : σ1 0 = scr := by rw [f1 0 (by omega) (by omega) (by omega)]; exact h0
  have e4 : σ1 154 = s := by rw [f1 154 (by omega) (by omega) (by omega)]; exact hq.1
  obtain ⟨σ2, g1, g2, g3, g4, g5⟩ := q217 (d := d + 50) (L := L) (σ := σ1) (c := scr (x + 1)) (a := scr (x + 2)) (x := scr (x + 3)) hw e4
  have both : ∀ a, a ≠ 150 → a ≠ 151 → a ≠ 152 → a ≠ 153 → a ≠ 164 → σ2 a = σ a := fun a a1 a2 a3 a4 a5 => (g1 a a4 a5).trans (f1 a a1 a2 a3)
  have b153 : ∀ j : Int, j < 25 ∨ 28 < j → σ2 153 j = σ 153 j := fun j hj => (g2 j hj).trans (by rw [f1 153 (by omega) (by omega) (by omega)])
  have z : ∀ a, a < 150 → σ2 a = σ a := fun a ha => both a (by omega) (by omega) (by omega) (by omega) (by omega)
  have z154 := both 154 (by omega) (by omega) (by omega) (by omega) (by omega)
  have z155 := both 155 (by omega) (by omega) (by omega) (by omega) (by omega)
  have z158 := both 158 (by omega) (by omega) (by omega) (by omega) (by omega)
  refine ⟨σ2, ⟨s, cl, (ac2 s (scr (x + 1)) (scr (x + 2)) (scr (x + 3))).2, hw, CR_st hw hr (fun a _ _ => z a (by omega)), ?_, ?_, ?_, ?_, ?_, ?_, ?_⟩, fun Q => ?_⟩
  · exact EN_mono (EN_fr hE (z 139 (by omega)) (z 140 (by omega)) (z 141 (by omega)) (by rw [z 20 (by omega)]; exact Int.le_refl _) (fun _ c x _ _ => by unfold Wc; rw [z 31 (by omega)]) n8) (by omega)
  · rw [z 20 (by omega)]
    omega
  · rw [z 77 (by omega)]
    omega
  · have b14 := b153 14 (by omega)
    exact ⟨z154.trans hq.1, by rw [b14]; exact hq.2.1, by rw [b14]; have := hq.2.2.1; omega, fun x hx => by rw [z158, b14]; exact hq.2.2.2 x hx⟩
  · unfold IMs
    rw [z 19 (by omega), b153 3 (by omega), z155]
    rcases hI with hI | ⟨i1, i2, cl2, i3, i4⟩
    · exact Or.inl hI
    · exact Or.inr ⟨i1, i2, cl2, i3, CR_st i3 i4 (fun a _ _ => z a (by omega))⟩
  · exact ⟨ac2_len, by rw [g1 150 (by omega) (by omega)]; exact f3, by rw [g1 151 (by omega) (by omega)]; exact f2, fun i c hi => by rw [g1 152 (by omega) (by omega)]; exact f4 i c hi, g3, g4⟩
  · rw [z 0 (by omega)]
    exact h0
  · rw [b232_1041 (by omega) (by omega) (by omega) (by omega) (by omega) (by omega) (by omega) (by omega) (by omega), e0]
    refine (f5 _).trans ?_
    simp only [am_push_s]
    rw [b232_1060 (by omega) (by omega) (by omega) (by omega) (by omega) (by omega) (by omega) (by omega) (by omega), e1]
    refine (g5 _).trans ?_
    simp only [am_push_s]
    rw [b232_1079, if_pos rfl]
theorem cpI_in {s t : Int → Int} : ∀ j : Int, 0 ≤ j → j < 1580 → cpI s t j = t j := fun j h1 h2 => if_pos ⟨h1, h2⟩
theorem law_1140 {x : Int} (h : LI scr i σ) (hi : i < 1900) : ∃ σ2 : St, LI scr (i + 1) σ2 ∧ ∀ Q, R (d + 60) 232 1140 [vR 0, vR 19, vR 153, vI x] [] (WS L σ) Q = R (d + 60) 232 1189 [vR 0, vR 19, vR 153, vI x] [] (WS L σ2) Q := by
  obtain ⟨s, cl, l, hw, hr, hE, hv, hv7, hq, hI, hT, h0⟩ := h
  have hC : HC (10 * i) s cl σ := ⟨hw, hr, hE, by omega, by omega, by omega⟩
  have n8 := (nS_8 hw.1).1
  obtain ⟨σ1, f1, f2, f3, f4, f5, f6⟩ := k138 (d := d + 29) (L := L) hC (by omega)
  have e4 : σ1 154 = s := by rw [f1 154 (by omega) (by omega)]; exact hq.1
  obtain ⟨σ2, g1, g2, g3, g4, g5, g6⟩ := q228 (d := d + 54) (L := L) e4
  have z : ∀ a, a < 153 → a ≠ 19 → (a < 77 ∨ 134 ≤ a) → σ2 a = σ a := fun a a1 a2 a3 => (g5 a (by omega) (by omega)).trans (f1 a a2 a3)
  have b153 : ∀ j : Int, j ≠ 3 → σ2 153 j = σ 153 j := fun j hj => (g4 j hj).trans (by rw [f1 153 (by omega) (by omega)])
  have z158 : σ2 158 = σ 158 := (g5 158 (by omega) (by omega)).trans (f1 158 (by omega) (by omega))
  have z164 : σ2 164 = σ 164 := (g5 164 (by omega) (by omega)).trans (f1 164 (by omega) (by omega))
  refine ⟨σ2, ⟨s, cl, l, hw, CR_st hw hr (fun a _ _ => z a (by omega) (by omega) (by omega)), ?_, ?_, ?_, ?_, ?_, ?_, ?_⟩, fun Q => ?_⟩
  · exact EN_mono (EN_fr hE (z 139 (by omega) (by omega) (by omega)) (z 140 (by omega) (by omega) (by omega)) (z 141 (by omega) (by omega) (by omega)) (by rw [z 20 (by omega) (by omega) (by omega)]; exact Int.le_refl _) (fun _ c x _ _ => by unfold Wc; rw [z 31 (by omega) (by omega) (by omega)]) n8) (by omega)
  · rw [z 20 (by omega) (by omega) (by omega)]
    omega
  · rw [g5 77 (by omega) (by omega), f5]
    omega
  · have b14 := b153 14 (by omega)
    exact ⟨g1, by rw [b14]; exact hq.2.1, by rw [b14]; have := hq.2.2.1; omega, fun x hx => by rw [z158, b14]; exact hq.2.2.2 x hx⟩
  · refine Or.inr ⟨by rw [g5 19 (by omega) (by omega)]; exact f3, g3, cl, ?_, ?_⟩
    · rw [g2]
      exact WF_ext hw cpI_in
    · rw [g2]
      exact CR_ext hw (CR_st hw f4 (fun a _ _ => g5 a (by omega) (by omega))) cpI_in
  · obtain ⟨t1, t2, t3, t4, t5, t6⟩ := hT
    exact ⟨t1, by rw [z 150 (by omega) (by omega) (by omega)]; exact t2, by rw [z 151 (by omega) (by omega) (by omega)]; exact t3, fun i c hi => by rw [z 152 (by omega) (by omega) (by omega)]; exact t4 i c hi, by rw [b153 25 (by omega)]; exact t5, fun i c hi => by rw [z164]; exact t6 i c hi⟩
  · rw [z 0 (by omega) (by omega) (by omega)]
    exact h0
  · rw [b232_1140]
    refine (f6 _).trans ?_
    simp only [am_push_s]
    rw [b232_1144]
    refine (g6 _).trans ?_
    simp only [am_push_s]
    rw [b232_1148, if_pos rfl]
theorem law_1153 {x : Int} (h : LI scr i σ) (hi : i < 1900) : ∃ σ2 : St, LI scr (i + 1) σ2 ∧ ∀ Q, R (d + 60) 232 1153 [vR 0, vR 19, vR 153, vI x] [] (WS L σ) Q = R (d + 60) 232 1189 [vR 0, vR 19, vR 153, vI x] [] (WS L σ2) Q := by
  have h' := h
  obtain ⟨s, cl, l, hw, hr, hE, hv, hv7, hq, hI, hT, h0⟩ := h
  have hC : HC (10 * i) s cl σ := ⟨hw, hr, hE, by omega, by omega, by omega⟩
  rcases hI with ⟨i1, i2⟩ | ⟨i1, i2, cl2, i3, i4⟩
  · obtain ⟨σ1, f1, f2⟩ := k141n (d := d + 29) (L := L) hC i1
    have q1 := CP_RQ f1 hq
    have e4 : σ1 154 = s := q1.1
    have g2 := fun Q : Option AV → AW → Prop => q229n (d := d + 54) (L := L) (Q := Q) (σ := σ1) (s := s) (by rw [f1.1 153 (by omega)]; exact i2)
    rw [ss_self e4] at g2
    refine ⟨σ1, LI_s h' hw hr hE hv hv7 hq (Or.inl ⟨i1, i2⟩) hT h0 hw f1 (RQ_le q1 (by omega)) FG_r, fun Q => ?_⟩
    rw [b232_1153]
    refine (f2 _).trans ?_
    simp only [am_push_s]
    rw [b232_1157]
    refine (g2 _).trans ?_
    simp only [am_push_s]
    rw [b232_1161, if_pos rfl]
  · obtain ⟨σ1, f1, f2⟩ := k141 (d := d + 29) (L := L) hC i1 i3 i4
    have q1 := CP_RQ f1 hq
    have e4 : σ1 154 = s := q1.1
    have e5 : σ1 155 = σ 155 := f1.1 155 (by omega)
    have g2 := fun Q : Option AV → AW → Prop => q229 (d := d + 54) (L := L) (Q := Q) (σ := σ1) (s := s) (by rw [f1.1 153 (by omega), i2]; omega)
    rw [ss_self e4, e5] at g2
    have w' : WF (cpI s (σ 155)) cl2 := WF_ext i3 cpI_in
    have f1' : CP (10 * i) (cpI s (σ 155)) cl2 σ σ1 := by
      obtain ⟨p1, p2, p3, p4, p5⟩ := f1
      refine ⟨p1, CR_ext i3 p2 cpI_in, ?_, p4, p5⟩
      have : nS (cpI s (σ 155)) = nS (σ 155) := by unfold nS; rw [cpI_in 0 (by omega) (by omega)]
      rw [this]
      exact p3
    refine ⟨setS σ1 (cpI s (σ 155)), LI_s h' hw hr hE hv hv7 hq (Or.inr ⟨i1, i2, cl2, i3, i4⟩) hT h0 w' f1' (RQ_set (RQ_le q1 (by omega))) FG_set, fun Q => ?_⟩
    rw [b232_1153]
    refine (f2 _).trans ?_
    simp only [am_push_s]
    rw [b232_1157]
    refine (g2 _).trans ?_
    simp only [am_push_s]
    rw [b232_1161, if_pos rfl]
end LD
