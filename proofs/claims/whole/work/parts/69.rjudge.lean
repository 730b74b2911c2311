/-! the reference: judged, first, fairest -/
section RN3
variable {d L : Nat} {N : Int} {s s' : Int → Int} {cl cl' : Nat → List Cl} {σ σ1 : St} {Q : Option AV → AW → Prop}
theorem r192_l {sp : Int} {kd z : Nat} {z1 : Int} (hw : WF s cl) (hk : kd < 4) (hz : s 6 = (z : Int)) : ∀ (j t x : Nat) (u7 u8 u9 u10 : AV) (σ : St), t + j = z → RI s cl kd false sp σ → x < 65536 → dR x = (jS (Wr s cl) (mvS s kd false) (nS s) (fun q => s (195 + q)) t).1 → ∃ (σ' : St) (x' t' : AV) (v7 v8 v9 v10 : AV), RI s cl kd false sp σ' ∧ FQ σ σ' ∧ ∀ Q, R (d + 19) 192 37 [vR 153, vI z1, vI x, vI (jS (Wr s cl) (mvS s kd false) (nS s) (fun q => s (195 + q)) t).2.1, vI (jS (Wr s cl) (mvS s kd false) (nS s) (fun q => s (195 + q)) t).2.2.1, vI (jS (Wr s cl) (mvS s kd false) (nS s) (fun q => s (195 + q)) t).2.2.2, vI t, u7, u8, u9, u10] [] (WS L σ) Q = R (d + 19) 192 217 [vR 153, vI z1, x', vI (jS (Wr s cl) (mvS s kd false) (nS s) (fun q => s (195 + q)) z).2.1, vI (jS (Wr s cl) (mvS s kd false) (nS s) (fun q => s (195 + q)) z).2.2.1, vI (jS (Wr s cl) (mvS s kd false) (nS s) (fun q => s (195 + q)) z).2.2.2, t', v7, v8, v9, v10] [] (WS L σ') Q := by
  have w0 := hw.1
  unfold W0 at w0
  have hn : s 0 = (nS s : Int) := by unfold nS; omega
  have h8 : nS s ≤ 8 := by omega
  intro j
  induction j with
  | zero =>
    intro t x u7 u8 u9 u10 σ ht hI hx hd
    obtain rfl : t = z := by omega
    have e6 : σ 154 6 = s 6 := by rw [hI.1]
    refine ⟨σ, vI x, vI t, u7, u8, u9, u10, hI, FQ_r, fun Q => ?_⟩
    rw [b192_37, e6, if_pos (by omega)]
  | succ j ih =>
    intro t x u7 u8 u9 u10 σ ht hI hx hd
    have e6 : σ 154 6 = s 6 := by rw [hI.1]
    have e0 : σ 154 0 = s 0 := by rw [hI.1]
    have e5 : σ 154 (195 + t) = s (195 + t) := by rw [hI.1]
    have hrt := hw.2.2.2.1 t (by omega)
    obtain ⟨i1, i2, i3, i4, i5⟩ := jS_r (W := Wr s cl) (mv := mvS s kd false) (row := fun q => s (195 + q)) h8 (fun t _ => mvS_3 hw) t (by omega)
    by_cases c1 : 0 ≤ (jS (Wr s cl) (mvS s kd false) (nS s) (fun q => s (195 + q)) t).2.1
    · have hst := jS_stop c1 (j + 1)
      rw [ht] at hst
      refine ⟨σ, vI x, vI t, u7, u8, u9, u10, hI, FQ_r, fun Q => ?_⟩
      rw [b192_37, e6, if_neg (by omega), b192_49, if_pos (by omega), hst]
    · have hm5 := i2 (by omega)
      have hinr := fun Q : Option AV → AW → Prop => r147 (d := d + 17) (L := L) (Q := Q) (σ := σ) (s := s) (x := s (195 + t)) w0.1
      rw [ss_self hI.1] at hinr
      have head : ∀ Q, R (d + 19) 192 37 [vR 153, vI z1, vI x, vI (jS (Wr s cl) (mvS s kd false) (nS s) (fun q => s (195 + q)) t).2.1, vI (jS (Wr s cl) (mvS s kd false) (nS s) (fun q => s (195 + q)) t).2.2.1, vI (jS (Wr s cl) (mvS s kd false) (nS s) (fun q => s (195 + q)) t).2.2.2, vI t, u7, u8, u9, u10] [] (WS L σ) Q = if 0 ≤ s (195 + t) ∧ s (195 + t) < s 0 then R (d + 19) 192 77 [vR 153, vI z1, vI x, vI (-5), vI (jS (Wr s cl) (mvS s kd false) (nS s) (fun q => s (195 + q)) t).2.2.1, vI (jS (Wr s cl) (mvS s kd false) (nS s) (fun q => s (195 + q)) t).2.2.2, vI t, vI (s (195 + t)), u8, u9, u10] [] (WS L σ) Q else R (d + 19) 192 88 [vR 153, vI z1, vI x, vI (-5), vI (jS (Wr s cl) (mvS s kd false) (nS s) (fun q => s (195 + q)) t).2.2.1, vI (jS (Wr s cl) (mvS s kd false) (nS s) (fun q => s (195 + q)) t).2.2.2, vI t, vI (s (195 + t)), u8, u9, u10] [] (WS L σ) Q := by
        intro Q
        rw [b192_37, e6, if_neg (by omega), b192_49, hm5, if_neg (by omega), b192_55 (by omega) (by omega) (by omega), e5, hinr]
        simp only [am_push_s]
        rw [b192_74]
        by_cases q : 0 ≤ s (195 + t) ∧ s (195 + t) < s 0
        · rw [tI_t q, if_neg (by omega), if_pos q]
        · rw [tI_f q, if_pos rfl, if_neg q]
      have bad : ∀ (u7 u8 u9 u10 : AV), jS (Wr s cl) (mvS s kd false) (nS s) (fun q => s (195 + q)) (t + 1) = ((jS (Wr s cl) (mvS s kd false) (nS s) (fun q => s (195 + q)) t).1, (t : Int), (jS (Wr s cl) (mvS s kd false) (nS s) (fun q => s (195 + q)) t).2.2.1, (jS (Wr s cl) (mvS s kd false) (nS s) (fun q => s (195 + q)) t).2.2.2) → ∃ (σ' : St) (x' t' : AV) (v7 v8 v9 v10 : AV), RI s cl kd false sp σ' ∧ FQ σ σ' ∧ ∀ Q, R (d + 19) 192 88 [vR 153, vI z1, vI x, vI (-5), vI (jS (Wr s cl) (mvS s kd false) (nS s) (fun q => s (195 + q)) t).2.2.1, vI (jS (Wr s cl) (mvS s kd false) (nS s) (fun q => s (195 + q)) t).2.2.2, vI t, u7, u8, u9, u10] [] (WS L σ) Q = R (d + 19) 192 217 [vR 153, vI z1, x', vI (jS (Wr s cl) (mvS s kd false) (nS s) (fun q => s (195 + q)) z).2.1, vI (jS (Wr s cl) (mvS s kd false) (nS s) (fun q => s (195 + q)) z).2.2.1, vI (jS (Wr s cl) (mvS s kd false) (nS s) (fun q => s (195 + q)) z).2.2.2, t', v7, v8, v9, v10] [] (WS L σ') Q := by
        intro u7 u8 u9 u10 hj
        have hd1 : dR x = (jS (Wr s cl) (mvS s kd false) (nS s) (fun q => s (195 + q)) (t + 1)).1 := by rw [hj]; exact hd
        obtain ⟨σ1, x', t', v7, v8, v9, v10, g1, g2, g3⟩ := ih (t + 1) x u7 u8 u9 u10 σ (by omega) hI hx hd1
        refine ⟨σ1, x', t', v7, v8, v9, v10, g1, g2, fun Q => ?_⟩
        rw [b192_88, b192_211 (by omega), ← g3 Q, hj]
        rfl
      by_cases c2 : 0 ≤ s (195 + t) ∧ s (195 + t) < s 0
      · obtain ⟨b, hb⟩ : ∃ b : Nat, s (195 + t) = (b : Int) := ⟨(s (195 + t)).toNat, by omega⟩
        have hb8 : b < 8 := by omega
        have hbn : b < nS s := by omega
        by_cases c3 : dR x b = 0
        · have hc3 := mvS_3 hw (kd := kd) (sw := false) (t := t)
          have hO : Ov (nS s) (dR x) := by rw [hd]; exact i4
          obtain ⟨gl, gd⟩ := orR (v := mvS s kd false t + 1) hx hb8 (by omega) c3
          have hO2 : Ov (nS s) (dR (x ||| (mvS s kd false t + 1) * 2 ^ (2 * b))) := by rw [gd]; exact Ov_oup hO hbn (by omega)
          obtain ⟨σ1, y, f1, f2, f3, f4, f5, f6⟩ := r186 (d := d) (L := L) (x := x) hw hk hI hx hO
          obtain ⟨σ2, y2, g1, g2, g3, g4, g5, g6⟩ := r186 (d := d) (L := L) (x := x ||| (mvS s kd false t + 1) * 2 ^ (2 * b)) hw hk f1 gl hO2
          have hs1 : sdO (dR y) (mvS s kd false t) < 2 ^ nS s := sdO_lt (by rw [f5]; exact EF_Ov h8 (fun t _ => mvS_3 hw) _ _ hO) h8
          have hs2 : sdO (dR y2) (mvS s kd false t) < 2 ^ nS s := sdO_lt (by rw [g5]; exact EF_Ov h8 (fun t _ => mvS_3 hw) _ _ hO2) h8
          have p8 := pw8 h8
          have hW1 := f1.2.2.2.2.1 _ _ hc3 hs1
          have hW2 := g1.2.2.2.2.1 _ _ hc3 hs2
          have b1 := Wr_b hw (x := sdO (dR y) (mvS s kd false t)) hc3
          have b2 := Wr_b hw (x := sdO (dR y2) (mvS s kd false t)) hc3
          have v1 : sdO (dR y) (mvS s kd false t) = sdO (EF (Wr s cl) (mvS s kd false) (nS s) (frO (nS s) (jS (Wr s cl) (mvS s kd false) (nS s) (fun q => s (195 + q)) t).1) (jS (Wr s cl) (mvS s kd false) (nS s) (fun q => s (195 + q)) t).1) (mvS s kd false t) := by rw [f5, hd]
          have v2 : sdO (dR y2) (mvS s kd false t) = sdO (EF (Wr s cl) (mvS s kd false) (nS s) (frO (nS s) (oup (jS (Wr s cl) (mvS s kd false) (nS s) (fun q => s (195 + q)) t).1 b (mvS s kd false t + 1))) (oup (jS (Wr s cl) (mvS s kd false) (nS s) (fun q => s (195 + q)) t).1 b (mvS s kd false t + 1))) (mvS s kd false t) := by rw [g5, gd, hd]
          have hj : jS (Wr s cl) (mvS s kd false) (nS s) (fun q => s (195 + q)) (t + 1) = if (jS (Wr s cl) (mvS s kd false) (nS s) (fun q => s (195 + q)) t).2.2.1 < 0 ∧ Wr s cl (mvS s kd false t) (sdO (dR y2) (mvS s kd false t)) < Wr s cl (mvS s kd false t) (sdO (dR y) (mvS s kd false t)) then (oup (jS (Wr s cl) (mvS s kd false) (nS s) (fun q => s (195 + q)) t).1 b (mvS s kd false t + 1), -5, (t : Int), Wr s cl (mvS s kd false t) (sdO (dR y) (mvS s kd false t)) - Wr s cl (mvS s kd false t) (sdO (dR y2) (mvS s kd false t))) else (oup (jS (Wr s cl) (mvS s kd false) (nS s) (fun q => s (195 + q)) t).1 b (mvS s kd false t + 1), -5, (jS (Wr s cl) (mvS s kd false) (nS s) (fun q => s (195 + q)) t).2.2.1, (jS (Wr s cl) (mvS s kd false) (nS s) (fun q => s (195 + q)) t).2.2.2) := by
            rw [jS, v1, v2]
            dsimp only
            have hbt : (s (195 + (t : Int))).toNat = b := by omega
            rw [if_neg c1, hbt, if_neg (fun h => h.elim (fun h => h ⟨by omega, by omega⟩) (fun h => h (by rw [← hd]; exact c3)))]
          have run : ∀ Q, R (d + 19) 192 37 [vR 153, vI z1, vI x, vI (jS (Wr s cl) (mvS s kd false) (nS s) (fun q => s (195 + q)) t).2.1, vI (jS (Wr s cl) (mvS s kd false) (nS s) (fun q => s (195 + q)) t).2.2.1, vI (jS (Wr s cl) (mvS s kd false) (nS s) (fun q => s (195 + q)) t).2.2.2, vI t, u7, u8, u9, u10] [] (WS L σ) Q = R (d + 19) 192 158 [vR 153, vI z1, vI ((x ||| (mvS s kd false t + 1) * 2 ^ (2 * b) : Nat) : Int), vI (-5), vI (jS (Wr s cl) (mvS s kd false) (nS s) (fun q => s (195 + q)) t).2.2.1, vI (jS (Wr s cl) (mvS s kd false) (nS s) (fun q => s (195 + q)) t).2.2.2, vI t, vI b, vI (mvS s kd false t), vI (Wr s cl (mvS s kd false t) (sdO (dR y) (mvS s kd false t))), u10] [vI (sdO (dR y2) (mvS s kd false t)), vI (256 * (mvS s kd false t : Int)), vR 157] (WS L σ2) Q := by
            intro Q
            rw [head, if_pos c2, hb, b192_77 (by omega), i_dR hx hb8, if_pos (by omega), b192_94, r187 hw hI hk (by omega)]
            simp only [am_push_s]
            rw [b192_100 (by omega)]
            refine (f6 _).trans ?_
            simp only [am_push_s]
            rw [b192_117, r189 f4 hc3]
            simp only [am_push_s]
            have ev : (mvS s kd false t : Int) + 1 = ((mvS s kd false t + 1 : Nat) : Int) := rfl
            rw [b192_122 (by omega) (by omega) (by omega) (by omega) (by omega) (by omega), hW1, ev, i_orR hx hb8 (by omega)]
            refine (g6 _).trans ?_
            simp only [am_push_s]
            rw [b192_153, r189 g4 hc3]
            simp only [am_push_s]
          have hd1 : dR (x ||| (mvS s kd false t + 1) * 2 ^ (2 * b)) = (jS (Wr s cl) (mvS s kd false) (nS s) (fun q => s (195 + q)) (t + 1)).1 := by
            rw [hj, gd, hd]
            split <;> rfl
          obtain ⟨σ3, x', t', v7, v8, v9, v10, k1, k2, k3⟩ := ih (t + 1) _ (vI b) (vI (mvS s kd false t)) (vI (Wr s cl (mvS s kd false t) (sdO (dR y) (mvS s kd false t)))) (vI (Wr s cl (mvS s kd false t) (sdO (dR y2) (mvS s kd false t)))) σ2 (by omega) g1 gl hd1
          refine ⟨σ3, x', t', v7, v8, v9, v10, k1, FQ_t (FQ_t f2 g2) k2, fun Q => ?_⟩
          rw [run, b192_158 (by omega) (by omega) (by omega), hW2, ← k3 Q, hj]
          by_cases c4 : (jS (Wr s cl) (mvS s kd false) (nS s) (fun q => s (195 + q)) t).2.2.1 < 0
          · have e5 := i3 c4
            rw [e5, if_neg (by omega), b192_169]
            by_cases c5 : Wr s cl (mvS s kd false t) (sdO (dR y2) (mvS s kd false t)) < Wr s cl (mvS s kd false t) (sdO (dR y) (mvS s kd false t))
            · have hq : (-5 : Int) < 0 ∧ Wr s cl (mvS s kd false t) (sdO (dR y2) (mvS s kd false t)) < Wr s cl (mvS s kd false t) (sdO (dR y) (mvS s kd false t)) := ⟨by omega, c5⟩
              rw [if_neg (by omega), if_pos hq, b192_176 (by omega), b192_186, if_neg (by omega), b192_195, if_neg (by omega), b192_202, b192_209, b192_211 (by omega)]
              rfl
            · rw [if_pos (by omega), if_neg (fun h => c5 h.2), b192_184, b192_186, if_neg (by omega), b192_195, if_pos (by omega), b192_207, b192_209, b192_211 (by omega)]
              rfl
          · rw [if_pos (by omega), if_neg (fun h => c4 h.1), b192_184, b192_186, if_pos (by omega), b192_207, b192_209, b192_211 (by omega)]
            rfl
        · have hj : jS (Wr s cl) (mvS s kd false) (nS s) (fun q => s (195 + q)) (t + 1) = ((jS (Wr s cl) (mvS s kd false) (nS s) (fun q => s (195 + q)) t).1, (t : Int), (jS (Wr s cl) (mvS s kd false) (nS s) (fun q => s (195 + q)) t).2.2.1, (jS (Wr s cl) (mvS s kd false) (nS s) (fun q => s (195 + q)) t).2.2.2) := by
            rw [jS]
            dsimp only
            have hbt : (s (195 + (t : Int))).toNat = b := by omega
            rw [if_neg c1, hbt, if_pos (Or.inr (by rw [← hd]; exact c3))]
          obtain ⟨σ1, x', t', v7, v8, v9, v10, g1, g2, g3⟩ := bad (vI b) u8 u9 u10 hj
          refine ⟨σ1, x', t', v7, v8, v9, v10, g1, g2, fun Q => ?_⟩
          rw [head, if_pos c2, hb, b192_77 (by omega), i_dR hx hb8, if_neg (by omega)]
          exact g3 Q
      · have hj : jS (Wr s cl) (mvS s kd false) (nS s) (fun q => s (195 + q)) (t + 1) = ((jS (Wr s cl) (mvS s kd false) (nS s) (fun q => s (195 + q)) t).1, (t : Int), (jS (Wr s cl) (mvS s kd false) (nS s) (fun q => s (195 + q)) t).2.2.1, (jS (Wr s cl) (mvS s kd false) (nS s) (fun q => s (195 + q)) t).2.2.2) := by
          rw [jS]
          dsimp only
          rw [if_neg c1, if_pos (Or.inl (by omega))]
        obtain ⟨σ1, x', t', v7, v8, v9, v10, g1, g2, g3⟩ := bad (vI (s (195 + t))) u8 u9 u10 hj
        refine ⟨σ1, x', t', v7, v8, v9, v10, g1, g2, fun Q => ?_⟩
        rw [head, if_neg c2]
        exact g3 Q
theorem q192 {x : Int} (hw : WF s cl) (h : RQ N s σ) (hN : N < 20000) : ∃ σ' : St, RQ (N + 1) s σ' ∧ FQ σ σ' ∧ ∀ Q, R (d + 20) 192 0 [vR 153, vI x, vX 9, vX 9, vX 9, vX 9, vX 9, vX 9, vX 9, vX 9, vX 9] [] (WS L σ) Q = Q (some (vI (aJudged s cl x))) (WS L σ') := by
  have w0 := hw.1
  unfold W0 at w0
  have h1 := h.1
  have e4 : σ 154 4 = s 4 := by rw [h1]
  have hk : (kdS s : Int) = s 4 := by unfold kdS; omega
  unfold aJudged
  by_cases q : 0 ≤ x ∧ x < 3
  · obtain ⟨σ1, f1, f2, f3⟩ := r185 (d := d + 17) (L := L) (kd := kdS s) (sw := false) (z := 0) hw h (by omega) rfl
    obtain ⟨σ2, x', t', v7, v8, v9, v10, g1, g2, g3⟩ := r192_l (d := d + 1) (L := L) (kd := kdS s) (z := (s 6).toNat) (z1 := x) hw (by unfold kdS; omega) (by omega) (s 6).toNat 0 0 (vX 9) (vX 9) (vX 9) (vX 9) σ1 (by omega) f1 (by omega) (by rw [dR_0]; rfl)
    refine ⟨σ2, RI_RQ g1 (by have := h.2.1; omega) (by have := h.2.2.1; omega), FQ_t f2 g2, fun Q => ?_⟩
    rw [b192_0, r145]
    simp only [am_push_s]
    rw [b192_6, if_pos (by rw [tI_t (by omega)]; omega), b192_11, e4, ← hk, f3]
    simp only [am_push_n]
    rw [b192_22, if_pos q]
    refine (g3 Q).trans ?_
    unfold jdS
    by_cases q0 : x = 0
    · rw [b192_217, if_neg (by omega), b192_221, b192_237, if_pos q0]
    · by_cases q1 : x = 1
      · rw [b192_217, if_pos q0, b192_225, if_neg (by omega), b192_230, b192_237, if_neg q0, if_pos q1]
      · rw [b192_217, if_pos q0, b192_225, if_pos q1, b192_235, b192_237, if_neg q0, if_neg q1]
  · refine ⟨σ, ⟨h1, h.2.1, by have := h.2.2.1; omega, h.2.2.2⟩, FQ_r, fun Q => ?_⟩
    rw [b192_0, r145]
    simp only [am_push_s]
    rw [b192_6, if_neg (by rw [tI_f (by omega)]; omega), b192_9, if_neg q]
theorem frO_all {n : Nat} : frO n (fun _ => 0) = n := by
  unfold frO
  have : ∀ m, cnt (fun b => decide ((fun _ : Nat => 0) b = 0)) m = m := by
    intro m
    induction m with
    | zero => rfl
    | succ m ih => rw [cnt, ih]; rfl
  exact this n
theorem r194 {k : Nat} (hw : WF s cl) (h : RQ N s σ) (hN : N < 20000) (hk : k < 3) : ∃ σ' : St, RQ (N + 2) s σ' ∧ FQ σ σ' ∧ ∀ Q, R (d + 19) 194 0 [vR 153, vI k, vX 9] [] (WS L σ) Q = Q (some (vI (fiS s cl k))) (WS L σ') := by
  have w0 := hw.1
  unfold W0 at w0
  have hn : s 0 = (nS s : Int) := by unfold nS; omega
  have h8 : nS s ≤ 8 := by omega
  have p8 := pw8 h8
  have O0 : Ov (nS s) (dR 0) := by rw [dR_0]; exact ⟨fun _ => Nat.zero_le _, fun _ _ => rfl⟩
  obtain ⟨σ1, f1, f2, f3⟩ := r185 (d := d + 16) (L := L) (kd := k) (sw := false) (z := 0) hw h (by omega) rfl
  obtain ⟨σ2, y, g1, g2, g3, g4, g5, g6⟩ := r186 (d := d) (L := L) (x := 0) hw (by omega) f1 (by omega) O0
  have h2 := RI_RQ g1 (by have := h.2.1; omega) (show σ 153 14 + 1 ≤ N + 1 by have := h.2.2.1; omega)
  obtain ⟨σ3, j1, j2, j3⟩ := r185 (d := d + 16) (L := L) (kd := k) (sw := true) (z := 1) hw h2 (by omega) rfl
  obtain ⟨σ4, y2, k1, k2, k3, k4, k5, k6⟩ := r186 (d := d) (L := L) (x := 0) hw (by omega) j1 (by omega) O0
  have hs1 : sdO (dR y) 0 < 2 ^ nS s := sdO_lt (by rw [g5]; exact EF_Ov h8 (fun t _ => mvS_3 hw) _ _ O0) h8
  have hs2 : sdO (dR y2) 0 < 2 ^ nS s := sdO_lt (by rw [k5]; exact EF_Ov h8 (fun t _ => mvS_3 hw) _ _ O0) h8
  have hW1 := g1.2.2.2.2.1 0 _ (by omega) hs1
  have hW2 := k1.2.2.2.2.1 0 _ (by omega) hs2
  have hW1' : σ2 157 ((sdO (dR y) 0 : Nat) : Int) = Wr s cl 0 (sdO (dR y) 0) := by rw [← hW1]; congr 1; omega
  have hW2' : σ4 157 ((sdO (dR y2) 0 : Nat) : Int) = Wr s cl 0 (sdO (dR y2) 0) := by rw [← hW2]; congr 1; omega
  have b1 := Wr_b hw (x := sdO (dR y) 0) (show 0 < 3 by omega)
  have b2 := Wr_b hw (x := sdO (dR y2) 0) (show 0 < 3 by omega)
  have s2 := k1.2.1
  have r9 := fun Q : Option AV → AW → Prop => r189 (d := d + 18) (L := L) (Q := Q) (σ := σ2) (c := 0) g4 (by omega)
  have r9' := fun Q : Option AV → AW → Prop => r189 (d := d + 18) (L := L) (Q := Q) (σ := σ4) (c := 0) k4 (by omega)
  have q2 := h2.2.1
  have q3 := h2.2.2.1
  refine ⟨σ4, RI_RQ k1 (by omega) (by omega), FQ_t (FQ_t f2 g2) (FQ_t j2 k2), fun Q => ?_⟩
  rw [b194_0, f3]
  simp only [am_push_n]
  rw [b194_6]
  refine (g6 _).trans ?_
  simp only [am_push_s]
  rw [b194_15]
  refine (r9 _).trans ?_
  simp only [am_push_s]
  rw [b194_19 (by omega) (by omega), hW1', j3]
  simp only [am_push_n]
  rw [b194_27]
  refine (k6 _).trans ?_
  simp only [am_push_s]
  rw [b194_37]
  refine (r9' _).trans ?_
  simp only [am_push_s]
  rw [b194_41 (by omega) (by omega) (by rw [hW2']; omega), hW2', g5, k5, dR_0, frO_all]
  rfl
theorem q193 {x : Int} (hw : WF s cl) (h : RQ N s σ) (hN : N < 20000) : ∃ σ' : St, RQ (N + 2) s σ' ∧ FQ σ σ' ∧ ∀ Q, R (d + 20) 193 0 [vR 153, vI x] [] (WS L σ) Q = Q (some (vI (aFirst s cl x))) (WS L σ') := by
  unfold aFirst
  by_cases q : 0 ≤ x ∧ x < 3
  · obtain ⟨k, rfl⟩ : ∃ k : Nat, x = (k : Int) := ⟨x.toNat, by omega⟩
    obtain ⟨σ1, f1, f2, f3⟩ := r194 (d := d) (L := L) (k := k) hw h hN (by omega)
    refine ⟨σ1, f1, f2, fun Q => ?_⟩
    rw [b193_0, r145]
    simp only [am_push_s]
    rw [b193_6, if_neg (by rw [tI_t (by omega)]; omega), b193_9, f3]
    simp only [am_push_s]
    rw [b193_14, b193_20, if_pos q]
    rfl
  · refine ⟨σ, ⟨h.1, h.2.1, by have := h.2.2.1; omega, h.2.2.2⟩, FQ_r, fun Q => ?_⟩
    rw [b193_0, r145]
    simp only [am_push_s]
    rw [b193_6, if_pos (by rw [tI_f (by omega)]), b193_17, b193_20, if_neg q]
theorem fi_abs (hw : WF s cl) (k : Nat) : 0 ≤ absI (fiS s cl k) ∧ absI (fiS s cl k) < 1000000 := by
  have := fiS_b hw k
  unfold absI
  split <;> omega
theorem r195_1 {k : Nat} {u1 u2 : Int} {u4 : AV} (hw : WF s cl) (h : RQ N s σ) (hN : N < 20000) (hk : k < 3) : ∃ σ' : St, RQ (N + 2) s σ' ∧ FQ σ σ' ∧ ∀ Q, R (d + 20) 195 6 [vR 153, vI u1, vI u2, vI k, u4] [] (WS L σ) Q = if k = 0 ∨ absI (fiS s cl k) < u2 then R (d + 20) 195 6 [vR 153, vI k, vI (absI (fiS s cl k)), vI ((k + 1 : Nat) : Int), vI (absI (fiS s cl k))] [] (WS L σ') Q else R (d + 20) 195 6 [vR 153, vI u1, vI u2, vI ((k + 1 : Nat) : Int), vI (absI (fiS s cl k))] [] (WS L σ') Q := by
  obtain ⟨σ1, f1, f2, f3⟩ := r194 (d := d) (L := L) (k := k) hw h hN hk
  have hb := fiS_b hw k
  refine ⟨σ1, f1, f2, fun Q => ?_⟩
  have head : ∀ Q, R (d + 20) 195 6 [vR 153, vI u1, vI u2, vI k, u4] [] (WS L σ) Q = R (d + 20) 195 31 [vR 153, vI u1, vI u2, vI k, vI (fiS s cl k)] [vI (absI (fiS s cl k))] (WS L σ1) Q := by
    intro Q
    rw [b195_6, if_neg (by omega), b195_11, f3]
    simp only [am_push_s]
    rw [b195_16]
    unfold absI
    by_cases q : fiS s cl k < 0
    · rw [if_neg (by omega), if_pos q, b195_23 (by omega)]
    · rw [if_pos (by omega), if_neg q, b195_29]
  rw [head, b195_31]
  by_cases q0 : k = 0
  · have q1 : k = 0 ∨ absI (fiS s cl k) < u2 := Or.inl q0
    rw [if_pos q1, if_pos (by omega), b195_43, b195_48, if_pos (by omega), b195_59, b195_65 (by omega)]
    rfl
  · by_cases q2 : absI (fiS s cl k) < u2
    · have q1 : k = 0 ∨ absI (fiS s cl k) < u2 := Or.inr q2
      rw [if_pos q1, if_neg (by omega), b195_37, if_neg (by omega), b195_43, b195_48, if_neg (by omega), b195_53, if_neg (by omega), b195_59, b195_65 (by omega)]
      rfl
    · have q1 : ¬ (k = 0 ∨ absI (fiS s cl k) < u2) := fun h => h.elim q0 q2
      rw [if_neg q1, if_neg (by omega), b195_37, if_pos (by omega), b195_47, b195_48, if_neg (by omega), b195_53, if_pos (by omega), b195_64, b195_65 (by omega)]
      rfl
theorem q195 (hw : WF s cl) (h : RQ N s σ) (hN : N < 19000) : ∃ σ' : St, RQ (N + 6) s σ' ∧ FQ σ σ' ∧ ∀ Q, R (d + 20) 195 0 [vR 153, vX 9, vX 9, vX 9, vX 9] [] (WS L σ) Q = Q (some (vI (aFairest s cl))) (WS L σ') := by
  have ef : ∀ k : Nat, absI (fiS s cl k) = absI (fiS s cl k) := fun _ => rfl
  have a0 := fi_abs hw 0
  obtain ⟨σ1, f1, f2, f3⟩ := r195_1 (d := d) (L := L) (k := 0) (u1 := 0) (u2 := 0) (u4 := vX 9) hw h (by omega) (by omega)
  obtain ⟨σ2, g1, g2, g3⟩ := r195_1 (d := d) (L := L) (k := 1) (u1 := ((0 : Nat) : Int)) (u2 := absI (fiS s cl 0)) (u4 := vI (absI (fiS s cl 0))) hw f1 (by omega) (by omega)
  have fin : ∀ (u1 u2 : Int) (u4 : AV) (σ : St) (Q : Option AV → AW → Prop), R (d + 20) 195 6 [vR 153, vI u1, vI u2, vI ((2 + 1 : Nat) : Int), u4] [] (WS L σ) Q = Q (some (vI u1)) (WS L σ) := by
    intro u1 u2 u4 σ Q
    rw [b195_6, if_pos (by omega), b195_72]
  have q0 : 0 = 0 ∨ absI (fiS s cl 0) < 0 := Or.inl rfl
  unfold aFairest
  rw [faF_eq]
  by_cases c1 : absI (fiS s cl 1) < absI (fiS s cl 0)
  · have c1' : 1 = 0 ∨ absI (fiS s cl 1) < absI (fiS s cl 0) := Or.inr c1
    obtain ⟨σ3, k1, k2, k3⟩ := r195_1 (d := d) (L := L) (k := 2) (u1 := ((1 : Nat) : Int)) (u2 := absI (fiS s cl 1)) (u4 := vI (absI (fiS s cl 1))) hw g1 (by omega) (by omega)
    refine ⟨σ3, ⟨k1.1, k1.2.1, by have := k1.2.2.1; omega, k1.2.2.2⟩, FQ_t f2 (FQ_t g2 k2), fun Q => ?_⟩
    rw [b195_0]
    refine (f3 Q).trans ?_
    rw [if_pos q0]
    refine (g3 Q).trans ?_
    rw [if_pos c1']
    refine (k3 Q).trans ?_
    rw [if_pos c1, fin, fin]
    by_cases c2 : absI (fiS s cl 2) < absI (fiS s cl 1)
    · have c3 : 2 = 0 ∨ absI (fiS s cl 2) < absI (fiS s cl 1) := Or.inr c2
      rw [if_pos c3, if_pos c2]
      rfl
    · have c3 : ¬ (2 = 0 ∨ absI (fiS s cl 2) < absI (fiS s cl 1)) := fun h => h.elim (by omega) c2
      rw [if_neg c3, if_neg c2, if_pos c1]
      rfl
  · obtain ⟨σ3, k1, k2, k3⟩ := r195_1 (d := d) (L := L) (k := 2) (u1 := ((0 : Nat) : Int)) (u2 := absI (fiS s cl 0)) (u4 := vI (absI (fiS s cl 1))) hw g1 (by omega) (by omega)
    refine ⟨σ3, ⟨k1.1, k1.2.1, by have := k1.2.2.1; omega, k1.2.2.2⟩, FQ_t f2 (FQ_t g2 k2), fun Q => ?_⟩
    rw [b195_0]
    refine (f3 Q).trans ?_
    rw [if_pos q0]
    refine (g3 Q).trans ?_
    have c1' : ¬ (1 = 0 ∨ absI (fiS s cl 1) < absI (fiS s cl 0)) := fun h => h.elim (by omega) c1
    rw [if_neg c1']
    refine (k3 Q).trans ?_
    rw [if_neg c1, fin, fin]
    by_cases c2 : absI (fiS s cl 2) < absI (fiS s cl 0)
    · have c3 : 2 = 0 ∨ absI (fiS s cl 2) < absI (fiS s cl 0) := Or.inr c2
      rw [if_pos c3, if_pos c2]
      rfl
    · have c3 : ¬ (2 = 0 ∨ absI (fiS s cl 2) < absI (fiS s cl 0)) := fun h => h.elim (by omega) c2
      rw [if_neg c3, if_neg c2, if_neg c1]
      rfl
end RN3
