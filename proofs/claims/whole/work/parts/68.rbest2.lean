/-! the reference: looking ends up; best, value, judged, first, fairest -/
def RQ (N : Int) (s : Int → Int) (σ : St) : Prop := σ 154 = s ∧ 0 ≤ σ 153 14 ∧ σ 153 14 ≤ N ∧ ∀ x : Nat, x < 65536 → σ 158 x ≤ σ 153 14
def FQ (σ σ' : St) : Prop := (∀ a, a < 153 ∨ a = 154 ∨ a = 155 ∨ a = 164 → σ' a = σ a) ∧ σ' 153 3 = σ 153 3 ∧ σ' 153 25 = σ 153 25
section RN2
variable {d L : Nat} {N : Int} {s s' : Int → Int} {cl cl' : Nat → List Cl} {σ σ1 : St} {Q : Option AV → AW → Prop}
theorem FQ_r : FQ σ σ := ⟨fun _ _ => rfl, rfl, rfl⟩
theorem FQ_t {σ σ' σ'' : St} (h : FQ σ σ') (h2 : FQ σ' σ'') : FQ σ σ'' := ⟨fun a ha => (h2.1 a ha).trans (h.1 a ha), h2.2.1.trans h.2.1, h2.2.2.trans h.2.2⟩
theorem FrR_FQ {σ σ' : St} (h : FrR σ σ') : FQ σ σ' := ⟨fun a ha => h.1 a (by omega) (by omega) (by omega) (by omega), h.2 3 (by omega), h.2 25 (by omega)⟩
theorem RI_RQ {kd : Nat} {sw : Bool} {sp : Int} (h : RI s cl kd sw sp σ) (h0 : 0 ≤ sp) (hN : sp ≤ N) : RQ N s σ := by
  obtain ⟨h1, h2, h3, h4, h5, h6, h7⟩ := h
  exact ⟨h1, by omega, by omega, fun x hx => by rw [h2]; exact h6 x hx⟩
theorem frO_0 {n : Nat} {o : Nat → Nat} (h : frO n o = 0) : ∀ i, i < n → decide (o i = 0) = false := by
  intro i hi
  by_cases q : o i = 0
  · have := frO_oup (v := 1) hi q (by omega)
    omega
  · simpa using q
theorem RI_put {kd : Nat} {sw : Bool} {sp : Int} {x y : Nat} {pk : Int} (h : RI s cl kd sw sp σ) (hy : y < 65536) (hd : dR y = EF (Wr s cl) (mvS s kd sw) (nS s) (frO (nS s) (dR x)) (dR x)) (hp : pk = chF (Wr s cl) (mvS s kd sw) (nS s) (frO (nS s) (dR x) - 1) (dR x) (mvS s kd sw (cntO (dR x)))) : RI s cl kd sw sp (st2 (st2 (st2 σ 159 x y) 160 x pk) 158 x sp) ∧ FrR σ (st2 (st2 (st2 σ 159 x y) 160 x pk) 158 x sp) := by
  obtain ⟨h1, h2, h3, h4, h5, h6, h7⟩ := h
  have k : ∀ a, a ≠ 158 → a ≠ 159 → a ≠ 160 → st2 (st2 (st2 σ 159 x y) 160 x pk) 158 x sp a = σ a := by
    intro a a1 a2 a3
    funext j
    rw [st2_k a1, st2_k a3, st2_k a2]
  refine ⟨⟨by rw [k 154 (by omega) (by omega) (by omega)]; exact h1, by rw [k 153 (by omega) (by omega) (by omega)]; exact h2, by rw [k 153 (by omega) (by omega) (by omega)]; exact h3, by rw [k 153 (by omega) (by omega) (by omega)]; exact h4, fun c z a b => by rw [k 157 (by omega) (by omega) (by omega)]; exact h5 c z a b, fun z hz => ?_, fun z hz hO hs => ?_⟩, fun a a1 a2 a3 a4 => k a a2 a3 a4, fun j _ => by rw [k 153 (by omega) (by omega) (by omega)]⟩
  · by_cases q : (z : Int) = x
    · rw [q, st2_eq]
      exact Int.le_refl _
    · rw [st2_i q, st2_k (by omega), st2_k (by omega)]
      exact h6 z hz
  · unfold RE
    by_cases q : z = x
    · subst q
      refine ⟨y, hy, ?_, hd, ?_⟩
      · rw [st2_k (by omega), st2_k (by omega), st2_eq]
      · rw [st2_k (by omega), st2_eq, hp]
    · have q' : (z : Int) ≠ x := by omega
      rw [st2_i q', st2_k (by omega), st2_k (by omega)] at hs
      obtain ⟨y', g1, g2, g3, g4⟩ := h7 z hz hO hs
      refine ⟨y', g1, ?_, g3, ?_⟩
      · rw [st2_k (by omega), st2_k (by omega), st2_i q']
        exact g2
      · rw [st2_k (by omega), st2_i q', st2_k (by omega)]
        exact g4
theorem s186_put {d kd x y : Nat} {sw : Bool} {sp : Int} {pk : Int} {u2 : AV} (h : RI s cl kd sw sp σ) (hx : x < 65536) (hy : y < 65536) : R d 186 66 [vR 153, vI x, u2, vI pk] [vI y, vI x, vR 159] (WS L σ) Q = Q (some (vI y)) (WS L (st2 (st2 (st2 σ 159 x y) 160 x pk) 158 x sp)) := by
  have e : (st2 (st2 σ 159 x y) 160 x pk) 153 14 = sp := by rw [st2_k (by omega), st2_k (by omega)]; exact h.2.1
  rw [b186_66 (by omega) (by omega), b186_67 (by omega) (by omega), b186_74 (by omega) (by omega), e, b186_84 (by omega) (by omega), st2_k (by omega), st2_k (by omega), st2_eq]
theorem s186 {kd : Nat} {sw : Bool} {sp : Int} (hw : WF s cl) (hk : kd < 4) : ∀ k d, S186 s cl kd sw sp L (d + 2 * k + 2) k := by
  have w0 := hw.1
  unfold W0 at w0
  have hn : s 0 = (nS s : Int) := by unfold nS; omega
  have h8 : nS s ≤ 8 := by omega
  intro k
  induction k with
  | zero =>
    intro d σ x hI hx hO hf
    have e0 : σ 154 0 = s 0 := by rw [hI.1]
    have fc := fr_cnt h8 hO
    by_cases hm : σ 158 x = sp
    · obtain ⟨y, g1, g2, g3, g4⟩ := hI.2.2.2.2.2.2 x hx hO hm
      rw [hf] at g3
      refine ⟨σ, y, hI, FrR_r, hm, g1, g3, fun Q => ?_⟩
      rw [b186_0 (by omega) (by omega), hI.2.1, if_pos hm, b186_84 (by omega) (by omega), g2]
    · have hch : (-1 : Int) = chF (Wr s cl) (mvS s kd sw) (nS s) (frO (nS s) (dR x) - 1) (dR x) (mvS s kd sw (cntO (dR x))) := by
        have h1 := (chF_r (W := Wr s cl) (mv := mvS s kd sw) (n := nS s) (k := frO (nS s) (dR x) - 1) (o := dR x) (c := mvS s kd sw (cntO (dR x)))).1
        have h2 : chF (Wr s cl) (mvS s kd sw) (nS s) (frO (nS s) (dR x) - 1) (dR x) (mvS s kd sw (cntO (dR x))) < 0 := by
          unfold chF
          rw [amx_none]
          exact frO_0 hf
        omega
      obtain ⟨p1, p2⟩ := RI_put (x := x) (y := x) (pk := -1) hI hx (by rw [hf]; rfl) hch
      refine ⟨_, x, p1, p2, st2_eq, hx, rfl, fun Q => ?_⟩
      rw [b186_0 (by omega) (by omega), hI.2.1, if_neg hm, b186_13, r184 hx]
      simp only [am_push_s]
      rw [b186_17, e0, if_neg (by omega), b186_28, b186_42, e0, if_neg (by omega), b186_58]
      exact s186_put hI hx hx
  | succ k ih =>
    intro d σ x hI hx hO hf
    have e0 : σ 154 0 = s 0 := by rw [hI.1]
    have fc := fr_cnt h8 hO
    by_cases hm : σ 158 x = sp
    · obtain ⟨y, g1, g2, g3, g4⟩ := hI.2.2.2.2.2.2 x hx hO hm
      rw [hf] at g3
      refine ⟨σ, y, hI, FrR_r, hm, g1, g3, fun Q => ?_⟩
      rw [b186_0 (by omega) (by omega), hI.2.1, if_pos hm, b186_84 (by omega) (by omega), g2]
    · obtain ⟨σ1, y, f1, f2, f3, f4, f5, f6, f7⟩ := r188 (D := d + 2 * k + 1) (c := mvS s kd sw (cntO (dR x))) hw (ih d) hx hO hf (mvS_3 hw) hI
      have hEF : dR y = EF (Wr s cl) (mvS s kd sw) (nS s) (frO (nS s) (dR x)) (dR x) := by
        rw [hf, EF_s, if_neg (by omega)]
        exact f4
      obtain ⟨p1, p2⟩ := RI_put (x := x) (y := y) (pk := chF (Wr s cl) (mvS s kd sw) (nS s) k (dR x) (mvS s kd sw (cntO (dR x)))) f1 f3 hEF (by rw [hf]; rfl)
      refine ⟨_, y, p1, FrR_t f2 p2, st2_eq, f3, by rw [hEF, hf], fun Q => ?_⟩
      have e01 : σ1 154 0 = s 0 := by rw [f1.1]
      rw [show d + 2 * (k + 1) + 2 = d + 2 * k + 3 + 1 by omega, b186_0 (by omega) (by omega), hI.2.1, if_neg hm, b186_13, r184 hx]
      simp only [am_push_s]
      rw [b186_17, e0, if_pos (by omega), b186_32, r187 hw hI hk (by omega)]
      simp only [am_push_s]
      rw [b186_39]
      refine (f7 _).trans ?_
      simp only [am_push_s]
      rw [b186_42, e01, if_pos (by omega), b186_62, f5]
      exact s186_put f1 hx f3
theorem r186 {d kd x : Nat} {sw : Bool} {sp : Int} (hw : WF s cl) (hk : kd < 4) (hI : RI s cl kd sw sp σ) (hx : x < 65536) (hO : Ov (nS s) (dR x)) : ∃ (σ' : St) (y : Nat), RI s cl kd sw sp σ' ∧ FQ σ σ' ∧ RE s cl kd sw σ' x ∧ y < 65536 ∧ dR y = EF (Wr s cl) (mvS s kd sw) (nS s) (frO (nS s) (dR x)) (dR x) ∧ ∀ Q, R (d + 18) 186 0 [vR 153, vI x, vX 9, vX 9] [] (WS L σ) Q = Q (some (vI y)) (WS L σ') := by
  have w0 := hw.1
  unfold W0 at w0
  have hf : frO (nS s) (dR x) ≤ nS s := cnt_le _ _
  have hn8 : nS s ≤ 8 := by unfold nS; omega
  obtain ⟨σ', y, f1, f2, f3, f4, f5, f6⟩ := s186 (L := L) (sw := sw) (sp := sp) hw hk (frO (nS s) (dR x)) (d + 16 - 2 * frO (nS s) (dR x)) σ x hI hx hO rfl
  rw [show d + 16 - 2 * frO (nS s) (dR x) + 2 * frO (nS s) (dR x) + 2 = d + 18 by omega] at f6
  exact ⟨σ', y, f1, FrR_FQ f2, f1.2.2.2.2.2.2 x hx hO f3, f4, f5, f6⟩
/-- looking up anew -/
def LK (s : Int → Int) (cl : Nat → List Cl) (σ0 σ : St) (c x : Nat) : Prop := (∀ a, a ≠ 156 → a ≠ 157 → σ a = σ0 a) ∧ ∀ c' x' : Nat, c' < 3 → x' < 2 ^ nS s → (c' < c ∨ c' = c ∧ x' < x) → σ 157 (256 * (c' : Int) + x') = Wr s cl c' x'
theorem r185_x {d c : Nat} {σ0 : St} {u1 u2 : AV} (hw : WF s cl) (h0 : σ0 154 = s) (hc : c < 3) : ∀ (m x : Nat) (σ : St), x + m = 2 ^ nS s → LK s cl σ0 σ c x → ∃ σ' : St, LK s cl σ0 σ' c (2 ^ nS s) ∧ ∀ Q, R (d + 2) 185 30 [vR 153, u1, u2, vI c, vI x] [] (WS L σ) Q = R (d + 2) 185 69 [vR 153, u1, u2, vI c, vI ((2 ^ nS s : Nat) : Int)] [] (WS L σ') Q := by
  have w0 := hw.1
  unfold W0 at w0
  have hn : s 0 = (nS s : Int) := by unfold nS; omega
  have h8 : nS s ≤ 8 := by omega
  have p8 := pw8 h8
  have esh : i_shl 1 (s 0) = ((2 ^ nS s : Nat) : Int) := by rw [hn]; exact i_one_shl (by omega)
  intro m
  induction m with
  | zero =>
    intro x σ hx hL
    obtain rfl : x = 2 ^ nS s := by omega
    have e0 : σ 154 0 = s 0 := by rw [hL.1 154 (by omega) (by omega), h0]
    refine ⟨σ, hL, fun Q => ?_⟩
    rw [b185_30, e0, esh, if_pos (by omega)]
  | succ m ih =>
    intro x σ hx hL
    have e4 : σ 154 = s := by rw [hL.1 154 (by omega) (by omega), h0]
    have e0 : σ 154 0 = s 0 := by rw [e4]
    obtain ⟨σ1, f1, f2⟩ := r169 (d := d) (L := L) (σ := σ) (c := c) (x := x) hw hc (by omega)
    rw [ss_self e4, ss_self (show σ1 154 = s by rw [f1 154 (by omega), e4])] at f2
    have hL2 : LK s cl σ0 (st2 σ1 157 (256 * (c : Int) + x) (Wr s cl c x)) c (x + 1) := by
      refine ⟨fun a a1 a2 => ?_, fun c' x' k1 k2 k3 => ?_⟩
      · funext j
        rw [st2_k a2, f1 a a1, hL.1 a a1 a2]
      · by_cases q : c' = c ∧ x' = x
        · rw [q.1, q.2, st2_eq]
        · rw [st2_i (by omega), f1 157 (by omega)]
          exact hL.2 c' x' k1 k2 (by omega)
    obtain ⟨σ2, g1, g2⟩ := ih (x + 1) _ (by omega) hL2
    refine ⟨σ2, g1, fun Q => ?_⟩
    rw [b185_30, e0, esh, if_neg (by omega), b185_43 (by omega) (by omega), f2]
    simp only [am_push_s]
    rw [b185_62 (by omega) (by omega), b185_63 (by omega)]
    exact g2 Q
theorem r185_c {d : Nat} {σ0 : St} {u1 u2 : AV} (hw : WF s cl) (h0 : σ0 154 = s) : ∀ (m c : Nat) (σ : St) (u4 : AV), c + m = 3 → LK s cl σ0 σ c 0 → ∃ σ' : St, LK s cl σ0 σ' 3 0 ∧ ∀ Q, R (d + 2) 185 22 [vR 153, u1, u2, vI c, u4] [] (WS L σ) Q = Q none (WS L σ') := by
  intro m
  induction m with
  | zero =>
    intro c σ u4 hc hL
    obtain rfl : c = 3 := by omega
    refine ⟨σ, hL, fun Q => ?_⟩
    rw [b185_22, if_pos (by omega), b185_75]
  | succ m ih =>
    intro c σ u4 hc hL
    obtain ⟨σ1, f1, f2⟩ := r185_x (d := d) (L := L) (u1 := u1) (u2 := u2) hw h0 (show c < 3 by omega) (2 ^ nS s) 0 σ (by omega) hL
    obtain ⟨σ2, g1, g2⟩ := ih (c + 1) σ1 (vI ((2 ^ nS s : Nat) : Int)) (by omega) ⟨f1.1, fun c' x' k1 k2 k3 => f1.2 c' x' k1 k2 (by omega)⟩
    refine ⟨σ2, g1, fun Q => ?_⟩
    rw [b185_22, if_neg (by omega), b185_27]
    refine (f2 Q).trans ?_
    rw [b185_69 (by omega)]
    exact g2 Q
theorem r185 {d kd : Nat} {sw : Bool} {z : Int} (hw : WF s cl) (h : RQ N s σ) (hN : N < 30000) (hz : z = if sw = true then 1 else 0) : ∃ σ' : St, RI s cl kd sw (σ 153 14 + 1) σ' ∧ FQ σ σ' ∧ ∀ Q, R (d + 2) 185 0 [vR 153, vI kd, vI z, vX 9, vX 9] [] (WS L σ) Q = Q none (WS L σ') := by
  obtain ⟨h1, h2, h3, h4⟩ := h
  have k : ∀ a, a ≠ 153 → st2 (st2 (st2 σ 153 14 (σ 153 14 + 1)) 153 15 kd) 153 16 z a = σ a := fun a ha => by
    funext j
    rw [st2_k ha, st2_k ha, st2_k ha]
  obtain ⟨σ1, f1, f2⟩ := r185_c (d := d) (L := L) (σ0 := st2 (st2 (st2 σ 153 14 (σ 153 14 + 1)) 153 15 kd) 153 16 z) (u1 := vI kd) (u2 := vI z) hw (by rw [k 154 (by omega)]; exact h1) 3 0 (st2 (st2 (st2 σ 153 14 (σ 153 14 + 1)) 153 15 kd) 153 16 z) (vX 9) (by omega) ⟨fun _ _ _ => rfl, fun c' x' k1 k2 k3 => by omega⟩
  refine ⟨σ1, ⟨by rw [f1.1 154 (by omega) (by omega), k 154 (by omega)]; exact h1, ?_, ?_, ?_, fun c x a b => f1.2 c x a b (by omega), fun x hx => ?_, fun x hx _ hs => ?_⟩, ⟨fun a ha => by rw [f1.1 a (by omega) (by omega), k a (by omega)], ?_, ?_⟩, fun Q => ?_⟩
  · rw [f1.1 153 (by omega) (by omega), st2_i (by omega), st2_i (by omega), st2_eq]
  · rw [f1.1 153 (by omega) (by omega), st2_i (by omega), st2_eq]
  · rw [f1.1 153 (by omega) (by omega), st2_eq, hz]
  · rw [f1.1 158 (by omega) (by omega), k 158 (by omega)]
    have := h4 x hx
    omega
  · rw [f1.1 158 (by omega) (by omega), k 158 (by omega)] at hs
    have := h4 x hx
    omega
  · rw [f1.1 153 (by omega) (by omega), st2_i (by omega), st2_i (by omega), st2_i (by omega)]
  · rw [f1.1 153 (by omega) (by omega), st2_i (by omega), st2_i (by omega), st2_i (by omega)]
  · rw [b185_0 (by omega), b185_10, b185_15 (by rw [hz]; split <;> rfl), b185_20]
    exact f2 Q
/-- best -/
theorem q182 (hw : WF s cl) (h : RQ N s σ) (hN : N < 20000) : ∃ σ' : St, RQ (N + 1) s σ' ∧ FQ σ σ' ∧ ∀ Q, R (d + 20) 182 0 [vR 153, vX 9, vX 9] [] (WS L σ) Q = Q (some (vI (aBest s cl))) (WS L σ') := by
  have w0 := hw.1
  unfold W0 at w0
  have hn : s 0 = (nS s : Int) := by unfold nS; omega
  have h8 : nS s ≤ 8 := by omega
  have h1 := h.1
  have e0 : σ 154 0 = s 0 := by rw [h1]
  have e4 : σ 154 4 = s 4 := by rw [h1]
  have hO := oW_Ov hw.2.2.2.2.1 w0.2.2.1
  have fc := fr_cnt h8 hO
  obtain ⟨x, x1, x2, x3⟩ := r183 (d := d + 19) (L := L) (σ := σ) hw
  rw [ss_self h1] at x3
  have head : ∀ Q, R (d + 20) 182 0 [vR 153, vX 9, vX 9] [] (WS L σ) Q = if ¬ (cntO (oW s) : Int) = s 0 then R (d + 20) 182 21 [vR 153, vI x, vX 9] [] (WS L σ) Q else R (d + 20) 182 18 [vR 153, vI x, vX 9] [] (WS L σ) Q := by
    intro Q
    rw [b182_0, x3]
    simp only [am_push_s]
    rw [b182_4, r184 x1, x2]
    simp only [am_push_s]
    rw [b182_9, e0]
  unfold aBest bsS
  by_cases q : frO (nS s) (oW s) = 0
  · refine ⟨σ, ⟨h1, h.2.1, by have := h.2.2.1; omega, h.2.2.2⟩, FQ_r, fun Q => ?_⟩
    rw [head, if_neg (by omega), b182_18]
    have : chF (Wr s cl) (mvS s (kdS s) false) (nS s) (frO (nS s) (oW s) - 1) (oW s) (mvS s (kdS s) false (cntO (oW s))) < 0 := by
      unfold chF
      rw [amx_none]
      exact frO_0 q
    unfold bz
    rw [if_pos this]
  · have hk : (kdS s : Int) = s 4 := by unfold kdS; omega
    obtain ⟨σ1, f1, f2, f3⟩ := r185 (d := d + 17) (L := L) (kd := kdS s) (sw := false) (z := 0) hw h (by omega) rfl
    obtain ⟨σ2, y, g1, g2, g3, g4, g5, g6⟩ := r186 (d := d + 1) (L := L) (x := x) hw (show kdS s < 4 by unfold kdS; omega) f1 x1 (by rw [x2]; exact hO)
    obtain ⟨y', j1, j2, j3, j4⟩ := g3
    rw [x2] at j4
    refine ⟨σ2, RI_RQ g1 (by have := h.2.1; omega) (by have := h.2.2.1; omega), FQ_t f2 g2, fun Q => ?_⟩
    rw [head, if_pos (by omega), b182_21, e4, ← hk, f3]
    simp only [am_push_n]
    rw [b182_32]
    refine (g6 _).trans ?_
    simp only [am_push_s]
    rw [b182_37 (by omega) (by omega), j4]
    have hp : 0 ≤ chF (Wr s cl) (mvS s (kdS s) false) (nS s) (frO (nS s) (oW s) - 1) (oW s) (mvS s (kdS s) false (cntO (oW s))) := by
      refine Int.not_lt.mp (fun h => ?_)
      unfold chF at h
      rw [amx_none] at h
      refine q ?_
      unfold frO
      have hz : ∀ m, m ≤ nS s → cnt (fun b => decide (oW s b = 0)) m = 0 := by
        intro m
        induction m with
        | zero => intro _; rfl
        | succ m ihm =>
          intro hm
          rw [cnt, ihm (by omega), h m (by omega)]
          rfl
      exact hz _ (Nat.le_refl _)
    unfold bz
    rw [if_neg (by omega)]
theorem q190 {x : Int} (hw : WF s cl) (h : RQ N s σ) (hN : N < 20000) : ∃ σ' : St, RQ (N + 1) s σ' ∧ FQ σ σ' ∧ ∀ Q, R (d + 20) 190 0 [vR 153, vI x] [] (WS L σ) Q = Q (some (vI (aValue s cl x))) (WS L σ') := by
  have w0 := hw.1
  unfold W0 at w0
  have hn : s 0 = (nS s : Int) := by unfold nS; omega
  have h8 : nS s ≤ 8 := by omega
  have p8 := pw8 h8
  have h1 := h.1
  have e4 : σ 154 4 = s 4 := by rw [h1]
  have hO := oW_Ov hw.2.2.2.2.1 w0.2.2.1
  have g0 := fun Q : Option AV → AW → Prop => r179 (d := d + 18) (L := L) (Q := Q) (σ := σ) (s := s) (x := x) w0.2.2.1
  rw [ss_self h1] at g0
  unfold aValue
  by_cases q : 0 ≤ x ∧ x < s 2
  · obtain ⟨c, rfl⟩ : ∃ c : Nat, x = (c : Int) := ⟨x.toNat, by omega⟩
    have hk : (kdS s : Int) = s 4 := by unfold kdS; omega
    obtain ⟨σ1, f1, f2, f3⟩ := r185 (d := d + 17) (L := L) (kd := kdS s) (sw := false) (z := 0) hw h (by omega) rfl
    obtain ⟨x, x1, x2, x3⟩ := r183 (d := d + 19) (L := L) (σ := σ1) hw
    rw [ss_self f1.1] at x3
    obtain ⟨σ2, y, g1, g2, g3, g4, g5, g6⟩ := r186 (d := d + 1) (L := L) (x := x) hw (show kdS s < 4 by unfold kdS; omega) f1 x1 (by rw [x2]; exact hO)
    have hsl : sdO (dR y) c < 2 ^ nS s := sdO_lt (by rw [g5, x2]; exact EF_Ov h8 (fun t _ => mvS_3 hw) _ _ hO) h8
    have hW := g1.2.2.2.2.1 c (sdO (dR y) c) (by omega) hsl
    refine ⟨σ2, RI_RQ g1 (by have := h.2.1; omega) (by have := h.2.2.1; omega), FQ_t f2 g2, fun Q => ?_⟩
    rw [b190_0, g0]
    simp only [am_push_s]
    rw [b190_5, if_pos (by rw [tI_t q]; omega), b190_12, e4, ← hk, f3]
    simp only [am_push_n]
    rw [b190_23 (by omega), x3]
    simp only [am_push_s]
    rw [b190_37]
    refine (g6 _).trans ?_
    simp only [am_push_s]
    rw [b190_40, r189 g4 (by omega)]
    simp only [am_push_s]
    rw [b190_44 (by omega) (by omega) (by omega), hW, if_pos q, g5, x2]
    rfl
  · refine ⟨σ, ⟨h1, h.2.1, by have := h.2.2.1; omega, h.2.2.2⟩, FQ_r, fun Q => ?_⟩
    rw [b190_0, g0]
    simp only [am_push_s]
    rw [b190_5, if_neg (by rw [tI_f q]; omega), b190_8, if_neg q]
end RN2
