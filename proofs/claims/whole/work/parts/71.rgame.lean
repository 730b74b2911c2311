/-! the reference: a game -/
def FG (σ σ' : St) : Prop := (∀ a, a < 153 ∨ a = 155 ∨ a = 164 → σ' a = σ a) ∧ σ' 153 3 = σ 153 3 ∧ σ' 153 25 = σ 153 25
section RN5
variable {d L : Nat} {N : Int} {s s' : Int → Int} {cl cl' : Nat → List Cl} {σ σ1 : St} {Q : Option AV → AW → Prop}
theorem FG_r : FG σ σ := ⟨fun _ _ => rfl, rfl, rfl⟩
theorem FG_t {σ σ' σ'' : St} (h : FG σ σ') (h2 : FG σ' σ'') : FG σ σ'' := ⟨fun a ha => (h2.1 a ha).trans (h.1 a ha), h2.2.1.trans h.2.1, h2.2.2.trans h.2.2⟩
theorem FQ_FG {σ σ' : St} (h : FQ σ σ') : FG σ σ' := ⟨fun a ha => h.1 a (by omega), h.2⟩
theorem RQ_set (h : RQ N s σ) : RQ N s' (setS σ s') := ⟨ss_e, by rw [ss_o (by omega)]; exact h.2.1, by rw [ss_o (by omega)]; exact h.2.2.1, fun x hx => by rw [ss_o (by omega), ss_o (by omega)]; exact h.2.2.2 x hx⟩
theorem FG_set : FG σ (setS σ s') := ⟨fun a ha => ss_o (by omega), by rw [ss_o (by omega)], by rw [ss_o (by omega)]⟩
theorem RQ_le {M : Int} (h : RQ N s σ) (hM : N ≤ M) : RQ M s σ := ⟨h.1, h.2.1, by have := h.2.2.1; omega, h.2.2.2⟩
/-- what picks do not look at -/
theorem pkS_fr {c : Nat} (hw : WF s cl) (hc : c < 3) (hs : ∀ j : Int, j < 1369 → s' j = s j) (ht : ∀ b, tlS s' b = tlS s b) : pkS s' cl c = pkS s cl c := by
  have w0 := hw.1
  have w0' := w0
  have w6 := hw.2.2.2.2.2.2.1 c hc
  unfold W0 at w0
  have h8 : nS s ≤ 8 := by unfold nS; omega
  have hn : nS s' = nS s := by unfold nS; rw [hs 0 (by omega)]
  have hl : leftS s' = leftS s := by
    unfold leftS
    rw [hn]
    exact bits_congr (fun b hb => by rw [hs _ (by omega)])
  have eW : ∀ c x, c < 3 → x < 2 ^ nS s → Wr s' cl c x = Wr s cl c x := fun c x hc _ => Wr_fr (hs 0 (by omega)) (hs _ (by omega)) (Or.inl rfl) (fun j _ _ => hs j (by omega)) (by omega)
  have eWc : ∀ c, c < 3 → Wr s' cl c = Wr s cl c := fun c hc => by
    funext x
    exact Wr_fr (hs 0 (by omega)) (hs _ (by omega)) (Or.inl rfl) (fun j _ _ => hs j (by omega)) (by omega)
  have esd : ∀ c, sdS s' c = sdS s c := fun c => sdS_fr (hs 0 (by omega)) (fun q hq => hs _ (by omega))
  have ed : ∀ c x, c < 3 → dearS s' cl c x = dearS s cl c x := fun c x hc => by
    unfold dearS
    rw [eWc c hc, esd]
  have etk : ∀ kind t, tkC (s' 2).toNat kind t (s' 5).toNat (fun i => s' (187 + i)) = tkC (s 2).toNat kind t (s 5).toNat (fun i => s (187 + i)) := fun kind t => by
    rw [hs 2 (by omega), hs 5 (by omega)]
    exact tkC_congr (fun i hi => hs _ (by omega))
  have ekd : kdS s' = kdS s := by unfold kdS; rw [hs 4 (by omega)]
  have eah : ∀ x, ahS s' c x = ahS s c x := fun x => by
    unfold ahS ahC
    rw [hn, ekd, etk]
  have ahr : ∀ x, ahS s c x < 3 := fun x => by
    unfold ahS ahC
    have := tkC_r (w := (s 2).toNat) (kind := kdS s) (t := nS s - cnt (fun b => x.testBit b) 8 + 1) (m := (s 5).toNat) (told := fun i => s (187 + i)) (by omega)
    split
    · exact hc
    · omega
  have efr : frS s' c = frS s c := by
    unfold frS
    rw [hn]
    exact bits_congr (fun b hb => by rw [hs _ (by omega)])
  have eoW : oW s' = oW s := by
    funext b
    unfold oW
    rw [hn]
    split
    · rw [hs _ (by omega)]
    · rfl
  have emv : ∀ t, mvS s' (kdS s) false t = mvS s (kdS s) false t := fun t => by
    unfold mvS mvF
    rw [etk]
  have ebs : bsS s' cl c = bsS s cl c := by
    unfold bsS
    rw [hn, ekd, eoW]
    exact chF_congr h8 eW (fun t _ => ⟨by rw [emv]; exact mvS_3 hw, emv t⟩) (oW_Ov hw.2.2.2.2.1 w0.2.2.1) hc
  have eol : ∀ x : Nat, oflC (fun b => x.testBit b) (tlS s') 8 = oflC (fun b => x.testBit b) (tlS s) 8 := fun x => ofl_congr (fun i _ => ht i)
  have efl : ∀ x, flC (fun q => s' (163 + 8 * c + q)) (s' (160 + c)).toNat x = flC (fun q => s (163 + 8 * c + q)) (s (160 + c)).toNat x := fun x => by
    unfold flC
    rw [hs (160 + c) (by omega)]
    have e1 : amx (fun k => x.testBit (s' (163 + 8 * c + (k : Nat))).toNat) (fun _ => 0) (s (160 + c)).toNat = amx (fun k => x.testBit (s (163 + 8 * c + (k : Nat))).toNat) (fun _ => 0) (s (160 + c)).toNat := amx_congr (fun i hi => by rw [hs _ (by omega)]) (fun _ _ _ => rfl)
    have hr := amx_r (fun k => x.testBit (s (163 + 8 * c + (k : Nat))).toNat) (fun _ => 0) (s (160 + c)).toNat
    rw [e1]
    split
    · rfl
    · exact hs _ (by omega)
  unfold pkS
  rw [hl, hs (157 + c) (by omega), ed c _ hc, ed c _ hc, ed c _ hc, eah, ed _ _ (ahr _), efr, ebs, efl, eol]
theorem gm_own (hw : WF s cl) : ∀ t, t ≤ nS s → ∀ i, i < t → 0 ≤ gmS s cl t (203 + gmB s cl i) := by
  intro t
  induction t with
  | zero => intro _ i hi; omega
  | succ t ih =>
    intro ht i hi
    have hk := tkS_r hw.1 (kind := kdS s) (t := t)
    have e : gmS s cl (t + 1) = up (gmS s cl t) (203 + gmB s cl t) (tkS s (kdS s) t) := rfl
    rw [e]
    by_cases q : 203 + gmB s cl i = 203 + gmB s cl t
    · rw [q, up_e]
      exact hk.1
    · rw [up_o q]
      by_cases q2 : i = t
      · rw [q2] at q
        exact absurd rfl q
      · exact ih (by omega) i (by omega)
theorem gm_b (hw : WF s cl) {t : Nat} (ht : t < nS s) : 0 ≤ gmB s cl t ∧ gmB s cl t < s 0 ∧ gmS s cl t (203 + gmB s cl t) = -1 := by
  obtain ⟨g1, g2, g3, g4⟩ := gm_all hw t (by omega)
  obtain ⟨g5, g6, g7⟩ := g4 ht
  obtain ⟨b1, b2⟩ := leftS_sub g7
  have hn : nS (gmS s cl t) = nS s := by unfold nS; rw [g2 0 (by omega)]
  rw [hn] at b1
  have w0 := hw.1
  unfold W0 at w0
  unfold nS at b1
  refine ⟨g6, by omega, ?_⟩
  rw [← b2]
  congr 1
  omega
theorem gm_inj (hw : WF s cl) : ∀ i j, i < nS s → j < nS s → gmB s cl i = gmB s cl j → i = j := by
  have key : ∀ i j, i < j → j < nS s → gmB s cl i ≠ gmB s cl j := by
    intro i j hij hj e
    have h1 := gm_own hw j (by omega) i hij
    have h2 := (gm_b hw hj).2.2
    rw [e, h2] at h1
    omega
  intro i j hi hj e
  rcases Nat.lt_trichotomy i j with h | h | h
  · exact absurd e (key i j h hj)
  · exact h
  · exact absurd e.symm (key j i h hi)
def gQ (s : Int → Int) (cl : Nat → List Cl) (b : Bool) (t : Nat) : Int → Int := fun j => if b = true ∧ 1381 + 8 * s 3 ≤ j ∧ j < 1381 + 8 * s 3 + t then gmB s cl (j - (1381 + 8 * s 3)).toNat else if b = true ∧ 1477 + 8 * s 3 ≤ j ∧ j < 1477 + 8 * s 3 + t then gmC s (j - (1477 + 8 * s 3)).toNat else gmS s cl t j
theorem gQ_o {b : Bool} {t : Nat} {j : Int} (h : ¬ (1381 + 8 * s 3 ≤ j ∧ j < 1381 + 8 * s 3 + t)) (h2 : ¬ (1477 + 8 * s 3 ≤ j ∧ j < 1477 + 8 * s 3 + t)) : gQ s cl b t j = gmS s cl t j := by
  unfold gQ
  rw [if_neg (fun x => h x.2), if_neg (fun x => h2 x.2)]
theorem gQ_f {t : Nat} : gQ s cl false t = gmS s cl t := by
  funext j
  unfold gQ
  rw [if_neg (fun h => by simp at h), if_neg (fun h => by simp at h)]
theorem gQ_t {t : Nat} (h3 : 0 ≤ s 3 ∧ s 3 < 12) (ht : t < 8) (hb : 0 ≤ gmB s cl t ∧ gmB s cl t < 8) : up (up (up (gQ s cl true t) (203 + gmB s cl t) (gmC s t)) (1381 + 8 * s 3 + t) (gmB s cl t)) (1477 + 8 * s 3 + t) (gmC s t) = gQ s cl true (t + 1) := by
  funext j
  have e : gmS s cl (t + 1) j = if j = 203 + gmB s cl t then gmC s t else gmS s cl t j := rfl
  unfold up gQ
  rw [e]
  by_cases q1 : j = 1477 + 8 * s 3 + t
  · have a1 : ¬ (true = true ∧ 1381 + 8 * s 3 ≤ j ∧ j < 1381 + 8 * s 3 + ((t + 1 : Nat) : Int)) := by omega
    have a2 : true = true ∧ 1477 + 8 * s 3 ≤ j ∧ j < 1477 + 8 * s 3 + ((t + 1 : Nat) : Int) := ⟨rfl, by omega, by omega⟩
    rw [if_pos q1, if_neg a1, if_pos a2, show (j - (1477 + 8 * s 3)).toNat = t by omega]
  · rw [if_neg q1]
    by_cases q2 : j = 1381 + 8 * s 3 + t
    · have a1 : true = true ∧ 1381 + 8 * s 3 ≤ j ∧ j < 1381 + 8 * s 3 + ((t + 1 : Nat) : Int) := ⟨rfl, by omega, by omega⟩
      rw [if_pos q2, if_pos a1, show (j - (1381 + 8 * s 3)).toNat = t by omega]
    · rw [if_neg q2]
      by_cases q3 : 1381 + 8 * s 3 ≤ j ∧ j < 1381 + 8 * s 3 + t
      · have a1 : true = true ∧ 1381 + 8 * s 3 ≤ j ∧ j < 1381 + 8 * s 3 + ((t + 1 : Nat) : Int) := ⟨rfl, by omega, by omega⟩
        have a2 : true = true ∧ 1381 + 8 * s 3 ≤ j ∧ j < 1381 + 8 * s 3 + (t : Int) := ⟨rfl, q3.1, q3.2⟩
        rw [if_neg (by omega), if_pos a1, if_pos a2]
      · have a1 : ¬ (true = true ∧ 1381 + 8 * s 3 ≤ j ∧ j < 1381 + 8 * s 3 + ((t + 1 : Nat) : Int)) := by omega
        have a2 : ¬ (true = true ∧ 1381 + 8 * s 3 ≤ j ∧ j < 1381 + 8 * s 3 + (t : Int)) := by omega
        rw [if_neg a1, if_neg a2]
        by_cases q4 : 1477 + 8 * s 3 ≤ j ∧ j < 1477 + 8 * s 3 + t
        · have a3 : true = true ∧ 1477 + 8 * s 3 ≤ j ∧ j < 1477 + 8 * s 3 + ((t + 1 : Nat) : Int) := ⟨rfl, by omega, by omega⟩
          have a4 : true = true ∧ 1477 + 8 * s 3 ≤ j ∧ j < 1477 + 8 * s 3 + (t : Int) := ⟨rfl, q4.1, q4.2⟩
          rw [if_neg (by omega), if_pos a3, if_pos a4]
        · have a3 : ¬ (true = true ∧ 1477 + 8 * s 3 ≤ j ∧ j < 1477 + 8 * s 3 + ((t + 1 : Nat) : Int)) := by omega
          have a4 : ¬ (true = true ∧ 1477 + 8 * s 3 ≤ j ∧ j < 1477 + 8 * s 3 + (t : Int)) := by omega
          rw [if_neg a3, if_neg a4]
theorem WF_rows (hw : WF s cl) (hs : ∀ j : Int, j < 1369 → j ≠ 3 → s' j = s j) (h3 : s' 3 = s 3 ∨ s' 3 = s 3 + 1 ∧ s 3 < 12) (h9 : W9 s') : WF s' cl := by
  obtain ⟨w0, w1, w2, w3, w4, w5, w6, w8, w9⟩ := hw
  unfold W0 at w0
  refine ⟨?_, W1_fr w1 (hs 7 (by omega) (by omega)) (fun j _ _ => hs j (by omega) (by omega)) (by omega), W2_fr w2 (hs 5 (by omega) (by omega)) (fun j _ _ => hs j (by omega) (by omega)) (by omega), W3_fr w3 (hs 6 (by omega) (by omega)) (fun j _ _ => hs j (by omega) (by omega)) (by omega), W4_fr w4 (hs 0 (by omega) (by omega)) (by omega) (hs 2 (by omega) (by omega)) (fun j _ _ => hs j (by omega) (by omega)) (fun j _ _ => hs j (by omega) (by omega)), W5_fr w5 (by rw [hs 1 (by omega) (by omega)]; omega) (fun j _ _ => hs j (by omega) (by omega)), W6_fr w6 (fun j _ _ => hs j (by omega) (by omega)), W8_fr w8 (hs 1 (by omega) (by omega)) (by omega) (fun j _ _ => hs j (by omega) (by omega)), h9⟩
  unfold W0
  rw [hs 0 (by omega) (by omega), hs 1 (by omega) (by omega), hs 2 (by omega) (by omega), hs 4 (by omega) (by omega), hs 5 (by omega) (by omega), hs 6 (by omega) (by omega), hs 7 (by omega) (by omega)]
  omega
theorem W9_old {k : Nat} (hw : WF s cl) (hk : (k : Int) < s 3) (h0 : s' 0 = s 0) (h1 : s' (1369 + k) = s (1369 + k)) (h2 : ∀ t : Nat, t < 8 → s' (1381 + 8 * k + t) = s (1381 + 8 * k + t) ∧ s' (1477 + 8 * k + t) = s (1477 + 8 * k + t)) : (1 ≤ s' (1369 + k) ∧ s' (1369 + k) ≤ s' 0) ∧ (∀ t : Nat, (t : Int) < s' (1369 + k) → (0 ≤ s' (1381 + 8 * k + t) ∧ s' (1381 + 8 * k + t) < s' 0) ∧ (0 ≤ s' (1477 + 8 * k + t) ∧ s' (1477 + 8 * k + t) < 3)) ∧ ∀ t t' : Nat, (t : Int) < s' (1369 + k) → (t' : Int) < s' (1369 + k) → s' (1381 + 8 * k + t) = s' (1381 + 8 * k + t') → t = t' := by
  have w0 := hw.1
  unfold W0 at w0
  obtain ⟨x1, x2, x3⟩ := hw.2.2.2.2.2.2.2.2 k hk
  rw [h1, h0]
  refine ⟨x1, fun t ht => ?_, fun t t' ht ht' => ?_⟩
  · rw [(h2 t (by omega)).1, (h2 t (by omega)).2]
    exact x2 t ht
  · rw [(h2 t (by omega)).1, (h2 t' (by omega)).1]
    exact x3 t t' ht ht'
theorem tlS_rows {b : Nat} (hw : WF s cl) (h3 : s' 3 = s 3) (h : ∀ k : Nat, (k : Int) < s 3 → s' (1369 + k) = s (1369 + k) ∧ ∀ t : Nat, t < 8 → s' (1381 + 8 * k + t) = s (1381 + 8 * k + t)) : tlS s' b = tlS s b := by
  have w0 := hw.1
  unfold W0 at w0
  unfold tlS
  rw [h3]
  refine cnt_congr (fun k hk => ?_)
  obtain ⟨h1, h2⟩ := h k (by omega)
  obtain ⟨x1, -, -⟩ := hw.2.2.2.2.2.2.2.2 k (by omega)
  obtain ⟨t, ht⟩ : ∃ t : Nat, s (1369 + k) - 1 = (t : Int) := ⟨(s (1369 + k) - 1).toNat, by omega⟩
  rw [h1, ht, h2 t (by omega)]
theorem gQ_all {b : Bool} {t : Nat} (hw : WF s cl) (hb : b = true → s 3 < 12) (ht : t ≤ nS s) : WF (gQ s cl b t) cl ∧ ∀ c : Nat, c < 3 → pkS (gQ s cl b t) cl c = pkS (gmS s cl t) cl c := by
  obtain ⟨g1, g2, g3, g4⟩ := gm_all hw t ht
  have w0 := hw.1
  have w0' := g1.1
  unfold W0 at w0 w0'
  have ht8 : t ≤ 8 := by unfold nS at ht; omega
  have e3 : gmS s cl t 3 = s 3 := g2 3 (by omega)
  have hlo : ∀ j : Int, j < 1369 → gQ s cl b t j = gmS s cl t j := fun j hj => gQ_o (by omega) (by omega)
  have hrow : ∀ k : Nat, (k : Int) < s 3 → gQ s cl b t (1369 + k) = gmS s cl t (1369 + k) ∧ ∀ i : Nat, i < 8 → gQ s cl b t (1381 + 8 * k + i) = gmS s cl t (1381 + 8 * k + i) ∧ gQ s cl b t (1477 + 8 * k + i) = gmS s cl t (1477 + 8 * k + i) := by
    intro k hk
    refine ⟨gQ_o (by omega) (by omega), fun i hi => ⟨gQ_o (by omega) (by omega), ?_⟩⟩
    cases b with
    | false => rw [gQ_f]
    | true =>
      have := hb rfl
      exact gQ_o (by omega) (by omega)
  refine ⟨WF_rows g1 (fun j hj _ => hlo j hj) (Or.inl (hlo 3 (by omega))) (fun k hk => ?_), fun c hc => pkS_fr g1 hc hlo (fun q => tlS_rows g1 (hlo 3 (by omega)) (fun k hk => ?_))⟩
  · rw [hlo 3 (by omega), e3] at hk
    exact W9_old g1 (by rw [e3]; exact hk) (hlo 0 (by omega)) (hrow k hk).1 (fun i hi => (hrow k hk).2 i hi)
  · rw [e3] at hk
    exact ⟨(hrow k hk).1, fun i hi => ((hrow k hk).2 i hi).1⟩
theorem r206_l {b : Bool} {u1 : AV} {σ0 : St} (hw : WF s cl) (hb : b = true → s 3 < 12) (hN : N < 19000) : ∀ (j t : Nat) (u5 u6 : AV) (σ : St), t + j = nS s → RQ (N + t) (gQ s cl b t) σ → FG σ0 σ → ∃ (σ' : St) (v5 v6 : AV), RQ (N + nS s) (gQ s cl b (nS s)) σ' ∧ FG σ0 σ' ∧ ∀ Q, R (d + 23) 206 44 [vR 153, u1, vI (if b = true then 1 else 0), vI (s 3), vI t, u5, u6] [] (WS L σ) Q = R (d + 23) 206 136 [vR 153, u1, vI (if b = true then 1 else 0), vI (s 3), vI (nS s), v5, v6] [] (WS L σ') Q := by
  have w0 := hw.1
  have w0' := w0
  unfold W0 at w0
  have hn : s 0 = (nS s : Int) := by unfold nS; omega
  have h8 : nS s ≤ 8 := by omega
  intro j
  induction j with
  | zero =>
    intro t u5 u6 σ ht h hf
    obtain rfl : t = nS s := by omega
    have e0 : σ 154 0 = s 0 := by rw [h.1, gQ_o (by omega) (by omega), (gm_all hw (nS s) (by omega)).2.1 0 (by omega)]
    refine ⟨σ, u5, u6, h, hf, fun Q => ?_⟩
    rw [b206_44, e0, if_pos (by omega)]
  | succ j ih =>
    intro t u5 u6 σ ht h hf
    obtain ⟨g1, g2, g3, g4⟩ := gm_all hw t (by omega)
    obtain ⟨r1, r2⟩ := gQ_all hw hb (show t ≤ nS s by omega)
    have i1 := (g4 (by omega)).1
    have hlo : ∀ j : Int, j < 203 → gQ s cl b t j = s j := fun j hj => by rw [gQ_o (by omega) (by omega), g2 j (by omega)]
    have e0 : σ 154 0 = s 0 := by rw [h.1, hlo 0 (by omega)]
    have e4 : σ 154 4 = s 4 := by rw [h.1, hlo 4 (by omega)]
    have hk := tkS_r w0' (kind := kdS s) (t := t)
    obtain ⟨c, hc⟩ : ∃ c : Nat, tkS s (kdS s) t = (c : Int) := ⟨(tkS s (kdS s) t).toNat, by omega⟩
    have hgC : gmC s t = (c : Int) := hc
    obtain ⟨q1, q2, q3⟩ := gm_b hw (show t < nS s by omega)
    have eleft : leftS (gQ s cl b t) ≠ 0 := by
      have : leftS (gQ s cl b t) = leftS (gmS s cl t) := by
        unfold leftS
        have hn1 : nS (gQ s cl b t) = nS (gmS s cl t) := by
          unfold nS
          rw [hlo 0 (by omega), g2 0 (by omega)]
        have hn2 : nS (gmS s cl t) = nS s := by unfold nS; rw [g2 0 (by omega)]
        rw [hn1]
        exact bits_congr (fun i hi => by rw [gQ_o (by omega) (by omega)])
      rw [this]
      exact i1
    have ek := fun Q : Option AV → AW → Prop => r175 (d := d + 22) (L := L) (Q := Q) (σ := σ) (s := gQ s cl b t) (k := s 4) (t := t) r1.1 r1.2.2.1 (by omega) (by omega)
    rw [ss_self h.1, tkS_fr (hlo 2 (by omega)) (hlo 5 (by omega)) (fun j _ _ => hlo j (by omega)) (by omega), show (s 4).toNat = kdS s from rfl, hc] at ek
    obtain ⟨σ1, f1, f2, f3⟩ := r198 (d := d) (L := L) (c := c) r1 (by omega) h (by omega) eleft
    have epk : pkS (gQ s cl b t) cl c = gmB s cl t := by
      rw [r2 c (by omega)]
      show _ = pkS (gmS s cl t) cl (tkS s (kdS s) t).toNat
      rw [hc]
      rfl
    rw [epk] at f3
    have es1 : setS σ1 (gQ s cl b t) = σ1 := ss_self f1.1
    have run : ∀ Q, R (d + 23) 206 44 [vR 153, u1, vI (if b = true then 1 else 0), vI (s 3), vI t, u5, u6] [] (WS L σ) Q = R (d + 23) 206 90 [vR 153, u1, vI (if b = true then 1 else 0), vI (s 3), vI t, vI c, vI (gmB s cl t)] [] (WS L (setS σ1 (up (gQ s cl b t) (203 + gmB s cl t) c))) Q := by
      intro Q
      rw [b206_44, e0, if_neg (by omega), b206_55, e4, ek]
      simp only [am_push_s]
      rw [b206_67]
      refine (f3 _).trans ?_
      simp only [am_push_s]
      rw [b206_75 (by omega) (by omega) (by omega), ← es1, ss_st, es1]
    cases b with
    | false =>
      have en : up (gQ s cl false t) (203 + gmB s cl t) c = gQ s cl false (t + 1) := by
        rw [gQ_f, gQ_f, ← hgC]
        rfl
      rw [en] at run
      obtain ⟨σ2, v5, v6, k1, k2, k3⟩ := ih (t + 1) (vI c) (vI (gmB s cl t)) (setS σ1 (gQ s cl false (t + 1))) (by omega) (RQ_set (RQ_le f1 (by omega))) (FG_t hf (FG_t (FQ_FG f2) FG_set))
      refine ⟨σ2, v5, v6, k1, k2, fun Q => ?_⟩
      rw [run, b206_90, if_pos (by simp), b206_130 (by omega)]
      exact k3 Q
    | true =>
      have h12 := hb rfl
      have en := gQ_t (cl := cl) (t := t) (show 0 ≤ s 3 ∧ s 3 < 12 by omega) (by omega) (show 0 ≤ gmB s cl t ∧ gmB s cl t < 8 by omega)
      rw [hgC] at en
      obtain ⟨σ2, v5, v6, k1, k2, k3⟩ := ih (t + 1) (vI c) (vI (gmB s cl t)) (setS σ1 (gQ s cl true (t + 1))) (by omega) (RQ_set (RQ_le f1 (by omega))) (FG_t hf (FG_t (FQ_FG f2) FG_set))
      refine ⟨σ2, v5, v6, k1, k2, fun Q => ?_⟩
      rw [run, b206_90, if_neg (by simp), b206_94 (by omega) (by omega) (by omega) (by omega) (by omega), ss_st, b206_112 (by omega) (by omega) (by omega) (by omega) (by omega), ss_st, en, b206_130 (by omega)]
      exact k3 Q
theorem uGame_t (h3 : 0 ≤ s 3 ∧ s 3 < 12) (h0 : 0 < s 0 ∧ s 0 ≤ 8) {k : Int} (hk : k ≠ 0) : up (up (gQ s cl true (nS s)) (1369 + s 3) (s 0)) 3 (s 3 + 1) = uGame s cl k := by
  funext j
  have hn : s 0 = (nS s : Int) := by unfold nS; omega
  have a0 : k ≠ 0 ∧ 0 < s 0 ∧ s 3 < 12 := ⟨hk, by omega, by omega⟩
  unfold up uGame gQ
  rw [if_pos a0]
  by_cases q1 : j = 3
  · rw [if_pos q1, if_neg (by omega), if_neg (by omega), if_neg (by omega), if_pos q1]
  · rw [if_neg q1]
    by_cases q2 : j = 1369 + s 3
    · rw [if_pos q2, if_neg (by omega), if_neg (by omega), if_pos q2]
    · rw [if_neg q2]
      by_cases q3 : 1381 + 8 * s 3 ≤ j ∧ j < 1381 + 8 * s 3 + s 0
      · have a1 : true = true ∧ 1381 + 8 * s 3 ≤ j ∧ j < 1381 + 8 * s 3 + (nS s : Int) := ⟨rfl, by omega, by omega⟩
        rw [if_pos a1, if_pos q3]
      · have a1 : ¬ (true = true ∧ 1381 + 8 * s 3 ≤ j ∧ j < 1381 + 8 * s 3 + (nS s : Int)) := by omega
        rw [if_neg a1, if_neg q3]
        by_cases q4 : 1477 + 8 * s 3 ≤ j ∧ j < 1477 + 8 * s 3 + s 0
        · have a2 : true = true ∧ 1477 + 8 * s 3 ≤ j ∧ j < 1477 + 8 * s 3 + (nS s : Int) := ⟨rfl, by omega, by omega⟩
          rw [if_pos a2, if_pos q4]
        · have a2 : ¬ (true = true ∧ 1477 + 8 * s 3 ≤ j ∧ j < 1477 + 8 * s 3 + (nS s : Int)) := by omega
          rw [if_neg a2, if_neg q4, if_neg q2, if_neg q1]
theorem WF_game (hw : WF s cl) {k : Int} : WF (uGame s cl k) cl := by
  have w0 := hw.1
  unfold W0 at w0
  have hn : s 0 = (nS s : Int) := by unfold nS; omega
  obtain ⟨g1, g2, g3, g4⟩ := gm_all hw (nS s) (Nat.le_refl _)
  by_cases q : k ≠ 0 ∧ 0 < s 0 ∧ s 3 < 12
  · obtain ⟨r1, r2⟩ := gQ_all (b := true) hw (fun _ => q.2.2) (Nat.le_refl (nS s))
    have hlo : ∀ j : Int, j < 203 → gQ s cl true (nS s) j = s j := fun j hj => by rw [gQ_o (by omega) (by omega), g2 j (by omega)]
    rw [← uGame_t (by omega) (by omega) q.1]
    have e3 : gQ s cl true (nS s) 3 = s 3 := hlo 3 (by omega)
    have eo : ∀ j : Int, j ≠ 3 → j ≠ 1369 + s 3 → up (up (gQ s cl true (nS s)) (1369 + s 3) (s 0)) 3 (s 3 + 1) j = gQ s cl true (nS s) j := fun j a b => by rw [up_o a, up_o b]
    have e0 : up (up (gQ s cl true (nS s)) (1369 + s 3) (s 0)) 3 (s 3 + 1) 0 = s 0 := by rw [eo 0 (by omega) (by omega), hlo 0 (by omega)]
    refine WF_rows r1 (fun j hj h3 => eo j h3 (by omega)) (Or.inr ⟨by rw [up_e, e3], by rw [e3]; omega⟩) (fun k' hk' => ?_)
    rw [up_e] at hk'
    by_cases q2 : (k' : Int) < s 3
    · exact W9_old r1 (by rw [e3]; exact q2) (eo 0 (by omega) (by omega)) (eo _ (by omega) (by omega)) (fun t ht => ⟨eo _ (by omega) (by omega), eo _ (by omega) (by omega)⟩)
    · have ek : (k' : Int) = s 3 := by omega
      have er : up (up (gQ s cl true (nS s)) (1369 + s 3) (s 0)) 3 (s 3 + 1) (1369 + k') = s 0 := by rw [ek, up_o (by omega), up_e]
      have eb : ∀ t : Nat, (t : Int) < s 0 → up (up (gQ s cl true (nS s)) (1369 + s 3) (s 0)) 3 (s 3 + 1) (1381 + 8 * k' + t) = gmB s cl t := by
        intro t ht
        rw [eo _ (by omega) (by omega)]
        unfold gQ
        have a1 : true = true ∧ 1381 + 8 * s 3 ≤ 1381 + 8 * (k' : Int) + t ∧ 1381 + 8 * (k' : Int) + t < 1381 + 8 * s 3 + (nS s : Int) := ⟨rfl, by omega, by omega⟩
        rw [if_pos a1, show (1381 + 8 * (k' : Int) + t - (1381 + 8 * s 3)).toNat = t by omega]
      have ec : ∀ t : Nat, (t : Int) < s 0 → up (up (gQ s cl true (nS s)) (1369 + s 3) (s 0)) 3 (s 3 + 1) (1477 + 8 * k' + t) = gmC s t := by
        intro t ht
        rw [eo _ (by omega) (by omega)]
        unfold gQ
        have a1 : ¬ (true = true ∧ 1381 + 8 * s 3 ≤ 1477 + 8 * (k' : Int) + t ∧ 1477 + 8 * (k' : Int) + t < 1381 + 8 * s 3 + (nS s : Int)) := by omega
        have a2 : true = true ∧ 1477 + 8 * s 3 ≤ 1477 + 8 * (k' : Int) + t ∧ 1477 + 8 * (k' : Int) + t < 1477 + 8 * s 3 + (nS s : Int) := ⟨rfl, by omega, by omega⟩
        rw [if_neg a1, if_pos a2, show (1477 + 8 * (k' : Int) + t - (1477 + 8 * s 3)).toNat = t by omega]
      rw [er, e0]
      refine ⟨by omega, fun t ht => ?_, fun t t' ht ht' => ?_⟩
      · rw [eb t ht, ec t ht]
        have hb := gm_b hw (show t < nS s by omega)
        have hk := tkS_r hw.1 (kind := kdS s) (t := t)
        have hgC : gmC s t = tkS s (kdS s) t := rfl
        omega
      · rw [eb t ht, eb t' ht']
        exact gm_inj hw t t' (by omega) (by omega)
  · rw [uGame_n q]
    exact g1
theorem q206 {k : Int} (hw : WF s cl) (h : RQ N s σ) (hN : N < 18000) : ∃ σ' : St, RQ (N + 8) (uGame s cl k) σ' ∧ FG σ σ' ∧ ∀ Q, R (d + 23) 206 0 [vR 153, vI k, vX 9, vX 9, vX 9, vX 9, vX 9] [] (WS L σ) Q = Q (some (vI (s 0))) (WS L σ') := by
  have w0 := hw.1
  unfold W0 at w0
  have hn : s 0 = (nS s : Int) := by unfold nS; omega
  have h1 := h.1
  have g := fun Q : Option AV → AW → Prop => r149 (d := d + 22) (L := L) (Q := Q) (σ := σ) (s := s)
  rw [ss_self h1] at g
  obtain ⟨g1, g2, g3, g4⟩ := gm_all hw (nS s) (Nat.le_refl _)
  have emp3 : ∀ j : Int, j < 203 → setS σ (emp s) 154 j = s j := fun j hj => by rw [ss_e, emp_o (by omega)]
  by_cases q : k ≠ 0 ∧ 0 < s 0 ∧ s 3 < 12
  · have e0 : gQ s cl true 0 = emp s := by
      funext j
      rw [gQ_o (by omega) (by omega)]
      rfl
    obtain ⟨σ1, v5, v6, f1, f2, f3⟩ := r206_l (d := d) (L := L) (N := N) (b := true) (u1 := vI k) (σ0 := σ) hw (fun _ => q.2.2) (by omega) (nS s) 0 (vX 9) (vX 9) (setS σ (emp s)) (by omega) (by rw [e0]; exact RQ_set (RQ_le h (by omega))) FG_set
    have hlo : ∀ j : Int, j < 203 → gQ s cl true (nS s) j = s j := fun j hj => by rw [gQ_o (by omega) (by omega), g2 j (by omega)]
    have es1 : setS σ1 (gQ s cl true (nS s)) = σ1 := ss_self f1.1
    have eu := uGame_t (cl := cl) (k := k) (show 0 ≤ s 3 ∧ s 3 < 12 by omega) (by omega) q.1
    have ex0 : σ1 154 0 = s 0 := by rw [f1.1, hlo 0 (by omega)]
    have ex3 : setS σ1 (up (gQ s cl true (nS s)) (1369 + s 3) (s 0)) 154 3 = s 3 := by rw [ss_e, up_o (by omega), hlo 3 (by omega)]
    have ex4 : uGame s cl k 0 = s 0 := by rw [← eu, up_o (by omega), up_o (by omega), hlo 0 (by omega)]
    refine ⟨setS σ1 (uGame s cl k), RQ_set (RQ_le f1 (by omega)), FG_t f2 FG_set, fun Q => ?_⟩
    rw [b206_0, g]
    simp only [am_push_n]
    rw [b206_4, if_neg q.1, b206_8, emp3 0 (by omega), if_neg (by omega), b206_17, emp3 3 (by omega), if_neg (by omega), b206_28, b206_33, emp3 3 (by omega)]
    refine (f3 Q).trans ?_
    rw [b206_136, if_neg (by simp), b206_140 (by omega) (by omega) (by omega), ex0, ← es1, ss_st, es1, b206_156 (by rw [ex3]; omega), ex3, ss_st, eu, b206_166, ss_e, ex4]
  · obtain ⟨σ1, v5, v6, f1, f2, f3⟩ := r206_l (d := d) (L := L) (N := N) (b := false) (u1 := vI k) (σ0 := σ) hw (fun h => by simp at h) (by omega) (nS s) 0 (vX 9) (vX 9) (setS σ (emp s)) (by omega) (by rw [gQ_f]; exact RQ_set (RQ_le h (by omega))) FG_set
    rw [gQ_f] at f1
    have ex0 : σ1 154 0 = s 0 := by rw [f1.1, g2 0 (by omega)]
    have to33 : ∀ Q, R (d + 23) 206 0 [vR 153, vI k, vX 9, vX 9, vX 9, vX 9, vX 9] [] (WS L σ) Q = R (d + 23) 206 33 [vR 153, vI k, vX 9, vX 9, vX 9, vX 9, vX 9] [vI 0] (WS L (setS σ (emp s))) Q := by
      intro Q
      rw [b206_0, g]
      simp only [am_push_n]
      rw [b206_4]
      by_cases q1 : k = 0
      · rw [if_pos q1, b206_32]
      · rw [if_neg q1, b206_8, emp3 0 (by omega)]
        by_cases q2 : s 0 ≤ 0
        · rw [if_pos q2, b206_32]
        · rw [if_neg q2, b206_17, emp3 3 (by omega), if_pos (by omega), b206_32]
    refine ⟨σ1, by rw [uGame_n q]; exact RQ_le f1 (by omega), f2, fun Q => ?_⟩
    rw [to33, b206_33, emp3 3 (by omega)]
    refine (f3 Q).trans ?_
    rw [b206_136, if_pos (by simp), b206_166, ex0]
end RN5
