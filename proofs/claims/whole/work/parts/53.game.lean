/-! the calls of the class, by the array: a game -/
theorem has_bit {x n : Nat} (h : x ≠ 0) (hx : ∀ b, x.testBit b = true → b < n) : ∃ b, b < n ∧ x.testBit b = true := by
  by_cases q : ∃ b, x.testBit b = true
  · obtain ⟨b, hb⟩ := q
    exact ⟨b, hx b hb, hb⟩
  · exfalso
    apply h
    apply tb_ext
    intro i
    rw [Nat.zero_testBit]
    cases e : x.testBit i with
    | false => rfl
    | true => exact absurd ⟨i, e⟩ q
theorem amx_pos {ok : Nat → Bool} {v : Nat → Int} {n b : Nat} (hb : b < n) (h : ok b = true) : 0 ≤ amx ok v n := by
  by_cases q : amx ok v n < 0
  · rw [amx_none] at q
    rw [q b hb] at h
    simp at h
  · omega
theorem bz_pos {a : Int} (h : 0 ≤ a) : bz a = a := by
  unfold bz
  rw [if_neg (by omega)]
theorem mxN_at {ok : Nat → Bool} {v : Nat → Nat} : ∀ {n b : Nat}, b < n → ok b = true → ∃ i, i < n ∧ ok i = true ∧ v i = mxN ok v n
  | 0, b, h, _ => absurd h (by omega)
  | n + 1, b, h, hb => by
    rw [mxN]
    by_cases q : ok n = true ∧ mxN ok v n < v n
    · rw [if_pos q]
      exact ⟨n, by omega, q.1, rfl⟩
    · rw [if_neg q]
      by_cases q2 : ∃ i, i < n ∧ ok i = true
      · obtain ⟨i, hi, hi2⟩ := q2
        obtain ⟨k, h1, h2, h3⟩ := mxN_at (v := v) hi hi2
        exact ⟨k, by omega, h2, h3⟩
      · have hbn : b = n := by
          by_cases q3 : b = n
          · exact q3
          · exact absurd ⟨b, by omega, hb⟩ q2
        subst hbn
        have hz : ∀ m, m ≤ b → mxN ok v m = 0 := by
          intro m
          induction m with
          | zero => intro _; rfl
          | succ m ih =>
            intro hm
            rw [mxN, ih (by omega), if_neg]
            intro x
            exact q2 ⟨m, by omega, x.1⟩
        refine ⟨b, by omega, hb, ?_⟩
        have := hz b (Nat.le_refl _)
        have : ¬ (mxN ok v b < v b) := fun x => q ⟨hb, x⟩
        omega
section GA
variable {d L N : Nat} {s s' : Int → Int} {cl cl' : Nat → List Cl} {σ σ1 : St} {Q : Option AV → AW → Prop}
theorem dear_r {c x : Nat} (h0 : x ≠ 0) (hx : ∀ b, x.testBit b = true → b < 8) : 0 ≤ dearS s cl c x ∧ x.testBit (dearS s cl c x).toNat = true := by
  obtain ⟨b, hb, hb2⟩ := has_bit h0 hx
  have h1 := amx_pos (ok := fun b => x.testBit b) (v := fun b => Wr s cl c (sdS s c ||| 2 ^ b)) hb hb2
  have h2 := amx_r (fun b => x.testBit b) (fun b => Wr s cl c (sdS s c ||| 2 ^ b)) 8
  unfold dearS
  rw [bz_pos h1]
  exact ⟨h1, h2.2.2 h1⟩
theorem pkS_r (hw : WF s cl) (hl : leftS s ≠ 0) {c : Nat} (hc : c < 3) : 0 ≤ pkS s cl c ∧ (leftS s).testBit (pkS s cl c).toNat = true := by
  have w0 := hw.1
  have n8 := (nS_8 w0).1
  have hs : ∀ b, (leftS s).testBit b = true → b < 8 := fun b hb => by have := (leftS_sub hb).1; omega
  obtain ⟨b, hb, hb2⟩ := has_bit hl hs
  have least : 0 ≤ bz (amx (fun b => (leftS s).testBit b) (fun _ => 0) 8) ∧ (leftS s).testBit (bz (amx (fun b => (leftS s).testBit b) (fun _ => 0) 8)).toNat = true := by
    have h1 := amx_pos (ok := fun b => (leftS s).testBit b) (v := fun _ => 0) hb hb2
    have h2 := amx_r (fun b => (leftS s).testBit b) (fun _ => 0) 8
    rw [bz_pos h1]
    exact ⟨h1, h2.2.2 h1⟩
  unfold pkS
  rw [if_neg hl]
  by_cases q1 : s (157 + c) = 1
  · rw [if_pos q1]
    exact dear_r hl hs
  · rw [if_neg q1]
    by_cases q2 : s (157 + c) = 2
    · rw [if_pos q2]
      exact dear_r hl hs
    · rw [if_neg q2]
      by_cases q3 : s (157 + c) = 3
      · rw [if_pos q3]
        have h0 : fgC (frS s c) (leftS s) ≠ 0 := by
          unfold fgC
          split
          · exact hl
          · assumption
        obtain ⟨h1, h2⟩ := dear_r (s := s) (cl := cl) (c := c) h0 (fun b hb => hs b (fg_sub hb))
        exact ⟨h1, fg_sub h2⟩
      · rw [if_neg q3]
        by_cases q4 : s (157 + c) = 4
        · rw [if_pos q4]
          obtain ⟨k1, k2⟩ := leftS_sub hb2
          have e0 : oW s b = 0 := by
            unfold oW
            rw [if_pos k1, k2]
            rfl
          have h1 : 0 ≤ bsS s cl c := amx_pos k1 (by simp [e0])
          have h2 := chF_r (W := Wr s cl) (mv := mvS s (kdS s) false) (n := nS s) (k := frO (nS s) (oW s) - 1) (o := oW s) (c := c)
          have h3 : oW s (bsS s cl c).toNat = 0 := h2.2.2 h1
          have h4 : bsS s cl c < (nS s : Int) := h2.2.1
          have h6 : (bsS s cl c).toNat < nS s := by omega
          have h7 : oW s (bsS s cl c).toNat = (s (203 + ((bsS s cl c).toNat : Int)) + 1).toNat := by
            unfold oW
            rw [if_pos h6]
          have h5 := (hw.2.2.2.2.1 (bsS s cl c).toNat (by unfold nS at h6; omega)).2.2.2
          rw [bz_pos h1]
          refine ⟨h1, ?_⟩
          unfold leftS
          rw [bits_test]
          simp only [h6, decide_true, Bool.true_and, decide_eq_true_eq]
          omega
        · rw [if_neg q4]
          by_cases q5 : s (157 + c) = 5
          · rw [if_pos q5]
            unfold flC
            split
            · exact least
            · rename_i h1
              have h2 := amx_r (fun k : Nat => (leftS s).testBit (s (163 + 8 * c + k)).toNat) (fun _ => 0) (s (160 + c)).toNat
              have h1' : ¬ amx (fun k : Nat => (leftS s).testBit (s (163 + 8 * c + k)).toNat) (fun _ => 0) (s (160 + c)).toNat < 0 := h1
              refine ⟨?_, h2.2.2 (by omega)⟩
              exact ((hw.2.2.2.2.2.2.1 c hc).2 (amx (fun k : Nat => (leftS s).testBit (s (163 + 8 * c + k)).toNat) (fun _ => 0) (s (160 + c)).toNat).toNat (by omega)).1
          · rw [if_neg q5]
            by_cases q6 : s (157 + c) = 6
            · rw [if_pos q6]
              have h0 : oflC (fun b => (leftS s).testBit b) (tlS s) 8 ≠ 0 := by
                obtain ⟨i, i1, i2, i3⟩ := mxN_at (ok := fun b => (leftS s).testBit b) (v := tlS s) hb hb2
                intro e
                have : (oflC (fun b => (leftS s).testBit b) (tlS s) 8).testBit i = true := by
                  unfold oflC
                  rw [bits_test]
                  simp [i1, i2, i3]
                rw [e] at this
                simp at this
              obtain ⟨h1, h2⟩ := dear_r (s := s) (cl := cl) (c := c) h0 (fun b hb => hs b (ofl_sub (ok := fun b => (leftS s).testBit b) hb))
              exact ⟨h1, ofl_sub (ok := fun b => (leftS s).testBit b) h2⟩
            · rw [if_neg q6]
              exact least
/-- a boy goes to somebody -/
theorem WF_own {b : Nat} {c : Int} (hw : WF s cl) (hb : b < nS s) (hc : -1 ≤ c ∧ c < s 2) : WF (up s (203 + b) c) cl := by
  obtain ⟨w0, w1, w2, w3, w4, w5, w6, w8, w9⟩ := hw
  have hn8 := nS_8 w0
  unfold W0 at w0
  have hs : ∀ j : Int, (j < 203 ∨ 211 ≤ j) → up s (203 + b) c j = s j := fun j hj => up_o (by omega)
  refine ⟨(by unfold W0; rw [hs 0 (by omega), hs 1 (by omega), hs 2 (by omega), hs 3 (by omega), hs 4 (by omega), hs 5 (by omega), hs 6 (by omega), hs 7 (by omega)]; exact w0), (W1_fr w1 (hs 7 (by omega)) (fun j _ _ => hs j (by omega)) (by omega)), (W2_fr w2 (hs 5 (by omega)) (fun j _ _ => hs j (by omega)) (by omega)), (W3_fr w3 (hs 6 (by omega)) (fun j _ _ => hs j (by omega)) (by omega)), ?_, (W5_fr w5 (by rw [hs 1 (by omega)]; omega) (fun j _ _ => hs j (by omega))), (W6_fr w6 (fun j _ _ => hs j (by omega))), (W8_fr w8 (hs 1 (by omega)) (by omega) (fun j _ _ => hs j (by omega))), (W9_fr w9 (hs 3 (by omega)) (by rw [hs 0 (by omega)]; omega) (by omega) (by omega) (fun j _ _ => hs j (by omega)))⟩
  intro q hq
  rw [hs 0 (by omega)] at hq
  obtain ⟨h1, h2, h3, h4⟩ := w4 q hq
  rw [hs (130 + q) (by omega), hs (138 + q) (by omega), hs (146 + q) (by omega), hs 2 (by omega)]
  refine ⟨h1, h2, h3, ?_⟩
  by_cases e : q = b
  · rw [e, up_e]
    exact hc
  · rw [up_o (by omega)]
    exact h4
theorem WF_emp (hw : WF s cl) : WF (emp s) cl := by
  obtain ⟨w0, w1, w2, w3, w4, w5, w6, w8, w9⟩ := hw
  unfold W0 at w0
  have hs : ∀ j : Int, (j < 203 ∨ 211 ≤ j) → emp s j = s j := fun j hj => by unfold emp; rw [if_neg (by omega)]
  refine ⟨(by unfold W0; rw [hs 0 (by omega), hs 1 (by omega), hs 2 (by omega), hs 3 (by omega), hs 4 (by omega), hs 5 (by omega), hs 6 (by omega), hs 7 (by omega)]; exact w0), (W1_fr w1 (hs 7 (by omega)) (fun j _ _ => hs j (by omega)) (by omega)), (W2_fr w2 (hs 5 (by omega)) (fun j _ _ => hs j (by omega)) (by omega)), (W3_fr w3 (hs 6 (by omega)) (fun j _ _ => hs j (by omega)) (by omega)), ?_, (W5_fr w5 (by rw [hs 1 (by omega)]; omega) (fun j _ _ => hs j (by omega))), (W6_fr w6 (fun j _ _ => hs j (by omega))), (W8_fr w8 (hs 1 (by omega)) (by omega) (fun j _ _ => hs j (by omega))), (W9_fr w9 (hs 3 (by omega)) (by rw [hs 0 (by omega)]; omega) (by omega) (by omega) (fun j _ _ => hs j (by omega)))⟩
  intro q hq
  rw [hs 0 (by omega)] at hq
  obtain ⟨h1, h2, h3, h4⟩ := w4 q hq
  rw [hs (130 + q) (by omega), hs (138 + q) (by omega), hs (146 + q) (by omega), hs 2 (by omega)]
  refine ⟨h1, h2, h3, ?_⟩
  unfold emp
  rw [if_pos (by omega)]
  omega
theorem oW_up {b : Nat} {c : Int} (h0 : 0 ≤ s 0) (hb : b < nS s) : oW (up s (203 + b) c) = oup (oW s) b (c + 1).toNat := by
  have hn : nS (up s (203 + b) c) = nS s := by unfold nS; rw [up_o (by omega)]
  funext i
  unfold oup oW
  rw [hn]
  by_cases e : i = b
  · subst e
    rw [if_pos rfl, if_pos hb, up_e]
  · rw [if_neg e, up_o (by omega)]
theorem left_0 (hw : W4 s) (h : leftS s = 0) : frO (nS s) (oW s) = 0 := by
  have key : ∀ m, m ≤ nS s → frO m (oW s) = 0 := by
    intro m
    induction m with
    | zero => intro _; rfl
    | succ m ih =>
      intro hm
      have e := ih (by omega)
      unfold frO at e ⊢
      rw [cnt, e]
      have h1 : (leftS s).testBit m = false := by rw [h]; simp
      unfold leftS at h1
      rw [bits_test] at h1
      have h2 : m < nS s := by omega
      simp [h2] at h1
      have h3 := (hw m (by unfold nS at h2; omega)).2.2.2
      have h4 : ¬ oW s m = 0 := by
        unfold oW
        rw [if_pos h2]
        omega
      simp [h4]
  exact key _ (Nat.le_refl _)
/-- a game: the array behind t picks -/
def gmS (s : Int → Int) (cl : Nat → List Cl) : Nat → Int → Int
  | 0 => emp s
  | t + 1 => up (gmS s cl t) (203 + pkS (gmS s cl t) cl (tkS s (kdS s) t).toNat) (tkS s (kdS s) t)
def gmB (s : Int → Int) (cl : Nat → List Cl) (t : Nat) : Int := pkS (gmS s cl t) cl (tkS s (kdS s) t).toNat
def gmC (s : Int → Int) (t : Nat) : Int := tkS s (kdS s) t
theorem tkS_fr {kind t : Nat} (h2 : s' 2 = s 2) (h5 : s' 5 = s 5) (h : ∀ j : Int, 187 ≤ j → j < 195 → s' j = s j) (h8 : s 5 ≤ 8) : tkS s' kind t = tkS s kind t := by
  unfold tkS
  rw [h2, h5]
  exact tkC_congr (fun i hi => h _ (by omega) (by omega))
theorem tkS_r (hw : W0 s) {kind t : Nat} : 0 ≤ tkS s kind t ∧ tkS s kind t < s 2 := by
  have := tkC_r (kind := kind) (t := t) (m := (s 5).toNat) (told := fun i => s (187 + i)) (W2_sw hw)
  unfold W0 at hw
  unfold tkS
  omega
theorem emp_o {j : Int} (h : j < 203 ∨ 211 ≤ j) : emp s j = s j := by
  unfold emp
  rw [if_neg (by omega)]
theorem gm_all (hw : WF s cl) : ∀ t, t ≤ nS s → WF (gmS s cl t) cl ∧ (∀ j : Int, j < 203 ∨ 211 ≤ j → gmS s cl t j = s j) ∧ frO (nS s) (oW (gmS s cl t)) + t = nS s ∧ (t < nS s → leftS (gmS s cl t) ≠ 0 ∧ 0 ≤ gmB s cl t ∧ (leftS (gmS s cl t)).testBit (gmB s cl t).toNat = true) := by
  have w0 := hw.1
  have n8 := nS_8 w0
  intro t
  induction t with
  | zero =>
    intro _
    have h1 : WF (gmS s cl 0) cl := WF_emp hw
    have h2 : ∀ j : Int, j < 203 ∨ 211 ≤ j → gmS s cl 0 j = s j := fun j hj => emp_o hj
    have hn : nS (gmS s cl 0) = nS s := by unfold nS; rw [h2 0 (by omega)]
    have h3 : frO (nS s) (oW (gmS s cl 0)) = nS s := by
      have key : ∀ m, m ≤ nS s → frO m (oW (gmS s cl 0)) = m := by
        intro m
        induction m with
        | zero => intro _; rfl
        | succ m ih =>
          intro hm
          have e := ih (by omega)
          unfold frO at e ⊢
          rw [cnt, e]
          have h4 : oW (gmS s cl 0) m = 0 := by
            unfold oW
            rw [hn, if_pos (by omega)]
            show (emp s (203 + m) + 1).toNat = 0
            unfold emp
            rw [if_pos (by omega)]
            rfl
          simp [h4]
      exact key _ (Nat.le_refl _)
    refine ⟨h1, h2, by omega, fun h => ?_⟩
    have h4 : leftS (gmS s cl 0) ≠ 0 := by
      intro e
      have := left_0 h1.2.2.2.2.1 e
      rw [hn] at this
      omega
    have h5 := tkS_r w0 (kind := kdS s) (t := 0)
    unfold W0 at w0
    obtain ⟨k1, k2⟩ := pkS_r (c := (tkS s (kdS s) 0).toNat) h1 h4 (by omega)
    exact ⟨h4, k1, k2⟩
  | succ t ih =>
    intro ht
    obtain ⟨i1, i2, i3, i4⟩ := ih (by omega)
    obtain ⟨i5, i6, i7⟩ := i4 (by omega)
    have hn : nS (gmS s cl t) = nS s := by unfold nS; rw [i2 0 (by omega)]
    have hk := tkS_r w0 (kind := kdS s) (t := t)
    obtain ⟨b1, b2⟩ := leftS_sub i7
    rw [hn] at b1
    obtain ⟨b, hb⟩ : ∃ b : Nat, gmB s cl t = (b : Int) := ⟨(gmB s cl t).toNat, by omega⟩
    have hb' : pkS (gmS s cl t) cl (tkS s (kdS s) t).toNat = (b : Int) := hb
    rw [hb] at b1 b2
    rw [Int.toNat_natCast] at b1 b2
    have e : gmS s cl (t + 1) = up (gmS s cl t) (203 + b) (tkS s (kdS s) t) := by rw [gmS, hb']
    have h1 : WF (gmS s cl (t + 1)) cl := by
      rw [e]
      exact WF_own i1 (by omega) (by rw [i2 2 (by omega)]; omega)
    have h2 : ∀ j : Int, j < 203 ∨ 211 ≤ j → gmS s cl (t + 1) j = s j := fun j hj => by rw [e, up_o (by omega), i2 j hj]
    have hn1 : nS (gmS s cl (t + 1)) = nS s := by unfold nS; rw [h2 0 (by omega)]
    have h3 : frO (nS s) (oW (gmS s cl (t + 1))) + 1 = frO (nS s) (oW (gmS s cl t)) := by
      rw [e, oW_up (by rw [i2 0 (by omega)]; omega) (by omega)]
      have o0 : oW (gmS s cl t) b = 0 := by
        unfold oW
        rw [hn, if_pos b1, b2]
        rfl
      exact (frO_oup b1 o0 (by omega)).symm
    refine ⟨h1, h2, by omega, fun h => ?_⟩
    have h4 : leftS (gmS s cl (t + 1)) ≠ 0 := by
      intro e
      have := left_0 h1.2.2.2.2.1 e
      rw [hn1] at this
      omega
    have h5 := tkS_r w0 (kind := kdS s) (t := t + 1)
    unfold W0 at w0
    obtain ⟨k1, k2⟩ := pkS_r (c := (tkS s (kdS s) (t + 1)).toNat) h1 h4 (by omega)
    exact ⟨h4, k1, k2⟩
def uGame (s : Int → Int) (cl : Nat → List Cl) (k : Int) : Int → Int := fun j =>
  if k ≠ 0 ∧ 0 < s 0 ∧ s 3 < 12 then
    (if 1381 + 8 * s 3 ≤ j ∧ j < 1381 + 8 * s 3 + s 0 then gmB s cl (j - (1381 + 8 * s 3)).toNat
    else if 1477 + 8 * s 3 ≤ j ∧ j < 1477 + 8 * s 3 + s 0 then gmC s (j - (1477 + 8 * s 3)).toNat
    else if j = 1369 + s 3 then s 0 else if j = 3 then s 3 + 1 else gmS s cl (nS s) j)
  else gmS s cl (nS s) j
/-- the wall and the game's row behind t picks -/
def GI (s : Int → Int) (cl : Nat → List Cl) (N t : Nat) (σ0 σ : St) : Prop := CR 20 (gmS s cl t) cl σ ∧ EN (N + t) (nS s) σ ∧ σ 20 5 = σ0 20 5 ∧ σ 143 1 = (t : Int) ∧ (∀ i : Nat, i < t → σ 144 i = gmC s i * 8 + gmB s cl i) ∧ ∀ a, a < 20 ∨ 77 ≤ a ∧ a < 134 ∨ 150 ≤ a → σ a = σ0 a
theorem r97_l {k : Int} (hw : WF s cl) (hv : 0 ≤ σ1 20 5 ∧ σ1 20 5 < 900000) (hN : N < 19980) : ∀ (j t : Nat) (u3 u4 : AV) (σ : St), t + j = nS s → GI s cl N t σ1 σ → ∃ (σ' : St) (u3' u4' : AV), GI s cl N (nS s) σ1 σ' ∧ ∀ Q, R (d + 24) 97 16 [vR 142, vI k, vI t, u3, u4] [] (WS L σ) Q = R (d + 24) 97 86 [vR 142, vI k, vI (nS s : Int), u3', u4'] [] (WS L σ') Q := by
  have w0 := hw.1
  have n8 := nS_8 w0
  have p8 := pw8 n8.1
  intro j
  induction j with
  | zero =>
    intro t u3 u4 σ ht h
    obtain rfl : t = nS s := by omega
    have c0 := h.1.1
    unfold C0 at c0
    have g2 := (gm_all hw (nS s) (by omega)).2.1
    refine ⟨σ, u3, u4, h, fun Q => ?_⟩
    rw [b97_16, c0.1, g2 0 (by omega), if_pos (by omega)]
  | succ j ih =>
    intro t u3 u4 σ ht h
    obtain ⟨h1, h2, h3, h4, h5, h6⟩ := h
    obtain ⟨g1, g2, g3, g4⟩ := gm_all hw t (by omega)
    obtain ⟨g5, g6, g7⟩ := g4 (by omega)
    have hn : nS (gmS s cl t) = nS s := by unfold nS; rw [g2 0 (by omega)]
    have c0 := h1.1
    unfold C0 at c0
    have hk := tkS_r w0 (kind := kdS s) (t := t)
    have w0' := w0
    unfold W0 at w0'
    obtain ⟨b1, b2⟩ := leftS_sub g7
    rw [hn] at b1
    obtain ⟨b, hb⟩ : ∃ b : Nat, gmB s cl t = (b : Int) := ⟨(gmB s cl t).toNat, by omega⟩
    obtain ⟨c, hc⟩ : ∃ c : Nat, tkS s (kdS s) t = (c : Int) := ⟨(tkS s (kdS s) t).toNat, by omega⟩
    have hb' : pkS (gmS s cl t) cl c = (b : Int) := by
      have : gmB s cl t = pkS (gmS s cl t) cl (tkS s (kdS s) t).toNat := rfl
      rw [hc, Int.toNat_natCast] at this
      rw [← this]
      exact hb
    rw [hb] at b1
    rw [Int.toNat_natCast] at b1
    have hc3 : c < 3 := by omega
    have hHC : HC (N + t) (gmS s cl t) cl σ := ⟨g1, h1, by rw [hn]; exact h2, by omega, by omega, by omega⟩
    have et : ∀ Q, R (d + 23) 63 0 [vR 20, vI (s 4), vI t, vX 9, vX 9] [] (WS L σ) Q = Q (some (vI (c : Int))) (WS L σ) := by
      intro Q
      rw [r63' g1 h1 (by omega) (by omega), tkS_fr (g2 2 (by omega)) (g2 5 (by omega)) (fun j _ _ => g2 j (by omega)) (by omega)]
      show Q (some (vI (tkS s (kdS s) t))) _ = _
      rw [hc]
    obtain ⟨σa, a1, a2, a3⟩ := r76' (d := d + 1) (L := L) (c := c) hHC hc3
    rw [hb'] at a3
    have fa := Fr3_rd a2
    have ca : CR 20 (gmS s cl t) cl σa := CR_fr h1 (fun j _ => by rw [a2 20 (by omega) (by omega) (by omega)]) (fun a _ _ => a2 a (by omega) (by omega) (by omega)) (by rw [g2 1 (by omega)]; omega) (by rw [g2 3 (by omega)]; omega)
    have hsd : ∀ c : Nat, c < 3 → σa 30 c = (sdS (gmS s cl t) c : Int) := fun c hc => (ca.2.2.2.2.2.1 c hc).2.2
    have hsl : ∀ c : Nat, c < 3 → sdS (gmS s cl t) c < 256 := fun c _ => Nat.lt_of_lt_of_le sdS_lt (by rw [hn]; exact p8)
    let σb : St := setA σa 30 3 (fun q => (handS (sdS (gmS s cl t)) b c q : Int))
    have hσb : σb = setA σa 30 3 (fun q => (handS (sdS (gmS s cl t)) b c q : Int)) := rfl
    have fb : ∀ a, a ≠ 30 → σb a = σa a := by
      intro a ha
      funext j
      rw [hσb, setA_k ha]
    let σc : St := st2 (st2 σb 144 t ((c : Int) * 8 + b)) 143 1 ((t : Int) + 1)
    have hσc : σc = st2 (st2 σb 144 t ((c : Int) * 8 + b)) 143 1 ((t : Int) + 1) := rfl
    have fc : ∀ a, a ≠ 143 → a ≠ 144 → σc a = σb a := by
      intro a h1 h2
      funext j
      rw [hσc, st2_k h1, st2_k h2]
    have b143 : σb 143 1 = (t : Int) := by rw [fb 143 (by omega), a2 143 (by omega) (by omega) (by omega), h4]
    have hl : LN L (143 + 1) = 8 := rfl
    have e1 : gmS s cl (t + 1) = up (gmS s cl t) (203 + b) c := by
      rw [gmS, hc, Int.toNat_natCast, hb']
    have hGI : GI s cl N (t + 1) σ1 σc := by
      have hσ : ∀ a, (a ≠ 30 ∧ a ≠ 143 ∧ a ≠ 144) → σc a = σa a := fun a ha => by rw [fc a ha.2.1 ha.2.2, fb a ha.1]
      have h20 : ∀ j : Int, (0 : Int) ≤ 0 → σc 20 j = σa 20 j := fun j _ => by rw [hσ 20 (by omega)]
      have hs : ∀ j : Int, (j < 203 ∨ 211 ≤ j) → up (gmS s cl t) (203 + b) c j = gmS s cl t j := fun j hj => up_o (by omega)
      refine ⟨?_, ?_, ?_, ?_, ?_, ?_⟩
      · rw [e1]
        obtain ⟨w0, w1, w2, w3, w4, w5, w6, w8, w9⟩ := g1
        obtain ⟨c0, c1, c2, c3, c4, c5, c6, c7, c8, c9⟩ := ca
        unfold W0 at w0
        refine ⟨(by unfold C0; rw [h20 0 (by omega), h20 1 (by omega), h20 2 (by omega), h20 3 (by omega), h20 4 (by omega), hs 0 (by omega), hs 1 (by omega), hs 2 (by omega), hs 3 (by omega), hs 4 (by omega)]; exact c0), (C1_fr c1 (hσ 21 (by omega)) (hσ 22 (by omega)) (hs 7 (by omega)) (fun j _ _ => hs j (by omega)) (by omega)), (C2_fr c2 (hσ 23 (by omega)) (hσ 24 (by omega)) (hs 5 (by omega)) (fun j _ _ => hs j (by omega)) (by omega)), (C3_fr c3 (hσ 25 (by omega)) (hσ 26 (by omega)) (hs 6 (by omega)) (fun j _ _ => hs j (by omega)) (by omega)), (C4_fr c4 (hσ 27 (by omega)) (hs 0 (by omega)) (by omega) (fun j _ _ => hs j (by omega))), ?_, (C6_fr c6 w6 (fun a _ _ => hσ a (by omega)) (fun j _ _ => hs j (by omega))), (C7_fr c7 (hσ 31 (by omega)) (hs 0 (by omega)) (by omega) (fun j _ _ => hs j (by omega))), (C8_fr c8 (fun a _ _ => hσ a (by omega)) (hs 1 (by omega)) (by omega)), (C9_fr c9 w9 (by omega) (fun a _ _ => hσ a (by omega)) (hs 3 (by omega)) (by omega) (fun j _ _ => hs j (by omega)))⟩
        intro c' hc'
        obtain ⟨y1, y2, y3⟩ := c5 c' hc'
        rw [hσ (20 + 8) (by omega), hσ (20 + 9) (by omega), hs (154 + c') (by omega), hs (157 + c') (by omega)]
        refine ⟨y1, y2, ?_⟩
        show σc 30 c' = _
        rw [fc 30 (by omega) (by omega), hσb, setA_in (by omega) (by omega), Int.toNat_natCast, hand_sd w0.1.1 (by omega)]
      · rw [hn] at a1
        exact EN_fr a1 (hσ 139 (by omega)) (hσ 140 (by omega)) (hσ 141 (by omega)) (by rw [h20 5 (by omega)]; omega) (fun _ c x _ _ => by unfold Wc; rw [hσ 31 (by omega)]) n8.1
      · rw [h20 5 (by omega), a2 20 (by omega) (by omega) (by omega), h3]
      · rw [hσc, st2_eq]
        omega
      · intro i hi
        rw [hσc, st2_k (by omega)]
        by_cases e : i = t
        · subst e
          rw [st2_eq, hb]
          show _ = tkS s (kdS s) i * 8 + _
          rw [hc]
        · rw [st2_i (by omega), fb 144 (by omega), a2 144 (by omega) (by omega) (by omega)]
          exact h5 i (by omega)
      · intro a ha
        rw [hσ a (by omega), fa a (by omega)]
        exact h6 a ha
    obtain ⟨σ', u3', u4', i1, i2⟩ := ih (t + 1) (vI (c : Int)) (vI (b : Int)) σc (by omega) hGI
    refine ⟨σ', u3', u4', i1, fun Q => ?_⟩
    rw [b97_16, c0.1, g2 0 (by omega), if_neg (by omega), b97_27, c0.2.2.2.1, g2 4 (by omega), et]
    simp only [am_push_s]
    rw [b97_42]
    refine (a3 _).trans ?_
    simp only [am_push_s]
    rw [b97_48, if_neg (by omega), b97_55, r73 (by omega) hsd hsl (by omega)]
    simp only [am_push_n]
    show R (d + 24) 97 65 _ _ (WS L σb) Q = _
    rw [b97_65 (by omega) (by omega), r48 rfl (by rw [b143]; omega) (by rw [b143, hl]; omega) (by rw [hl]; omega), b143]
    simp only [am_push_s]
    show R (d + 24) 97 79 _ _ (WS L σc) Q = _
    rw [b97_79, b97_80 (by omega)]
    exact i2 Q
theorem uGame_n {k : Int} (h : ¬ (k ≠ 0 ∧ 0 < s 0 ∧ s 3 < 12)) : uGame s cl k = gmS s cl (nS s) := by
  funext j
  unfold uGame
  rw [if_neg h]
theorem k96 {k : Int} (h : HC N s cl σ) (hN : N < 19970) : ∃ σ1 : St, CP N (uGame s cl k) cl σ σ1 ∧ ∀ Q, R (d + 30) 96 0 [vR 19, vI k] [] (WS L σ) Q = Q (some (vI (s 0))) (WS L σ1) := by
  obtain ⟨hw, hr, hE, hv⟩ := h
  have h' : HC N s cl σ := ⟨hw, hr, hE, hv⟩
  have w0 := hw.1
  have n8 := nS_8 w0
  have w0' := w0
  unfold W0 at w0
  -- the sides are empty, the row is
  let σa : St := st2 (setA σ 30 3 (fun _ => 0)) 143 1 0
  have hσa : σa = st2 (setA σ 30 3 (fun _ => 0)) 143 1 0 := rfl
  have fa : ∀ a, a ≠ 30 → a ≠ 143 → σa a = σ a := by
    intro a h1 h2
    funext j
    rw [hσa, st2_k h2, setA_k h1]
  obtain ⟨g1, g2, -, -⟩ := gm_all hw 0 (by omega)
  have hGI : GI s cl N 0 σ σa := by
    have hσ : ∀ a, (a ≠ 30 ∧ a ≠ 143) → σa a = σ a := fun a ha => fa a ha.1 ha.2
    have h20 : ∀ j : Int, (0 : Int) ≤ 0 → σa 20 j = σ 20 j := fun j _ => by rw [hσ 20 (by omega)]
    have hs : ∀ j : Int, (j < 203 ∨ 211 ≤ j) → gmS s cl 0 j = s j := fun j hj => g2 j hj
    refine ⟨?_, ?_, ?_, ?_, ?_, ?_⟩
    · obtain ⟨-, w1, w2, w3, w4, w5, w6, w8, w9⟩ := hw
      obtain ⟨c0, c1, c2, c3, c4, c5, c6, c7, c8, c9⟩ := hr
      refine ⟨(by unfold C0; rw [h20 0 (by omega), h20 1 (by omega), h20 2 (by omega), h20 3 (by omega), h20 4 (by omega), hs 0 (by omega), hs 1 (by omega), hs 2 (by omega), hs 3 (by omega), hs 4 (by omega)]; exact c0), (C1_fr c1 (hσ 21 (by omega)) (hσ 22 (by omega)) (hs 7 (by omega)) (fun j _ _ => hs j (by omega)) (by omega)), (C2_fr c2 (hσ 23 (by omega)) (hσ 24 (by omega)) (hs 5 (by omega)) (fun j _ _ => hs j (by omega)) (by omega)), (C3_fr c3 (hσ 25 (by omega)) (hσ 26 (by omega)) (hs 6 (by omega)) (fun j _ _ => hs j (by omega)) (by omega)), (C4_fr c4 (hσ 27 (by omega)) (hs 0 (by omega)) (by omega) (fun j _ _ => hs j (by omega))), ?_, (C6_fr c6 w6 (fun a _ _ => hσ a (by omega)) (fun j _ _ => hs j (by omega))), (C7_fr c7 (hσ 31 (by omega)) (hs 0 (by omega)) (by omega) (fun j _ _ => hs j (by omega))), (C8_fr c8 (fun a _ _ => hσ a (by omega)) (hs 1 (by omega)) (by omega)), (C9_fr c9 w9 (by omega) (fun a _ _ => hσ a (by omega)) (hs 3 (by omega)) (by omega) (fun j _ _ => hs j (by omega)))⟩
      intro c' hc'
      obtain ⟨y1, y2, y3⟩ := c5 c' hc'
      rw [hσ (20 + 8) (by omega), hσ (20 + 9) (by omega), hs (154 + c') (by omega), hs (157 + c') (by omega)]
      refine ⟨y1, y2, ?_⟩
      have e0 : sdS (gmS s cl 0) c' = 0 := by
        unfold sdS
        refine bits_f (fun i hi => ?_)
        have hn : nS (gmS s cl 0) = nS s := by unfold nS; rw [hs 0 (by omega)]
        rw [hn] at hi
        show decide (emp s (203 + i) = c') = false
        unfold emp
        rw [if_pos (by omega)]
        simp
      show σa 30 c' = _
      rw [e0, hσa, st2_k (by omega), setA_in (by omega) (by omega)]
      rfl
    · exact EN_fr hE (hσ 139 (by omega)) (hσ 140 (by omega)) (hσ 141 (by omega)) (by rw [h20 5 (by omega)]; omega) (fun _ c x _ _ => by unfold Wc; rw [hσ 31 (by omega)]) n8.1
    · rw [h20 5 (by omega)]
    · rw [hσa, st2_eq]
      rfl
    · intro i hi
      omega
    · intro a ha
      exact hσ a (by omega)
  obtain ⟨σb, u3, u4, b1, b2⟩ := r97_l (d := d + 5) (L := L) (k := k) (σ1 := σ) hw (by omega) (by omega) (nS s) 0 (vX 9) (vX 9) σa (by omega) hGI
  have start : ∀ Q, R (d + 30) 96 0 [vR 19, vI k] [] (WS L σ) Q = R (d + 29) 97 86 [vR 142, vI k, vI (nS s : Int), u3, u4] [] (WS L σb) (fun r w => R (d + 30) 96 8 [vR 19, vI k] (am_push r []) w Q) := by
    intro Q
    rw [b96_0, b97_0, r46]
    simp only [am_push_n]
    rw [b97_7, r53 rfl]
    simp only [am_push_n]
    rw [b97_14]
    exact b2 _
  obtain ⟨p1, p2, p3, p4, p5, p6⟩ := b1
  obtain ⟨q1, q2, q3, q4⟩ := gm_all hw (nS s) (Nat.le_refl _)
  have c0 := p1.1
  unfold C0 at c0
  have hn : nS (gmS s cl (nS s)) = nS s := congrArg Int.toNat (q2 0 (by omega))
  by_cases hc : k ≠ 0 ∧ 0 < s 0 ∧ s 3 < 12
  · obtain ⟨z, hz, hz12⟩ : ∃ z : Nat, s 3 = (z : Int) ∧ z < 12 := ⟨(s 3).toNat, by omega, by omega⟩
    have hk := kd_su hz12
    have hl := ln_su (L := L) hz12
    have hl2 : LN L (143 + 1) = 8 := rfl
    have e204 : σb 20 4 = (z : Int) := by rw [c0.2.2.2.2, q2 3 (by omega), hz]
    have es : i_min (cp2 σb (143 + 1) (53 + 2 * z + 1) 0 0 8 143 1) 8 = (nS s : Int) := by rw [cp2_k (by omega), p4]; exact i_min_s (by omega)
    let σc : St := st2 (st2 (cp2 σb (143 + 1) (53 + 2 * z + 1) 0 0 8) (53 + 2 * z) 1 (nS s : Int)) 20 4 ((z : Int) + 1)
    have hσc : σc = st2 (st2 (cp2 σb (143 + 1) (53 + 2 * z + 1) 0 0 8) (53 + 2 * z) 1 (nS s : Int)) 20 4 ((z : Int) + 1) := rfl
    have hσ : ∀ a, (a ≠ 20 ∧ a ≠ 53 + 2 * z ∧ a ≠ 53 + 2 * z + 1) → σc a = σb a := by
      intro a ha
      funext j
      rw [hσc, st2_k ha.1, st2_k ha.2.1, cp2_k ha.2.2]
    have h20 : ∀ j : Int, (j ≠ 4) → σc 20 j = σb 20 j := by
      intro j hj
      rw [hσc, st2_i hj, st2_k (by omega), cp2_k (by omega)]
    have hs : ∀ j : Int, (j ≠ 3 ∧ j ≠ 1369 + z ∧ (j < 1381 + 8 * z ∨ 1389 + 8 * z ≤ j) ∧ (j < 1477 + 8 * z ∨ 1485 + 8 * z ≤ j)) → uGame s cl k j = gmS s cl (nS s) j := by
      intro j hj
      unfold uGame
      rw [if_pos hc, if_neg (by omega), if_neg (by omega), if_neg (by omega), if_neg (by omega)]
    have g3 : uGame s cl k 3 = s 3 + 1 := by
      unfold uGame
      rw [if_pos hc, if_neg (by omega), if_neg (by omega), if_neg (by omega), if_pos rfl]
    have g4 : uGame s cl k (1369 + z) = s 0 := by
      unfold uGame
      rw [if_pos hc, if_neg (by omega), if_neg (by omega), if_pos (by omega)]
    have g5 : ∀ t : Nat, t < nS s → uGame s cl k (1381 + 8 * z + t) = gmB s cl t ∧ uGame s cl k (1477 + 8 * z + t) = gmC s t := by
      intro t ht
      unfold uGame
      constructor
      · rw [if_pos hc, if_pos (by omega), show (1381 + 8 * (z : Int) + t - (1381 + 8 * s 3)).toNat = t by omega]
      · rw [if_pos hc, if_neg (by omega), if_pos (by omega), show (1477 + 8 * (z : Int) + t - (1477 + 8 * s 3)).toNat = t by omega]
    have g0 := q2 0 (by omega)
    have g1' := q2 1 (by omega)
    have g2' := q2 2 (by omega)
    have g3' := q2 3 (by omega)
    have hnn : nS (uGame s cl k) = nS s := by unfold nS; rw [hs 0 (by omega), g0]
    refine ⟨σc, ⟨fun a ha => by rw [hσ a (by omega), p6 a ha], ?_, ?_, by rw [h20 5 (by omega), p3]; omega, by rw [h20 5 (by omega), p3]; omega⟩, fun Q => ?_⟩
    · obtain ⟨w0, w1, w2, w3, w4, w5, w6, w8, w9⟩ := q1
      obtain ⟨-, c1, c2, c3, c4, c5, c6, c7, c8, c9⟩ := p1
      unfold W0 at w0
      refine ⟨?_, (C1_fr c1 (hσ 21 (by omega)) (hσ 22 (by omega)) (hs 7 (by omega)) (fun j _ _ => hs j (by omega)) (by omega)), (C2_fr c2 (hσ 23 (by omega)) (hσ 24 (by omega)) (hs 5 (by omega)) (fun j _ _ => hs j (by omega)) (by omega)), (C3_fr c3 (hσ 25 (by omega)) (hσ 26 (by omega)) (hs 6 (by omega)) (fun j _ _ => hs j (by omega)) (by omega)), (C4_fr c4 (hσ 27 (by omega)) (hs 0 (by omega)) (by omega) (fun j _ _ => hs j (by omega))), (C5_fr c5 (hσ 28 (by omega)) (hσ 29 (by omega)) (hσ 30 (by omega)) (hs 0 (by omega)) (by omega) (fun j _ _ => hs j (by omega)) (fun j _ _ => hs j (by omega))), (C6_fr c6 w6 (fun a _ _ => hσ a (by omega)) (fun j _ _ => hs j (by omega))), (C7_fr c7 (hσ 31 (by omega)) (hs 0 (by omega)) (by omega) (fun j _ _ => hs j (by omega))), (C8_fr c8 (fun a _ _ => hσ a (by omega)) (hs 1 (by omega)) (by omega)), ?_⟩
      · unfold C0
        rw [h20 0 (by omega), h20 1 (by omega), h20 2 (by omega), h20 3 (by omega), hs 0 (by omega), hs 1 (by omega), hs 2 (by omega), hs 4 (by omega), g3, hσc, st2_eq, hz]
        exact ⟨c0.1, c0.2.1, c0.2.2.1, c0.2.2.2.1, rfl⟩
      · refine ⟨fun k' hk12 => ?_, fun k' hk' => ?_⟩
        · by_cases e : k' = z
          · subst e
            rw [hσc, st2_k (by omega), show 20 + 33 + 2 * k' = 53 + 2 * k' by omega, st2_eq]
            omega
          · rw [hσ _ (by omega)]
            exact c9.1 k' hk12
        rw [g3] at hk'
        by_cases e : k' = z
        · subst e
          rw [g4]
          refine ⟨?_, fun t ht => ?_⟩
          · rw [hσc, st2_k (by omega), show 20 + 33 + 2 * k' = 53 + 2 * k' by omega, st2_eq]
            omega
          · obtain ⟨y1, y2⟩ := g5 t (by omega)
            rw [y1, y2, hσc, st2_k (by omega), st2_k (by omega), show 20 + 34 + 2 * k' = 53 + 2 * k' + 1 by omega, cp2_in (by omega) (by omega)]
            show σb 144 t = _
            rw [p5 t (by omega)]
            omega
        · obtain ⟨y1, y2⟩ := c9.2 k' (by omega)
          obtain ⟨x1, x2, x3⟩ := w9 k' (by omega)
          rw [hs _ (by omega), hσ _ (by omega), hσ _ (by omega)]
          refine ⟨y1, fun t ht => ?_⟩
          rw [hs _ (by omega), hs _ (by omega)]
          exact y2 t ht
    · rw [hnn]
      exact EN_mono (EN_fr p2 (hσ 139 (by omega)) (hσ 140 (by omega)) (hσ 141 (by omega)) (by rw [h20 5 (by omega)]; omega) (fun _ c x _ _ => by unfold Wc; rw [hσ 31 (by omega)]) n8.1) (by omega)
    · rw [start, b97_86, if_neg hc.1, b97_90, p4, if_neg (by omega), b97_100, b98_0, e204, r13]
      simp only [am_push_s]
      rw [b98_12]
      simp only [tI_0]
      rw [if_neg (by omega), b98_15 (by omega) (by omega), b98_27 (by omega) (by omega) (by rw [e204, Int.toNat_natCast]; exact hk), e204, Int.toNat_natCast, r51 hk rfl (by rw [hl]; rfl), hl]
      simp only [am_push_n]
      show R (d + 28) 98 40 _ _ (WS L (st2 (cp2 σb (143 + 1) (53 + 2 * z + 1) 0 0 8) (53 + 2 * z) 1 (i_min (cp2 σb (143 + 1) (53 + 2 * z + 1) 0 0 8 143 1) 8))) _ = _
      have e20 : st2 (cp2 σb (143 + 1) (53 + 2 * z + 1) 0 0 8) (53 + 2 * z) 1 (nS s : Int) 20 4 = (z : Int) := by rw [st2_k (by omega), cp2_k (by omega), e204]
      rw [es, b98_40 (by omega), e20, b98_50]
      simp only [am_push_n]
      show R (d + 29) 97 111 _ _ (WS L σc) _ = _
      rw [b97_111]
      simp only [am_push_n]
      rw [b96_8, h20 0 (by omega), c0.1, g0]
  · rw [uGame_n hc]
    have fin : R (d + 29) 97 86 [vR 142, vI k, vI (nS s : Int), u3, u4] [] (WS L σb) = R (d + 29) 97 111 [vR 142, vI k, vI (nS s : Int), u3, u4] [] (WS L σb) ∨ (k ≠ 0 ∧ 0 < s 0 ∧ ¬ s 3 < 12) := by
      by_cases e1 : k = 0
      · left
        funext Q
        rw [b97_86, if_pos e1]
      · by_cases e2 : s 0 ≤ 0
        · left
          funext Q
          rw [b97_86, if_neg e1, b97_90, p4, if_pos (by omega)]
        · right
          exact ⟨e1, by omega, fun x => hc ⟨e1, by omega, x⟩⟩
    refine ⟨σb, ⟨fun a ha => p6 a ha, p1, ?_, by omega, by omega⟩, fun Q => ?_⟩
    · rw [hn]
      exact EN_mono p2 (by omega)
    · rw [start]
      have last : R (d + 29) 97 111 [vR 142, vI k, vI (nS s : Int), u3, u4] [] (WS L σb) (fun r w => R (d + 30) 96 8 [vR 19, vI k] (am_push r []) w Q) = Q (some (vI (s 0))) (WS L σb) := by
        rw [b97_111]
        simp only [am_push_n]
        rw [b96_8, c0.1, q2 0 (by omega)]
      rcases fin with e | ⟨e1, e2, e3⟩
      · rw [e, last]
      · rw [b97_86, if_neg e1, b97_90, p4, if_neg (by omega), b97_100, b98_0, c0.2.2.2.2, q2 3 (by omega), r13]
        simp only [am_push_s]
        rw [b98_12]
        simp only [tI_0]
        rw [if_pos (by omega), b98_50]
        simp only [am_push_n]
        exact last
end GA
