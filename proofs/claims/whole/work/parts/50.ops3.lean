/-! the calls of the class, by the array: a boy comes; a captain has a yard -/
section OB
variable {d L N : Nat} {s s' : Int → Int} {cl cl' : Nat → List Cl} {σ σ1 : St} {Q : Option AV → AW → Prop}
theorem CY_of (h5 : C5 20 s σ) (h8 : C8 20 s cl σ) (w5 : W5 s) (h1 : s 1 ≤ 6) {c : Nat} (hc : c < 3) : CY σ c (clS s cl c) := by
  have e : σ 28 c = s (154 + c) := (h5 c hc).1
  have w := (w5 c hc).1
  unfold CY clS
  by_cases q : s (154 + c) < 0
  · rw [if_pos q]
    exact Or.inl ⟨by omega, rfl⟩
  · rw [if_neg q]
    exact Or.inr ⟨(s (154 + c)).toNat, by omega, by omega, h8 _ (by omega)⟩
theorem CY_fr {c : Nat} {cls : List Cl} (h : CY σ c cls) (g1 : σ1 28 = σ 28) (g2 : ∀ a, 33 ≤ a → a < 45 → σ1 a = σ a) : CY σ1 c cls := by
  rcases h with ⟨h1, h2⟩ | ⟨y, h1, h2, h3⟩
  · exact Or.inl ⟨by rw [g1]; exact h1, h2⟩
  · exact Or.inr ⟨y, by rw [g1]; exact h1, h2, YT_fr h3 (g2 _ (by omega) (by omega)) (g2 _ (by omega) (by omega))⟩
def aBoy (s : Int → Int) (p st f : Int) : Int := if (0 ≤ p ∧ p < 4) ∧ (-1 ≤ f ∧ f < 3) then (if 0 ≤ st ∧ st < 21 then (if s 0 = 8 then -4 else s 0) else -2) else -1
def nBoy (s : Int → Int) (p st f : Int) : Int → Int := up (up (up (up (up s (130 + s 0) p) (138 + s 0) st) (146 + s 0) f) (203 + s 0) (-1)) 0 (s 0 + 1)
def uBoy (s : Int → Int) (p st f : Int) : Int → Int := if ((0 ≤ p ∧ p < 4) ∧ (-1 ≤ f ∧ f < 3) ∧ (0 ≤ st ∧ st < 21)) ∧ s 0 < 8 then nBoy s p st f else s
/-- a boy's traits come to the wall -/
def adS (σ : St) (n p st f : Int) : St := st2 (st2 (st2 (st2 (st2 σ 27 (n * 4) p) 27 (n * 4 + 1) st) 27 (n * 4 + 2) (if 0 ≤ f then f else 9)) 27 (n * 4 + 3) n) 20 0 (n + 1)
theorem r14 {n p st f : Int} (hn : σ 20 0 = n) (h0 : 0 ≤ n ∧ n < 8) : R d 14 0 [vR 20, vI p, vI st, vI f, vX 9, vX 9] [] (WS L σ) Q = Q (some (vI n)) (WS L (adS σ n p st f)) := by
  have e2 : ∀ (z y : Int), st2 (st2 (st2 (st2 σ 27 (n * 4) p) 27 (n * 4 + 1) st) 27 (n * 4 + 2) z) 27 (n * 4 + 3) y 20 0 = n := fun z y => by rw [st2_k (by omega), st2_k (by omega), st2_k (by omega), st2_k (by omega), hn]
  have key : R d 14 0 [vR 20, vI p, vI st, vI f, vX 9, vX 9] [] (WS L σ) Q = R d 14 68 [vR 20, vI p, vI st, vI f, vI n, vI (n * 4)] [] (WS L (st2 (st2 (st2 σ 27 (n * 4) p) 27 (n * 4 + 1) st) 27 (n * 4 + 2) (if 0 ≤ f then f else 9))) Q := by
    rw [b14_0 (by omega), hn, if_neg (by omega), b14_17 (by omega), if_neg (by omega), b14_29 (by omega) (by omega) (by omega), b14_39 (by omega) (by omega) (by omega), b14_49 (by omega), Int.add_zero]
    by_cases q : 0 ≤ f
    · rw [if_pos q, b14_66, b14_67 (by omega) (by omega), if_pos q]
    · rw [if_neg q, b14_61, b14_67 (by omega) (by omega), if_neg q]
  rw [key, b14_68 (by omega) (by omega) (by omega), b14_79 (by rw [e2]; omega), e2, b14_89]
  rfl
theorem adS_k {n p st f : Int} {a : Nat} (h : a ≠ 20 ∧ a ≠ 27) : adS σ n p st f a = σ a := by
  funext j
  unfold adS
  rw [st2_k h.1, st2_k h.2, st2_k h.2, st2_k h.2, st2_k h.2]
theorem adS_0 {n p st f j : Int} (h : j ≠ 0) : adS σ n p st f 20 j = σ 20 j := by
  unfold adS
  rw [st2_i h, st2_k (by omega), st2_k (by omega), st2_k (by omega), st2_k (by omega)]
theorem adS_n {n p st f : Int} : adS σ n p st f 20 0 = n + 1 := st2_eq
theorem nBoy_o {p st f j : Int} (h0 : 0 ≤ s 0 ∧ s 0 < 8) (h : j ≠ 0 ∧ (j < 130 ∨ 154 ≤ j) ∧ (j < 203 ∨ 211 ≤ j)) : nBoy s p st f j = s j := by
  unfold nBoy
  rw [up_o h.1, up_o (by omega), up_o (by omega), up_o (by omega), up_o (by omega)]
theorem nBoy_q {p st f : Int} {q : Nat} (h0 : 0 ≤ s 0 ∧ s 0 < 8) (hq : (q : Int) < s 0 + 1) : nBoy s p st f (130 + q) = (if (q : Int) = s 0 then p else s (130 + q)) ∧ nBoy s p st f (138 + q) = (if (q : Int) = s 0 then st else s (138 + q)) ∧ nBoy s p st f (146 + q) = (if (q : Int) = s 0 then f else s (146 + q)) ∧ nBoy s p st f (203 + q) = (if (q : Int) = s 0 then -1 else s (203 + q)) := by
  unfold nBoy
  by_cases e : (q : Int) = s 0
  · rw [if_pos e, if_pos e, if_pos e, if_pos e, e]
    refine ⟨?_, ?_, ?_, ?_⟩
    · rw [up_o (by omega), up_o (by omega), up_o (by omega), up_o (by omega), up_e]
    · rw [up_o (by omega), up_o (by omega), up_o (by omega), up_e]
    · rw [up_o (by omega), up_o (by omega), up_e]
    · rw [up_o (by omega), up_e]
  · rw [if_neg e, if_neg e, if_neg e, if_neg e]
    refine ⟨?_, ?_, ?_, ?_⟩
    all_goals rw [up_o (by omega), up_o (by omega), up_o (by omega), up_o (by omega), up_o (by omega)]
theorem k12 {p st f : Int} (hf : RG f) (h : HC N s cl σ) : ∃ σ1 : St, CP N (uBoy s p st f) cl σ σ1 ∧ ∀ Q, R (d + 30) 12 0 [vR 19, vI p, vI st, vI f, vX 9, vX 9] [] (WS L σ) Q = Q (some (vI (aBoy s p st f))) (WS L σ1) := by
  have h' := h
  obtain ⟨⟨w0, w1, w2, w3, w4, w5, w6, w8, w9⟩, ⟨c0, c1, c2, c3, c4, c5, c6, c7, c8, c9⟩, hE, hv⟩ := h
  have hn8 := nS_8 w0
  have w0' := w0
  unfold W0 at w0
  have c0' := c0
  unfold C0 at c0'
  have hin := wr_in (k := 3) hf (by omega)
  unfold aBoy uBoy
  by_cases q1 : (0 ≤ p ∧ p < 4) ∧ (-1 ≤ f ∧ f < 3)
  · have start : ∀ Q, R (d + 30) 12 0 [vR 19, vI p, vI st, vI f, vX 9, vX 9] [] (WS L σ) Q = if ¬ ¬ (0 ≤ st ∧ st < 21) then R (d + 30) 12 32 [vR 19, vI p, vI st, vI f, vX 9, vX 9] [] (WS L σ) Q else R (d + 30) 12 29 [vR 19, vI p, vI st, vI f, vX 9, vX 9] [] (WS L σ) Q := by
      intro Q
      rw [b12_0, r13]
      simp only [am_push_s]
      rw [b12_5]
      simp only [tI_0]
      rw [if_neg (by omega), b12_8w, r13]
      simp only [am_push_s]
      rw [b12_15]
      simp only [tI_0]
      rw [if_pos (by omega), b12_20, r13]
      simp only [am_push_s]
      rw [b12_26]
      simp only [tI_0]
    rw [if_pos q1]
    by_cases q2 : 0 ≤ st ∧ st < 21
    · rw [if_pos q2]
      by_cases q3 : s 0 = 8
      · rw [if_pos q3, if_neg (by omega)]
        refine ⟨σ, CP_r h', fun Q => ?_⟩
        rw [start, if_pos (by simpa using q2), b12_32, if_neg (by omega), b12_44]
      · rw [if_neg q3, if_pos (by omega)]
        have h0 : 0 ≤ s 0 ∧ s 0 < 8 := by omega
        have hs : ∀ j : Int, (j ≠ 0 ∧ (j < 130 ∨ 154 ≤ j) ∧ (j < 203 ∨ 211 ≤ j)) → nBoy s p st f j = s j := fun j hj => nBoy_o h0 hj
        have hb0 : nBoy s p st f 0 = s 0 + 1 := up_e
        have hnn : nS (nBoy s p st f) = nS s + 1 := by unfold nS; rw [hb0]; omega
        have hn1 : nS s + 1 ≤ 8 := by omega
        have nat0 : ((nS s + 1 : Nat) : Int) = s 0 + 1 := by omega
        let σa : St := adS σ (s 0) p st f
        have a20 : σa 20 0 = ((nS s + 1 : Nat) : Int) := by rw [nat0]; exact adS_n
        have aσ : ∀ a, (a ≠ 20 ∧ a ≠ 27) → σa a = σ a := fun a ha => adS_k ha
        have a5 : σa 20 5 = σ 20 5 := adS_0 (by omega)
        have et : ∀ k q : Nat, k < 4 → q < nS s + 1 → tr σa k q = trS (nBoy s p st f) k q := by
          intro k q hk hq
          obtain ⟨e1, e2, e3, e4⟩ := nBoy_q (p := p) (st := st) (f := f) (q := q) h0 (by omega)
          unfold trS
          rw [e1, e2, e3]
          have hk4 : k = 0 ∨ k = 1 ∨ k = 2 ∨ k = 3 := by omega
          by_cases e : (q : Int) = s 0
          · rw [if_pos e, if_pos e, if_pos e]
            show adS σ (s 0) p st f 27 ((q : Int) * 4 + k) = _
            unfold adS
            rcases hk4 with rfl | rfl | rfl | rfl
            · rw [st2_k (by omega), st2_i (by omega), st2_i (by omega), st2_i (by omega), e, show s 0 * 4 + ((0 : Nat) : Int) = s 0 * 4 by omega, st2_eq, if_pos rfl]
            · rw [st2_k (by omega), st2_i (by omega), st2_i (by omega), e, show s 0 * 4 + ((1 : Nat) : Int) = s 0 * 4 + 1 by omega, st2_eq, if_neg (by omega), if_pos rfl]
            · rw [st2_k (by omega), st2_i (by omega), e, show s 0 * 4 + ((2 : Nat) : Int) = s 0 * 4 + 2 by omega, st2_eq, if_neg (show ¬ (2 : Nat) = 0 by omega), if_neg (show ¬ (2 : Nat) = 1 by omega), if_pos (show (2 : Nat) = 2 from rfl)]
              by_cases e5 : f = -1
              · rw [if_pos e5, if_neg (by omega)]
              · rw [if_neg e5, if_pos (by omega)]
            · rw [st2_k (by omega), e, show s 0 * 4 + ((3 : Nat) : Int) = s 0 * 4 + 3 by omega, st2_eq, if_neg (by omega), if_neg (by omega), if_neg (by omega)]
          · rw [if_neg e, if_neg e, if_neg e]
            have := c4 q k (by omega) hk
            unfold trS at this
            rw [← this]
            show adS σ (s 0) p st f 27 ((q : Int) * 4 + k) = σ 27 ((q : Int) * 4 + k)
            unfold adS
            rw [st2_k (by omega), st2_i (by omega), st2_i (by omega), st2_i (by omega), st2_i (by omega)]
        have hts : ∀ q, q < nS s + 1 → 0 ≤ tr σa 1 q ∧ tr σa 1 q ≤ 20 := by
          intro q hq
          rw [et 1 q (by omega) hq]
          obtain ⟨e1, e2, e3, e4⟩ := nBoy_q (p := p) (st := st) (f := f) (q := q) h0 (by omega)
          show 0 ≤ nBoy s p st f (138 + q) ∧ nBoy s p st f (138 + q) ≤ 20
          rw [e2]
          by_cases e : (q : Int) = s 0
          · rw [if_pos e]
            omega
          · rw [if_neg e]
            exact (w4 q (by omega)).2.1
        have cyσ : ∀ c, c < 3 → CY σ c (clS s cl c) := fun c hc => CY_of c5 c8 w5 (by omega) hc
        obtain ⟨σb, x1, x2, x3, x4, x5, x6⟩ := r15 (d := d + 6) (L := L) (c := 0) hn1 (by omega) a20 hts (by rw [a5]; omega) (CY_fr (cyσ 0 (by omega)) (aσ 28 (by omega)) (fun a _ _ => aσ a (by omega)))
        have tb : tr σb = tr σa := by unfold tr; rw [x1 27 (by omega) (by omega) (by omega)]
        obtain ⟨σc, y1, y2, y3, y4, y5, y6⟩ := r15 (d := d + 6) (L := L) (σ := σb) (c := 1) hn1 (by omega) (by rw [x2 0 (by omega)]; exact a20) (by rw [tb]; exact hts) (by rw [x3, a5]; omega) (CY_fr (cyσ 1 (by omega)) (by rw [x1 28 (by omega) (by omega) (by omega), aσ 28 (by omega)]) (fun a _ _ => by rw [x1 a (by omega) (by omega) (by omega), aσ a (by omega)]))
        have tc : tr σc = tr σa := by rw [← tb]; unfold tr; rw [y1 27 (by omega) (by omega) (by omega)]
        obtain ⟨σe, z1, z2, z3, z4, z5, z6⟩ := r15 (d := d + 6) (L := L) (σ := σc) (c := 2) hn1 (by omega) (by rw [y2 0 (by omega), x2 0 (by omega)]; exact a20) (by rw [tc]; exact hts) (by rw [y3, x3, a5]; omega) (CY_fr (cyσ 2 (by omega)) (by rw [y1 28 (by omega) (by omega) (by omega), x1 28 (by omega) (by omega) (by omega), aσ 28 (by omega)]) (fun a _ _ => by rw [y1 a (by omega) (by omega) (by omega), x1 a (by omega) (by omega) (by omega), aσ a (by omega)]))
        have p8 := pw8 hn1
        have hσ : ∀ a, (a ≠ 20 ∧ a ≠ 27 ∧ a ≠ 31 ∧ (a < 134 ∨ 137 < a)) → σe a = σ a := by
          intro a ha
          rw [z1 a (by omega) (by omega) (by omega), y1 a (by omega) (by omega) (by omega), x1 a (by omega) (by omega) (by omega), aσ a (by omega)]
        have h20 : ∀ j : Int, (j ≠ 0 ∧ j ≠ 5) → σe 20 j = σ 20 j := by
          intro j hj
          rw [z2 j (by omega), y2 j (by omega), x2 j (by omega)]
          exact adS_0 hj.1
        have e5 : σe 20 5 = σ 20 5 + 3 := by rw [z3, y3, x3, a5]; omega
        have e27 : σe 27 = σa 27 := by rw [z1 27 (by omega) (by omega) (by omega), y1 27 (by omega) (by omega) (by omega), x1 27 (by omega) (by omega) (by omega)]
        have e0 : σe 20 0 = s 0 + 1 := by rw [z2 0 (by omega), y2 0 (by omega), x2 0 (by omega), a20, nat0]
        refine ⟨σe, ⟨fun a ha => hσ a (by omega), ⟨?_, (C1_fr c1 (hσ 21 (by omega)) (hσ 22 (by omega)) (hs 7 (by omega)) (fun j _ _ => hs j (by omega)) (by omega)), (C2_fr c2 (hσ 23 (by omega)) (hσ 24 (by omega)) (hs 5 (by omega)) (fun j _ _ => hs j (by omega)) (by omega)), (C3_fr c3 (hσ 25 (by omega)) (hσ 26 (by omega)) (hs 6 (by omega)) (fun j _ _ => hs j (by omega)) (by omega)), ?_, ?_, (C6_fr c6 w6 (fun a _ _ => hσ a (by omega)) (fun j _ _ => hs j (by omega))), ?_, (C8_fr c8 (fun a _ _ => hσ a (by omega)) (hs 1 (by omega)) (by omega)), (C9_fr c9 w9 (by omega) (fun a _ _ => hσ a (by omega)) (hs 3 (by omega)) (by omega) (fun j _ _ => hs j (by omega)))⟩, ?_, by omega, by omega⟩, fun Q => ?_⟩
        · unfold C0
          rw [e0, hb0, h20 1 (by omega), h20 2 (by omega), h20 3 (by omega), h20 4 (by omega), hs 1 (by omega), hs 2 (by omega), hs 3 (by omega), hs 4 (by omega)]
          exact ⟨rfl, c0'.2⟩
        · intro q k hq hk
          rw [hb0] at hq
          rw [← et k q hk (by omega)]
          show σe 27 _ = σa 27 _
          rw [e27]
        · intro c hc
          obtain ⟨g1, g2, g3⟩ := c5 c hc
          rw [hσ (20 + 8) (by omega), hσ (20 + 9) (by omega), hσ (20 + 10) (by omega), hs (154 + c) (by omega), hs (157 + c) (by omega)]
          refine ⟨g1, g2, ?_⟩
          rw [g3]
          congr 1
          apply tb_ext
          intro i
          rw [sdS_tb, sdS_tb, hnn]
          by_cases hi : i < nS s + 1
          · obtain ⟨k1, k2, k3, k4⟩ := nBoy_q (p := p) (st := st) (f := f) (q := i) h0 (by omega)
            rw [k4]
            by_cases e : (i : Int) = s 0
            · rw [if_pos e]
              have : ¬ i < nS s := by omega
              simp [this]
            · rw [if_neg e]
              have h1 : i < nS s := by omega
              simp [hi, h1]
          · have h1 : ¬ i < nS s := by omega
            simp [hi, h1]
        · intro c x hc hx
          rw [hnn] at hx
          have hc3 : c = 0 ∨ c = 1 ∨ c = 2 := by omega
          have ew : Wr (nBoy s p st f) cl c x = wV (tr σa) (nS s + 1) (clS s cl c) x := by
            unfold Wr
            rw [hnn, wV_congr (fun k q hk hq => (et k q hk hq).symm)]
            unfold clS
            rw [hs (154 + c) (by omega)]
          rw [ew]
          show σe 31 _ = _
          rcases hc3 with rfl | rfl | rfl
          · rw [z5 _ (by omega), y5 _ (by omega)]
            exact x4 x hx
          · rw [z5 _ (by omega), y4 x hx, tb]
          · rw [z4 x hx, tc]
        · exact EN_mono (EN_new hE (hσ 139 (by omega)) (hσ 140 (by omega)) (hσ 141 (by omega)) (by omega)) (by omega)
        · rw [start, if_pos (by simpa using q2), b12_32, if_pos (by omega), b12_47, r14 c0'.1 h0]
          simp only [am_push_s]
          rw [b12_57, b12_62, if_neg (by omega), b12_68]
          refine (x6 _).trans ?_
          simp only [am_push_n]
          rw [b12_74 (by omega), b12_62, if_neg (by omega), b12_68]
          refine (y6 _).trans ?_
          simp only [am_push_n]
          rw [b12_74 (by omega), b12_62, if_neg (by omega), b12_68]
          refine (z6 _).trans ?_
          simp only [am_push_n]
          rw [b12_74 (by omega), b12_62, if_pos (by omega), b12_80]
    · rw [if_neg q2, if_neg (by omega)]
      refine ⟨σ, CP_r h', fun Q => ?_⟩
      rw [start, if_neg (by simpa using q2), b12_29]
  · rw [if_neg q1, if_neg (by omega)]
    refine ⟨σ, CP_r h', fun Q => ?_⟩
    rw [b12_0, r13]
    simp only [am_push_s]
    rw [b12_5]
    simp only [tI_0]
    by_cases q4 : 0 ≤ p ∧ p < 4
    · rw [if_neg (by omega), b12_8w, r13]
      simp only [am_push_s]
      rw [b12_15]
      simp only [tI_0]
      rw [if_neg (by omega), b12_18]
    · rw [if_pos (by omega), b12_18]
def aHas (s : Int → Int) (c y : Int) : Int := if (0 ≤ c ∧ c < 3) ∧ (-1 ≤ y ∧ y < s 1) then (if s (154 + c) = -1 then -5 else s (154 + c)) else -1
def uHas (s : Int → Int) (c y : Int) : Int → Int := if (0 ≤ c ∧ c < 3) ∧ (-1 ≤ y ∧ y < s 1) then up s (154 + c) y else s
theorem k54 {x y : Int} (hy : RG y) (h : HC N s cl σ) : ∃ σ1 : St, CP N (uHas s x y) cl σ σ1 ∧ ∀ Q, R (d + 30) 54 0 [vR 19, vI x, vI y, vX 9] [] (WS L σ) Q = Q (some (vI (aHas s x y))) (WS L σ1) := by
  have h' := h
  obtain ⟨⟨w0, w1, w2, w3, w4, w5, w6, w8, w9⟩, ⟨c0, c1, c2, c3, c4, c5, c6, c7, c8, c9⟩, hE, hv⟩ := h
  have hn8 := nS_8 w0
  unfold W0 at w0
  have c0' := c0
  unfold C0 at c0'
  have hin := wr_in (k := s 1) hy (by omega)
  have ew : wr (s 1 + 1) = s 1 + 1 := wr_id (by omega) (by omega)
  unfold aHas uHas
  by_cases q : (0 ≤ x ∧ x < 3) ∧ (-1 ≤ y ∧ y < s 1)
  · rw [if_pos q, if_pos q]
    obtain ⟨⟨x0, x3⟩, y0, y7⟩ := q
    obtain ⟨c, rfl⟩ : ∃ c : Nat, x = (c : Int) := ⟨x.toNat, by omega⟩
    have hc : c < 3 := by omega
    have hs : ∀ j : Int, (j ≠ 154 + c) → up s (154 + c) y j = s j := fun j hj => up_o hj
    have hnn : nS (up s (154 + c) y) = nS s := by unfold nS; rw [hs 0 (by omega)]
    let σa : St := st2 σ 28 c y
    have aσ : ∀ a, a ≠ 28 → σa a = σ a := by
      intro a ha
      funext j
      exact st2_k ha
    have ta : tr σa = tr σ := by unfold tr; rw [aσ 27 (by omega)]
    have et : ∀ k q : Nat, k < 4 → q < nS s → tr σ k q = trS s k q := fun k q hk hq => c4 q k (by omega) hk
    have hts : ∀ q, q < nS s → 0 ≤ tr σ 1 q ∧ tr σ 1 q ≤ 20 := by
      intro q hq
      rw [et 1 q (by omega) hq]
      exact (w4 q (by omega)).2.1
    have h5a : C5 20 (up s (154 + c) y) σa := by
      intro c' hc'
      obtain ⟨g1, g2, g3⟩ := c5 c' hc'
      rw [aσ (20 + 9) (by omega), aσ (20 + 10) (by omega), hs (157 + c') (by omega), sdS_fr (hs 0 (by omega)) (fun q _ => hs _ (by omega))]
      refine ⟨?_, g2, g3⟩
      by_cases e : c' = c
      · rw [e, up_e]
        exact st2_eq
      · rw [hs _ (by omega)]
        exact (st2_i (by omega)).trans g1
    have h8a : C8 20 (up s (154 + c) y) cl σa := C8_fr c8 (fun a _ _ => aσ a (by omega)) (hs 1 (by omega)) (by omega)
    have w5a : W5 (up s (154 + c) y) := by
      intro c' hc'
      have := w5 c' hc'
      rw [hs (157 + c') (by omega), hs 1 (by omega)]
      by_cases e : c' = c
      · rw [e, up_e]
        rw [e] at this
        omega
      · rw [hs _ (by omega)]
        omega
    obtain ⟨σb, x1, x2, x3', x4, x5, x6⟩ := r15 (d := d + 6) (L := L) (σ := σa) (c := c) hn8.1 hc (by rw [aσ 20 (by omega), c0'.1]; exact hn8.2) (by rw [ta]; exact hts) (by rw [aσ 20 (by omega)]; omega) (CY_of h5a h8a w5a (by rw [hs 1 (by omega)]; omega) hc)
    have p8 := pw8 hn8.1
    have hσ : ∀ a, (a ≠ 20 ∧ a ≠ 28 ∧ a ≠ 31 ∧ (a < 134 ∨ 137 < a)) → σb a = σ a := by
      intro a ha
      rw [x1 a (by omega) (by omega) (by omega), aσ a (by omega)]
    have h20 : ∀ j : Int, (j ≠ 5) → σb 20 j = σ 20 j := by
      intro j hj
      rw [x2 j hj, aσ 20 (by omega)]
    have e5 : σb 20 5 = σ 20 5 + 1 := by rw [x3', aσ 20 (by omega)]
    refine ⟨σb, ⟨fun a ha => hσ a (by omega), ⟨(by unfold C0; rw [h20 0 (by omega), h20 1 (by omega), h20 2 (by omega), h20 3 (by omega), h20 4 (by omega), hs 0 (by omega), hs 1 (by omega), hs 2 (by omega), hs 3 (by omega), hs 4 (by omega)]; exact c0), (C1_fr c1 (hσ 21 (by omega)) (hσ 22 (by omega)) (hs 7 (by omega)) (fun j _ _ => hs j (by omega)) (by omega)), (C2_fr c2 (hσ 23 (by omega)) (hσ 24 (by omega)) (hs 5 (by omega)) (fun j _ _ => hs j (by omega)) (by omega)), (C3_fr c3 (hσ 25 (by omega)) (hσ 26 (by omega)) (hs 6 (by omega)) (fun j _ _ => hs j (by omega)) (by omega)), (C4_fr c4 (hσ 27 (by omega)) (hs 0 (by omega)) (by omega) (fun j _ _ => hs j (by omega))), ?_, (C6_fr c6 w6 (fun a _ _ => hσ a (by omega)) (fun j _ _ => hs j (by omega))), ?_, (C8_fr c8 (fun a _ _ => hσ a (by omega)) (hs 1 (by omega)) (by omega)), (C9_fr c9 w9 (by omega) (fun a _ _ => hσ a (by omega)) (hs 3 (by omega)) (by omega) (fun j _ _ => hs j (by omega)))⟩, ?_, by omega, by omega⟩, fun Q => ?_⟩
    · intro c' hc'
      rw [x1 (20 + 8) (by omega) (by omega) (by omega), x1 (20 + 9) (by omega) (by omega) (by omega), x1 (20 + 10) (by omega) (by omega) (by omega)]
      exact h5a c' hc'
    · intro c' x' hc' hx'
      rw [hnn] at hx'
      show σb 31 _ = _
      by_cases e : c' = c
      · subst e
        rw [x4 x' hx', ta]
        unfold Wr
        rw [hnn]
        refine wV_congr (fun k q hk hq => ?_)
        rw [et k q hk hq]
        exact (trS_fr (fun j hj => hs j (by omega))).symm
      · rw [x5 _ (by omega), aσ 31 (by omega), Wr_fr (hs 0 (by omega)) (hs _ (by omega)) (Or.inl rfl) (fun j _ _ => hs j (by omega)) (by omega)]
        exact c7 c' x' hc' hx'
    · exact EN_mono (EN_new hE (hσ 139 (by omega)) (hσ 140 (by omega)) (hσ 141 (by omega)) (by omega)) (by omega)
    · rw [b54_0, r13]
      simp only [am_push_s]
      rw [b54_5]
      simp only [tI_0]
      rw [if_neg (by omega), b54_8w, r13, c0'.2.2.1]
      simp only [am_push_s]
      rw [b54_23, ew]
      simp only [tI_0]
      rw [if_pos (by omega), b54_28, r17 hc]
      simp only [am_push_s]
      rw [b54_36, r55 (u := vX 9) hc]
      simp only [am_push_n]
      rw [b54_46]
      refine (x6 _).trans ?_
      simp only [am_push_n]
      have g1 := (w5 c hc).1
      rw [b54_51, show σ 28 c = s (154 + c) from (c5 c hc).1]
      by_cases q1 : s (154 + c) = -1
      · rw [if_neg (by omega), b54_55, b54_61, if_pos q1]
      · rw [if_pos (by omega), b54_60, b54_61, if_neg q1]
  · rw [if_neg q, if_neg q]
    refine ⟨σ, CP_r h', fun Q => ?_⟩
    rw [b54_0, r13]
    simp only [am_push_s]
    rw [b54_5]
    simp only [tI_0]
    by_cases q1 : 0 ≤ x ∧ x < 3
    · rw [if_neg (by omega), b54_8w, r13, c0'.2.2.1]
      simp only [am_push_s]
      rw [b54_23, ew]
      simp only [tI_0]
      rw [if_neg (by omega), b54_26]
    · rw [if_pos (by omega), b54_26]
end OB
