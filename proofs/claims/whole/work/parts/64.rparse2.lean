/-! the reference's reader: what a boy must be -/
def S160 (L : Nat) (t : Nat → Int) (e y D k : Nat) : Prop := ∀ (p : Nat) (s : Int → Int) (σ : St), RPC t e y σ → TP t e s → p ≤ e → 0 ≤ s (523 + y) → s (523 + y) ≤ p → ∃ l : List Int, l.length + p ≤ (pF t e k p).1 ∧ (∀ st, (pF t e k p).2 = some st → st = l) ∧ ∀ Q, R D 160 0 [vR 153, vX 9, vX 9, vX 9, vX 9] [] (WS L (pz σ s p 0 ((5 - k : Nat) : Int))) Q = Q none (WS L (pz σ (em s y l) (pF t e k p).1 (wb (pF t e k p)) ((5 - k : Nat) : Int)))
section RB2
variable {d D L e y : Nat} {t : Nat → Int} {s : Int → Int} {σ : St} {o : Int} {Q : Option AV → AW → Prop}
theorem p160n {p : Nat} {u1 u2 u3 u4 : AV} : R d 160 0 [vR 153, u1, u2, u3, u4] [] (WS L (pz σ s p 1 o)) Q = Q none (WS L (pz σ s p 1 o)) := by
  rw [b160_0, pz_7, if_neg (by omega), b160_7]
theorem p159nt {p : Nat} : R d 159 4 [vR 153] [] (WS L (pz σ s p 1 o)) Q = Q none (WS L (pz σ s p 1 o)) := by
  rw [b159_4, pz_7, if_pos (by omega), b159_43]
theorem p158nt {p : Nat} : R d 158 4 [vR 153] [] (WS L (pz σ s p 1 o)) Q = Q none (WS L (pz σ s p 1 o)) := by
  rw [b158_4, pz_7, if_pos (by omega), b158_43]
theorem p158n {p : Nat} : R (d + 2) 158 0 [vR 153] [] (WS L (pz σ s p 1 o)) Q = Q none (WS L (pz σ s p 1 o)) := by
  rw [b158_0, b159_0, p160n]
  simp only [am_push_n]
  rw [p159nt]
  simp only [am_push_n]
  rw [p158nt]
def rp (any : List Int) : Nat := if any = [] then 4 else 34
def r01 (any : List Int) : Nat := if any = [] then 0 else 1
theorem p158nr {p : Nat} {any : List Int} : R (d + 1) 158 (rp any) [vR 153] [] (WS L (pz σ s p 1 o)) Q = Q none (WS L (pz σ s p 1 o)) := by
  unfold rp
  split
  · exact p158nt
  · rw [b158_34, p161n]
    simp only [am_push_n]
    rw [b158_40]
    exact p158nt
theorem pL_r {k : Nat} (hk : S160 L t e y D k) (hC : RPC t e y σ) : ∀ (g : Nat) (any all : List Int) (p : Nat) (s : Int → Int), e ≤ p + g → p ≤ e → all ≠ [] → TP t e s → 0 ≤ s (523 + y) → s (523 + y) + (r01 any : Nat) ≤ p → ∃ l : List Int, l.length + p ≤ (pL t e (pF t e k) g any all p).1 + r01 any ∧ (∀ st, (pL t e (pF t e k) g any all p).2 = some st → st = any ++ all ++ l) ∧ ∀ Q, R (D + 1) 159 4 [vR 153] [] (WS L (pz σ s p 0 ((5 - k : Nat) : Int))) (fun r w => R (D + 2) 158 (rp any) [vR 153] (am_push r []) w Q) = Q none (WS L (pz σ (em s y l) (pL t e (pF t e k) g any all p).1 (wb (pL t e (pF t e k) g any all p)) ((5 - k : Nat) : Int))) := by
  have he := hC.2.2.2.1
  have hy := hC.2.1
  -- out of every, to the round of some
  have out : ∀ (any : List Int) (p : Nat) (s : Int → Int), p ≤ e → 0 ≤ s (523 + y) → s (523 + y) ≤ p → ∀ Q : Option AV → AW → Prop, R (D + 2) 158 (rp any) [vR 153] [] (WS L (pz σ s p 0 ((5 - k : Nat) : Int))) Q = R (D + 2) 158 4 [vR 153] [] (WS L (pz σ (em s y (if any = [] then [] else [-3])) p 0 ((5 - k : Nat) : Int))) Q := by
    intro any p s hp h0 h1 Q
    unfold rp
    by_cases q : any = []
    · rw [if_pos q, if_pos q]
      rfl
    · rw [if_neg q, if_neg q, b158_34, p161 hC h0 (by omega)]
      simp only [am_push_n]
      rw [b158_40]
      rfl
  have fin : ∀ (any : List Int) (p : Nat) (s : Int → Int), TP t e s → p ≤ e → 0 ≤ s (523 + y) → s (523 + y) + (r01 any : Nat) ≤ p → hh t e p ≠ 124 → hh t e p ≠ 38 → ∀ Q : Option AV → AW → Prop, R (D + 1) 159 4 [vR 153] [] (WS L (pz σ s p 0 ((5 - k : Nat) : Int))) (fun r w => R (D + 2) 158 (rp any) [vR 153] (am_push r []) w Q) = Q none (WS L (pz σ (em s y (if any = [] then [] else [-3])) p 0 ((5 - k : Nat) : Int))) := by
    intro any p s ht hp h0 h1 q1 q2 Q
    rw [b159_4, pz_7, if_neg (by omega), b159_11, p153 hC ht]
    simp only [am_push_s]
    rw [b159_15, if_pos q2, b159_43]
    simp only [am_push_n]
    rw [out any p s hp h0 (by omega), b158_4, pz_7, if_neg (by omega), b158_11, p153 hC (em_TP ht he h0)]
    simp only [am_push_s]
    rw [b158_15, if_pos q1, b158_43]
  have ln : ∀ any : List Int, ((if any = [] then [] else [-3] : List Int)).length = r01 any := by
    intro any
    unfold r01
    split <;> rfl
  have jne : ∀ any all : List Int, all ≠ [] → jn any all = any ++ all ++ (if any = [] then [] else [-3]) := by
    intro any all _
    unfold jn
    split
    · rename_i h
      rw [h]
      simp
    · rfl
  intro g
  induction g with
  | zero =>
    intro any all p s hg hp ha ht h0 h1
    have hh1 : hh t e p = -1 := by unfold hh; rw [if_neg (by omega)]
    refine ⟨if any = [] then [] else [-3], ?_, fun st hs => ?_, fun Q => ?_⟩
    · rw [ln, pL]
      show r01 any + p ≤ p + r01 any
      omega
    · rw [pL] at hs
      simp only [Option.some.injEq] at hs
      rw [← hs, jne any all ha]
    · rw [pL]
      exact fin any p s ht hp h0 h1 (by omega) (by omega) Q
  | succ g ih =>
    intro any all p s hg hp ha ht h0 h1
    by_cases q1 : hh t e p = 124
    · have hpe := hh_lt q1 (by omega)
      have e1 : ∀ any all : List Int, pL t e (pF t e k) (g + 1) any all p = pb (pF t e k (p + 1)) (fun q st => pL t e (pF t e k) g (jn any all) st q) := by
        intro any all
        rw [pL, if_pos q1]
      rw [e1]
      have hl1 := ln any
      obtain ⟨l1, f1, f2, f3⟩ := hk (p + 1) (em s y (if any = [] then [] else [-3])) σ hC (em_TP ht he h0) (by omega) (by rw [em_c]; omega) (by rw [em_c, hl1]; omega)
      have ok := pF_ok (t := t) (e := e) k (p + 1) (by omega)
      -- up to what the factor leaves
      have run : ∀ Q : Option AV → AW → Prop, R (D + 1) 159 4 [vR 153] [] (WS L (pz σ s p 0 ((5 - k : Nat) : Int))) (fun r w => R (D + 2) 158 (rp any) [vR 153] (am_push r []) w Q) = R (D + 1) 159 4 [vR 153] [] (WS L (pz σ (em (em s y (if any = [] then [] else [-3])) y l1) (pF t e k (p + 1)).1 (wb (pF t e k (p + 1))) ((5 - k : Nat) : Int))) (fun r w => R (D + 2) 158 34 [vR 153] (am_push r []) w Q) := by
        intro Q
        rw [b159_4, pz_7, if_neg (by omega), b159_11, p153 hC ht]
        simp only [am_push_s]
        rw [b159_15, if_pos (by omega), b159_43]
        simp only [am_push_n]
        rw [out any p s hp h0 (by omega), b158_4, pz_7, if_neg (by omega), b158_11, p153 hC (em_TP ht he h0)]
        simp only [am_push_s]
        rw [b158_15, if_neg (by omega), b158_20 (by rw [pz_5]; omega), pz_5, pz_t5, b158_30, b159_0]
        refine (f3 _).trans ?_
        simp only [am_push_n]
      rcases hr : pF t e k (p + 1) with ⟨q, _ | st⟩
      · rw [hr] at run f1 ok
        rw [pb_nn]
        have run' := fun Q => run Q
        rw [wb_n] at run'
        refine ⟨(if any = [] then [] else [-3]) ++ l1, ?_, fun st hs => by simp at hs, fun Q => ?_⟩
        · rw [List.length_append, hl1]
          show r01 any + l1.length + p ≤ q + r01 any
          dsimp only at f1
          omega
        · rw [run', p159nt]
          simp only [am_push_n]
          have := p158nr (d := D + 1) (L := L) (σ := σ) (s := em (em s y (if any = [] then [] else [-3])) y l1) (o := ((5 - k : Nat) : Int)) (p := q) (any := [0]) (Q := Q)
          rw [em_app]
          exact this
      · rw [hr] at run f1 f2 ok
        have e2 := f2 st rfl
        have gst := pF_G k (p + 1) q st hr
        have hne : st ≠ [] := GS_ne gst.2
        have j1 : r01 (jn any all) = 1 := by
          unfold r01
          rw [jne any all ha, if_neg (by simp [ha])]
        have j2 : rp (jn any all) = 34 := by
          unfold rp
          rw [jne any all ha, if_neg (by simp [ha])]
        dsimp only at f1
        have cc : em (em s y (if any = [] then [] else [-3])) y l1 (523 + y) = s (523 + y) + (r01 any : Nat) + l1.length := by rw [em_c, em_c, hl1]
        obtain ⟨l2, g1, g2, g3⟩ := ih (jn any all) st q (em (em s y (if any = [] then [] else [-3])) y l1) (by omega) ok.2 hne (em_TP (em_TP ht he h0) he (by rw [em_c]; omega)) (by omega) (by omega)
        rw [pb_ss]
        rw [j1] at g1
        rw [j2] at g3
        refine ⟨(if any = [] then [] else [-3]) ++ l1 ++ l2, ?_, fun st' hs => ?_, fun Q => ?_⟩
        · rw [List.length_append, List.length_append, hl1]
          omega
        · rw [g2 st' hs, jne any all ha, e2]
          simp
        · rw [run, wb_s, em_app, em_app]
          exact g3 Q
    · by_cases q2 : hh t e p = 38
      · have hpe := hh_lt q2 (by omega)
        have e1 : ∀ any all : List Int, pL t e (pF t e k) (g + 1) any all p = pb (pF t e k (p + 1)) (fun q st => pL t e (pF t e k) g any (all ++ st ++ [-2]) q) := by
          intro any all
          rw [pL, if_neg q1, if_pos q2]
        rw [e1]
        obtain ⟨l1, f1, f2, f3⟩ := hk (p + 1) s σ hC ht (by omega) h0 (by omega)
        have ok := pF_ok (t := t) (e := e) k (p + 1) (by omega)
        have run : ∀ Q : Option AV → AW → Prop, R (D + 1) 159 4 [vR 153] [] (WS L (pz σ s p 0 ((5 - k : Nat) : Int))) Q = R (D + 1) 159 34 [vR 153] [] (WS L (pz σ (em s y l1) (pF t e k (p + 1)).1 (wb (pF t e k (p + 1))) ((5 - k : Nat) : Int))) Q := by
          intro Q
          rw [b159_4, pz_7, if_neg (by omega), b159_11, p153 hC ht]
          simp only [am_push_s]
          rw [b159_15, if_neg (by omega), b159_20 (by rw [pz_5]; omega), pz_5, pz_t5, b159_30]
          refine (f3 _).trans ?_
          simp only [am_push_n]
        rcases hr : pF t e k (p + 1) with ⟨q, _ | st⟩
        · rw [hr] at run f1 ok
          rw [pb_nn]
          have run' := fun Q => run Q
          rw [wb_n] at run'
          refine ⟨l1, ?_, fun st hs => by simp at hs, fun Q => ?_⟩
          · show l1.length + p ≤ q + r01 any
            dsimp only at f1
            omega
          · rw [run', b159_34, p161n]
            simp only [am_push_n]
            rw [b159_40, p159nt]
            simp only [am_push_n]
            exact p158nr (d := D + 1)
        · rw [hr] at run f1 f2 ok
          have e2 := f2 st rfl
          dsimp only at f1
          have cc : em s y l1 (523 + y) = s (523 + y) + l1.length := em_c _ _
          have cc2 : em s y (l1 ++ [-2]) (523 + y) = s (523 + y) + (l1.length + 1 : Nat) := by rw [em_c]; simp
          have ok2 := ok.2
          obtain ⟨l2, g1, g2, g3⟩ := ih any (all ++ st ++ [-2]) q (em s y (l1 ++ [-2])) (by omega) ok.2 (by simp) (em_TP ht he h0) (by omega) (by omega)
          rw [pb_ss]
          refine ⟨l1 ++ [-2] ++ l2, ?_, fun st' hs => ?_, fun Q => ?_⟩
          · simp only [List.length_append, List.length_cons, List.length_nil]
            omega
          · rw [g2 st' hs, e2]
            simp
          · rw [run, wb_s, b159_34, p161 hC (by omega) (by omega)]
            simp only [am_push_n]
            have e9 : em1 (em s y l1) y (-2) = em s y (l1 ++ [-2]) := by rw [em_app]; rfl
            rw [b159_40, e9, em_app (l1 ++ [-2]) l2]
            exact g3 Q
      · have e1 : pL t e (pF t e k) (g + 1) any all p = (p, some (jn any all)) := by rw [pL, if_neg q1, if_neg q2]
        rw [e1]
        refine ⟨if any = [] then [] else [-3], ?_, fun st hs => ?_, fun Q => ?_⟩
        · rw [ln]
          show r01 any + p ≤ p + r01 any
          omega
        · simp only [Option.some.injEq] at hs
          rw [← hs, jne any all ha]
        · exact fin any p s ht hp h0 h1 q1 q2 Q
theorem p158 {k p : Nat} (hk : S160 L t e y D k) (hC : RPC t e y σ) (ht : TP t e s) (hp : p ≤ e) (h0 : 0 ≤ s (523 + y)) (h1 : s (523 + y) ≤ p) : ∃ l : List Int, l.length + p ≤ (pE t e (pF t e k) p).1 ∧ (∀ st, (pE t e (pF t e k) p).2 = some st → st = l) ∧ ∀ Q, R (D + 2) 158 0 [vR 153] [] (WS L (pz σ s p 0 ((5 - k : Nat) : Int))) Q = Q none (WS L (pz σ (em s y l) (pE t e (pF t e k) p).1 (wb (pE t e (pF t e k) p)) ((5 - k : Nat) : Int))) := by
  have he := hC.2.2.2.1
  obtain ⟨l1, f1, f2, f3⟩ := hk p s σ hC ht hp h0 h1
  have ok := pF_ok (t := t) (e := e) k p hp
  have run : ∀ Q : Option AV → AW → Prop, R (D + 2) 158 0 [vR 153] [] (WS L (pz σ s p 0 ((5 - k : Nat) : Int))) Q = R (D + 1) 159 4 [vR 153] [] (WS L (pz σ (em s y l1) (pF t e k p).1 (wb (pF t e k p)) ((5 - k : Nat) : Int))) (fun r w => R (D + 2) 158 4 [vR 153] (am_push r []) w Q) := by
    intro Q
    rw [b158_0, b159_0]
    refine (f3 _).trans ?_
    simp only [am_push_n]
  unfold pE
  rcases hr : pF t e k p with ⟨q, _ | st⟩
  · rw [hr] at run f1
    rw [pb_nn]
    refine ⟨l1, f1, fun st hs => by simp at hs, fun Q => ?_⟩
    rw [run, wb_n, p159nt]
    simp only [am_push_n]
    exact p158nt
  · rw [hr] at run f1 f2 ok
    have e2 := f2 st rfl
    have gst := pF_G k p q st hr
    dsimp only at f1
    obtain ⟨l2, g1, g2, g3⟩ := pL_r hk hC 120 [] st q (em s y l1) (by omega) ok.2 (GS_ne gst.2) (em_TP ht he h0) (by rw [em_c]; omega) (by rw [em_c]; show s (523 + y) + (l1.length : Int) + 0 ≤ _; omega)
    rw [pb_ss]
    refine ⟨l1 ++ l2, ?_, fun st' hs => ?_, fun Q => ?_⟩
    · rw [List.length_append]
      have : r01 [] = 0 := rfl
      omega
    · rw [g2 st' hs, e2]
      rfl
    · rw [run, wb_s, em_app]
      exact g3 Q
theorem p160_t {p : Nat} (hC : RPC t e y σ) (ht : TP t e s) (hp : p ≤ e) (h0 : 0 ≤ s (523 + y)) (h1 : s (523 + y) ≤ p) : ∃ l : List Int, l.length + p ≤ (pTest t e p).1 ∧ (∀ st, (pTest t e p).2 = some st → st = l) ∧ ∀ (c1 : Int) Q, R (d + 7) 160 112 [vR 153, vI c1, vX 9, vX 9, vX 9] [] (WS L (pz σ s p 0 o)) Q = Q none (WS L (pz σ (em s y l) (pTest t e p).1 (wb (pTest t e p)) o)) := by
  have he := hC.2.2.2.1
  have bad : ∀ (p : Nat) (u1 : AV) (x2 x3 : Int) (u4 : AV) (Q : Option AV → AW → Prop), RG (x2 + 4 * x3) → RG (4 * x3) → R (d + 7) 160 172 [vR 153, u1, vI x2, vI x3, u4] [] (WS L (pz σ s p 1 o)) Q = Q none (WS L (pz σ s p 1 o)) := by
    intro p u1 x2 x3 u4 Q g1 g2
    unfold RG at g1 g2
    rw [b160_172, p157n]
    simp only [am_push_s]
    rw [b160_176 (by omega) (by omega) (by omega) (by omega), p161n]
    simp only [am_push_n]
    rw [b160_193]
  have hw := fun Q : Option AV → AW → Prop => p162_7 (Q := Q) (d := d + 1) (L := L) (σ := σ) (s := s) (o := o) (p := p) (w := 0) hC ht hp
  unfold pTest
  rcases hc : whC (hh t e p) with _ | w
  · refine ⟨[], by simp, fun st hs => by simp at hs, fun c1 Q => ?_⟩
    rw [b160_112, hw, hc]
    simp only [am_push_s]
    rw [b160_118, if_neg (by omega), b160_125, b160_130 rfl, pz_t7, b160_133, pz_7, if_neg (by omega), b160_140, b160_150, pz_7, if_pos (by omega), b160_164, b160_169 rfl, pz_t7]
    exact bad p (vI c1) (-1) 0 (vX 9) Q (by unfold RG; omega) (by unfold RG; omega)
  · have hw3 := whC_r hc
    have hpe := hh_lt rfl hw3.2
    have hw2 := fun Q : Option AV → AW → Prop => p162_8 (Q := Q) (d := d + 1) (L := L) (σ := σ) (s := s) (o := o) (p := p + 1) (w := 0) hC ht (by omega)
    have start : ∀ (c1 : Int) (Q : Option AV → AW → Prop), R (d + 7) 160 112 [vR 153, vI c1, vX 9, vX 9, vX 9] [] (WS L (pz σ s p 0 o)) Q = R (d + 7) 160 144 [vR 153, vI c1, vI w, vX 9, vX 9] [] (WS L (pz σ s ((p + 1 : Nat) : Int) 0 o)) Q := by
      intro c1 Q
      rw [b160_112, hw, hc]
      simp only [am_push_s]
      rw [b160_118, if_pos (by omega), b160_129, b160_130 rfl, pz_t7, b160_133, pz_7, if_pos rfl]
    by_cases q : 60 ≤ hh t e (p + 1) ∧ hh t e (p + 1) ≤ 62
    · have hpe2 := hh_lt (t := t) (e := e) (p := p + 1) rfl (by omega)
      obtain ⟨v, v1, v2, v3⟩ := p157 (d := d + 5) (L := L) (σ := σ) (s := s) (o := o) (p := p + 2) hC ht (by omega)
      have h60 : (((hh t e (p + 1) - 60).toNat : Nat) : Int) = hh t e (p + 1) - 60 := by omega
      have run : ∀ (c1 : Int) (Q : Option AV → AW → Prop), R (d + 7) 160 112 [vR 153, vI c1, vX 9, vX 9, vX 9] [] (WS L (pz σ s p 0 o)) Q = R (d + 6) 161 0 [vR 153, vI ((w : Int) + 4 * (hh t e (p + 1) - 60) + 16 * v)] [] (WS L (pz σ s (pNum t e (p + 2)).1 (wb (pNum t e (p + 2))) o)) (fun r w' => R (d + 7) 160 193 [vR 153, vI c1, vI w, vI (hh t e (p + 1) - 60), vI v] (am_push r []) w' Q) := by
        intro c1 Q
        rw [start, b160_144, hw2, if_pos q, h60]
        simp only [am_push_s]
        rw [b160_150, pz_7, if_neg (by omega), b160_159, if_pos (by omega), b160_168, b160_169 rfl, pz_t7, b160_172]
        refine (v3 _).trans ?_
        simp only [am_push_s]
        rw [b160_176 (by omega) (by omega) (by omega) (by omega)]
      dsimp only
      rw [if_pos q]
      rcases hn : pNum t e (p + 2) with ⟨q2, _ | v'⟩
      · have ok := pNum_ok (t := t) (e := e) (p := p + 2) (by omega)
        rw [hn] at run ok
        rw [pb_nn]
        refine ⟨[], ?_, fun st hs => by simp at hs, fun c1 Q => ?_⟩
        · show 0 + p ≤ q2
          have := ok.1
          dsimp only at this
          omega
        · rw [run, wb_n, p161n]
          simp only [am_push_n]
          rw [b160_193]
          rfl
      · rw [hn] at run v2
        have e2 := v2 v' rfl
        have ok := pNum_v hn
        rw [pb_ss]
        refine ⟨[stp w (hh t e (p + 1) - 60).toNat v'], ?_, fun st hs => ?_, fun c1 Q => ?_⟩
        · show 1 + p ≤ q2
          omega
        · simp only [Option.some.injEq] at hs
          exact hs.symm
        · have es : (w : Int) + 4 * (hh t e (p + 1) - 60) + 16 * v = stp w (hh t e (p + 1) - 60).toNat v' := by unfold stp; omega
          rw [run, es, wb_s, p161 hC h0 (by omega)]
          simp only [am_push_n]
          rw [b160_193]
          rfl
    · dsimp only
      rw [if_neg q]
      refine ⟨[], by simp, fun st hs => by simp at hs, fun c1 Q => ?_⟩
      rw [start, b160_144, hw2, if_neg q]
      simp only [am_push_s]
      rw [b160_150, pz_7, if_neg (by omega), b160_159, if_neg (by omega), b160_164, b160_169 rfl, pz_t7]
      exact bad (p + 1) (vI c1) w (-1) (vX 9) Q (by unfold RG; omega) (by unfold RG; omega)
theorem p160_n {p : Nat} {u1 u2 u3 : AV} {c : Int} (hc : c = 33 ∨ c = 40) (ho : o = 5) (hp : p ≤ 1000) : R (d + 7) 160 25 [vR 153, vI c, u1, u2, u3] [] (WS L (pz σ s p 0 o)) Q = Q none (WS L (pz σ s p 1 o)) := by
  subst ho
  rw [b160_25, pz_8, if_neg (by omega), b160_34, b160_39 rfl, pz_t7, b160_42 (by rw [pz_8]; omega), pz_8, pz_t8, b160_52, pz_7, if_neg (by omega), pz_5, b160_64, b160_69 (by omega), pz_t5, Int.add_zero, b160_73]
  rcases hc with rfl | rfl
  · rw [if_neg (by omega), b160_79, p160n]
    simp only [am_push_n]
    rw [b160_83, p161n]
    simp only [am_push_n]
    rw [b160_88, b160_101 (by rw [pz_8]; omega), pz_8, pz_t8, b160_111]
    rfl
  · rw [if_pos (by omega), b160_91, p158n]
    simp only [am_push_n]
    rw [b160_95, p156n hp]
    simp only [am_push_n]
    rw [b160_101 (by rw [pz_8]; omega), pz_8, pz_t8, b160_111]
    rfl
theorem p160_h {p : Nat} (hC : RPC t e y σ) (ht : TP t e s) : R (d + 7) 160 0 [vR 153, vX 9, vX 9, vX 9, vX 9] [] (WS L (pz σ s p 0 o)) Q = if hh t e p = 33 ∨ hh t e p = 40 then R (d + 7) 160 25 [vR 153, vI (hh t e p), vX 9, vX 9, vX 9] [] (WS L (pz σ s p 0 o)) Q else R (d + 7) 160 112 [vR 153, vI (hh t e p), vX 9, vX 9, vX 9] [] (WS L (pz σ s p 0 o)) Q := by
  rw [b160_0, pz_7, if_pos rfl, b160_8, p153 hC ht]
  simp only [am_push_s]
  rw [b160_12]
  by_cases q1 : hh t e p = 33
  · rw [if_pos q1, if_pos (Or.inl q1)]
  · rw [if_neg q1, b160_19]
    by_cases q2 : hh t e p = 40
    · rw [if_neg (by simpa using q2), if_pos (Or.inr q2)]
    · rw [if_pos q2, if_neg (by omega)]
theorem p160_o {p : Nat} {u1 u2 u3 : AV} {c : Int} {k : Nat} (hk : k < 5) (hp : p ≤ 1000) : R (d + 7) 160 25 [vR 153, vI c, u1, u2, u3] [] (WS L (pz σ s p 0 ((5 - (k + 1) : Nat) : Int))) Q = if ¬ c = 33 then R (d + 7) 160 91 [vR 153, vI c, u1, u2, u3] [] (WS L (pz σ s ((p + 1 : Nat) : Int) 0 ((5 - k : Nat) : Int))) Q else R (d + 7) 160 79 [vR 153, vI c, u1, u2, u3] [] (WS L (pz σ s ((p + 1 : Nat) : Int) 0 ((5 - k : Nat) : Int))) Q := by
  rw [b160_25, pz_8, if_pos (by omega), b160_38, b160_39 rfl, pz_t7, b160_42 (by rw [pz_8]; omega), pz_8, pz_t8, b160_52, pz_7, if_pos rfl, pz_5, b160_68, b160_69 (by omega), pz_t5, b160_73, show ((5 - (k + 1) : Nat) : Int) + 1 = ((5 - k : Nat) : Int) by omega]
  rfl
theorem s160 : ∀ k d, k ≤ 5 → S160 L t e y (d + 3 * k + 7) k
  | 0, d, _ => by
    intro p s σ hC ht hp h0 h1
    have he := hC.2.2.2.1
    rw [pF]
    by_cases q : hh t e p = 33 ∨ hh t e p = 40
    · rw [if_pos q]
      refine ⟨[], by simp, fun st hs => by simp at hs, fun Q => ?_⟩
      refine (p160_h (d := d) hC ht).trans ?_
      rw [if_pos q]
      exact p160_n q rfl (by omega)
    · rw [if_neg q]
      obtain ⟨l, f1, f2, f3⟩ := p160_t (d := d) (L := L) (o := ((5 - 0 : Nat) : Int)) hC ht hp h0 h1
      refine ⟨l, f1, f2, fun Q => ?_⟩
      refine (p160_h (d := d) hC ht).trans ?_
      rw [if_neg q]
      exact f3 _ Q
  | k + 1, d, hk => by
    intro p s σ hC ht hp h0 h1
    have he := hC.2.2.2.1
    rw [pF]
    have D1 : d + 3 * (k + 1) + 7 = (d + 3 * (k + 1)) + 7 := rfl
    by_cases q1 : hh t e p = 33
    · have hpe := hh_lt q1 (by omega)
      rw [if_pos q1]
      obtain ⟨l, f1, f2, f3⟩ := s160 k (d + 2) (by omega) (p + 1) s σ hC ht (by omega) h0 (by omega)
      have ok := pF_ok (t := t) (e := e) k (p + 1) (by omega)
      have run : ∀ Q, R (d + 3 * (k + 1) + 7) 160 0 [vR 153, vX 9, vX 9, vX 9, vX 9] [] (WS L (pz σ s p 0 ((5 - (k + 1) : Nat) : Int))) Q = R (d + 3 * (k + 1) + 7) 160 83 [vR 153, vI 33, vX 9, vX 9, vX 9] [] (WS L (pz σ (em s y l) (pF t e k (p + 1)).1 (wb (pF t e k (p + 1))) ((5 - k : Nat) : Int))) Q := by
        intro Q
        refine (p160_h hC ht).trans ?_
        rw [if_pos (Or.inl q1), p160_o (by omega) (by omega), if_neg (by omega), q1, b160_79]
        have f := f3 (fun r w => R (d + 3 * (k + 1) + 7) 160 83 [vR 153, vI 33, vX 9, vX 9, vX 9] (am_push r []) w Q)
        rw [show d + 2 + 3 * k + 7 = d + 3 * (k + 1) + 6 by omega] at f
        exact f
      rcases hr : pF t e k (p + 1) with ⟨q, _ | st⟩
      · rw [hr] at run f1
        rw [pb_nn]
        dsimp only at f1
        refine ⟨l, by dsimp only; omega, fun st hs => by simp at hs, fun Q => ?_⟩
        rw [run, wb_n, b160_83, p161n]
        simp only [am_push_n]
        rw [b160_88, b160_101 (by rw [pz_8]; omega), pz_8, pz_t8, b160_111, show ((5 - k : Nat) : Int) - 1 = ((5 - (k + 1) : Nat) : Int) by omega]
      · rw [hr] at run f1 f2 ok
        have e2 := f2 st rfl
        have ok2 := ok.2
        rw [pb_ss]
        dsimp only at f1
        refine ⟨l ++ [-1], by simp; omega, fun st' hs => ?_, fun Q => ?_⟩
        · simp only [Option.some.injEq] at hs
          rw [← hs, e2]
        · rw [run, wb_s, b160_83, p161 hC (by rw [em_c]; omega) (by rw [em_c]; omega)]
          simp only [am_push_n]
          rw [b160_88, b160_101 (by rw [pz_8]; omega), pz_8, pz_t8, b160_111, show ((5 - k : Nat) : Int) - 1 = ((5 - (k + 1) : Nat) : Int) by omega, em_app]
          rfl
    · rw [if_neg q1]
      by_cases q2 : hh t e p = 40
      · have hpe := hh_lt q2 (by omega)
        rw [if_pos q2]
        obtain ⟨l, f1, f2, f3⟩ := p158 (s160 k d (by omega)) hC ht (show p + 1 ≤ e by omega) h0 (by omega)
        have ok := pE_ok (t := t) (e := e) (fun p hp => pF_ok (t := t) (e := e) k p hp) (p := p + 1) (by omega)
        have run : ∀ Q, R (d + 3 * (k + 1) + 7) 160 0 [vR 153, vX 9, vX 9, vX 9, vX 9] [] (WS L (pz σ s p 0 ((5 - (k + 1) : Nat) : Int))) Q = R (d + 3 * (k + 1) + 7) 160 95 [vR 153, vI 40, vX 9, vX 9, vX 9] [] (WS L (pz σ (em s y l) (pE t e (pF t e k) (p + 1)).1 (wb (pE t e (pF t e k) (p + 1))) ((5 - k : Nat) : Int))) Q := by
          intro Q
          refine (p160_h hC ht).trans ?_
          rw [if_pos (Or.inr q2), p160_o (by omega) (by omega), if_pos (by omega), q2, b160_91]
          have f := f3 (fun r w => R (d + 3 * (k + 1) + 7) 160 95 [vR 153, vI 40, vX 9, vX 9, vX 9] (am_push r []) w Q)
          rw [show d + 3 * k + 7 + 2 = d + 3 * (k + 1) + 6 by omega] at f
          exact f
        rcases hr : pE t e (pF t e k) (p + 1) with ⟨q, _ | st⟩
        · rw [hr] at run f1 ok
          rw [pb_nn]
          dsimp only at f1
          have ok2 := ok.2
          dsimp only at ok2
          refine ⟨l, by dsimp only; omega, fun st hs => by simp at hs, fun Q => ?_⟩
          rw [run, wb_n, b160_95, p156n (by dsimp only; omega)]
          simp only [am_push_n]
          rw [b160_101 (by rw [pz_8]; omega), pz_8, pz_t8, b160_111, show ((5 - k : Nat) : Int) - 1 = ((5 - (k + 1) : Nat) : Int) by omega]
        · rw [hr] at run f1 f2 ok
          have e2 := f2 st rfl
          have ok2 := ok.2
          rw [pb_ss]
          dsimp only at f1 ok2
          have okW := pW_ok (t := t) (e := e) [41] q (by simp) ok2
          refine ⟨l, ?_, fun st' hs => ?_, fun Q => ?_⟩
          · rcases hw : pW t e [41] q with ⟨q3, _ | u⟩
            · rw [hw] at okW
              have := okW.1
              rw [pb_nn]
              dsimp only at this ⊢
              omega
            · rw [hw] at okW
              have := okW.1
              rw [pb_ss]
              dsimp only at this ⊢
              omega
          · rcases hw : pW t e [41] q with ⟨q3, _ | u⟩
            · rw [hw, pb_nn] at hs
              simp at hs
            · rw [hw, pb_ss] at hs
              simp only [Option.some.injEq] at hs
              rw [← hs, e2]
          · rw [run, wb_s, b160_95, p156 hC (em_TP ht he h0) (by dsimp only; omega)]
            simp only [am_push_n]
            rw [b160_101 (by rw [pz_8]; omega), pz_8, pz_t8, b160_111, show ((5 - k : Nat) : Int) - 1 = ((5 - (k + 1) : Nat) : Int) by omega]
            rcases hw : pW t e [41] q with ⟨q3, _ | u⟩
            · rw [pb_nn]
              rfl
            · rw [pb_ss]
              rfl
      · rw [if_neg q2]
        obtain ⟨l, f1, f2, f3⟩ := p160_t (d := d + 3 * (k + 1)) (L := L) (o := ((5 - (k + 1) : Nat) : Int)) hC ht hp h0 h1
        refine ⟨l, f1, f2, fun Q => ?_⟩
        refine (p160_h (d := d + 3 * (k + 1)) hC ht).trans ?_
        rw [if_neg (by omega)]
        exact f3 _ Q
end RB2
