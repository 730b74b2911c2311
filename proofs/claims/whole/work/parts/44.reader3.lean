/-! clauses read by the class; a whole text -/
theorem pb_ss {α β : Type} {q : Nat} {a : α} {f : Nat → α → Nat × Option β} : pb (q, some a) f = f q a := rfl
theorem pb_nn {α β : Type} {q : Nat} {f : Nat → α → Nat × Option β} : pb (q, none) f = (q, none) := rfl
def clN (c : Cl) : Int := if c.1 = 0 then 109 else if c.1 = 1 then 98 else 108
def clM (T : Nat → Nat → Int) (n : Nat) (c : Cl) : Nat := if c.1 = 0 then mkE T n c.2.2 else if c.1 = 1 then 2 ^ (c.2.2.getD 0 0).toNat ||| 2 ^ (c.2.2.getD 1 0).toNat else bits (fun b => decide (T 0 b = c.2.2.getD 0 0)) n
def CS (T : Nat → Nat → Int) (n : Nat) (σ : St) (l : List Cl) : Prop := σ 134 4 = (l.length : Int) ∧ ∀ (i : Nat) (c : Cl), l[i]? = some c → σ 135 i = clN c ∧ σ 136 i = (c.2.1 : Int) ∧ σ 137 i = (clM T n c : Int)
def FC (m : Nat) (σ σ' : St) : Prop := (∀ a, a < 134 ∨ 137 < a → σ' a = σ a) ∧ (∀ i : Int, i = 5 ∨ i = 6 → σ' 134 i = σ 134 i) ∧ ∀ j : Int, j < m → σ' 135 j = σ 135 j ∧ σ' 136 j = σ 136 j ∧ σ' 137 j = σ 137 j
def pH (t : Nat → Int) (e : Nat) (bs : List Int) (p : Nat) : Nat × Option Nat := pb (pW t e bs p) (fun p _ => pb (pNum t e p) (fun p v => pb (pW t e [32] p) (fun p _ => (p, some v))))
theorem drop_s {l : List Int} {i : Nat} (h : i < l.length) : l.drop i = l.getD i 0 :: l.drop (i + 1) := by
  rw [List.drop_eq_getElem_cons h, List.getD_eq_getElem?_getD, List.getElem?_eq_getElem h]
  rfl
def SX (L q : Nat) (bs : List Int) : Prop := KD q = 120 ∧ bs.length = 4 ∧ (∀ c, c ∈ bs → 0 ≤ c) ∧ (∀ (d : Nat) (σ : St) (Q : Option AV → AW → Prop), R (d + 2) 22 0 [vR q] [] (WS L σ) Q = Q (some (vI 4)) (WS L σ)) ∧ ∀ (d : Nat) (σ : St) (Q : Option AV → AW → Prop) (i : Nat), i < 4 → R (d + 4) 24 0 [vR q, vI i] [] (WS L σ) Q = Q (some (vI (bs.getD i 0))) (WS L σ)
section R3
variable {d L : Nat} {σ : St} {Q : Option AV → AW → Prop} {t : Nat → Int} {e r : Nat}
theorem SX_3 : SX L 3 [97, 114, 107, 32] := ⟨kd_3, rfl, by decide, fun _ _ _ => r22_3, fun _ _ _ _ hi => r24_3 hi⟩
theorem SX_4 : SX L 4 [111, 116, 104, 32] := ⟨kd_4, rfl, by decide, fun _ _ _ => r22_4, fun _ _ _ _ hi => r24_4 hi⟩
theorem SX_5 : SX L 5 [97, 99, 107, 32] := ⟨kd_5, rfl, by decide, fun _ _ _ => r22_5, fun _ _ _ _ hi => r24_5 hi⟩
theorem FC_F7 {m : Nat} {σ' : St} (h : F7 σ σ') : FC m σ σ' := ⟨fun a ha => h.1 a (by omega), fun i hi => h.2 i (by omega), fun j _ => ⟨by rw [h.1 135 (by omega)], by rw [h.1 136 (by omega)], by rw [h.1 137 (by omega)]⟩⟩
theorem FC_t {m m' : Nat} {σ' σ'' : St} (h : FC m σ σ') (h2 : FC m' σ' σ'') (hm : m ≤ m') : FC m σ σ'' := by
  refine ⟨fun a ha => (h2.1 a ha).trans (h.1 a ha), fun i hi => (h2.2.1 i hi).trans (h.2.1 i hi), fun j hj => ?_⟩
  obtain ⟨x1, x2, x3⟩ := h.2.2 j hj
  obtain ⟨y1, y2, y3⟩ := h2.2.2 j (by omega)
  exact ⟨y1.trans x1, y2.trans x2, y3.trans x3⟩
theorem RO_fr {σ' : St} {p : Nat} (h : RO t e r σ p) (h1 : σ' (r + 1) = σ (r + 1)) (h2 : ∀ i : Int, 5 ≤ i → σ' 134 i = σ 134 i) : RO t e r σ' p := by
  obtain ⟨⟨g1, g2, g3, g4, g5, g6, g7, g8⟩, k1, k2, k3, k4⟩ := h
  refine ⟨⟨g1, g2, g3, g4, g5, ?_, ?_, ?_⟩, k1, ?_, ?_, ?_⟩
  · rw [h1]
    exact g6
  · rw [h2 5 (by omega)]
    exact g7
  · rw [h2 6 (by omega)]
    exact g8
  · rw [h2 7 (by omega)]
    exact k2
  · rw [h2 8 (by omega)]
    exact k3
  · rw [h2 9 (by omega)]
    exact k4
theorem SX_c {q : Nat} {bs : List Int} (hS : SX L q bs) {i : Nat} (hi : i < 4) : 0 ≤ bs.getD i 0 := by
  have h : i < bs.length := by rw [hS.2.1]; exact hi
  rw [List.getD_eq_getElem?_getD, List.getElem?_eq_getElem h]
  exact hS.2.2.1 _ (List.getElem_mem _)
theorem r20n_w {q : Nat} {bs : List Int} (hS : SX L q bs) {x1 : Int} {u4 : AV} {p : Nat} (h : RN t e r σ p) : ∀ m i : Nat, i + m = 4 → R (d + 6) 20 59 [vR 134, vI x1, vR q, vI i, u4] [] (WS L σ) Q = R (d + 6) 20 82 [vR 134, vI x1, vR q, vI 4, u4] [] (WS L σ) Q := by
  have hc := fun i hi => SX_c hS (i := i) hi
  obtain ⟨k1, k2, k3, k4, k5⟩ := hS
  intro m
  induction m with
  | zero =>
    intro i hi
    obtain rfl : i = 4 := by omega
    rw [b20_59 k1, k4 (d + 3)]
    simp only [am_push_s]
    rw [b20_64, if_pos (by omega)]
    rfl
  | succ m ih =>
    intro i hi
    rw [b20_59 k1, k4 (d + 3)]
    simp only [am_push_s]
    rw [b20_64, if_neg (by omega), b20_67 k1, k5 (d + 1) _ _ i (by omega)]
    simp only [am_push_s]
    rw [b20_73, r29n h (hc i (by omega))]
    simp only [am_push_n]
    rw [b20_76 (by omega)]
    exact ih (i + 1) (by omega)
theorem r20_w {q : Nat} {bs : List Int} (hS : SX L q bs) {x1 : Int} {u4 : AV} : ∀ (m i p : Nat) (σ : St), i + m = 4 → RO t e r σ p → ∃ σ' : St, F7 σ σ' ∧ RP t e r σ' (pW t e (bs.drop i) p) ∧ ∀ Q, R (d + 6) 20 59 [vR 134, vI x1, vR q, vI i, u4] [] (WS L σ) Q = R (d + 6) 20 82 [vR 134, vI x1, vR q, vI 4, u4] [] (WS L σ') Q := by
  have hc := fun i hi => SX_c hS (i := i) hi
  have hS' := hS
  obtain ⟨k1, k2, k3, k4, k5⟩ := hS
  intro m
  induction m with
  | zero =>
    intro i p σ hi h
    obtain rfl : i = 4 := by omega
    refine ⟨σ, F7_r, ?_, fun Q => ?_⟩
    · rw [List.drop_eq_nil_of_le (by omega)]
      exact h
    · rw [b20_59 k1, k4 (d + 3)]
      simp only [am_push_s]
      rw [b20_64, if_pos (by omega)]
      rfl
  | succ m ih =>
    intro i p σ hi h
    obtain ⟨σ1, a1, a2, a3⟩ := r29 (d := d + 4) (L := L) (c := bs.getD i 0) h (hc i (by omega))
    have run : ∀ Q, R (d + 6) 20 59 [vR 134, vI x1, vR q, vI i, u4] [] (WS L σ) Q = R (d + 6) 20 59 [vR 134, vI x1, vR q, vI ((i : Int) + 1), u4] [] (WS L σ1) Q := by
      intro Q
      rw [b20_59 k1, k4 (d + 3)]
      simp only [am_push_s]
      rw [b20_64, if_neg (by omega), b20_67 k1, k5 (d + 1) _ _ i (by omega)]
      simp only [am_push_s]
      rw [b20_73, a3]
      simp only [am_push_n]
      rw [b20_76 (by omega)]
    by_cases c : hh t e p = bs.getD i 0
    · have ew : pW t e [bs.getD i 0] p = (p + 1, some ()) := by rw [pW, if_pos c, pW]
      rw [ew] at a2
      obtain ⟨σ2, b1, b2, b3⟩ := ih (i + 1) (p + 1) σ1 (by omega) a2
      refine ⟨σ2, F7_t a1 b1, ?_, fun Q => ?_⟩
      · rw [drop_s (by omega), pW, if_pos c]
        exact b2
      · rw [run]
        exact b3 Q
    · have ew : pW t e [bs.getD i 0] p = (p, none) := by rw [pW, if_neg c]
      rw [ew] at a2
      have a2' : RN t e r σ1 p := a2
      refine ⟨σ1, a1, ?_, fun Q => ?_⟩
      · rw [drop_s (by omega), pW, if_neg c]
        exact a2
      · rw [run]
        exact r20n_w hS' a2' m (i + 1) (by omega)
theorem r20_h {q p : Nat} {bs : List Int} (hS : SX L q bs) {x1 : Int} (h : RO t e r σ p) (hp : 0 ≤ hh t e p) : ∃ (σ' : St) (v : Int), F7 σ σ' ∧ RP t e r σ' (pH t e bs (p + 1)) ∧ (∀ a, (pH t e bs (p + 1)).2 = some a → v = (a : Int)) ∧ ∀ Q, R (d + 6) 20 53 [vR 134, vI x1, vR q, vX 9, vX 9] [] (WS L σ) Q = R (d + 6) 20 93 [vR 134, vI x1, vR q, vI v, vX 9] [] (WS L σ') Q := by
  obtain ⟨σ1, a1, a2, a3⟩ := r19o (d := d + 5) (L := L) h hp
  obtain ⟨σ2, b1, b2, b3⟩ := r20_w (d := d) (x1 := x1) (u4 := vX 9) hS 4 0 (p + 1) σ1 (by omega) a2
  have run : ∀ Q, R (d + 6) 20 53 [vR 134, vI x1, vR q, vX 9, vX 9] [] (WS L σ) Q = R (d + 5) 30 0 [vR 134, vX 9, vX 9] [] (WS L σ2) (fun rr w => R (d + 6) 20 86 [vR 134, vI x1, vR q, vI 4, vX 9] (am_push rr []) w Q) := by
    intro Q
    rw [b20_53, a3]
    simp only [am_push_n]
    rw [b20_57]
    refine (b3 Q).trans ?_
    rw [b20_82]
  rw [List.drop_zero] at b2
  rcases hq : pW t e bs (p + 1) with ⟨q1, _ | u⟩
  · have ep : pH t e bs (p + 1) = (q1, none) := by unfold pH; rw [hq, pb_nn]
    rw [hq] at b2
    have b2' : RN t e r σ2 q1 := b2
    refine ⟨σ2, -1, F7_t a1 b1, by rw [ep]; exact b2, by rw [ep]; intro a ha; simp at ha, fun Q => ?_⟩
    rw [run, r30n b2']
    simp only [am_push_s]
    rw [b20_86, r29n b2' (by omega)]
    simp only [am_push_n]
  · rw [hq] at b2
    have b2' : RO t e r σ2 q1 := b2
    obtain ⟨σ3, v, c1, c2, c3, c4⟩ := r30 (d := d + 4) (L := L) b2'
    rcases hq2 : pNum t e q1 with ⟨q2, _ | vv⟩
    · have ep : pH t e bs (p + 1) = (q2, none) := by unfold pH; rw [hq, pb_ss, hq2, pb_nn]
      rw [hq2] at c2
      have c2' : RN t e r σ3 q2 := c2
      refine ⟨σ3, v, F7_t (F7_t a1 b1) c1, by rw [ep]; exact c2, by rw [ep]; intro a ha; simp at ha, fun Q => ?_⟩
      rw [run, c4]
      simp only [am_push_s]
      rw [b20_86, r29n c2' (by omega)]
      simp only [am_push_n]
    · rw [hq2] at c2 c3
      have c2' : RO t e r σ3 q2 := c2
      have hv := c3 vv rfl
      obtain ⟨σ4, f1, f2, f3⟩ := r29 (d := d + 4) (L := L) (c := 32) c2' (by omega)
      have ep : pH t e bs (p + 1) = pb (pW t e [32] q2) (fun p _ => (p, some vv)) := by unfold pH; rw [hq, pb_ss, hq2, pb_ss]
      refine ⟨σ4, v, F7_t (F7_t (F7_t a1 b1) c1) f1, ?_, ?_, fun Q => ?_⟩
      · rw [ep]
        rcases hq3 : pW t e [32] q2 with ⟨q3, _ | u3⟩
        · rw [hq3] at f2
          exact f2
        · rw [hq3] at f2
          exact f2
      · rw [ep]
        intro a ha
        rcases hq3 : pW t e [32] q2 with ⟨q3, _ | u3⟩
        · rw [hq3, pb_nn] at ha
          simp at ha
        · rw [hq3, pb_ss] at ha
          simp only [Option.some.injEq] at ha
          rw [← ha]
          exact hv
      · rw [run, c4]
        simp only [am_push_s]
        rw [b20_86, f3]
        simp only [am_push_n]
theorem r20n_93 {n q p : Nat} {x1 v : Int} (hx : x1 = 109 ∨ x1 = 98 ∨ x1 = 108) (h : RN t e r σ p) (hn : σ 20 0 = (n : Int)) (h8n : n ≤ 8) : R (d + 20) 20 93 [vR 134, vI x1, vR q, vI v, vX 9] [] (WS L σ) Q = Q none (WS L σ) := by
  have h9 := h.2.2.2.2
  have fin : ∀ y, R (d + 20) 20 124 [vR 134, vI x1, vR q, vI v, vX 9] [vI y] (WS L σ) Q = Q none (WS L σ) := by
    intro y
    rw [b20_124, h9, if_pos (by omega), b20_186]
  rw [b20_93]
  rcases hx with rfl | rfl | rfl
  · rw [if_neg (by omega), b20_99, r31n (d := d + 17) h]
    simp only [am_push_s]
    rw [b20_104, fin]
  · rw [if_pos (by omega), b20_107, if_neg (by omega), b20_113, r37n (d := d + 17) h]
    simp only [am_push_s]
    rw [b20_117, fin]
  · rw [if_pos (by omega), b20_107, if_pos (by omega), b20_120, r39n (d := d + 17) h hn h8n]
    simp only [am_push_s]
    rw [fin]
theorem r20n {p : Nat} (h : RN t e r σ p) : R (d + 20) 20 0 [vR 134, vX 9, vX 9, vX 9, vX 9] [] (WS L σ) Q = Q none (WS L σ) := by
  have h8 := h.2.2.2.1
  rw [b20_0, h8, if_pos (by omega), b20_16, if_pos (by omega), b20_27, b20_29, if_neg (by omega), b20_36, if_neg (by omega), b20_42, if_neg (by omega), b20_48, r21n h]
  simp only [am_push_n]
  rw [b20_52]
theorem r20_st {m p : Nat} {x1 v y : Int} {u2 : AV} (h : RO t e r σ p) (hm : σ 134 4 = (m : Int)) (hm10 : m < 10) : ∃ σ' : St, FC m σ σ' ∧ RO t e r σ' p ∧ σ' 134 4 = ((m + 1 : Nat) : Int) ∧ σ' 135 m = x1 ∧ σ' 136 m = v ∧ σ' 137 m = y ∧ ∀ Q, R (d + 20) 20 124 [vR 134, vI x1, u2, vI v, vX 9] [vI y] (WS L σ) Q = Q none (WS L σ') := by
  have e1 : st2 σ 135 (m : Int) x1 134 4 = (m : Int) := by rw [st2_k (by omega)]; exact hm
  have e2 : st2 (st2 σ 135 (m : Int) x1) 136 (m : Int) v 134 4 = (m : Int) := by rw [st2_k (by omega)]; exact e1
  have e3 : st2 (st2 (st2 σ 135 (m : Int) x1) 136 (m : Int) v) 137 (m : Int) y 134 4 = (m : Int) := by rw [st2_k (by omega)]; exact e2
  have hX := h.1.2.2.2.1
  refine ⟨st2 (st2 (st2 (st2 σ 135 (m : Int) x1) 136 (m : Int) v) 137 (m : Int) y) 134 4 ((m : Int) + 1), ⟨fun a ha => ?_, fun i hi => ?_, fun j hj => ⟨?_, ?_, ?_⟩⟩, RO_fr h ?_ (fun i hi => ?_), ?_, ?_, ?_, ?_, fun Q => ?_⟩
  · funext j
    rw [st2_k (by omega), st2_k (by omega), st2_k (by omega), st2_k (by omega)]
  · rw [st2_i (by omega), st2_k (by omega), st2_k (by omega), st2_k (by omega)]
  · rw [st2_k (by omega), st2_k (by omega), st2_k (by omega), st2_i (by omega)]
  · rw [st2_k (by omega), st2_k (by omega), st2_i (by omega), st2_k (by omega)]
  · rw [st2_k (by omega), st2_i (by omega), st2_k (by omega), st2_k (by omega)]
  · funext j
    rw [st2_k (by omega), st2_k (by omega), st2_k (by omega), st2_k (by omega)]
  · rw [st2_i (by omega), st2_k (by omega), st2_k (by omega), st2_k (by omega)]
  · rw [st2_eq]
    omega
  · rw [st2_k (by omega), st2_k (by omega), st2_k (by omega), st2_eq]
  · rw [st2_k (by omega), st2_k (by omega), st2_eq]
  · rw [st2_k (by omega), st2_eq]
  · rw [b20_124, h.2.2.2.2, if_neg (by omega), b20_133, hm, r13]
    simp only [am_push_s]
    rw [b20_142]
    simp only [tI_0]
    rw [if_neg (by omega), b20_145 (by omega) (by omega), hm, b20_155 (by omega) (by omega), e1, b20_165 (by omega) (by omega), e2, b20_176 (by omega), e3, b20_186]
theorem pM_h {p : Nat} : pM t e p = pb (pH t e [97, 114, 107, 32] p) (fun p v => pb (pE t e (pF t e 5) p) (fun p st => (p, some (0, v, st)))) := by
  unfold pM pH
  simp only [pb_as, pb_ss]
theorem pB_h {p : Nat} : pB t e p = pb (pH t e [111, 116, 104, 32] p) (fun p v => pb (pPr t e p) (fun p a => (p, some (1, v, [(a.1 : Int), (a.2 : Int)])))) := by
  unfold pB pH pPr
  simp only [pb_as, pb_ss]
theorem pK_h {p : Nat} : pK t e p = pb (pH t e [97, 99, 107, 32] p) (fun p v => pb (pDig t e 4 p) (fun p k => (p, some (2, v, [(k : Int)])))) := by
  unfold pK pH
  simp only [pb_as, pb_ss]
theorem v05 : vI 0 = vI ((5 - 5 : Nat) : Int) := rfl
/-- a clause behind its head: one of the three kinds -/
theorem r20_k {α : Type} {n m q p : Nat} {bs : List Int} {x1 v : Int} {g : Nat → Nat × Option α} {cl : Nat → α → Cl} (h8n : n ≤ 8) (hx : x1 = 109 ∨ x1 = 98 ∨ x1 = 108) (hn : σ 20 0 = (n : Int)) (hm : σ 134 4 = (m : Int)) (hm10 : m < 10) (h : RP t e r σ (pH t e bs p)) (hv : ∀ a, (pH t e bs p).2 = some a → v = (a : Int)) (hcl : ∀ vv a, clN (cl vv a) = x1 ∧ (cl vv a).2.1 = vv)
    (hg : ∀ q2, RO t e r σ q2 → ∃ (σ' : St) (y : Int), F7 σ σ' ∧ RP t e r σ' (g q2) ∧ (∀ a, (g q2).2 = some a → ∀ vv, y = (clM (tr σ) n (cl vv a) : Int)) ∧ ∀ Q, R (d + 20) 20 93 [vR 134, vI x1, vR q, vI v, vX 9] [] (WS L σ) Q = R (d + 20) 20 124 [vR 134, vI x1, vR q, vI v, vX 9] [vI y] (WS L σ') Q) :
    ∃ σ' : St, FC m σ σ' ∧ RP t e r σ' (pb (pH t e bs p) (fun p v => pb (g p) (fun p a => (p, some (cl v a))))) ∧ (∀ c, (pb (pH t e bs p) (fun p v => pb (g p) (fun p a => (p, some (cl v a))))).2 = some c → σ' 134 4 = ((m + 1 : Nat) : Int) ∧ σ' 135 m = clN c ∧ σ' 136 m = (c.2.1 : Int) ∧ σ' 137 m = (clM (tr σ) n c : Int)) ∧ ∀ Q, R (d + 20) 20 93 [vR 134, vI x1, vR q, vI v, vX 9] [] (WS L σ) Q = Q none (WS L σ') := by
  rcases hq : pH t e bs p with ⟨q1, _ | vv⟩
  · rw [hq] at h
    have h' : RN t e r σ q1 := h
    refine ⟨σ, FC_F7 F7_r, h, by intro c hc; simp [pb] at hc, fun Q => r20n_93 hx h' hn h8n⟩
  · rw [hq] at h hv
    have h' : RO t e r σ q1 := h
    have hvv := hv vv rfl
    obtain ⟨σ1, y, a1, a2, a3, a4⟩ := hg q1 h'
    rw [pb_ss]
    rcases hq2 : g q1 with ⟨q2, _ | a⟩
    · rw [hq2] at a2
      have a2' : RN t e r σ1 q2 := a2
      have h9 := a2'.2.2.2.2
      refine ⟨σ1, FC_F7 a1, a2, by intro c hc; simp [pb] at hc, fun Q => ?_⟩
      rw [a4, b20_124, h9, if_pos (by omega), b20_186]
    · rw [hq2] at a2 a3
      have a2' : RO t e r σ1 q2 := a2
      have hy := a3 a rfl vv
      obtain ⟨σ2, c1, c2, c3, c4, c5, c6, c7⟩ := r20_st (d := d) (L := L) (x1 := x1) (v := v) (y := y) (u2 := vR q) a2' (by rw [a1.2 4 (by omega)]; exact hm) hm10
      rw [pb_ss]
      refine ⟨σ2, FC_t (FC_F7 a1) c1 (Nat.le_refl _), c2, ?_, fun Q => ?_⟩
      · intro c hc
        simp only [Option.some.injEq] at hc
        subst hc
        obtain ⟨k1, k2⟩ := hcl vv a
        rw [k1, k2]
        exact ⟨c3, c4, by rw [c5]; exact hvv, by rw [c6]; exact hy⟩
      · rw [a4, c7]
theorem r20 {n m p : Nat} (h8n : n ≤ 8) (hn : σ 20 0 = (n : Int)) (h : RO t e r σ p) (hm : σ 134 4 = (m : Int)) (hm10 : m < 10) : ∃ σ' : St, FC m σ σ' ∧ RP t e r σ' (pC t e p) ∧ (∀ c, (pC t e p).2 = some c → σ' 134 4 = ((m + 1 : Nat) : Int) ∧ σ' 135 m = clN c ∧ σ' 136 m = (c.2.1 : Int) ∧ σ' 137 m = (clM (tr σ) n c : Int)) ∧ ∀ Q, R (d + 20) 20 0 [vR 134, vX 9, vX 9, vX 9, vX 9] [] (WS L σ) Q = Q none (WS L σ') := by
  have h8 := h.2.2.2.1
  by_cases c1 : hh t e p = 109
  · obtain ⟨σ1, v, a1, a2, a3, a4⟩ := r20_h (d := d + 14) (x1 := 109) SX_3 h (by omega)
    have hn1 : σ1 20 0 = (n : Int) := by rw [a1.1 20 (by omega)]; exact hn
    have ep : pC t e p = pM t e (p + 1) := by unfold pC; rw [if_pos c1]
    have ih : S32 n L t e r (d + 16 + 2) 5 := s32 h8n 5 d (by omega)
    obtain ⟨σ2, b1, b2, b3, b4⟩ := r20_k (d := d) (L := L) (m := m) (q := 3) (x1 := 109) (g := pE t e (pF t e 5)) (cl := fun v st => (0, v, st)) h8n (Or.inl rfl) hn1 (by rw [a1.2 4 (by omega)]; exact hm) hm10 a2 a3 (fun _ _ => ⟨rfl, rfl⟩) (by
      intro q2 hq2
      obtain ⟨σ', y, f1, f2, f3, f4⟩ := r31 (d := d + 16) (L := L) h8n ih hn1 hq2
      refine ⟨σ', y, f1, f2, fun a ha vv => f3 a ha, fun Q => ?_⟩
      rw [b20_93, if_neg (by omega), b20_99, v05, f4]
      simp only [am_push_s]
      rw [b20_104])
    rw [tr_F7 a1] at b3
    refine ⟨σ2, FC_t (FC_F7 a1) b1 (Nat.le_refl _), by rw [ep, pM_h]; exact b2, by rw [ep, pM_h]; exact b3, fun Q => ?_⟩
    rw [b20_0, h8, if_neg (by omega), b20_11, b20_29, if_pos c1, c1]
    exact (a4 Q).trans (b4 Q)
  · by_cases c2 : hh t e p = 98
    · obtain ⟨σ1, v, a1, a2, a3, a4⟩ := r20_h (d := d + 14) (x1 := 98) SX_4 h (by omega)
      have hn1 : σ1 20 0 = (n : Int) := by rw [a1.1 20 (by omega)]; exact hn
      have ep : pC t e p = pB t e (p + 1) := by unfold pC; rw [if_neg c1, if_pos c2]
      obtain ⟨σ2, b1, b2, b3, b4⟩ := r20_k (d := d) (L := L) (m := m) (q := 4) (x1 := 98) (g := pPr t e) (cl := fun v a => (1, v, [(a.1 : Int), (a.2 : Int)])) h8n (Or.inr (Or.inl rfl)) hn1 (by rw [a1.2 4 (by omega)]; exact hm) hm10 a2 a3 (fun _ _ => ⟨rfl, rfl⟩) (by
        intro q2 hq2
        obtain ⟨σ', y, f1, f2, f3, f4⟩ := r37 (d := d + 17) (L := L) hq2
        refine ⟨σ', y, f1, f2, fun a ha vv => f3 a ha, fun Q => ?_⟩
        rw [b20_93, if_pos (by omega), b20_107, if_neg (by omega), b20_113, f4]
        simp only [am_push_s]
        rw [b20_117])
      rw [tr_F7 a1] at b3
      refine ⟨σ2, FC_t (FC_F7 a1) b1 (Nat.le_refl _), by rw [ep, pB_h]; exact b2, by rw [ep, pB_h]; exact b3, fun Q => ?_⟩
      rw [b20_0, h8, if_pos (by omega), b20_16, if_neg (by omega), b20_22, b20_29, if_neg (by omega), b20_36, if_pos c2, c2]
      exact (a4 Q).trans (b4 Q)
    · by_cases c3 : hh t e p = 108
      · obtain ⟨σ1, v, a1, a2, a3, a4⟩ := r20_h (d := d + 14) (x1 := 108) SX_5 h (by omega)
        have hn1 : σ1 20 0 = (n : Int) := by rw [a1.1 20 (by omega)]; exact hn
        have ep : pC t e p = pK t e (p + 1) := by unfold pC; rw [if_neg c1, if_neg c2, if_pos c3]
        obtain ⟨σ2, b1, b2, b3, b4⟩ := r20_k (d := d) (L := L) (m := m) (q := 5) (x1 := 108) (g := pDig t e 4) (cl := fun v k => (2, v, [(k : Int)])) h8n (Or.inr (Or.inr rfl)) hn1 (by rw [a1.2 4 (by omega)]; exact hm) hm10 a2 a3 (fun _ _ => ⟨rfl, rfl⟩) (by
          intro q2 hq2
          obtain ⟨σ', y, f1, f2, f3, f4⟩ := r39 (d := d + 17) (L := L) hq2 hn1 h8n
          refine ⟨σ', y, f1, f2, fun a ha vv => f3 a ha, fun Q => ?_⟩
          rw [b20_93, if_pos (by omega), b20_107, if_pos (by omega), b20_120, f4]
          simp only [am_push_s])
        rw [tr_F7 a1] at b3
        refine ⟨σ2, FC_t (FC_F7 a1) b1 (Nat.le_refl _), by rw [ep, pK_h]; exact b2, by rw [ep, pK_h]; exact b3, fun Q => ?_⟩
        rw [b20_0, h8, if_pos (by omega), b20_16, if_pos (by omega), b20_27, b20_29, if_neg (by omega), b20_36, if_neg (by omega), b20_42, if_pos c3, c3]
        exact (a4 Q).trans (b4 Q)
      · obtain ⟨σ1, a1, a2, a3⟩ := r21 (d := d + 19) (L := L) h
        have ep : pC t e p = (p, none) := by unfold pC; rw [if_neg c1, if_neg c2, if_neg c3]
        refine ⟨σ1, FC_F7 a1, by rw [ep]; exact a2, by rw [ep]; intro c hc; simp at hc, fun Q => ?_⟩
        rw [b20_0, h8, if_pos (by omega), b20_16, if_pos (by omega), b20_27, b20_29, if_neg (by omega), b20_36, if_neg (by omega), b20_42, if_neg (by omega), b20_48, a3]
        simp only [am_push_n]
        rw [b20_52]
theorem CS_add {n m : Nat} {σ' : St} {T : Nat → Nat → Int} {acc : List Cl} {c : Cl} (h : CS T n σ acc) (hl : acc.length = m) (hf : FC m σ σ') (h4 : σ' 134 4 = ((m + 1 : Nat) : Int)) (h5 : σ' 135 m = clN c ∧ σ' 136 m = (c.2.1 : Int) ∧ σ' 137 m = (clM T n c : Int)) : CS T n σ' (acc ++ [c]) := by
  refine ⟨by rw [h4]; simp; omega, fun i c' hi => ?_⟩
  by_cases q : i < m
  · rw [List.getElem?_append_left (by omega)] at hi
    obtain ⟨x1, x2, x3⟩ := h.2 i c' hi
    obtain ⟨y1, y2, y3⟩ := hf.2.2 i (by omega)
    rw [y1, y2, y3]
    exact ⟨x1, x2, x3⟩
  · rw [List.getElem?_append_right (by omega)] at hi
    have h0 : i - acc.length = 0 := by
      rcases Nat.eq_zero_or_pos (i - acc.length) with q2 | q2
      · exact q2
      · rw [List.getElem?_eq_none (by simp; omega)] at hi
        simp at hi
    rw [h0] at hi
    simp only [List.getElem?_cons_zero, Option.some.injEq] at hi
    subst hi
    obtain rfl : i = m := by omega
    exact h5
def FR (σ σ' : St) : Prop := ∀ a, a < 134 ∨ 137 < a → σ' a = σ a
theorem FR_t {σ' σ'' : St} (h : FR σ σ') (h2 : FR σ' σ'') : FR σ σ'' := fun a ha => (h2 a ha).trans (h a ha)
theorem tr_FR {σ' : St} (h : FR σ σ') : tr σ' = tr σ := by
  unfold tr
  rw [h 27 (by omega)]
theorem r18_l {n : Nat} (h8n : n ≤ 8) : ∀ (g i p : Nat) (acc : List Cl) (σ : St), i + g = 10 → acc.length = i → RO t e r σ p → CS (tr σ) n σ acc → σ 20 0 = (n : Int) → ∃ (σ' : St) (i' : Int), FR σ σ' ∧ RP t e r σ' (pCs t e g acc p) ∧ (∀ l, (pCs t e g acc p).2 = some l → CS (tr σ) n σ' l) ∧ ∀ Q, R (d + 21) 18 50 [vR 134, vR r, vI i] [] (WS L σ) Q = R (d + 21) 18 79 [vR 134, vR r, vI i'] [] (WS L σ') Q := by
  intro g
  induction g with
  | zero =>
    intro i p acc σ hi hl h hc hn
    refine ⟨σ, i, fun _ _ => rfl, h, ?_, fun Q => ?_⟩
    · intro l hl
      simp only [pCs, Option.some.injEq] at hl
      subst hl
      exact hc
    · rw [b18_50, if_pos (by omega)]
  | succ g ih =>
    intro i p acc σ hi hl h hc hn
    have h8 := h.2.2.2.1
    by_cases c : hh t e p = 59
    · have ep : pCs t e (g + 1) acc p = pb (pC t e (p + 1)) (fun q c => pCs t e g (acc ++ [c]) q) := by rw [pCs, if_pos c]
      obtain ⟨σ1, a1, a2, a3⟩ := r19o (d := d + 20) (L := L) h (by omega)
      have hn1 : σ1 20 0 = (n : Int) := by rw [a1.1 20 (by omega)]; exact hn
      have hm1 : σ1 134 4 = (i : Int) := by rw [a1.2 4 (by omega), hc.1, hl]
      obtain ⟨σ2, b1, b2, b3, b4⟩ := r20 (d := d) (L := L) h8n hn1 a2 hm1 (by omega)
      have F12 : FR σ σ2 := FR_t (fun a ha => a1.1 a (by omega)) b1.1
      have run : ∀ Q, R (d + 21) 18 50 [vR 134, vR r, vI i] [] (WS L σ) Q = R (d + 21) 18 50 [vR 134, vR r, vI ((i : Int) + 1)] [] (WS L σ2) Q := by
        intro Q
        rw [b18_50, if_neg (by omega), b18_56, h8, if_neg (by omega), b18_65, a3]
        simp only [am_push_n]
        rw [b18_69, b4]
        simp only [am_push_n]
        rw [b18_73 (by omega)]
      rcases hq : pC t e (p + 1) with ⟨q, _ | cv⟩
      · rw [hq, pb_nn] at ep
        rw [hq] at b2
        have b2' : RN t e r σ2 q := b2
        have g8 := b2'.2.2.2.1
        refine ⟨σ2, (i : Int) + 1, F12, by rw [ep]; exact b2, by rw [ep]; intro l hl; simp at hl, fun Q => ?_⟩
        rw [run, b18_50]
        by_cases q10 : (10 : Int) ≤ (i : Int) + 1
        · rw [if_pos q10]
        · rw [if_neg q10, b18_56, g8, if_pos (by omega)]
      · rw [hq, pb_ss] at ep
        rw [hq] at b2 b3
        have b2' : RO t e r σ2 q := b2
        obtain ⟨k1, k2⟩ := b3 cv rfl
        rw [tr_F7 a1] at k2
        have hc1 : CS (tr σ) n σ1 acc := by
          unfold CS
          rw [a1.2 4 (by omega), a1.1 135 (by omega), a1.1 136 (by omega), a1.1 137 (by omega)]
          exact hc
        have hc2 := CS_add hc1 hl b1 k1 k2
        obtain ⟨σ3, i', f1, f2, f3, f4⟩ := ih (i + 1) q (acc ++ [cv]) σ2 (by omega) (by simp; omega) b2' (by rw [tr_FR F12]; exact hc2) (by rw [F12 20 (by omega)]; exact hn)
        rw [tr_FR F12] at f3
        refine ⟨σ3, i', FR_t F12 f1, by rw [ep]; exact f2, by rw [ep]; exact f3, fun Q => ?_⟩
        rw [run]
        exact f4 Q
    · have ep : pCs t e (g + 1) acc p = (p, some acc) := by rw [pCs, if_neg c]
      refine ⟨σ, i, fun _ _ => rfl, by rw [ep]; exact h, ?_, fun Q => ?_⟩
      · rw [ep]
        intro l hl
        simp only [Option.some.injEq] at hl
        subst hl
        exact hc
      · rw [b18_50, if_neg (by omega), b18_56, h8, if_pos c]
def ansY {α : Type} (r : Nat × Option α) : Int := if r.2.isSome then -1 else (r.1 : Int)
theorem r18 {n : Nat} (h8n : n ≤ 8) (hn : σ 20 0 = (n : Int)) (h1 : KD r = 5) (h2 : ∀ L, LN L (r + 1) = 120) (h3 : r + 1 < 134) (h4 : e ≤ 120) (h5 : σ r 1 = (e : Int)) (h6 : ∀ i : Nat, i < e → σ (r + 1) i = t i ∧ 0 ≤ t i ∧ t i < 256) : ∃ σ' : St, FR σ σ' ∧ (∀ l, (pY t e).2 = some l → CS (tr σ) n σ' l) ∧ ∀ Q, R (d + 22) 18 0 [vR 134, vR r, vX 9] [] (WS L σ) Q = Q (some (vI (ansY (pY t e)))) (WS L σ') := by
  have hk := row_ar h1
  let σ0 : St := st2 (st2 (st2 (st2 (st2 σ 134 4 0) 134 9 (-1)) 134 5 ((r + 1 : Nat) : Int)) 134 6 (e : Int)) 134 7 (-1)
  have hσ0 : σ0 = st2 (st2 (st2 (st2 (st2 σ 134 4 0) 134 9 (-1)) 134 5 ((r + 1 : Nat) : Int)) 134 6 (e : Int)) 134 7 (-1) := rfl
  have f0 : ∀ a, a ≠ 134 → σ0 a = σ a := by
    intro a ha
    funext j
    rw [hσ0, st2_k ha, st2_k ha, st2_k ha, st2_k ha, st2_k ha]
  have t0 : TX t e r σ0 := by
    refine ⟨h1, hk, h2, h3, h4, ?_, ?_, ?_⟩
    · rw [f0 (r + 1) (by omega)]
      exact h6
    · rw [hσ0, st2_i (by omega), st2_i (by omega), st2_eq]
    · rw [hσ0, st2_i (by omega), st2_eq]
  have g4 : σ0 134 4 = 0 := by rw [hσ0, st2_i (by omega), st2_i (by omega), st2_i (by omega), st2_i (by omega), st2_eq]
  have g9 : σ0 134 9 = -1 := by rw [hσ0, st2_i (by omega), st2_i (by omega), st2_i (by omega), st2_eq]
  have g7 : σ0 134 7 = -1 := by rw [hσ0, st2_eq]
  obtain ⟨σ1, a1, a2, a3⟩ := r19 (d := d + 21) (L := L) (z := -1) (q := 0) t0 g7 rfl (by omega) g9
  have F1 : FR σ σ1 := fun a ha => (a1.1 a (by omega)).trans (f0 a (by omega))
  have hn1 : σ1 20 0 = (n : Int) := by rw [F1 20 (by omega)]; exact hn
  have hm1 : σ1 134 4 = ((0 : Nat) : Int) := by rw [a1.2 4 (by omega)]; exact g4
  obtain ⟨σ2, b1, b2, b3, b4⟩ := r20 (d := d + 1) (L := L) h8n hn1 a2 hm1 (by omega)
  have F2 : FR σ σ2 := FR_t F1 b1.1
  have e5 : st2 (st2 (st2 σ 134 4 0) 134 9 (-1)) 134 5 ((r + 1 : Nat) : Int) r 1 = (e : Int) := by rw [st2_k (by omega), st2_k (by omega), st2_k (by omega)]; exact h5
  have run : ∀ Q, R (d + 22) 18 0 [vR 134, vR r, vX 9] [] (WS L σ) Q = R (d + 22) 18 50 [vR 134, vR r, vI 1] [] (WS L σ2) Q := by
    intro Q
    rw [b18_0, b18_5, b18_10, b18_19 h1, b18_27 h1, e5, b18_35, b18_40]
    refine (a3 _).trans ?_
    simp only [am_push_n]
    rw [b18_44, b4]
    simp only [am_push_n]
    rw [b18_48]
  have fin : ∀ (σ3 : St) (i' : Int) (q : Nat), RN t e r σ3 q → ∀ Q, R (d + 22) 18 79 [vR 134, vR r, vI i'] [] (WS L σ3) Q = Q (some (vI q)) (WS L σ3) := by
    intro σ3 i' q h Q
    have h' : RN t e r σ3 q := h
    obtain ⟨⟨-, -, -, -, -, -, -, k6⟩, k1, k7, -, k9⟩ := h
    rw [b18_79]
    by_cases c : σ3 134 6 ≤ σ3 134 7
    · rw [if_pos c, b18_94, k9]
    · rw [if_neg c, b18_90, r21n h']
      simp only [am_push_n]
      rw [b18_94, k9]
  rcases hq : pC t e 0 with ⟨q, _ | c⟩
  · have ep : pY t e = (q, none) := by unfold pY; rw [hq, pb_nn, pb_nn]
    rw [hq] at b2
    have b2' : RN t e r σ2 q := b2
    have g8 := b2'.2.2.2.1
    refine ⟨σ2, F2, by rw [ep]; intro l hl; simp at hl, fun Q => ?_⟩
    rw [run, b18_50, if_neg (by omega), b18_56, g8, if_pos (by omega), fin σ2 1 q b2', ep]
    rfl
  · rw [hq] at b2 b3
    have b2' : RO t e r σ2 q := b2
    obtain ⟨k1, k2⟩ := b3 c rfl
    rw [tr_FR F1] at k2
    have hc0 : CS (tr σ) n σ1 [] := ⟨hm1, fun i c hi => by simp at hi⟩
    have hc2 : CS (tr σ) n σ2 [c] := CS_add hc0 rfl b1 k1 k2
    obtain ⟨σ3, i', c1, c2, c3, c4⟩ := r18_l (d := d + 1) (L := L) h8n 9 1 q [c] σ2 (by omega) rfl b2' (by rw [tr_FR F2]; exact hc2) (by rw [F2 20 (by omega)]; exact hn)
    rw [tr_FR F2] at c3
    have F3 : FR σ σ3 := FR_t F2 c1
    rcases hq2 : pCs t e 9 [c] q with ⟨q2, _ | l⟩
    · have ep : pY t e = (q2, none) := by unfold pY; rw [hq, pb_ss, hq2, pb_nn]
      rw [hq2] at c2
      have c2' : RN t e r σ3 q2 := c2
      refine ⟨σ3, F3, by rw [ep]; intro l hl; simp at hl, fun Q => ?_⟩
      rw [run]
      refine (c4 Q).trans ?_
      rw [fin σ3 i' q2 c2', ep]
      rfl
    · have ep : pY t e = if q2 < e then (q2, none) else (q2, some l) := by unfold pY; rw [hq, pb_ss, hq2, pb_ss]
      rw [hq2] at c2 c3
      have c2' : RO t e r σ3 q2 := c2
      have k7 := c2'.2.2.1
      have k6 := c2'.1.2.2.2.2.2.2.2
      by_cases c : q2 < e
      · rw [if_pos c] at ep
        obtain ⟨σ4, f1, f2, f3⟩ := r21 (d := d + 21) (L := L) c2'
        refine ⟨σ4, FR_t F3 (fun a ha => f1.1 a (by omega)), by rw [ep]; intro l hl; simp at hl, fun Q => ?_⟩
        rw [run]
        refine (c4 Q).trans ?_
        rw [b18_79, if_neg (by omega), b18_90, f3]
        simp only [am_push_n]
        rw [b18_94, f2.2.2.2.2, ep]
        rfl
      · rw [if_neg c] at ep
        refine ⟨σ3, F3, ?_, fun Q => ?_⟩
        · rw [ep]
          exact c3
        · rw [run]
          refine (c4 Q).trans ?_
          rw [b18_79, if_pos (by omega), b18_94, c2'.2.2.2.2, ep]
          rfl
theorem r18n : R d 18 0 [vR 134, vX 0, vX 9] [] (WS L σ) Q = Q (some (vI (-1))) (WS L (st2 (st2 σ 134 4 0) 134 9 (-1))) := by
  rw [b18_0n, b18_5n, b18_10n, b18_14n, st2_eq]
end R3
section PQ
variable {t : Nat → Int} {e : Nat}
/-- a clause as it may be; how many steps it leaves -/
def CG (c : Cl) : Prop := c.2.1 ≤ 99 ∧ (c.1 = 0 ∧ (∃ m, GS c.2.2 m ∧ m ≤ 120) ∨ c.1 = 1 ∧ (∃ a b : Nat, a < 8 ∧ b < 8 ∧ c.2.2 = [(a : Int), (b : Int)]) ∨ c.1 = 2 ∧ ∃ k : Nat, k < 4 ∧ c.2.2 = [(k : Int)])
def nSt (c : Cl) : Nat := if c.1 = 0 then c.2.2.length + 1 else 0
theorem pW_s : ∀ (l : List Int) (p q : Nat) (u : Unit), pW t e l p = (q, some u) → q = p + l.length
  | [], p, q, u, h => by
    simp only [pW, Prod.mk.injEq] at h
    simp [h.1]
  | c :: l, p, q, u, h => by
    rw [pW] at h
    split at h
    · have := pW_s l (p + 1) q u h
      simp
      omega
    · simp at h
theorem pH_s {bs : List Int} {p q v : Nat} (h : pH t e bs p = (q, some v)) : v ≤ 99 ∧ p + bs.length + 2 ≤ q := by
  unfold pH at h
  obtain ⟨q1, u, h1, h2⟩ := pb_some h
  obtain ⟨q2, v2, h3, h4⟩ := pb_some h2
  obtain ⟨q3, u3, h5, h6⟩ := pb_some h4
  have e1 := pW_s _ _ _ _ h1
  have e2 := pNum_v h3
  have e3 := pW_s _ _ _ _ h5
  simp only [Prod.mk.injEq, Option.some.injEq] at h6
  simp only [List.length_cons, List.length_nil] at e3
  omega
theorem pC_G {p q : Nat} {c : Cl} (he : e ≤ 120) (hp : p ≤ e) (h : pC t e p = (q, some c)) : CG c ∧ p + nSt c ≤ q := by
  have hok := pC_ok (t := t) hp
  rw [h] at hok
  have hq : q ≤ e := hok.2
  unfold pC at h
  split at h
  · rw [pM_h] at h
    obtain ⟨q1, v, h1, h2⟩ := pb_some h
    obtain ⟨q2, st, h3, h4⟩ := pb_some h2
    have e1 := pH_s h1
    obtain ⟨g1, g2⟩ := pE_G (fun p q st => pF_G 5 p q st) h3
    simp only [Prod.mk.injEq, Option.some.injEq] at h4
    obtain ⟨rfl, rfl⟩ := h4
    have gl := g2.2.2.2.1
    refine ⟨⟨e1.1, Or.inl ⟨rfl, _, g2, by omega⟩⟩, ?_⟩
    show p + (st.length + 1) ≤ q2
    omega
  · split at h
    · rw [pB_h] at h
      obtain ⟨q1, v, h1, h2⟩ := pb_some h
      obtain ⟨q2, ab, h3, h4⟩ := pb_some h2
      have e1 := pH_s h1
      simp only [Prod.mk.injEq, Option.some.injEq] at h4
      obtain ⟨rfl, rfl⟩ := h4
      unfold pPr at h3
      obtain ⟨q3, a, h5, h6⟩ := pb_some h3
      obtain ⟨q4, u, h7, h8⟩ := pb_some h6
      obtain ⟨q5, b, h9, h10⟩ := pb_some h8
      simp only [Prod.mk.injEq, Option.some.injEq] at h10
      obtain ⟨rfl, rfl⟩ := h10
      refine ⟨⟨e1.1, Or.inr (Or.inl ⟨rfl, a, b, pDig_v h5, pDig_v h9, rfl⟩)⟩, ?_⟩
      exact hok.1
    · split at h
      · rw [pK_h] at h
        obtain ⟨q1, v, h1, h2⟩ := pb_some h
        obtain ⟨q2, k, h3, h4⟩ := pb_some h2
        have e1 := pH_s h1
        simp only [Prod.mk.injEq, Option.some.injEq] at h4
        obtain ⟨rfl, rfl⟩ := h4
        exact ⟨⟨e1.1, Or.inr (Or.inr ⟨rfl, k, pDig_v h3, rfl⟩)⟩, hok.1⟩
      · simp at h
def nSts : List Cl → Nat
  | [] => 0
  | c :: l => nSt c + nSts l
theorem nSts_app : ∀ (l l' : List Cl), nSts (l ++ l') = nSts l + nSts l'
  | [], l' => by simp [nSts]
  | c :: l, l' => by
    show nSts (c :: (l ++ l')) = _
    rw [nSts, nSts, nSts_app l l']
    omega
theorem pCs_G (he : e ≤ 120) : ∀ (g : Nat) (acc : List Cl) (p q : Nat) (l : List Cl), p ≤ e → nSts acc ≤ p → (∀ c, c ∈ acc → CG c) → pCs t e g acc p = (q, some l) → nSts l ≤ q ∧ q ≤ e ∧ (∀ c, c ∈ l → CG c) ∧ l.length ≤ acc.length + g
  | 0, acc, p, q, l, hp, hn, hc, h => by
    simp only [pCs, Prod.mk.injEq, Option.some.injEq] at h
    obtain ⟨rfl, rfl⟩ := h
    exact ⟨hn, hp, hc, by omega⟩
  | g + 1, acc, p, q, l, hp, hn, hc, h => by
    rw [pCs] at h
    split at h
    · rename_i h59
      have hlt := hh_lt h59 (by omega)
      obtain ⟨q1, c, h1, h2⟩ := pb_some h
      have hok := pC_ok (t := t) (p := p + 1) (e := e) (by omega)
      rw [h1] at hok
      obtain ⟨k1, k2⟩ := pC_G he (by omega) h1
      obtain ⟨r1, r2, r3, r4⟩ := pCs_G he g (acc ++ [c]) q1 q l hok.2 (by rw [nSts_app]; simp only [nSts]; omega) (by
        intro c' hc'
        rw [List.mem_append, List.mem_singleton] at hc'
        rcases hc' with hc' | rfl
        · exact hc c' hc'
        · exact k1) h2
      exact ⟨r1, r2, r3, by simp at r4; omega⟩
    · simp only [Prod.mk.injEq, Option.some.injEq] at h
      obtain ⟨rfl, rfl⟩ := h
      exact ⟨hn, hp, hc, by omega⟩
theorem pY_G {q : Nat} {l : List Cl} (he : e ≤ 120) (h : pY t e = (q, some l)) : nSts l ≤ 120 ∧ (∀ c, c ∈ l → CG c) ∧ l.length ≤ 10 := by
  unfold pY at h
  obtain ⟨q1, l1, h1, h2⟩ := pb_some h
  obtain ⟨q2, c, h3, h4⟩ := pb_some h1
  have hok := pC_ok (t := t) (p := 0) (e := e) (by omega)
  rw [h3] at hok
  obtain ⟨k1, k2⟩ := pC_G he (by omega) h3
  obtain ⟨r1, r2, r3, r4⟩ := pCs_G he 9 [c] q2 q1 l1 hok.2 (by simp only [nSts]; omega) (by
    intro c' hc'
    rw [List.mem_singleton] at hc'
    subst hc'
    exact k1) h4
  split at h2
  · simp at h2
  · simp only [Prod.mk.injEq, Option.some.injEq] at h2
    obtain ⟨rfl, rfl⟩ := h2
    exact ⟨by omega, r3, by simp at r4; omega⟩
end PQ
