/-! the reference's array s; the wall of the class at b beside it -/
def up (s : Int → Int) (i z : Int) : Int → Int := fun j => if j = i then z else s j
theorem up_e {s : Int → Int} {i z : Int} : up s i z i = z := if_pos rfl
theorem up_o {s : Int → Int} {i j z : Int} (h : j ≠ i) : up s i z j = s j := if_neg h
def nS (s : Int → Int) : Nat := (s 0).toNat
def trS (s : Int → Int) (k b : Nat) : Int := if k = 0 then s (130 + b) else if k = 1 then s (138 + b) else if k = 2 then (if s (146 + b) = -1 then 9 else s (146 + b)) else (b : Int)
def sdS (s : Int → Int) (c : Nat) : Nat := bits (fun b => decide (s (203 + b) = c)) (nS s)
def clS (s : Int → Int) (cl : Nat → List Cl) (c : Nat) : List Cl := if s (154 + c) < 0 then [] else cl (s (154 + c)).toNat
def Wr (s : Int → Int) (cl : Nat → List Cl) (c x : Nat) : Int := wV (trS s) (nS s) (clS s cl c) x
/-- what of a yard's clauses stands in the array -/
def eB : List Cl → List (Int × Int × Int)
  | [] => []
  | c :: l => if c.1 = 1 then ((c.2.1 : Int), c.2.2.getD 0 0, c.2.2.getD 1 0) :: eB l else eB l
def eK : List Cl → List (Int × Int)
  | [] => []
  | c :: l => if c.1 = 2 then ((c.2.1 : Int), c.2.2.getD 0 0) :: eK l else eK l
def eS : List Cl → List Int
  | [] => []
  | c :: l => if c.1 = 0 then c.2.2 ++ ((-10 - (c.2.1 : Int)) :: eS l) else eS l
def ENC (s : Int → Int) (y : Nat) (cls : List Cl) : Prop :=
  s (211 + y) = ((eB cls).length : Int) ∧ (∀ (i : Nat) (x : Int × Int × Int), (eB cls)[i]? = some x → s (217 + 30 * y + 3 * i) = x.1 ∧ s (218 + 30 * y + 3 * i) = x.2.1 ∧ s (219 + 30 * y + 3 * i) = x.2.2) ∧
  s (397 + y) = ((eK cls).length : Int) ∧ (∀ (i : Nat) (x : Int × Int), (eK cls)[i]? = some x → s (403 + 20 * y + 2 * i) = x.1 ∧ s (404 + 20 * y + 2 * i) = x.2) ∧
  s (523 + y) = ((eS cls).length : Int) ∧ (∀ (i : Nat) (x : Int), (eS cls)[i]? = some x → s (529 + 140 * y + i) = x)
def YG (cls : List Cl) : Prop := nSts cls ≤ 120 ∧ (∀ c, c ∈ cls → CG c) ∧ cls.length ≤ 10
def W0 (s : Int → Int) : Prop := (0 ≤ s 0 ∧ s 0 ≤ 8) ∧ (0 ≤ s 1 ∧ s 1 ≤ 6) ∧ (s 2 = 2 ∨ s 2 = 3) ∧ (0 ≤ s 3 ∧ s 3 ≤ 12) ∧ (0 ≤ s 4 ∧ s 4 ≤ 3) ∧ (0 ≤ s 5 ∧ s 5 ≤ 8) ∧ (0 ≤ s 6 ∧ s 6 ≤ 8) ∧ (0 ≤ s 7 ∧ s 7 ≤ 120)
def W1 (s : Int → Int) : Prop := ∀ i : Nat, (i : Int) < s 7 → 0 ≤ s (10 + i) ∧ s (10 + i) < 256
def W2 (s : Int → Int) : Prop := ∀ i : Nat, (i : Int) < s 5 → 0 ≤ s (187 + i) ∧ s (187 + i) < 3
def W3 (s : Int → Int) : Prop := ∀ i : Nat, (i : Int) < s 6 → 0 ≤ s (195 + i) ∧ s (195 + i) < 8
def W4 (s : Int → Int) : Prop := ∀ b : Nat, (b : Int) < s 0 → (0 ≤ s (130 + b) ∧ s (130 + b) < 4) ∧ (0 ≤ s (138 + b) ∧ s (138 + b) ≤ 20) ∧ (-1 ≤ s (146 + b) ∧ s (146 + b) < 3) ∧ (-1 ≤ s (203 + b) ∧ s (203 + b) < s 2)
def W5 (s : Int → Int) : Prop := ∀ c : Nat, c < 3 → (-1 ≤ s (154 + c) ∧ s (154 + c) < s 1) ∧ (0 ≤ s (157 + c) ∧ s (157 + c) ≤ 6)
def W6 (s : Int → Int) : Prop := ∀ c : Nat, c < 3 → (0 ≤ s (160 + c) ∧ s (160 + c) ≤ 8) ∧ ∀ k : Nat, (k : Int) < s (160 + c) → 0 ≤ s (163 + 8 * c + k) ∧ s (163 + 8 * c + k) < 8
def W8 (s : Int → Int) (cl : Nat → List Cl) : Prop := ∀ y : Nat, (y : Int) < s 1 → YG (cl y) ∧ ENC s y (cl y)
def W9 (s : Int → Int) : Prop := ∀ k : Nat, (k : Int) < s 3 → (1 ≤ s (1369 + k) ∧ s (1369 + k) ≤ s 0) ∧ (∀ t : Nat, (t : Int) < s (1369 + k) → (0 ≤ s (1381 + 8 * k + t) ∧ s (1381 + 8 * k + t) < s 0) ∧ (0 ≤ s (1477 + 8 * k + t) ∧ s (1477 + 8 * k + t) < 3)) ∧ ∀ t t' : Nat, (t : Int) < s (1369 + k) → (t' : Int) < s (1369 + k) → s (1381 + 8 * k + t) = s (1381 + 8 * k + t') → t = t'
def WF (s : Int → Int) (cl : Nat → List Cl) : Prop := W0 s ∧ W1 s ∧ W2 s ∧ W3 s ∧ W4 s ∧ W5 s ∧ W6 s ∧ W8 s cl ∧ W9 s
def C0 (b : Nat) (s : Int → Int) (σ : St) : Prop := σ b 0 = s 0 ∧ σ b 1 = s 2 ∧ σ b 2 = s 1 ∧ σ b 3 = s 4 ∧ σ b 4 = s 3
def C1 (b : Nat) (s : Int → Int) (σ : St) : Prop := σ (b + 1) 1 = s 7 ∧ ∀ i : Nat, (i : Int) < s 7 → σ (b + 2) i = s (10 + i)
def C2 (b : Nat) (s : Int → Int) (σ : St) : Prop := σ (b + 3) 1 = s 5 ∧ ∀ i : Nat, (i : Int) < s 5 → σ (b + 4) i = s (187 + i)
def C3 (b : Nat) (s : Int → Int) (σ : St) : Prop := σ (b + 5) 1 = s 6 ∧ ∀ i : Nat, (i : Int) < s 6 → σ (b + 6) i = s (195 + i)
def C4 (b : Nat) (s : Int → Int) (σ : St) : Prop := ∀ q k : Nat, (q : Int) < s 0 → k < 4 → σ (b + 7) ((q : Int) * 4 + k) = trS s k q
def C5 (b : Nat) (s : Int → Int) (σ : St) : Prop := ∀ c : Nat, c < 3 → σ (b + 8) c = s (154 + c) ∧ σ (b + 9) c = s (157 + c) ∧ σ (b + 10) c = (sdS s c : Int)
def C6 (b : Nat) (s : Int → Int) (σ : St) : Prop := ∀ c : Nat, c < 3 → σ (b + 26 + 2 * c) 1 = s (160 + c) ∧ ∀ k : Nat, (k : Int) < s (160 + c) → σ (b + 27 + 2 * c) k = s (163 + 8 * c + k)
def C7 (b : Nat) (s : Int → Int) (cl : Nat → List Cl) (σ : St) : Prop := ∀ c x : Nat, c < 3 → x < 2 ^ nS s → σ (b + 11) ((c : Int) * 256 + x) = Wr s cl c x
def C8 (b : Nat) (s : Int → Int) (cl : Nat → List Cl) (σ : St) : Prop := ∀ y : Nat, (y : Int) < s 1 → YT b σ y (cl y)
def C9 (b : Nat) (s : Int → Int) (σ : St) : Prop := (∀ k : Nat, k < 12 → 0 ≤ σ (b + 33 + 2 * k) 1 ∧ σ (b + 33 + 2 * k) 1 ≤ 8) ∧ ∀ k : Nat, (k : Int) < s 3 → σ (b + 33 + 2 * k) 1 = s (1369 + k) ∧ ∀ t : Nat, (t : Int) < s (1369 + k) → σ (b + 34 + 2 * k) t = 8 * s (1477 + 8 * k + t) + s (1381 + 8 * k + t)
def CR (b : Nat) (s : Int → Int) (cl : Nat → List Cl) (σ : St) : Prop := C0 b s σ ∧ C1 b s σ ∧ C2 b s σ ∧ C3 b s σ ∧ C4 b s σ ∧ C5 b s σ ∧ C6 b s σ ∧ C7 b s cl σ ∧ C8 b s cl σ ∧ C9 b s σ
section RL
variable {b : Nat} {s s' : Int → Int} {cl cl' : Nat → List Cl} {σ σ' : St}
theorem trS_fr {k q : Nat} (h : ∀ j : Int, j = 130 + q ∨ j = 138 + q ∨ j = 146 + q → s' j = s j) : trS s' k q = trS s k q := by
  unfold trS
  rw [h (130 + q) (by omega), h (138 + q) (by omega), h (146 + q) (by omega)]
theorem sdS_fr {c : Nat} (h0 : s' 0 = s 0) (h : ∀ q : Nat, (q : Int) < s 0 → s' (203 + q) = s (203 + q)) : sdS s' c = sdS s c := by
  unfold sdS nS
  rw [h0]
  exact bits_congr (fun i hi => by rw [h i (by omega)])
theorem W1_fr (h : W1 s) (h1 : s' 7 = s 7) (h2 : ∀ j : Int, 10 ≤ j → j < 130 → s' j = s j) (h0 : s 7 ≤ 120) : W1 s' := by
  intro i hi
  rw [h2 _ (by omega) (by omega)]
  exact h i (by omega)
theorem W2_fr (h : W2 s) (h1 : s' 5 = s 5) (h2 : ∀ j : Int, 187 ≤ j → j < 195 → s' j = s j) (h0 : s 5 ≤ 8) : W2 s' := by
  intro i hi
  rw [h2 _ (by omega) (by omega)]
  exact h i (by omega)
theorem W3_fr (h : W3 s) (h1 : s' 6 = s 6) (h2 : ∀ j : Int, 195 ≤ j → j < 203 → s' j = s j) (h0 : s 6 ≤ 8) : W3 s' := by
  intro i hi
  rw [h2 _ (by omega) (by omega)]
  exact h i (by omega)
theorem W5_fr (h : W5 s) (h1 : s 1 ≤ s' 1) (h2 : ∀ j : Int, 154 ≤ j → j < 160 → s' j = s j) : W5 s' := by
  intro c hc
  rw [h2 (154 + c) (by omega) (by omega), h2 (157 + c) (by omega) (by omega)]
  have := h c hc
  omega
theorem W6_fr (h : W6 s) (h2 : ∀ j : Int, 160 ≤ j → j < 187 → s' j = s j) : W6 s' := by
  intro c hc
  rw [h2 _ (by omega) (by omega)]
  refine ⟨(h c hc).1, fun k hk => ?_⟩
  have := (h c hc).1
  rw [h2 _ (by omega) (by omega)]
  exact (h c hc).2 k hk
theorem nSt_len {cls : List Cl} : (eS cls).length = nSts cls := by
  induction cls with
  | nil => rfl
  | cons c l ih =>
    rw [eS, nSts]
    unfold nSt
    split
    · simp
      omega
    · omega
theorem eB_len {cls : List Cl} : (eB cls).length ≤ cls.length := by
  induction cls with
  | nil => exact Nat.le_refl _
  | cons c l ih =>
    rw [eB]
    split <;> simp <;> omega
theorem eK_len {cls : List Cl} : (eK cls).length ≤ cls.length := by
  induction cls with
  | nil => exact Nat.le_refl _
  | cons c l ih =>
    rw [eK]
    split <;> simp <;> omega
theorem lt_of_some {α : Type} {l : List α} {i : Nat} {x : α} (h : l[i]? = some x) : i < l.length := (List.getElem?_eq_some_iff.mp h).1
theorem ENC_fr {y : Nat} {cls : List Cl} (h : ENC s y cls) (hg : YG cls) (h1 : s' (211 + y) = s (211 + y)) (h2 : s' (397 + y) = s (397 + y)) (h3 : s' (523 + y) = s (523 + y)) (h4 : ∀ j : Int, 217 + 30 * y ≤ j → j < 247 + 30 * y → s' j = s j) (h5 : ∀ j : Int, 403 + 20 * y ≤ j → j < 423 + 20 * y → s' j = s j) (h6 : ∀ j : Int, 529 + 140 * y ≤ j → j < 669 + 140 * y → s' j = s j) : ENC s' y cls := by
  obtain ⟨e1, e2, e3, e4, e5, e6⟩ := h
  have l1 := eB_len (cls := cls)
  have l2 := eK_len (cls := cls)
  have l3 := nSt_len (cls := cls)
  obtain ⟨g1, g2, g3⟩ := hg
  refine ⟨by rw [h1]; exact e1, fun i x hx => ?_, by rw [h2]; exact e3, fun i x hx => ?_, by rw [h3]; exact e5, fun i x hx => ?_⟩
  · have := lt_of_some hx
    rw [h4 _ (by omega) (by omega), h4 _ (by omega) (by omega), h4 _ (by omega) (by omega)]
    exact e2 i x hx
  · have := lt_of_some hx
    rw [h5 _ (by omega) (by omega), h5 _ (by omega) (by omega)]
    exact e4 i x hx
  · have := lt_of_some hx
    rw [h6 _ (by omega) (by omega)]
    exact e6 i x hx
theorem W8_fr (h : W8 s cl) (h1 : s' 1 = s 1) (h0 : s 1 ≤ 6) (h2 : ∀ j : Int, 211 ≤ j → j < 1369 → s' j = s j) : W8 s' cl := by
  intro y hy
  obtain ⟨g, e⟩ := h y (by omega)
  refine ⟨g, ENC_fr e g (h2 _ (by omega) (by omega)) (h2 _ (by omega) (by omega)) (h2 _ (by omega) (by omega)) (fun j a b => h2 j (by omega) (by omega)) (fun j a b => h2 j (by omega) (by omega)) (fun j a b => h2 j (by omega) (by omega))⟩
theorem W9_fr (h : W9 s) (h3 : s' 3 = s 3) (h0 : s 0 ≤ s' 0) (hb : s 3 ≤ 12) (hb0 : s 0 ≤ 8) (h2 : ∀ j : Int, 1369 ≤ j → j < 1573 → s' j = s j) : W9 s' := by
  intro k hk
  obtain ⟨x1, x2, x3⟩ := h k (by omega)
  rw [h2 (1369 + k) (by omega) (by omega)]
  refine ⟨by omega, fun t ht => ?_, fun t t' ht ht' => ?_⟩
  · rw [h2 (1381 + 8 * k + t) (by omega) (by omega), h2 (1477 + 8 * k + t) (by omega) (by omega)]
    have := x2 t ht
    omega
  · rw [h2 _ (by omega) (by omega), h2 _ (by omega) (by omega)]
    exact x3 t t' ht ht'
theorem C1_fr (h : C1 b s σ) (g1 : σ' (b + 1) = σ (b + 1)) (g2 : σ' (b + 2) = σ (b + 2)) (h1 : s' 7 = s 7) (h2 : ∀ j : Int, 10 ≤ j → j < 130 → s' j = s j) (h0 : s 7 ≤ 120) : C1 b s' σ' := by
  refine ⟨by rw [g1, h1]; exact h.1, fun i hi => ?_⟩
  rw [g2, h2 _ (by omega) (by omega)]
  exact h.2 i (by omega)
theorem C2_fr (h : C2 b s σ) (g1 : σ' (b + 3) = σ (b + 3)) (g2 : σ' (b + 4) = σ (b + 4)) (h1 : s' 5 = s 5) (h2 : ∀ j : Int, 187 ≤ j → j < 195 → s' j = s j) (h0 : s 5 ≤ 8) : C2 b s' σ' := by
  refine ⟨by rw [g1, h1]; exact h.1, fun i hi => ?_⟩
  rw [g2, h2 _ (by omega) (by omega)]
  exact h.2 i (by omega)
theorem C3_fr (h : C3 b s σ) (g1 : σ' (b + 5) = σ (b + 5)) (g2 : σ' (b + 6) = σ (b + 6)) (h1 : s' 6 = s 6) (h2 : ∀ j : Int, 195 ≤ j → j < 203 → s' j = s j) (h0 : s 6 ≤ 8) : C3 b s' σ' := by
  refine ⟨by rw [g1, h1]; exact h.1, fun i hi => ?_⟩
  rw [g2, h2 _ (by omega) (by omega)]
  exact h.2 i (by omega)
theorem C4_fr (h : C4 b s σ) (g1 : σ' (b + 7) = σ (b + 7)) (h1 : s' 0 = s 0) (h0 : s 0 ≤ 8) (h2 : ∀ j : Int, 130 ≤ j → j < 154 → s' j = s j) : C4 b s' σ' := by
  intro q k hq hk
  rw [g1, trS_fr (fun j hj => h2 j (by omega) (by omega))]
  exact h q k (by omega) hk
theorem C6_fr (h : C6 b s σ) (hw : W6 s) (g1 : ∀ a, b + 26 ≤ a → a < b + 32 → σ' a = σ a) (h2 : ∀ j : Int, 160 ≤ j → j < 187 → s' j = s j) : C6 b s' σ' := by
  intro c hc
  have hb := (hw c hc).1
  rw [g1 _ (by omega) (by omega), g1 _ (by omega) (by omega), h2 _ (by omega) (by omega)]
  refine ⟨(h c hc).1, fun k hk => ?_⟩
  rw [h2 _ (by omega) (by omega)]
  exact (h c hc).2 k hk
theorem YT_fr {y : Nat} {cls : List Cl} (h : YT b σ y cls) (g1 : σ' (b + 13 + 2 * y) = σ (b + 13 + 2 * y)) (g2 : σ' (b + 14 + 2 * y) = σ (b + 14 + 2 * y)) : YT b σ' y cls := by
  unfold YT at *
  rw [g1, g2]
  exact h
theorem C8_fr (h : C8 b s cl σ) (g1 : ∀ a, b + 13 ≤ a → a < b + 25 → σ' a = σ a) (h1 : s' 1 = s 1) (h0 : s 1 ≤ 6) : C8 b s' cl σ' := by
  intro y hy
  exact YT_fr (h y (by omega)) (g1 _ (by omega) (by omega)) (g1 _ (by omega) (by omega))
theorem C9_fr (h : C9 b s σ) (hw : W9 s) (hb0 : s 0 ≤ 8) (g1 : ∀ a, b + 33 ≤ a → a < b + 57 → σ' a = σ a) (h3 : s' 3 = s 3) (hb : s 3 ≤ 12) (h2 : ∀ j : Int, 1369 ≤ j → j < 1573 → s' j = s j) : C9 b s' σ' := by
  refine ⟨fun k hk => by rw [g1 _ (by omega) (by omega)]; exact h.1 k hk, fun k hk => ?_⟩
  obtain ⟨x1, x2, x3⟩ := hw k (by omega)
  rw [g1 _ (by omega) (by omega), g1 _ (by omega) (by omega), h2 (1369 + k) (by omega) (by omega)]
  refine ⟨(h.2 k (by omega)).1, fun t ht => ?_⟩
  rw [h2 _ (by omega) (by omega), h2 _ (by omega) (by omega)]
  exact (h.2 k (by omega)).2 t ht
theorem CR_fr (h : CR b s cl σ) (g0 : ∀ j : Int, j < 5 → σ' b j = σ b j) (g1 : ∀ a, b < a → a < b + 57 → σ' a = σ a) (h1 : 0 ≤ s 1 ∧ s 1 ≤ 6) (h3 : s 3 ≤ 12) : CR b s cl σ' := by
  obtain ⟨c0, c1, c2, c3, c4, c5, c6, c7, c8, c9⟩ := h
  refine ⟨?_, ?_, ?_, ?_, ?_, ?_, ?_, ?_, ?_, ?_⟩
  · unfold C0
    rw [g0 0 (by omega), g0 1 (by omega), g0 2 (by omega), g0 3 (by omega), g0 4 (by omega)]
    exact c0
  · unfold C1
    rw [g1 (b + 1) (by omega) (by omega), g1 (b + 2) (by omega) (by omega)]
    exact c1
  · unfold C2
    rw [g1 (b + 3) (by omega) (by omega), g1 (b + 4) (by omega) (by omega)]
    exact c2
  · unfold C3
    rw [g1 (b + 5) (by omega) (by omega), g1 (b + 6) (by omega) (by omega)]
    exact c3
  · unfold C4
    rw [g1 (b + 7) (by omega) (by omega)]
    exact c4
  · unfold C5
    rw [g1 (b + 8) (by omega) (by omega), g1 (b + 9) (by omega) (by omega), g1 (b + 10) (by omega) (by omega)]
    exact c5
  · intro c hc
    rw [g1 _ (by omega) (by omega), g1 _ (by omega) (by omega)]
    exact c6 c hc
  · unfold C7
    rw [g1 (b + 11) (by omega) (by omega)]
    exact c7
  · exact C8_fr c8 (fun a x y => g1 a (by omega) (by omega)) rfl h1.2
  · refine ⟨fun k hk => by rw [g1 _ (by omega) (by omega)]; exact c9.1 k hk, fun k hk => ?_⟩
    rw [g1 _ (by omega) (by omega), g1 _ (by omega) (by omega)]
    exact c9.2 k hk
/-! worths depend on the traits of the boys alone -/
theorem evS_congr {f g : Int → Bool} : ∀ (l : List Int) (st : List Bool), (∀ x, f x = g x) → evS f l st = evS g l st
  | [], _, _ => rfl
  | x :: l, st, h => by
    rw [evS, evS, evS_congr l _ h]
    congr 1
    unfold ev1
    rw [h x]
theorem mkE_congr {T T' : Nat → Nat → Int} {n : Nat} {st : List Int} (h : ∀ k q, k < 4 → q < n → T k q = T' k q) : mkE T n st = mkE T' n st := by
  unfold mkE
  refine bits_congr (fun q hq => ?_)
  unfold evT
  rw [evS_congr (g := tsT T' q)]
  intro x
  unfold tsT
  rw [h _ q (Nat.mod_lt _ (by omega)) hq]
theorem clM_congr {T T' : Nat → Nat → Int} {n : Nat} {c : Cl} (h : ∀ k q, k < 4 → q < n → T k q = T' k q) : clM T n c = clM T' n c := by
  unfold clM
  rw [mkE_congr h, bits_congr (fun q hq => by rw [h 0 q (by omega) hq])]
theorem sumCl_congr {T T' : Nat → Nat → Int} {n x : Nat} (h : ∀ k q, k < 4 → q < n → T k q = T' k q) : ∀ l : List Cl, sumCl T n x l = sumCl T' n x l
  | [] => rfl
  | c :: l => by
    rw [sumCl, sumCl, sumCl_congr h l]
    unfold clV
    rw [clM_congr h]
theorem wV_congr {T T' : Nat → Nat → Int} {n x : Nat} {l : List Cl} (h : ∀ k q, k < 4 → q < n → T k q = T' k q) : wV T n l x = wV T' n l x := by
  unfold wV strT
  rw [sumCl_congr h, sumN_congr (fun i hi => by rw [h 1 i (by omega) hi])]
theorem Wr_fr {c x : Nat} (h0 : s' 0 = s 0) (hc : s' (154 + c) = s (154 + c)) (hcl : cl' (s (154 + c)).toNat = cl (s (154 + c)).toNat ∨ s (154 + c) < 0) (h : ∀ j : Int, 130 ≤ j → j < 154 → s' j = s j) (hb : s 0 ≤ 8) : Wr s' cl' c x = Wr s cl c x := by
  unfold Wr clS nS
  rw [h0, hc]
  have e : (if s (154 + c) < 0 then [] else cl' (s (154 + c)).toNat) = if s (154 + c) < 0 then [] else cl (s (154 + c)).toNat := by
    split
    · rfl
    · rcases hcl with q | q
      · exact q
      · omega
  rw [e]
  exact wV_congr (fun k q _ hq => trS_fr (fun j hj => h j (by omega) (by omega)))
theorem C7_fr (h : C7 b s cl σ) (g1 : σ' (b + 11) = σ (b + 11)) (h0 : s' 0 = s 0) (hb : s 0 ≤ 8) (h2 : ∀ j : Int, 130 ≤ j → j < 157 → s' j = s j) : C7 b s' cl σ' := by
  intro c x hc hx
  have hn : nS s' = nS s := by unfold nS; rw [h0]
  rw [hn] at hx
  rw [g1, Wr_fr h0 (h2 _ (by omega) (by omega)) (Or.inl rfl) (fun j a b => h2 j a (by omega)) hb]
  exact h c x hc hx
theorem C5_fr (h : C5 b s σ) (g1 : σ' (b + 8) = σ (b + 8)) (g2 : σ' (b + 9) = σ (b + 9)) (g3 : σ' (b + 10) = σ (b + 10)) (h0 : s' 0 = s 0) (hb : s 0 ≤ 8) (h2 : ∀ j : Int, 154 ≤ j → j < 160 → s' j = s j) (h3 : ∀ j : Int, 203 ≤ j → j < 211 → s' j = s j) : C5 b s' σ' := by
  intro c hc
  rw [g1, g2, g3, h2 _ (by omega) (by omega), h2 _ (by omega) (by omega), sdS_fr h0 (fun q hq => h3 _ (by omega) (by omega))]
  exact h c hc
theorem W4_fr (h : W4 s) (h0 : s' 0 = s 0) (hb : s 0 ≤ 8) (h2 : s' 2 = s 2) (h3 : ∀ j : Int, 130 ≤ j → j < 154 → s' j = s j) (h4 : ∀ j : Int, 203 ≤ j → j < 211 → s' j = s j) : W4 s' := by
  intro q hq
  rw [h2, h3 _ (by omega) (by omega), h3 _ (by omega) (by omega), h3 _ (by omega) (by omega), h4 _ (by omega) (by omega)]
  exact h q (by omega)
/-- the class's own words of the wall, out of the array -/
theorem sdS_lt {c : Nat} : sdS s c < 2 ^ nS s := bits_lt _ _
theorem sdS_tb {c q : Nat} : (sdS s c).testBit q = (decide (q < nS s) && decide (s (203 + q) = c)) := bits_test _ _ _
theorem Wr_b (hw : WF s cl) {c x : Nat} (hc : c < 3) : -8000 < Wr s cl c x ∧ Wr s cl c x < 9000 := by
  obtain ⟨w0, -, -, -, w4, w5, -, w8, -⟩ := hw
  unfold W0 at w0
  have hn : nS s ≤ 8 := by unfold nS; omega
  have ht : ∀ b, b < nS s → 0 ≤ trS s 1 b ∧ trS s 1 b ≤ 20 := by
    intro b hb
    unfold nS at hb
    exact (w4 b (by omega)).2.1
  have h5 := w5 c hc
  unfold Wr clS
  split
  · exact wV_b hn ht (fun c hc => by simp at hc) (by simp)
  · obtain ⟨g1, g2, g3⟩ := (w8 (s (154 + c)).toNat (by omega)).1
    exact wV_b hn ht g2 g3
theorem CR_CW (hw : WF s cl) (h : CR 20 s cl σ) : CW (nS s) (s 2).toNat (s 5).toNat (s 4).toNat (sdS s) σ := by
  have hb := fun c x hc => Wr_b hw (c := c) (x := x) hc
  obtain ⟨w0, w1, w2, w3, w4, w5, w6, w8, w9⟩ := hw
  obtain ⟨c0, c1, c2, c3, c4, c5, c6, c7, c8, c9⟩ := h
  unfold W0 at w0
  unfold C0 at c0
  have h2 := c2.1
  refine ⟨by rw [c0.1]; unfold nS; omega, by unfold nS; omega, by rw [c0.2.1]; omega, by omega, ?_, by omega, by rw [c0.2.2.2.1]; omega, by omega, fun c hc => ⟨(c5 c hc).2.2, sdS_lt⟩, fun q c c' _ _ h h' => ?_, fun c x hc hx => ?_⟩
  · show σ 23 1 = _
    rw [show σ 23 1 = s 5 from h2]
    omega
  · rw [sdS_tb] at h h'
    simp only [Bool.and_eq_true, decide_eq_true_eq] at h h'
    omega
  · have e : Wc σ c x = Wr s cl c x := c7 c x hc hx
    rw [e]
    have := hb c x hc
    omega
end RL
