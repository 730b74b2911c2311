/-! the world behind the constructors: a fixed layout, its ints a function of cell and place -/
abbrev St := Nat → Int → Int
def wsRow : List (List Nat) := [[0, 0]]
/-- the kinds of the cells of a wall at b -/
def wsWallK : List Nat := [8, 5, 100, 5, 100, 5, 100, 100, 100, 100, 100, 100, 103, 5, 100, 5, 100, 5, 100, 5, 100, 5, 100, 5, 100, 103, 5, 100, 5, 100, 5, 100, 103, 5, 100, 5, 100, 5, 100, 5, 100, 5, 100, 5, 100, 5, 100, 5, 100, 5, 100, 5, 100, 5, 100, 5, 100]
def wsK : List Nat := [110, 110, 110, 120, 120, 120, 120, 120, 120, 120, 120, 112, 112, 112, 112, 112, 112, 112, 112, 9] ++ wsWallK ++ wsWallK ++ [4, 100, 100, 100, 100, 1, 100, 100, 3, 5, 100, 2, 6, 7, 100, 100, 0, 5, 100, 10, 100, 100, 101, 100, 100, 100, 100, 100, 100, 100, 100]
def KD (k : Nat) : Nat := wsK.getD k 999
def wsRows (m lim : Nat) : List Nat := match m with
  | 0 => []
  | m + 1 => 2 :: lim :: wsRows m lim
def wsWallL : List Nat := [17, 2, 120, 2, 8, 2, 8, 32, 3, 3, 3, 768, 6] ++ wsRows 6 120 ++ [3] ++ wsRows 3 8 ++ [12] ++ wsRows 12 8
def wsL : List Nat := [0, 21, 7, 2, 2, 2, 2, 2, 2, 2, 2, 4, 4, 4, 5, 4, 3, 5, 5, 10] ++ wsWallL ++ wsWallL ++ [10, 10, 10, 10, 0, 5, 8, 65536, 3, 2, 8, 5, 6, 3, 96, 64, 5, 2, 20, 29, 1580, 1580, 64, 768, 65536, 65536, 65536, 8, 8, 8, 20]
def LN (L k : Nat) : Nat := match k with
  | 0 => L
  | k + 1 => wsL.getD (k + 1) 0
/-- the constant arrays -/
def wsC (k : Nat) : Option (List Int) := match k with
  | 1 => some [1, 2, 3, 11, 0, 0, 0, 21, 0, 0, 0, 41, 51, 0, 0, 0, 0, 31, 0, 61, 0]
  | 2 => some [-1, 0, 0, 1, 2, 0, 1]
  | 11 => some [97, 114, 107, 32]
  | 12 => some [111, 116, 104, 32]
  | 13 => some [97, 99, 107, 32]
  | 14 => some [109, 97, 114, 107, 32]
  | 15 => some [112, 115, 102, 110]
  | 16 => some [60, 61, 62]
  | 17 => some [98, 111, 116, 104, 32]
  | 18 => some [108, 97, 99, 107, 32]
  | _ => none
/-- codes of a cell's places: 0 an int of the state, 1 the constant 0, 2 a reference that the state names, 3 + k the cell k -/
def wsWallP (b : Nat) : List (List Nat) := [[0, 0, 0, 0, 0, 0, b + 4, b + 6, b + 8, b + 10, b + 11, b + 12, b + 13, b + 14, b + 15, b + 28, b + 35], [b + 5, 0], [], [b + 7, 0], [], [b + 9, 0], [], [], [], [], [], [], [b + 16, b + 18, b + 20, b + 22, b + 24, b + 26],
  [b + 17, 0], [], [b + 19, 0], [], [b + 21, 0], [], [b + 23, 0], [], [b + 25, 0], [], [b + 27, 0], [], [b + 29, b + 31, b + 33], [b + 30, 0], [], [b + 32, 0], [], [b + 34, 0], [], [b + 36, b + 38, b + 40, b + 42, b + 44, b + 46, b + 48, b + 50, b + 52, b + 54, b + 56, b + 58],
  [b + 37, 0], [], [b + 39, 0], [], [b + 41, 0], [], [b + 43, 0], [], [b + 45, 0], [], [b + 47, 0], [], [b + 49, 0], [], [b + 51, 0], [], [b + 53, 0], [], [b + 55, 0], [], [b + 57, 0], [], [b + 59, 0], []]
def wsP : List (List Nat) := [[], [], [], [14, 1], [15, 1], [16, 1], [17, 1], [18, 1], [19, 1], [20, 1], [21, 1], [], [], [], [], [], [], [], [], [23, 80, 137, 142, 145, 148, 149, 150, 153, 0]] ++ wsWallP 20 ++ wsWallP 77 ++
  [[23, 138, 139, 140, 0, 2, 0, 0, 0, 0], [], [], [], [], [23, 143, 144, 0, 0], [], [], [23, 142, 146], [147, 0], [], [23, 142, 0, 0, 0], [23, 0, 0, 0, 0, 0], [23, 151, 152], [], [], [154, 0, 0, 0, 0], [155, 0], [], [0, 157, 158, 0, 0, 0, 0, 0, 0, 159, 160, 161, 162, 163, 0, 0, 0, 0, 0, 0, 164, 165, 166, 0, 167, 0, 0, 0, 0], [], [], [], [], [], [], [], [], [], [], []]
def PC (k j : Nat) : Nat := (wsP.getD k []).getD j 0
def wsVal (σ : St) (k j : Nat) : AV := match PC k j with
  | 0 => vI (σ k (j : Int))
  | 1 => vI 0
  | 2 => vR (σ k (j : Int)).toNat
  | q + 3 => vR q
def mk (σ : St) (k j : Nat) : AV := match wsC k with
  | some l => vI (l.getD j 0)
  | none => wsVal σ k j
def WS (L : Nat) (σ : St) : AW := (165, 289000, KD, LN L, mk σ)
def st2 (σ : St) (k : Nat) (i : Int) (z : Int) : St := fun a b => if a = k ∧ b = i then z else σ a b
def cp2 (σ : St) (k q : Nat) (sp dp n : Int) : St := fun a b => if a = q ∧ dp ≤ b ∧ b < dp + n then σ k (sp + (b - dp)) else σ a b
theorem ws_lens : wsK.length = 165 ∧ wsL.length = 165 ∧ wsP.length = 165 := by decide +kernel
theorem WS_kd {L : Nat} {σ : St} (k : Nat) : am_kd (WS L σ) k = KD k := rfl
theorem WS_ln {L : Nat} {σ : St} (k : Nat) : am_ln (WS L σ) k = LN L k := rfl
theorem WS_ct {L : Nat} {σ : St} (k j : Nat) : am_ct (WS L σ) k j = mk σ k j := rfl
theorem st2_eq {σ : St} {k : Nat} {i z : Int} : st2 σ k i z k i = z := by unfold st2; rw [if_pos ⟨rfl, rfl⟩]
theorem st2_k {σ : St} {k q : Nat} {i j z : Int} (h : q ≠ k) : st2 σ k i z q j = σ q j := by unfold st2; rw [if_neg (fun x => h x.1)]
theorem st2_i {σ : St} {k q : Nat} {i j z : Int} (h : j ≠ i) : st2 σ k i z q j = σ q j := by unfold st2; rw [if_neg (fun x => h x.2)]
theorem ws_int (k : Nat) (h : KD k = 100 ∨ KD k = 101) : wsC k = none ∧ ∀ j, PC k j = 0 := by
  have hk : k < 165 := by
    rcases Nat.lt_or_ge k 165 with q | q
    · exact q
    · have e : KD k = 999 := by
        unfold KD
        rw [List.getD_eq_getElem?_getD, List.getElem?_eq_none (by rw [ws_lens.1]; exact q)]
        rfl
      omega
  have h2 : ∀ k, k < 165 → KD k = 100 ∨ KD k = 101 → wsC k = none ∧ wsP.getD k [] = [] := by decide +kernel
  obtain ⟨h3, h4⟩ := h2 k hk h
  refine ⟨h3, fun j => ?_⟩
  unfold PC
  rw [h4]
  rfl
theorem WS_put {L : Nat} {σ : St} {k j : Nat} {z : Int} (h : wsC k = none) (h2 : PC k j = 0) : am_put (WS L σ) k j (vI z) = WS L (st2 σ k (j : Int) z) := by
  unfold am_put WS
  dsimp only
  congr 4
  funext a b
  by_cases ha : a = k
  · subst ha
    rw [if_pos rfl]
    unfold mk
    rw [h]
    dsimp only
    by_cases hb : b = j
    · subst hb
      rw [if_pos rfl]
      unfold wsVal
      rw [h2]
      dsimp only
      rw [st2_eq]
    · rw [if_neg hb]
      unfold wsVal
      split <;> (try rfl) <;> rw [st2_i (by omega)]
  · rw [if_neg ha]
    unfold mk
    split
    · rfl
    · unfold wsVal
      split <;> (try rfl) <;> rw [st2_k ha]
theorem WS_putr {L : Nat} {σ : St} {k j q : Nat} (h : wsC k = none) (h2 : PC k j = 2) : am_put (WS L σ) k j (vR q) = WS L (st2 σ k (j : Int) (q : Int)) := by
  unfold am_put WS
  dsimp only
  congr 4
  funext a b
  by_cases ha : a = k
  · subst ha
    rw [if_pos rfl]
    unfold mk
    rw [h]
    dsimp only
    by_cases hb : b = j
    · subst hb
      rw [if_pos rfl]
      unfold wsVal
      rw [h2]
      dsimp only
      rw [st2_eq]
      rfl
    · rw [if_neg hb]
      unfold wsVal
      split <;> (try rfl) <;> rw [st2_i (by omega)]
  · rw [if_neg ha]
    unfold mk
    split
    · rfl
    · unfold wsVal
      split <;> (try rfl) <;> rw [st2_k ha]
theorem WS_puti {L : Nat} {σ : St} {k : Nat} {i z : Int} (hk : KD k = 100 ∨ KD k = 101) (h0 : 0 ≤ i) : am_put (WS L σ) k i.toNat (vI z) = WS L (st2 σ k i z) := by
  obtain ⟨h1, h2⟩ := ws_int k hk
  rw [WS_put h1 (h2 _)]
  rw [show ((i.toNat : Nat) : Int) = i by omega]
theorem WS_ai {L : Nat} {σ : St} {k : Nat} {i : Int} (hk : KD k = 100 ∨ KD k = 101) (h0 : 0 ≤ i) : am_ct (WS L σ) k i.toNat = vI (σ k i) := by
  obtain ⟨h1, h2⟩ := ws_int k hk
  rw [WS_ct]
  unfold mk
  rw [h1]
  dsimp only
  unfold wsVal
  rw [h2]
  dsimp only
  rw [show ((i.toNat : Nat) : Int) = i by omega]
theorem WS_cpy {L : Nat} {σ : St} {k q : Nat} {sp dp n : Int} (hk : KD k = 100) (hq : KD q = 100) (h1 : 0 ≤ sp) (h2 : 0 ≤ dp) (h3 : 0 ≤ n) : am_cpy (WS L σ) k q sp.toNat dp.toNat n.toNat = WS L (cp2 σ k q sp dp n) := by
  obtain ⟨k1, k2⟩ := ws_int k (Or.inl hk)
  obtain ⟨q1, q2⟩ := ws_int q (Or.inl hq)
  unfold am_cpy WS
  dsimp only
  congr 4
  funext a b
  by_cases ha : a = q
  · subst ha
    rw [if_pos rfl]
    unfold mk
    rw [k1, q1]
    dsimp only
    unfold wsVal
    rw [k2, q2]
    dsimp only
    unfold cp2
    by_cases hb : dp.toNat ≤ b ∧ b < dp.toNat + n.toNat
    · rw [if_pos hb, if_pos ⟨rfl, by omega, by omega⟩]
      congr 2
      omega
    · rw [if_neg hb, if_neg (fun x => hb ⟨by omega, by omega⟩)]
  · rw [if_neg ha]
    unfold mk
    split
    · rfl
    · have e : ∀ x, cp2 σ k q sp dp n a x = σ a x := fun x => by unfold cp2; rw [if_neg (fun y => ha y.1)]
      unfold wsVal
      split <;> (try rfl) <;> rw [e]
