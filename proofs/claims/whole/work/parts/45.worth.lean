/-! worths of the class -/
def clV (T : Nat → Nat → Int) (n x : Nat) (c : Cl) : Int := if c.1 = 0 then (c.2.1 : Int) * (cnt (fun b => (x &&& clM T n c).testBit b) 8 : Int) else if c.1 = 1 then (if x &&& clM T n c = clM T n c then (c.2.1 : Int) else 0) else (if x &&& clM T n c = 0 then -(c.2.1 : Int) else 0)
def sumCl (T : Nat → Nat → Int) (n x : Nat) : List Cl → Int
  | [] => 0
  | c :: l => clV T n x c + sumCl T n x l
theorem sumCl_app {T : Nat → Nat → Int} {n x : Nat} : ∀ (l l' : List Cl), sumCl T n x (l ++ l') = sumCl T n x l + sumCl T n x l'
  | [], l' => by simp [sumCl]
  | c :: l, l' => by
    show sumCl T n x (c :: (l ++ l')) = _
    rw [sumCl, sumCl, sumCl_app l l']
    omega
theorem clV_b {T : Nat → Nat → Int} {n x : Nat} {c : Cl} (h : c.2.1 ≤ 99) : -792 ≤ clV T n x c ∧ clV T n x c ≤ 792 := by
  have hc := cnt_le (fun b => (x &&& clM T n c).testBit b) 8
  have hm : c.2.1 * cnt (fun b => (x &&& clM T n c).testBit b) 8 ≤ 99 * 8 := Nat.mul_le_mul h hc
  have e : (c.2.1 : Int) * (cnt (fun b => (x &&& clM T n c).testBit b) 8 : Int) = ((c.2.1 * cnt (fun b => (x &&& clM T n c).testBit b) 8 : Nat) : Int) := by rw [Int.natCast_mul]
  unfold clV
  rw [e]
  repeat' split
  all_goals omega
theorem sumCl_b {T : Nat → Nat → Int} {n x : Nat} : ∀ (l : List Cl), (∀ c, c ∈ l → CG c) → -792 * (l.length : Int) ≤ sumCl T n x l ∧ sumCl T n x l ≤ 792 * (l.length : Int)
  | [], _ => by simp [sumCl]
  | c :: l, h => by
    have h1 := sumCl_b (T := T) (n := n) (x := x) l (fun c hc => h c (List.mem_cons_of_mem _ hc))
    have h2 := clV_b (T := T) (n := n) (x := x) (h c (List.mem_cons_self ..)).1
    rw [sumCl]
    simp only [List.length_cons, Int.natCast_succ]
    omega
theorem clM_lt {T : Nat → Nat → Int} {n : Nat} {c : Cl} (h8 : n ≤ 8) (h : CG c) : clM T n c < 256 := by
  unfold clM
  rcases h.2 with ⟨h1, -⟩ | ⟨h1, a, b, ha, hb, h2⟩ | ⟨h1, -⟩
  · rw [if_pos h1]
    exact mkE_lt h8
  · rw [if_neg (by omega), if_pos h1, h2]
    have l1 : 2 ^ a < 2 ^ 8 := two_pow_lt ha
    have l2 : 2 ^ b < 2 ^ 8 := two_pow_lt hb
    have l3 := or_lt l1 l2
    simpa using l3
  · rw [if_neg (by omega), if_neg (by omega)]
    exact Nat.lt_of_lt_of_le (bits_lt _ _) (pw8 h8)
/-- what a side is worth: by traits, n boys, clauses -/
def strT (T : Nat → Nat → Int) (x n : Nat) : Int := sumN (fun b => if x.testBit b then T 1 b else 0) n
def wV (T : Nat → Nat → Int) (n : Nat) (cls : List Cl) (x : Nat) : Int := strT T x n + sumCl T n x cls
theorem strT_b {T : Nat → Nat → Int} {x n : Nat} (h8 : n ≤ 8) (ht : ∀ b, b < n → 0 ≤ T 1 b ∧ T 1 b ≤ 20) : 0 ≤ strT T x n ∧ strT T x n ≤ 160 := by
  have := sumN_le (f := fun b => if x.testBit b then T 1 b else 0) (a := 0) (b := 20) (n := n) (fun j hj => by
    have := ht j (by omega)
    split <;> omega)
  unfold strT
  omega
theorem wV_b {T : Nat → Nat → Int} {x n : Nat} {cls : List Cl} (h8 : n ≤ 8) (ht : ∀ b, b < n → 0 ≤ T 1 b ∧ T 1 b ≤ 20) (hg : ∀ c, c ∈ cls → CG c) (hl : cls.length ≤ 10) : -8000 < wV T n cls x ∧ wV T n cls x < 9000 := by
  have h1 := strT_b (x := x) h8 ht
  have h2 := sumCl_b (T := T) (n := n) (x := x) cls hg
  unfold wV
  omega
/-- a part of a cell by f, from off on -/
def setW (σ : St) (a : Nat) (off : Int) (m : Nat) (f : Nat → Int) : St := fun a' j => if a' = a ∧ off ≤ j ∧ j < off + m then f (j - off).toNat else σ a' j
section WO
variable {d L : Nat} {σ : St} {Q : Option AV → AW → Prop}
theorem setW_0 {a : Nat} {off : Int} {f : Nat → Int} : setW σ a off 0 f = σ := by
  funext a' j
  unfold setW
  rw [if_neg (by omega)]
theorem setW_s {a k : Nat} {off i z : Int} {f : Nat → Int} (hi : i = off + k) (h : z = f k) : st2 (setW σ a off k f) a i z = setW σ a off (k + 1) f := by
  funext a' j
  simp only [setW, st2]
  by_cases h1 : a' = a ∧ j = i
  · rw [if_pos h1, if_pos (by omega), h, h1.2, hi, show off + (k : Int) - off = (k : Int) by omega]
    rfl
  · rw [if_neg h1]
    by_cases h2 : a' = a ∧ off ≤ j ∧ j < off + k
    · rw [if_pos h2, if_pos (by omega)]
    · rw [if_neg h2, if_neg (by omega)]
theorem setW_k {a n a' : Nat} {off j : Int} {f : Nat → Int} (h : a' ≠ a) : setW σ a off n f a' j = σ a' j := by
  unfold setW
  rw [if_neg (by omega)]
theorem setW_kf {a n a' : Nat} {off : Int} {f : Nat → Int} (h : a' ≠ a) : setW σ a off n f a' = σ a' := by
  funext j
  exact setW_k h
theorem setW_in {a n : Nat} {off j : Int} {f : Nat → Int} (h0 : off ≤ j) (h : j < off + n) : setW σ a off n f a j = f (j - off).toNat := by
  unfold setW
  rw [if_pos ⟨rfl, h0, h⟩]
theorem setW_out {a n : Nat} {off j : Int} {f : Nat → Int} (h : j < off ∨ off + n ≤ j) : setW σ a off n f a j = σ a j := by
  unfold setW
  rw [if_neg (by omega)]
theorem r41_l {n x : Nat} {cls : List Cl} (hx : x < 256) (h8n : n ≤ 8) (hc : CS (tr σ) n σ cls) (hg : ∀ c, c ∈ cls → CG c) (hl : cls.length ≤ 10) : ∀ (m i : Nat) (u4 : AV), i + m = cls.length → R (d + 1) 41 4 [vR 134, vI x, vI (sumCl (tr σ) n x (cls.take i)), vI i, u4] [] (WS L σ) Q = Q (some (vI (sumCl (tr σ) n x cls))) (WS L σ) := by
  intro m
  induction m with
  | zero =>
    intro i u4 hi
    obtain rfl : i = cls.length := by omega
    rw [b41_4, hc.1, if_pos (by omega), b41_119, List.take_length]
  | succ m ih =>
    intro i u4 hi
    have hlt : i < cls.length := by omega
    have hci : cls[i]? = some cls[i] := List.getElem?_eq_getElem hlt
    have hcg := hg cls[i] (List.getElem_mem hlt)
    obtain ⟨k1, k2, k3⟩ := hc.2 i cls[i] hci
    have hm := clM_lt (T := tr σ) h8n hcg
    have et : sumCl (tr σ) n x (cls.take (i + 1)) = sumCl (tr σ) n x (cls.take i) + clV (tr σ) n x cls[i] := by
      rw [List.take_succ, hci, sumCl_app]
      simp [sumCl]
    have hb := sumCl_b (T := tr σ) (n := n) (x := x) (cls.take i) (fun c hc => hg c (List.mem_of_mem_take hc))
    have hb2 : ((cls.take i).length : Int) ≤ 10 := by
      have := List.length_take_le i cls
      omega
    have hv := clV_b (T := tr σ) (n := n) (x := x) hcg.1
    have hand : x &&& clM (tr σ) n cls[i] < 256 := Nat.lt_of_le_of_lt Nat.and_le_left hx
    have start : ∀ Q, R (d + 1) 41 4 [vR 134, vI x, vI (sumCl (tr σ) n x (cls.take i)), vI i, u4] [] (WS L σ) Q = if ¬ clN cls[i] = 109 then R (d + 1) 41 57 [vR 134, vI x, vI (sumCl (tr σ) n x (cls.take i)), vI i, vI ((x &&& clM (tr σ) n cls[i] : Nat) : Int)] [] (WS L σ) Q else R (d + 1) 41 39 [vR 134, vI x, vI (sumCl (tr σ) n x (cls.take i)), vI i, vI ((x &&& clM (tr σ) n cls[i] : Nat) : Int)] [] (WS L σ) Q := by
      intro Q
      rw [b41_4, hc.1, if_neg (by omega), b41_12, if_neg (by omega), b41_18 (by omega) (by omega), k1, k3, i_and_nat (by omega) (by omega)]
    have e := fun u => ih (i + 1) u (by omega)
    rw [et] at e
    rw [start]
    generalize sumCl (tr σ) n x (cls.take i) = S at *
    rcases hcg.2 with ⟨h1, -⟩ | ⟨h1, -⟩ | ⟨h1, -⟩
    · have ec : clN cls[i] = 109 := by unfold clN; rw [if_pos h1]
      have ev : clV (tr σ) n x cls[i] = (cls[i].2.1 : Int) * (cnt (fun b => (x &&& clM (tr σ) n cls[i]).testBit b) 8 : Int) := by unfold clV; rw [if_pos h1]
      rw [ev] at e hv
      rw [if_neg (by omega), b41_39 (by omega) (by omega), r42 hand, k2]
      simp only [am_push_s]
      rw [b41_51 (by omega) (by omega), b41_113 (by omega)]
      exact e _
    · have ec : clN cls[i] = 98 := by unfold clN; rw [if_neg (by omega), if_pos h1]
      have ev : clV (tr σ) n x cls[i] = if x &&& clM (tr σ) n cls[i] = clM (tr σ) n cls[i] then (cls[i].2.1 : Int) else 0 := by unfold clV; rw [if_neg (by omega), if_pos h1]
      rw [ev] at e hv
      rw [if_pos (by omega), b41_57 (by omega) (by omega), k1, if_neg (by omega), b41_68 (by omega) (by omega), k3]
      by_cases q : x &&& clM (tr σ) n cls[i] = clM (tr σ) n cls[i]
      · rw [if_pos q] at e hv
        rw [if_neg (by omega), b41_80 (by omega) (by omega), k2, b41_90 (by omega), b41_113 (by omega)]
        exact e _
      · rw [if_neg q] at e hv
        rw [if_pos (by omega), b41_89, b41_90 (by omega), b41_113 (by omega)]
        exact e _
    · have ec : clN cls[i] = 108 := by unfold clN; rw [if_neg (by omega), if_neg (by omega)]
      have ev : clV (tr σ) n x cls[i] = if x &&& clM (tr σ) n cls[i] = 0 then -(cls[i].2.1 : Int) else 0 := by unfold clV; rw [if_neg (by omega), if_neg (by omega)]
      rw [ev] at e hv
      rw [if_pos (by omega), b41_57 (by omega) (by omega), k1, if_pos (by omega), b41_95]
      by_cases q : x &&& clM (tr σ) n cls[i] = 0
      · rw [if_pos q] at e hv
        rw [if_neg (by omega), b41_101 (by omega) (by omega), k2, b41_111 (by omega), b41_113 (by omega)]
        exact e _
      · rw [if_neg q, Int.add_zero] at e
        rw [if_pos (by omega), b41_110, b41_111 (by omega), b41_113 (by omega), Int.sub_zero]
        exact e _
theorem r41 {n x : Nat} {cls : List Cl} (hx : x < 256) (h8n : n ≤ 8) (hc : CS (tr σ) n σ cls) (hg : ∀ c, c ∈ cls → CG c) (hl : cls.length ≤ 10) : R (d + 1) 41 0 [vR 134, vI x, vX 9, vX 9, vX 9] [] (WS L σ) Q = Q (some (vI (sumCl (tr σ) n x cls))) (WS L σ) := by
  rw [b41_0]
  exact r41_l hx h8n hc hg hl cls.length 0 _ (by omega)
theorem r16 {c y : Nat} (hc : c < 3) (hy : σ 28 c = (y : Int)) (hy6 : y < 6) : R (d + 2) 16 0 [vR 20, vI c, vX 9] [] (WS L σ) Q = Q (some (vR (33 + 2 * y))) (WS L σ) := by
  rw [b16_0, r17 hc, hy]
  simp only [am_push_s]
  rw [b16_5, r13]
  simp only [am_push_s]
  rw [b16_15]
  simp only [tI_0]
  rw [if_neg (by omega), b16_18 (by omega) (by omega), b16_28, Int.toNat_natCast]
theorem r16n {c : Nat} (hc : c < 3) (hy : σ 28 c < 0) : R (d + 2) 16 0 [vR 20, vI c, vX 9] [] (WS L σ) Q = Q (some (vX 0)) (WS L σ) := by
  rw [b16_0, r17 hc]
  simp only [am_push_s]
  rw [b16_5, r13]
  simp only [am_push_s]
  rw [b16_15]
  simp only [tI_0]
  rw [if_pos (by omega), b16_27, b16_28n]
/-- the text of a yard of the wall at b, and its clauses -/
def YT (b : Nat) (σ : St) (y : Nat) (cls : List Cl) : Prop := ∃ (e : Nat) (t : Nat → Int), σ (b + 13 + 2 * y) 1 = (e : Int) ∧ e ≤ 120 ∧ (∀ i : Nat, i < e → σ (b + 14 + 2 * y) i = t i ∧ 0 ≤ t i ∧ t i < 256) ∧ (pY t e).2 = some cls
theorem YT_G {b y : Nat} {cls : List Cl} (h : YT b σ y cls) : nSts cls ≤ 120 ∧ (∀ c, c ∈ cls → CG c) ∧ cls.length ≤ 10 := by
  obtain ⟨e, t, h1, h2, h3, h4⟩ := h
  exact pY_G (q := (pY t e).1) h2 (by rw [← h4])
theorem kd_ya {y : Nat} (h : y < 6) : KD (33 + 2 * y) = 5 := (by decide +kernel : ∀ i, i < 6 → KD (33 + 2 * i) = 5) y h
theorem ln_ya {y : Nat} (h : y < 6) : ∀ L, LN L (33 + 2 * y + 1) = 120 := fun L => (by decide +kernel : ∀ i, i < 6 → wsL.getD (33 + 2 * i + 1) 0 = 120) y h
/-- what a captain's yard says -/
def CY (σ : St) (c : Nat) (cls : List Cl) : Prop := (σ 28 c < 0 ∧ cls = []) ∨ ∃ y : Nat, σ 28 c = (y : Int) ∧ y < 6 ∧ YT 20 σ y cls
theorem CY_G {c : Nat} {cls : List Cl} (h : CY σ c cls) : (∀ c, c ∈ cls → CG c) ∧ cls.length ≤ 10 := by
  rcases h with ⟨-, rfl⟩ | ⟨y, h1, h2, h3⟩
  · exact ⟨fun c hc => by simp at hc, by simp⟩
  · exact (YT_G h3).2
theorem tr_setW {off : Int} {m : Nat} {f : Nat → Int} : tr (setW σ 31 off m f) = tr σ := by
  unfold tr
  rw [setW_kf (by omega)]
theorem r15_l {n c : Nat} {cls : List Cl} (h8n : n ≤ 8) (hc3 : c < 3) (hn : σ 20 0 = (n : Int)) (ht : ∀ b, b < n → 0 ≤ tr σ 1 b ∧ tr σ 1 b ≤ 20) (hc : CS (tr σ) n σ cls) (hg : ∀ c, c ∈ cls → CG c) (hl : cls.length ≤ 10) : ∀ (m x : Nat), x + m = 2 ^ n → R (d + 3) 15 26 [vR 19, vI c, vI ((2 ^ n - 1 : Nat) : Int), vI x] [] (WS L (setW σ 31 ((c : Int) * 256) x (wV (tr σ) n cls))) Q = R (d + 3) 15 70 [vR 19, vI c, vI ((2 ^ n - 1 : Nat) : Int), vI ((2 ^ n : Nat) : Int)] [] (WS L (setW σ 31 ((c : Int) * 256) (2 ^ n) (wV (tr σ) n cls))) Q := by
  have p8 := pw8 h8n
  have p1 := pw1 n
  intro m
  induction m with
  | zero =>
    intro x hx
    obtain rfl : x = 2 ^ n := by omega
    rw [b15_26]
    by_cases q : (256 : Int) ≤ ((2 ^ n : Nat) : Int)
    · rw [if_pos q]
    · rw [if_neg q, b15_33, if_pos (by omega)]
  | succ m ih =>
    intro x hx
    have hs := strT_b (x := x) h8n ht
    have hb := sumCl_b (T := tr σ) (n := n) (x := x) cls hg
    have hnx : setW σ 31 ((c : Int) * 256) x (wV (tr σ) n cls) 20 0 = (n : Int) := by rw [setW_k (by omega)]; exact hn
    have htx : ∀ b, b < n → 0 ≤ tr (setW σ 31 ((c : Int) * 256) x (wV (tr σ) n cls)) 1 b ∧ tr (setW σ 31 ((c : Int) * 256) x (wV (tr σ) n cls)) 1 b ≤ 20 := by rw [tr_setW]; exact ht
    have hcx : CS (tr (setW σ 31 ((c : Int) * 256) x (wV (tr σ) n cls))) n (setW σ 31 ((c : Int) * 256) x (wV (tr σ) n cls)) cls := by
      rw [tr_setW]
      unfold CS
      rw [setW_kf (by omega), setW_kf (by omega), setW_kf (by omega), setW_kf (by omega)]
      exact hc
    have er : strC (setW σ 31 ((c : Int) * 256) x (wV (tr σ) n cls)) x n = strT (tr σ) x n := by
      show strT (tr (setW σ 31 ((c : Int) * 256) x (wV (tr σ) n cls))) x n = _
      rw [tr_setW]
    rw [b15_26, if_neg (by omega), b15_33, if_neg (by omega), b15_38, r40 hnx h8n (by omega) htx]
    simp only [am_push_s]
    rw [b15_52, r41 (by omega) h8n hcx hg hl, er, tr_setW]
    simp only [am_push_s]
    rw [b15_60 (by omega), r43 hc3 (by omega)]
    simp only [am_push_n]
    rw [b15_64 (by omega), setW_s rfl (by rfl)]
    exact ih (x + 1) (by omega)
theorem r15 {n c : Nat} {cls : List Cl} (h8n : n ≤ 8) (hc3 : c < 3) (hn : σ 20 0 = (n : Int)) (ht : ∀ b, b < n → 0 ≤ tr σ 1 b ∧ tr σ 1 b ≤ 20) (hv : 0 ≤ σ 20 5 ∧ σ 20 5 < 1000000) (hy : CY σ c cls) : ∃ σ' : St, (∀ a, a ≠ 20 → a ≠ 31 → a < 134 ∨ 137 < a → σ' a = σ a) ∧ (∀ j : Int, j ≠ 5 → σ' 20 j = σ 20 j) ∧ σ' 20 5 = σ 20 5 + 1 ∧ (∀ x : Nat, x < 2 ^ n → σ' 31 ((c : Int) * 256 + x) = wV (tr σ) n cls x) ∧ (∀ j : Int, j < (c : Int) * 256 ∨ (c : Int) * 256 + 256 ≤ j → σ' 31 j = σ 31 j) ∧ ∀ Q, R (d + 23) 15 0 [vR 19, vI c, vX 9, vX 9] [] (WS L σ) Q = Q none (WS L σ') := by
  have p8 := pw8 h8n
  have key : ∃ (σ1 : St) (z : Int), FR σ σ1 ∧ CS (tr σ) n σ1 cls ∧ ∀ Q, R (d + 23) 15 0 [vR 19, vI c, vX 9, vX 9] [] (WS L σ) Q = R (d + 23) 15 15 [vR 19, vI c, vX 9, vX 9] [vI z] (WS L σ1) Q := by
    rcases hy with ⟨h1, rfl⟩ | ⟨y, h1, h2, e, t, h3, h4, h5, h6⟩
    · refine ⟨st2 (st2 σ 134 4 0) 134 9 (-1), -1, ?_, ⟨?_, fun i c hi => by simp at hi⟩, fun Q => ?_⟩
      · intro a ha
        funext j
        rw [st2_k (by omega), st2_k (by omega)]
      · rw [st2_i (by omega), st2_eq]
        rfl
      · rw [b15_0, r16n hc3 h1]
        simp only [am_push_s]
        rw [b15_12n, r18n]
        simp only [am_push_s]
    · obtain ⟨σ1, a1, a2, a3⟩ := r18 (d := d) (L := L) (r := 33 + 2 * y) (t := t) (e := e) h8n hn (kd_ya h2) (ln_ya h2) (by omega) h4 h3 (fun i hi => by rw [show 33 + 2 * y + 1 = 34 + 2 * y by omega]; exact h5 i hi)
      refine ⟨σ1, ansY (pY t e), a1, a2 cls h6, fun Q => ?_⟩
      rw [b15_0, r16 hc3 h1 h2]
      simp only [am_push_s]
      rw [b15_12, a3]
      simp only [am_push_s]
  obtain ⟨σ1, z, a1, a2, a3⟩ := key
  obtain ⟨g1, g2⟩ := CY_G hy
  have hn1 : σ1 20 0 = (n : Int) := by rw [a1 20 (by omega)]; exact hn
  have et := tr_FR a1
  have lp := fun Q => r15_l (d := d + 20) (L := L) (Q := Q) (σ := σ1) h8n hc3 hn1 (by rw [et]; exact ht) (by rw [et]; exact a2) g1 g2 (2 ^ n) 0 (by omega)
  rw [et] at lp
  have e5 : setW σ1 31 ((c : Int) * 256) (2 ^ n) (wV (tr σ) n cls) 20 5 = σ 20 5 := by rw [setW_k (by omega), a1 20 (by omega)]
  refine ⟨st2 (setW σ1 31 ((c : Int) * 256) (2 ^ n) (wV (tr σ) n cls)) 20 5 (σ 20 5 + 1), fun a h1 h2 h3 => ?_, fun j hj => ?_, st2_eq, fun x hx => ?_, fun j hj => ?_, fun Q => ?_⟩
  · funext j
    rw [st2_k h1, setW_k h2, a1 a h3]
  · rw [st2_i hj, setW_k (by omega), a1 20 (by omega)]
  · rw [st2_k (by omega), setW_in (by omega) (by omega)]
    congr 1
    omega
  · rw [st2_k (by omega), setW_out (by omega), a1 31 (by omega)]
  · have h0 := lp (fun r w => Q r w)
    rw [setW_0] at h0
    rw [a3, b15_15, r34 hn1 h8n]
    simp only [am_push_s]
    rw [b15_23]
    refine h0.trans ?_
    rw [b15_70 (by omega), e5, b15_83]
end WO
