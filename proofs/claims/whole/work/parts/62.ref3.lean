/-! the reference: worthOf -/
theorem div_pow_b {x b : Nat} : (x / 2 ^ b).testBit 0 = x.testBit b := by
  rw [Nat.testBit_div_two_pow]
  simp
theorem i_bit2 {x a b : Nat} (hx : x < 2147483648) (ha : a < 31) (hb : b < 31) : i_and (i_and (i_shr x a) (i_shr x b)) 1 = if (x.testBit a && x.testBit b) = true then 1 else 0 := by
  have l1 := Nat.div_le_self x (2 ^ a)
  have l2 := Nat.div_le_self x (2 ^ b)
  have l3 : (x / 2 ^ a) &&& (x / 2 ^ b) ≤ x / 2 ^ a := Nat.and_le_left
  rw [i_shr_nat hx ha, i_shr_nat hx hb, i_and_nat (by omega) (by omega), show (1 : Int) = ((1 : Nat) : Int) from rfl, i_and_nat (by omega) (by omega), Nat.and_one_is_mod]
  rw [← div_pow_b (x := x) (b := a), ← div_pow_b (x := x) (b := b), ← Nat.testBit_and, Nat.testBit_zero]
  simp only [decide_eq_true_eq]
  split <;> omega
theorem eB_g : ∀ (cls : List Cl), (∀ c, c ∈ cls → CG c) → ∀ z, z ∈ eB cls → ∃ w a b : Nat, w ≤ 99 ∧ a < 8 ∧ b < 8 ∧ z = ((w : Int), (a : Int), (b : Int))
  | [], _, z, hz => by simp [eB] at hz
  | c :: l, h, z, hz => by
    have ih := eB_g l (fun c hc => h c (List.mem_cons_of_mem _ hc)) z
    rw [eB] at hz
    rcases h c (List.mem_cons_self ..) with ⟨h9, ⟨h1, -⟩ | ⟨h1, a, b, ha, hb, h2⟩ | ⟨h1, -⟩⟩
    · rw [if_neg (by omega)] at hz
      exact ih hz
    · rw [if_pos h1, h2] at hz
      rcases List.mem_cons.mp hz with e | e
      · exact ⟨c.2.1, a, b, h9, ha, hb, e⟩
      · exact ih e
    · rw [if_neg (by omega)] at hz
      exact ih hz
theorem eK_g : ∀ (cls : List Cl), (∀ c, c ∈ cls → CG c) → ∀ z, z ∈ eK cls → ∃ w k : Nat, w ≤ 99 ∧ k < 4 ∧ z = ((w : Int), (k : Int))
  | [], _, z, hz => by simp [eK] at hz
  | c :: l, h, z, hz => by
    have ih := eK_g l (fun c hc => h c (List.mem_cons_of_mem _ hc)) z
    rw [eK] at hz
    rcases h c (List.mem_cons_self ..) with ⟨h9, ⟨h1, -⟩ | ⟨h1, -⟩ | ⟨h1, k, hk, h2⟩⟩
    · rw [if_neg (by omega)] at hz
      exact ih hz
    · rw [if_neg (by omega)] at hz
      exact ih hz
    · rw [if_pos h1, h2] at hz
      rcases List.mem_cons.mp hz with e | e
      · exact ⟨c.2.1, k, h9, hk, e⟩
      · exact ih e
section RA3
variable {d L N : Nat} {s s' : Int → Int} {cl cl' : Nat → List Cl} {σ σ1 : St} {Q : Option AV → AW → Prop}
/-- what stands of a yard, if any -/
theorem r169_boys {x n y : Nat} {h : Int} {cls : List Cl} {u1 u6 : AV} (hn : s 0 = (n : Int)) (h8 : n ≤ 8) (hx : x < 256) (ht : ∀ b : Nat, b < n → 0 ≤ s (138 + b) ∧ s (138 + b) ≤ 20) (hy : h = -1 ∧ cls = [] ∨ h = (y : Int) ∧ y < 6 ∧ ENC s y cls) (hG : YG cls) : ∀ (j k : Nat) (σ : St), k + j = n → ∃ σ' : St, (∀ a, a ≠ 156 → σ' a = σ a) ∧ ∀ Q, R (d + 1) 169 17 [vR 153, u1, vI x, vI h, vI (sumN (fun b => if x.testBit b = true then s (138 + b) + mkS (trS s) b cls else 0) k), vI k, u6] [] (WS L (setS σ s)) Q = R (d + 1) 169 81 [vR 153, u1, vI x, vI h, vI (sumN (fun b => if x.testBit b = true then s (138 + b) + mkS (trS s) b cls else 0) n), vI n, u6] [] (WS L (setS σ' s)) Q := by
  intro j
  induction j with
  | zero =>
    intro k σ hk
    obtain rfl : k = n := by omega
    refine ⟨σ, fun _ _ => rfl, fun Q => ?_⟩
    have e0 : setS σ s 154 0 = s 0 := by rw [ss_e]
    rw [b169_17, e0, if_pos (by omega)]
  | succ j ih =>
    intro k σ hk
    have e0 : setS σ s 154 0 = s 0 := by rw [ss_e]
    have e4 : setS σ s 154 (138 + k) = s (138 + k) := by rw [ss_e]
    have hb : i_and (i_shr x k) 1 = if x.testBit k then 1 else 0 := i_bit (by omega) (by omega)
    have l10 := hG.2.2
    have mb := fun b => mkS_b (T := trS s) (b := b) cls hG.2.1
    have bd := sumN_le (f := fun b => if x.testBit b = true then s (138 + b) + mkS (trS s) b cls else 0) (a := 0) (b := 1010) (n := k) (fun i hi => by
      have := ht i (by omega)
      have := mb i
      split <;> omega)
    have bk := ht k (by omega)
    have mk := mb k
    by_cases q : x.testBit k = true
    · rcases hy with ⟨hy1, hy2⟩ | ⟨hy1, hy2, hy3⟩
      · obtain ⟨σ1, f1, f2⟩ := ih (k + 1) σ (by omega)
        refine ⟨σ1, f1, fun Q => ?_⟩
        rw [b169_17, e0, if_neg (by omega), b169_28, hb, if_neg (by simp [q]), b169_40 (by omega) (by omega) (by omega), if_neg (by omega), e4, b169_56, b169_67 (by omega), b169_72 (by omega) (by omega), ← f2 Q, sumN, if_pos q, hy2]
        rfl
      · obtain ⟨σ0, g1, g2⟩ := r170 (d := d) (L := L) (s := s) (σ := σ) (b := k) hy2 (by omega) hG hy3
        obtain ⟨σ1, f1, f2⟩ := ih (k + 1) σ0 (by omega)
        refine ⟨σ1, fun a ha => (f1 a ha).trans (g1 a ha), fun Q => ?_⟩
        subst hy1
        rw [b169_17, e0, if_neg (by omega), b169_28, hb, if_neg (by simp [q]), b169_40 (by omega) (by omega) (by omega), if_pos (by omega), e4, b169_60, g2]
        simp only [am_push_s]
        rw [b169_67 (by omega), b169_72 (by omega) (by omega), ← f2 Q, sumN, if_pos q]
        rfl
    · obtain ⟨σ1, f1, f2⟩ := ih (k + 1) σ (by omega)
      refine ⟨σ1, f1, fun Q => ?_⟩
      rw [b169_17, e0, if_neg (by omega), b169_28, hb, if_pos (by simp [q]), b169_71, b169_72 (by omega) (by omega), ← f2 Q, sumN, if_neg q]
      rfl
theorem bV_b {x : Nat} : ∀ (l : List (Int × Int × Int)), (∀ z, z ∈ l → ∃ w a b : Nat, w ≤ 99 ∧ a < 8 ∧ b < 8 ∧ z = ((w : Int), (a : Int), (b : Int))) → 0 ≤ bV x l ∧ bV x l ≤ 99 * (l.length : Int)
  | [], _ => by simp [bV]
  | z :: l, h => by
    have h1 := bV_b (x := x) l (fun c hc => h c (List.mem_cons_of_mem _ hc))
    obtain ⟨w, a, b, hw, ha, hb, rfl⟩ := h z (List.mem_cons_self ..)
    rw [bV]
    simp only [List.length_cons, Int.natCast_succ]
    split <;> omega
theorem kV_b {T : Nat → Nat → Int} {n x : Nat} : ∀ (l : List (Int × Int)), (∀ z, z ∈ l → ∃ w k : Nat, w ≤ 99 ∧ k < 4 ∧ z = ((w : Int), (k : Int))) → 0 ≤ kV T n x l ∧ kV T n x l ≤ 99 * (l.length : Int)
  | [], _ => by simp [kV]
  | z :: l, h => by
    have h1 := kV_b (T := T) (n := n) (x := x) l (fun c hc => h c (List.mem_cons_of_mem _ hc))
    obtain ⟨w, k, hw, hk, rfl⟩ := h z (List.mem_cons_self ..)
    rw [kV]
    simp only [List.length_cons, Int.natCast_succ]
    split <;> omega
theorem r169_boths {x y m : Nat} {u1 : AV} (hx : x < 256) (hy : y < 6) (hm : s (211 + y) = (m : Int)) (h10 : m ≤ 10) : ∀ (l : List (Int × Int × Int)) (i : Nat) (sm : Int) (u6 : AV), i + l.length = m → (∀ (j : Nat) (z : Int × Int × Int), l[j]? = some z → s (217 + 30 * y + 3 * ((i + j : Nat) : Int)) = z.1 ∧ s (218 + 30 * y + 3 * ((i + j : Nat) : Int)) = z.2.1 ∧ s (219 + 30 * y + 3 * ((i + j : Nat) : Int)) = z.2.2) → (∀ z, z ∈ l → ∃ w a b : Nat, w ≤ 99 ∧ a < 8 ∧ b < 8 ∧ z = ((w : Int), (a : Int), (b : Int))) → 0 ≤ sm ∧ sm + 99 * (l.length : Int) ≤ 20000 → ∃ v6 : AV, ∀ Q, R (d + 1) 169 92 [vR 153, u1, vI x, vI y, vI sm, vI i, u6] [] (WS L (setS σ s)) Q = R (d + 1) 169 176 [vR 153, u1, vI x, vI y, vI (sm + bV x l), vI 0, v6] [] (WS L (setS σ s)) Q := by
  have e1 : setS σ s 154 (211 + y) = (m : Int) := by rw [ss_e]; exact hm
  intro l
  induction l with
  | nil =>
    intro i sm u6 hi hs hg hb
    refine ⟨u6, fun Q => ?_⟩
    simp only [List.length_nil] at hi
    rw [b169_92 (by omega) (by omega) (by omega), e1, if_pos (by omega), b169_173]
    simp [bV]
  | cons z l ih =>
    intro i sm u6 hi hs hg hb
    simp only [List.length_cons, Int.natCast_succ] at hi hb
    obtain ⟨w, a, b, hw, ha, hb8, rfl⟩ := hg z (List.mem_cons_self ..)
    obtain ⟨s1, s2, s3⟩ := hs 0 _ rfl
    rw [Nat.add_zero] at s1 s2 s3
    dsimp only at s1 s2 s3
    have t1 : setS σ s 154 (217 + (3 * ((10 * (y : Int)) + i))) = (w : Int) := by rw [ss_e, ← s1]; congr 1; omega
    have t2 : setS σ s 154 ((217 + (3 * ((10 * (y : Int)) + i))) + 1) = (a : Int) := by rw [ss_e, ← s2]; congr 1; omega
    have t3 : setS σ s 154 ((217 + (3 * ((10 * (y : Int)) + i))) + 2) = (b : Int) := by rw [ss_e, ← s3]; congr 1; omega
    have hs' : ∀ (j : Nat) (z : Int × Int × Int), l[j]? = some z → s (217 + 30 * y + 3 * ((i + 1 + j : Nat) : Int)) = z.1 ∧ s (218 + 30 * y + 3 * ((i + 1 + j : Nat) : Int)) = z.2.1 ∧ s (219 + 30 * y + 3 * ((i + 1 + j : Nat) : Int)) = z.2.2 := by
      intro j z hj
      have := hs (j + 1) z (by simpa using hj)
      rwa [show i + (j + 1) = i + 1 + j by omega] at this
    have bit := i_bit2 (x := x) (a := a) (b := b) (by omega) (by omega) (by omega)
    obtain ⟨v6, f⟩ := ih (i + 1) (sm + if (x.testBit a && x.testBit b) = true then (w : Int) else 0) (vI (217 + (3 * ((10 * (y : Int)) + i)))) (by omega) hs' (fun z hz => hg z (List.mem_cons_of_mem _ hz)) (by split <;> omega)
    refine ⟨v6, fun Q => ?_⟩
    rw [b169_92 (by omega) (by omega) (by omega), e1, if_neg (by omega), b169_107 (by omega) (by omega) (by omega) (by omega) (by omega) (by omega) (by omega) (by omega) (by omega) (by omega), t2, t3, bit]
    have ev : bV x (((w : Int), (a : Int), (b : Int)) :: l) = (if (x.testBit a && x.testBit b) = true then (w : Int) else 0) + bV x l := rfl
    have f' := f Q
    rw [ev, ← Int.add_assoc, ← f']
    by_cases q : (x.testBit a && x.testBit b) = true
    · rw [if_neg (by rw [if_pos q]; simp), b169_153 (by omega) (by omega), t1, b169_164 (by omega) (by omega), if_pos q]
      rfl
    · rw [if_pos (by rw [if_neg q]; simp), b169_163, b169_164 (by omega) (by omega), if_neg q]
      rfl
theorem r169_lacks {x y m n : Nat} {u1 : AV} (hn : s 0 = (n : Int)) (h8 : n ≤ 8) (hx : x < 256) (hy : y < 6) (hm : s (397 + y) = (m : Int)) (h10 : m ≤ 10) : ∀ (l : List (Int × Int)) (i : Nat) (sm : Int) (u6 : AV), i + l.length = m → (∀ (j : Nat) (z : Int × Int), l[j]? = some z → s (403 + 20 * y + 2 * ((i + j : Nat) : Int)) = z.1 ∧ s (404 + 20 * y + 2 * ((i + j : Nat) : Int)) = z.2) → (∀ z, z ∈ l → ∃ w k : Nat, w ≤ 99 ∧ k < 4 ∧ z = ((w : Int), (k : Int))) → 99 * (l.length : Int) ≤ sm + 20000 ∧ sm ≤ 20000 → ∀ Q, R (d + 1) 169 176 [vR 153, u1, vI x, vI y, vI sm, vI i, u6] [] (WS L (setS σ s)) Q = Q (some (vI (sm - kV (trS s) n x l))) (WS L (setS σ s)) := by
  have e1 : setS σ s 154 (397 + y) = (m : Int) := by rw [ss_e]; exact hm
  intro l
  induction l with
  | nil =>
    intro i sm u6 hi hs hg hb Q
    simp only [List.length_nil] at hi
    rw [b169_176 (by omega) (by omega) (by omega), e1, if_pos (by omega), b169_245]
    simp [kV]
  | cons z l ih =>
    intro i sm u6 hi hs hg hb Q
    simp only [List.length_cons, Int.natCast_succ] at hi hb
    obtain ⟨w, k, hw, hk, rfl⟩ := hg z (List.mem_cons_self ..)
    obtain ⟨s1, s2⟩ := hs 0 _ rfl
    rw [Nat.add_zero] at s1 s2
    dsimp only at s1 s2
    have t1 : setS σ s 154 (403 + (2 * ((10 * (y : Int)) + i))) = (w : Int) := by rw [ss_e, ← s1]; congr 1; omega
    have t2 : setS σ s 154 ((403 + (2 * ((10 * (y : Int)) + i))) + 1) = (k : Int) := by rw [ss_e, ← s2]; congr 1; omega
    have hs' : ∀ (j : Nat) (z : Int × Int), l[j]? = some z → s (403 + 20 * y + 2 * ((i + 1 + j : Nat) : Int)) = z.1 ∧ s (404 + 20 * y + 2 * ((i + 1 + j : Nat) : Int)) = z.2 := by
      intro j z hj
      have := hs (j + 1) z (by simpa using hj)
      rwa [show i + (j + 1) = i + 1 + j by omega] at this
    have ev : kV (trS s) n x (((w : Int), (k : Int)) :: l) = (if anyN (fun b => x.testBit b && decide (s (130 + b) = (k : Int))) n = true then 0 else (w : Int)) + kV (trS s) n x l := rfl
    have f := ih (i + 1) (sm - if anyN (fun b => x.testBit b && decide (s (130 + b) = (k : Int))) n = true then 0 else (w : Int)) (vI (403 + (2 * ((10 * (y : Int)) + i)))) (by omega) hs' (fun z hz => hg z (List.mem_cons_of_mem _ hz)) (by split <;> omega) Q
    rw [b169_176 (by omega) (by omega) (by omega), e1, if_neg (by omega), b169_191 (by omega) (by omega) (by omega) (by omega) (by omega) (by omega) (by omega), t2, r171 hn h8 hx]
    simp only [am_push_s]
    rw [b169_222, ev, show sm - ((if anyN (fun b => x.testBit b && decide (s (130 + b) = (k : Int))) n = true then 0 else (w : Int)) + kV (trS s) n x l) = sm - (if anyN (fun b => x.testBit b && decide (s (130 + b) = (k : Int))) n = true then 0 else (w : Int)) - kV (trS s) n x l by omega, ← f]
    by_cases q : anyN (fun b => x.testBit b && decide (s (130 + b) = (k : Int))) n = true
    · rw [if_neg (by rw [if_pos q]; simp), b169_225, b169_236 (by omega) (by omega), if_pos q]
      rfl
    · rw [if_pos (by rw [if_neg q]), b169_229 (by omega) (by omega), t1, b169_236 (by omega) (by omega), if_neg q]
      rfl
theorem r169 {c x : Nat} (hw : WF s cl) (hc : c < 3) (hx : x < 2 ^ nS s) : ∃ σ' : St, (∀ a, a ≠ 156 → σ' a = σ a) ∧ ∀ Q, R (d + 1) 169 0 [vR 153, vI c, vI x, vX 9, vX 9, vX 9, vX 9] [] (WS L (setS σ s)) Q = Q (some (vI (Wr s cl c x))) (WS L (setS σ' s)) := by
  obtain ⟨w0, w1, w2, w3, w4, w5, w6, w8, w9⟩ := hw
  unfold W0 at w0
  have hn : s 0 = (nS s : Int) := by unfold nS; omega
  have h8 : nS s ≤ 8 := by omega
  have p8 := pw8 h8
  have hx' : x < 256 := by omega
  have h5 := w5 c hc
  have ht : ∀ b : Nat, b < nS s → 0 ≤ s (138 + b) ∧ s (138 + b) ≤ 20 := fun b hb => (w4 b (by omega)).2.1
  have e4 : setS σ s 154 (154 + c) = s (154 + c) := by rw [ss_e]
  have es : ∀ cls, sumN (fun b => if x.testBit b = true then s (138 + b) + mkS (trS s) b cls else 0) (nS s) = strT (trS s) x (nS s) + sumN (fun b => if x.testBit b = true then mkS (trS s) b cls else 0) (nS s) := by
    intro cls
    unfold strT
    rw [← sumN_add]
    refine sumN_congr (fun b _ => ?_)
    show _ = (if x.testBit b = true then s (138 + b) else 0) + _
    split <;> simp
  by_cases q : s (154 + c) = -1
  · have ec : clS s cl c = [] := by unfold clS; rw [if_pos (by omega)]
    have hG : YG [] := ⟨by simp [nSts], fun c hc => by simp at hc, by simp⟩
    obtain ⟨σ', f1, f2⟩ := r169_boys (d := d) (L := L) (s := s) (x := x) (y := 0) (h := -1) (cls := []) (u1 := vI c) (u6 := vX 9) hn h8 hx' ht (Or.inl ⟨rfl, rfl⟩) hG (nS s) 0 σ (by omega)
    refine ⟨σ', f1, fun Q => ?_⟩
    have f := f2 Q
    rw [b169_0 (by omega) (by omega) (by omega), e4, q]
    refine f.trans ?_
    rw [b169_81, if_neg (by omega), b169_86, es]
    unfold Wr wV
    rw [ec]
    have : sumN (fun b => if x.testBit b = true then mkS (trS s) b [] else 0) (nS s) = 0 := by
      rw [sumN_congr (g := fun _ => 0) (fun b _ => by simp [mkS]), sumN_0]
    rw [this]
    rfl
  · obtain ⟨y, hy⟩ : ∃ y : Nat, s (154 + c) = (y : Int) := ⟨(s (154 + c)).toNat, by omega⟩
    have ec : clS s cl c = cl y := by unfold clS; rw [if_neg (by omega), hy]; rfl
    obtain ⟨hG, hE⟩ := w8 y (by omega)
    have lB := eB_len (cls := cl y)
    have lK := eK_len (cls := cl y)
    have l10 := hG.2.2
    obtain ⟨σ', f1, f2⟩ := r169_boys (d := d) (L := L) (s := s) (x := x) (y := y) (h := (y : Int)) (cls := cl y) (u1 := vI c) (u6 := vX 9) hn h8 hx' ht (Or.inr ⟨rfl, by omega, hE⟩) hG (nS s) 0 σ (by omega)
    have mb := fun b => mkS_b (T := trS s) (b := b) (cl y) hG.2.1
    have bd := sumN_le (f := fun b => if x.testBit b = true then s (138 + b) + mkS (trS s) b (cl y) else 0) (a := 0) (b := 1010) (n := nS s) (fun i hi => by
      have := ht i (by omega)
      have := mb i
      split <;> omega)
    have bb := bV_b (x := x) (eB (cl y)) (eB_g (cl y) hG.2.1)
    obtain ⟨v6, g⟩ := r169_boths (d := d) (L := L) (σ := σ') (s := s) (x := x) (y := y) (u1 := vI c) hx' (by omega) hE.1 (by omega) (eB (cl y)) 0 (sumN (fun b => if x.testBit b = true then s (138 + b) + mkS (trS s) b (cl y) else 0) (nS s)) (vX 9) (by omega) (fun j z hj => by rw [Nat.zero_add]; exact hE.2.1 j z hj) (eB_g (cl y) hG.2.1) (by omega)
    refine ⟨σ', f1, fun Q => ?_⟩
    rw [b169_0 (by omega) (by omega) (by omega), e4, hy]
    refine (f2 Q).trans ?_
    rw [b169_81, if_pos (by omega), b169_89]
    refine (g Q).trans ?_
    refine (r169_lacks (d := d) (L := L) (σ := σ') (s := s) (x := x) (y := y) (u1 := vI c) hn h8 hx' (by omega) hE.2.2.1 (by omega) (eK (cl y)) 0 _ v6 (by omega) (fun j z hj => by rw [Nat.zero_add]; exact hE.2.2.2.1 j z hj) (eK_g (cl y) hG.2.1) (by omega) Q).trans ?_
    rw [es]
    unfold Wr wV
    rw [ec, sumCl_e h8 (cl y) hG.2.1]
    congr 3
    omega
theorem q168 {c x : Int} (hw : WF s cl) : ∃ σ' : St, (∀ a, a ≠ 156 → σ' a = σ a) ∧ ∀ Q, R (d + 5) 168 0 [vR 153, vI c, vI x] [] (WS L (setS σ s)) Q = Q (some (vI (aWorth s cl c x))) (WS L (setS σ' s)) := by
  have w0 := hw.1
  unfold W0 at w0
  have hn : s 0 = (nS s : Int) := by unfold nS; omega
  have h8 : nS s ≤ 8 := by omega
  have p8 := pw8 h8
  have p1 := pw1 (nS s)
  have e0 : setS σ s 154 0 = (nS s : Int) := by rw [ss_e]; exact hn
  have e2 : i_shl 1 (setS σ s 154 0) = ((2 ^ nS s : Nat) : Int) := by rw [e0]; exact i_one_shl (by omega)
  unfold aWorth
  by_cases q1 : 0 ≤ c ∧ c < 3
  · by_cases q2 : 0 ≤ x ∧ x < ((2 ^ nS s : Nat) : Int)
    · obtain ⟨c, rfl⟩ : ∃ c' : Nat, c = (c' : Int) := ⟨c.toNat, by omega⟩
      obtain ⟨x, rfl⟩ : ∃ x' : Nat, x = (x' : Int) := ⟨x.toNat, by omega⟩
      obtain ⟨σ', f1, f2⟩ := r169 (d := d + 3) (L := L) (σ := σ) (c := c) (x := x) hw (by omega) (by omega)
      refine ⟨σ', f1, fun Q => ?_⟩
      rw [if_pos q1, if_pos q2, b168_0, r167]
      simp only [am_push_s]
      rw [b168_4, if_pos (by rw [tI_t q1]; omega), b168_11 (by rw [e2]; omega), e2, r145]
      simp only [am_push_s]
      rw [b168_26, if_neg (by rw [tI_t (by omega)]; omega), b168_29, f2]
      simp only [am_push_s]
      rw [b168_35, b168_41]
      rfl
    · refine ⟨σ, fun _ _ => rfl, fun Q => ?_⟩
      rw [if_pos q1, if_neg q2, b168_0, r167]
      simp only [am_push_s]
      rw [b168_4, if_pos (by rw [tI_t q1]; omega), b168_11 (by rw [e2]; omega), e2, r145]
      simp only [am_push_s]
      rw [b168_26, if_pos (by rw [tI_f (by omega)]), b168_38, b168_41]
  · refine ⟨σ, fun _ _ => rfl, fun Q => ?_⟩
    rw [if_neg q1, b168_0, r167]
    simp only [am_push_s]
    rw [b168_4, if_neg (by rw [tI_f q1]; omega), b168_7]
end RA3
