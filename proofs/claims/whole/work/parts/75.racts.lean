/-! the reference: acts, the trace -/
def TRR (σ0 : St) (l : List Int) (σ : St) : Prop := (∀ a, a ≠ 153 → a ≠ 164 → σ a = σ0 a) ∧ (∀ j : Int, j ≠ 25 → σ 153 j = σ0 153 j) ∧ σ 153 25 = (l.length : Int) ∧ ∀ (i : Nat) (c : Int), l[i]? = some c → σ 164 i = c
def FKR (k i f : Int) (σ0 : St) : Prop := σ0 153 26 = k ∧ σ0 153 27 = i ∧ σ0 153 28 = f
section RN9
variable {d L : Nat} {N : Int} {s s' : Int → Int} {cl cl' : Nat → List Cl} {σ σ0 σ1 : St} {Q : Option AV → AW → Prop} {k i f : Int}
theorem FKR_t {l : List Int} (h : FKR k i f σ0) (ht : TRR σ0 l σ) : σ 153 26 = k ∧ σ 153 27 = i ∧ σ 153 28 = f := by
  rw [ht.2.1 26 (by omega), ht.2.1 27 (by omega), ht.2.1 28 (by omega)]
  exact h
theorem r220 {l : List Int} {b : Int} (h : TRR σ0 l σ) (hl : l.length < 20) : ∃ σ' : St, TRR σ0 (l ++ [b]) σ' ∧ ∀ Q, R d 220 0 [vR 153, vI b] [] (WS L σ) Q = Q none (WS L σ') := by
  obtain ⟨h1, h2, h3, h4⟩ := h
  have e25 : st2 σ 164 (l.length : Int) b 153 25 = (l.length : Int) := by rw [st2_k (by omega)]; exact h3
  refine ⟨st2 (st2 σ 164 (l.length : Int) b) 153 25 ((l.length : Int) + 1), ⟨fun a a1 a2 => ?_, fun j hj => ?_, ?_, fun i c hi => ?_⟩, fun Q => ?_⟩
  · funext j
    rw [st2_k a1, st2_k a2, h1 a a1 a2]
  · rw [st2_i hj, st2_k (by omega)]
    exact h2 j hj
  · rw [st2_eq]
    simp
  · rw [st2_k (by omega)]
    rcases app_some hi with hi | ⟨rfl, rfl⟩
    · have := lt_of_some hi
      rw [st2_i (by omega)]
      exact h4 i c hi
    · exact st2_eq
  · rw [b220_0, h3, if_neg (by omega), b220_9 (by omega) (by omega), h3, b220_19 (by rw [e25]; omega), e25, b220_29]
theorem r221 {l : List Int} {x : Int} (hF : FKR k i f σ0) (h : TRR σ0 l σ) (hl : l.length < 20) : ∃ σ' : St, TRR σ0 (l ++ [1]) σ' ∧ ∀ Q, R (d + 1) 221 0 [vR 153, vI x] [] (WS L σ) Q = Q (some (vI (wr (x + i)))) (WS L σ') := by
  obtain ⟨σ1, f1, f2⟩ := r220 (d := d) (L := L) (b := 1) h hl
  obtain ⟨g1, g2, g3⟩ := FKR_t hF f1
  refine ⟨σ1, f1, fun Q => ?_⟩
  rw [b221_0, f2]
  simp only [am_push_n]
  rw [b221_5, g2]
theorem r218 {l : List Int} {x : Int} (hF : FKR k i f σ0) (h : TRR σ0 l σ) (hl : l.length ≤ 16) : ∃ σ' : St, TRR σ0 (l ++ (pkA k i x).2) σ' ∧ ∀ Q, R (d + 3) 218 0 [vR 153, vI x] [] (WS L σ) Q = Q (some (vI (pkA k i x).1)) (WS L σ') := by
  obtain ⟨g1, g2, g3⟩ := FKR_t hF h
  unfold pkA
  by_cases q1 : k = 1 ∨ k = 3 ∨ k = 6
  · rw [if_pos q1]
    obtain ⟨σ1, f1, f2⟩ := r220 (d := d + 2) (L := L) (b := 11) h (by omega)
    obtain ⟨σ2, j1, j2⟩ := r221 (d := d + 1) (L := L) (x := wr (x * 3)) hF f1 (by simp; omega)
    have hq : (1 : Int) = 0 ∨ 1 = k ∨ ((1 : Int) = 1 ∧ (k = 3 ∨ k = 6)) ∨ ((1 : Int) = 2 ∧ k = 4) := by omega
    refine ⟨σ2, by rw [List.append_assoc] at j1; exact j1, fun Q => ?_⟩
    rw [b218_0, g1, r219, if_pos hq]
    simp only [am_push_s]
    rw [b218_8, if_neg (by omega), b218_11, f2]
    simp only [am_push_n]
    rw [b218_17, j2]
    simp only [am_push_s]
    rw [b218_24]
  · rw [if_neg q1]
    have hq : ¬ ((1 : Int) = 0 ∨ 1 = k ∨ ((1 : Int) = 1 ∧ (k = 3 ∨ k = 6)) ∨ ((1 : Int) = 2 ∧ k = 4)) := by omega
    have start : ∀ Q, R (d + 3) 218 0 [vR 153, vI x] [] (WS L σ) Q = R (d + 3) 218 25 [vR 153, vI x] [] (WS L σ) Q := by
      intro Q
      rw [b218_0, g1, r219, if_neg hq]
      simp only [am_push_s]
      rw [b218_8, if_pos rfl]
    by_cases q2 : k = 4
    · rw [if_pos q2]
      obtain ⟨σ1, f1, f2⟩ := r220 (d := d + 2) (L := L) (b := 51) h (by omega)
      obtain ⟨σ2, j1, j2⟩ := r221 (d := d + 1) (L := L) (x := x) hF f1 (by simp; omega)
      obtain ⟨k1, k2, k3⟩ := FKR_t hF j1
      refine ⟨σ2, by rw [List.append_assoc] at j1; exact j1, fun Q => ?_⟩
      rw [start, b218_25, g1, if_neg (by omega), b218_33, f2]
      simp only [am_push_n]
      rw [b218_39, j2]
      simp only [am_push_s]
      rw [b218_44, k2]
    · rw [if_neg q2]
      obtain ⟨σ2, j1, j2⟩ := r221 (d := d + 1) (L := L) (x := x) hF h (by omega)
      refine ⟨σ2, j1, fun Q => ?_⟩
      rw [start, b218_25, g1, if_pos q2, b218_50, j2]
      simp only [am_push_s]
      rw [b218_55]
theorem r223 {l : List Int} {x : Int} (hF : FKR k i f σ0) (h : TRR σ0 l σ) (hl : l.length ≤ 15) : ∃ σ' : St, TRR σ0 (l ++ (wbA k i f x).2) σ' ∧ ∀ Q, R (d + 4) 223 0 [vR 153, vI x] [] (WS L σ) Q = Q (some (vI (wbA k i f x).1)) (WS L σ') := by
  obtain ⟨σ1, f1, f2⟩ := r220 (d := d + 3) (L := L) (b := 2) h (by omega)
  obtain ⟨σ2, j1, j2⟩ := r218 (d := d) (L := L) (x := x) hF f1 (by simp; omega)
  obtain ⟨k1, k2, k3⟩ := FKR_t hF j1
  refine ⟨σ2, by rw [List.append_assoc] at j1; exact j1, fun Q => ?_⟩
  rw [b223_0, f2]
  simp only [am_push_n]
  rw [b223_5, j2]
  simp only [am_push_s]
  rw [b223_10, k3]
  rfl
theorem r222 {l : List Int} {x : Int} (hF : FKR k i f σ0) (h : TRR σ0 l σ) (hl : l.length ≤ 14) : ∃ σ' : St, TRR σ0 (l ++ (wtA k i f x).2) σ' ∧ ∀ Q, R (d + 5) 222 0 [vR 153, vI x] [] (WS L σ) Q = Q (some (vI (wtA k i f x).1)) (WS L σ') := by
  obtain ⟨g1, g2, g3⟩ := FKR_t hF h
  unfold wtA
  by_cases q1 : k = 6
  · rw [if_pos q1]
    obtain ⟨σ1, f1, f2⟩ := r220 (d := d + 4) (L := L) (b := 61) h (by omega)
    obtain ⟨σ2, j1, j2⟩ := r223 (d := d) (L := L) (x := x) hF f1 (by simp; omega)
    obtain ⟨k1, k2, k3⟩ := FKR_t hF j1
    refine ⟨σ2, by rw [List.append_assoc] at j1; exact j1, fun Q => ?_⟩
    rw [b222_0, g1, if_neg (by omega), b222_9, f2]
    simp only [am_push_n]
    rw [b222_15, j2]
    simp only [am_push_s]
    rw [b222_20, k3]
  · rw [if_neg q1]
    by_cases q2 : k = 2 ∨ k = 4
    · rw [if_pos q2]
      have hq : (2 : Int) = 0 ∨ 2 = k ∨ ((2 : Int) = 1 ∧ (k = 3 ∨ k = 6)) ∨ ((2 : Int) = 2 ∧ k = 4) := by omega
      obtain ⟨σ1, f1, f2⟩ := r220 (d := d + 4) (L := L) (b := 21) h (by omega)
      obtain ⟨σ2, j1, j2⟩ := r223 (d := d) (L := L) (x := x) hF f1 (by simp; omega)
      refine ⟨σ2, by rw [List.append_assoc] at j1; exact j1, fun Q => ?_⟩
      rw [b222_0, g1, if_pos q1, b222_26, g1, r219, if_pos hq]
      simp only [am_push_s]
      rw [b222_34, if_neg (by omega), b222_37, f2]
      simp only [am_push_n]
      rw [b222_43, j2]
      simp only [am_push_s]
      rw [b222_48]
    · rw [if_neg q2]
      have hq : ¬ ((2 : Int) = 0 ∨ 2 = k ∨ ((2 : Int) = 1 ∧ (k = 3 ∨ k = 6)) ∨ ((2 : Int) = 2 ∧ k = 4)) := by omega
      obtain ⟨σ2, j1, j2⟩ := r223 (d := d) (L := L) (x := x) hF h (by omega)
      refine ⟨σ2, j1, fun Q => ?_⟩
      rw [b222_0, g1, if_pos q1, b222_26, g1, r219, if_neg hq]
      simp only [am_push_s]
      rw [b222_34, if_pos rfl, b222_50, j2]
      simp only [am_push_s]
      rw [b222_55]
theorem r225 {l : List Int} {x : Int} (hF : FKR k i f σ0) (h : TRR σ0 l σ) (hl : l.length ≤ 13) : ∃ σ' : St, TRR σ0 (l ++ (lbA k i f x).2) σ' ∧ ∀ Q, R (d + 6) 225 0 [vR 153, vI x] [] (WS L σ) Q = Q (some (vI (lbA k i f x).1)) (WS L σ') := by
  obtain ⟨σ1, f1, f2⟩ := r220 (d := d + 5) (L := L) (b := 3) h (by omega)
  obtain ⟨σ2, j1, j2⟩ := r222 (d := d) (L := L) (x := x) hF f1 (by simp; omega)
  refine ⟨σ2, by rw [List.append_assoc] at j1; exact j1, fun Q => ?_⟩
  rw [b225_0, f2]
  simp only [am_push_n]
  rw [b225_5, j2]
  simp only [am_push_s]
  rw [b225_10]
  rfl
theorem r224 {l : List Int} {x : Int} (hF : FKR k i f σ0) (h : TRR σ0 l σ) (hl : l.length ≤ 10) : ∃ σ' : St, TRR σ0 (l ++ (lvA k i f x).2) σ' ∧ ∀ Q, R (d + 7) 224 0 [vR 153, vI x, vX 9] [] (WS L σ) Q = Q (some (vI (lvA k i f x).1)) (WS L σ') := by
  obtain ⟨g1, g2, g3⟩ := FKR_t hF h
  unfold lvA
  by_cases q1 : k = 5
  · rw [if_pos q1]
    obtain ⟨σ1, f1, f2⟩ := r220 (d := d + 6) (L := L) (b := 31) h (by omega)
    obtain ⟨σ2, j1, j2⟩ := r225 (d := d) (L := L) (x := x) hF f1 (by simp; omega)
    refine ⟨σ2, by rw [List.append_assoc] at j1; exact j1, fun Q => ?_⟩
    rw [b224_0, g1, if_neg (by omega), b224_8, f2]
    simp only [am_push_n]
    rw [b224_14, j2]
    simp only [am_push_s]
    rw [b224_19]
  · rw [if_neg q1]
    by_cases q2 : k = 3
    · rw [if_pos q2]
      have l5 := lbA_len (k := k) (i := i) (f := f) (x := wr (x - 1))
      obtain ⟨σ1, f1, f2⟩ := r220 (d := d + 6) (L := L) (b := 41) h (by omega)
      obtain ⟨σ2, j1, j2⟩ := r225 (d := d) (L := L) (x := wr (x - 1)) hF f1 (by simp; omega)
      obtain ⟨σ3, k1, k2⟩ := r218 (d := d + 3) (L := L) (x := 2) hF j1 (by simp; omega)
      refine ⟨σ3, by simp only [List.append_assoc] at k1; exact k1, fun Q => ?_⟩
      rw [b224_0, g1, if_pos q1, b224_23, g1, if_neg (by omega), b224_31, f2]
      simp only [am_push_n]
      rw [b224_37, j2]
      simp only [am_push_s]
      rw [b224_44, k2]
      simp only [am_push_s]
      rw [b224_51]
    · rw [if_neg q2]
      obtain ⟨σ2, j1, j2⟩ := r225 (d := d) (L := L) (x := x) hF h (by omega)
      refine ⟨σ2, j1, fun Q => ?_⟩
      rw [b224_0, g1, if_pos q1, b224_23, g1, if_pos q2, b224_53, j2]
      simp only [am_push_s]
      rw [b224_58]
/-- the friends are counted -/
def fz (σ : St) (z : Int) : St := st2 σ 153 28 z
theorem r217_l {n : Nat} {c : Int} {u2 u3 : AV} (hn : s 0 = (n : Int)) (h8 : n ≤ 8) (h4 : σ 154 = s) : ∀ (j m : Nat), m + j = n → R d 217 50 [vR 153, vI c, u2, u3, vI m] [] (WS L (st2 σ 153 28 (cnt (fun b => decide (s (146 + b) = c)) m))) Q = R d 217 96 [vR 153, vI c, u2, u3, vI n] [] (WS L (st2 σ 153 28 (cnt (fun b => decide (s (146 + b) = c)) n))) Q := by
  intro j
  induction j with
  | zero =>
    intro m hm
    obtain rfl : m = n := by omega
    have e4 : ∀ z : Int, st2 σ 153 28 z 154 = s := fun z => by funext j; rw [st2_k (by omega), h4]
    rw [b217_50, e4, if_pos (by omega)]
  | succ j ih =>
    intro m hm
    have e4 : ∀ z : Int, st2 σ 153 28 z 154 = s := fun z => by funext j; rw [st2_k (by omega), h4]
    have hc := cnt_le (fun b => decide (s (146 + b) = c)) m
    have e := ih (m + 1) (by omega)
    rw [cnt] at e
    have es : ∀ z z' : Int, st2 (st2 σ 153 28 z) 153 28 z' = st2 σ 153 28 z' := fun z z' => by
      funext a j
      unfold st2
      split <;> rfl
    rw [b217_50, e4, if_neg (by omega), b217_61 (by omega) (by omega) (by omega), e4, st2_eq]
    by_cases q : s (146 + m) = c
    · rw [if_neg (by simpa using q), b217_81, b217_86 (by omega), es, b217_90 (by omega)]
      simpa [q] using e
    · rw [if_pos q, b217_85, b217_86 (by omega), es, b217_90 (by omega)]
      simpa [q] using e
theorem fr_cnt8 {c : Nat} (h8 : nS s ≤ 8) : cnt (fun b => (frS s c).testBit b) 8 = cnt (fun b => decide (s (146 + b) = c)) (nS s) := by
  rw [cnt_cut h8 (fun i hi => by unfold frS; rw [bits_test]; simp; omega)]
  refine cnt_congr (fun i hi => ?_)
  unfold frS
  rw [bits_test]
  simp [hi]
theorem q217 {c a x : Int} (hw : WF s cl) (h4 : σ 154 = s) : ∃ σ' : St, (∀ q, q ≠ 153 → q ≠ 164 → σ' q = σ q) ∧ (∀ j : Int, j < 25 ∨ 28 < j → σ' 153 j = σ 153 j) ∧ σ' 153 25 = ((ac2 s c a x).2.length : Int) ∧ (∀ (i : Nat) (z : Int), (ac2 s c a x).2[i]? = some z → σ' 164 i = z) ∧ ∀ Q, R (d + 9) 217 0 [vR 153, vI c, vI a, vI x, vX 9] [] (WS L σ) Q = Q (some (vI (ac2 s c a x).1)) (WS L σ') := by
  have w0 := hw.1
  unfold W0 at w0
  have hn : s 0 = (nS s : Int) := by unfold nS; omega
  have h8 : nS s ≤ 8 := by omega
  unfold ac2
  by_cases q : (0 ≤ c ∧ c < 3) ∧ (0 ≤ a ∧ a < 3)
  · rw [if_pos q]
    obtain ⟨c, rfl⟩ : ∃ c' : Nat, c = (c' : Int) := ⟨c.toNat, by omega⟩
    let σa : St := st2 (st2 (st2 σ 153 25 0) 153 26 (s (157 + (c : Int)))) 153 27 c
    have hσa : σa = st2 (st2 (st2 σ 153 25 0) 153 26 (s (157 + (c : Int)))) 153 27 c := rfl
    have k : ∀ a, a ≠ 153 → σa a = σ a := fun a ha => by
      funext j
      rw [hσa, st2_k ha, st2_k ha, st2_k ha]
    have e4 : σa 154 = s := by rw [k 154 (by omega), h4]
    let σb : St := st2 σa 153 28 (cnt (fun b => decide (s (146 + b) = (c : Int))) (nS s) : Nat)
    have hσb : σb = st2 σa 153 28 (cnt (fun b => decide (s (146 + b) = (c : Int))) (nS s) : Nat) := rfl
    have hT : TRR σb [] σb := ⟨fun _ _ _ => rfl, fun _ _ => rfl, by
      rw [hσb, st2_i (by omega), hσa, st2_i (by omega), st2_i (by omega), st2_eq]
      rfl, fun i c h => by simp at h⟩
    have hF : FKR (s (157 + (c : Int))) c (cnt (fun b => (frS s c).testBit b) 8 : Int) σb := by
      refine ⟨?_, ?_, ?_⟩
      · rw [hσb, st2_i (by omega), hσa, st2_i (by omega), st2_eq]
      · rw [hσb, st2_i (by omega), hσa, st2_eq]
      · rw [hσb, st2_eq, fr_cnt8 h8]
    have hb : (∀ q, q ≠ 153 → σb q = σ q) ∧ ∀ j : Int, j < 25 ∨ 28 < j → σb 153 j = σ 153 j := by
      refine ⟨fun q hq => ?_, fun j hj => ?_⟩
      · funext j
        rw [hσb, st2_k hq, k q hq]
      · rw [hσb, st2_i (by omega), hσa, st2_i (by omega), st2_i (by omega), st2_i (by omega)]
    have start : ∀ Q, R (d + 9) 217 0 [vR 153, vI c, vI a, vI x, vX 9] [] (WS L σ) Q = R (d + 9) 217 96 [vR 153, vI c, vI a, vI x, vI (nS s)] [] (WS L σb) Q := by
      intro Q
      have ex : st2 σ 153 25 0 154 (157 + c) = s (157 + c) := by rw [st2_k (by omega), h4]
      rw [b217_0, b217_5, r167]
      simp only [am_push_s]
      rw [b217_9, if_neg (by rw [tI_t q.1]; omega), b217_12, r145]
      simp only [am_push_s]
      rw [b217_18, if_pos (by rw [tI_t (by omega)]; omega), b217_23 (by omega) (by omega) (by omega), ex, b217_37, b217_42, b217_47]
      exact r217_l hn h8 e4 (nS s) 0 (by omega)
    unfold acA
    by_cases q0 : a = 0
    · rw [if_pos q0]
      obtain ⟨σ1, f1, f2⟩ := r218 (d := d + 5) (L := L) (x := x) hF hT (by simp)
      rw [List.nil_append] at f1
      refine ⟨σ1, fun q a1 a2 => (f1.1 q a1 a2).trans (hb.1 q a1), fun j hj => (f1.2.1 j (by omega)).trans (hb.2 j hj), f1.2.2.1, f1.2.2.2, fun Q => ?_⟩
      rw [start, b217_96, if_neg (by omega), b217_100, f2]
      simp only [am_push_s]
      rw [b217_105, b217_126]
    · rw [if_neg q0]
      by_cases q1 : a = 1
      · rw [if_pos q1]
        obtain ⟨σ1, f1, f2⟩ := r222 (d := d + 3) (L := L) (x := x) hF hT (by simp)
        rw [List.nil_append] at f1
        refine ⟨σ1, fun q a1 a2 => (f1.1 q a1 a2).trans (hb.1 q a1), fun j hj => (f1.2.1 j (by omega)).trans (hb.2 j hj), f1.2.2.1, f1.2.2.2, fun Q => ?_⟩
        rw [start, b217_96, if_pos q0, b217_108, if_neg (by omega), b217_113, f2]
        simp only [am_push_s]
        rw [b217_118, b217_126]
      · rw [if_neg q1]
        obtain ⟨σ1, f1, f2⟩ := r224 (d := d + 1) (L := L) (x := x) hF hT (by simp)
        rw [List.nil_append] at f1
        refine ⟨σ1, fun q a1 a2 => (f1.1 q a1 a2).trans (hb.1 q a1), fun j hj => (f1.2.1 j (by omega)).trans (hb.2 j hj), f1.2.2.1, f1.2.2.2, fun Q => ?_⟩
        rw [start, b217_96, if_pos q0, b217_108, if_pos q1, b217_121, f2]
        simp only [am_push_s]
        rw [b217_126]
  · rw [if_neg q]
    refine ⟨st2 σ 153 25 0, fun q h _ => by funext j; exact st2_k h, fun j hj => st2_i (by omega), st2_eq, fun i z h => by simp at h, fun Q => ?_⟩
    rw [b217_0, b217_5, r167]
    simp only [am_push_s]
    rw [b217_9]
    by_cases q1 : 0 ≤ c ∧ c < 3
    · rw [if_neg (by rw [tI_t q1]; omega), b217_12, r145]
      simp only [am_push_s]
      rw [b217_18, if_neg (by rw [tI_f (by omega)]; omega), b217_21]
    · rw [if_pos (by rw [tI_f q1]), b217_21]
theorem q226 {x : Int} {l : List Int} (hl : l.length ≤ 8) (h1 : σ 153 25 = (l.length : Int)) (h2 : ∀ (i : Nat) (c : Int), l[i]? = some c → σ 164 i = c) : R (d + 1) 226 0 [vR 153, vI x] [] (WS L σ) Q = Q (some (vI (aTrace l x))) (WS L σ) := by
  unfold aTrace
  rw [b226_0, h1, if_neg (by omega), b226_11, h1, b226_20 (by omega), r145]
  simp only [am_push_s]
  rw [b226_25]
  by_cases q : 0 ≤ x ∧ x < (l.length : Int)
  · obtain ⟨i, rfl⟩ : ∃ i : Nat, x = (i : Int) := ⟨x.toNat, by omega⟩
    rw [if_neg (by rw [tI_t (by omega)]; omega), b226_28 (by omega) (by omega), b226_38, if_pos q]
    have hi : l[i]? = some (l.getD i 0) := by
      rw [List.getD_eq_getElem?_getD, List.getElem?_eq_getElem (show i < l.length by omega)]
      rfl
    rw [h2 i _ hi]
    rfl
  · rw [if_pos (by rw [tI_f (by omega)]), b226_37, b226_38, if_neg q]
end RN9
