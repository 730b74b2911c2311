/-! the calls of the class, by the array: the tape, yards, boys -/
theorem i_and_255 {z : Int} : 0 ≤ i_and z 255 ∧ i_and z 255 < 256 := by
  unfold i_and
  rw [i32_toInt]
  have e : (Int32.ofInt z &&& Int32.ofInt 255).toBitVec = (Int32.ofInt z).toBitVec &&& (Int32.ofInt 255).toBitVec := rfl
  have h : ((Int32.ofInt z).toBitVec &&& (Int32.ofInt 255).toBitVec).toNat ≤ 255 := by
    rw [BitVec.toNat_and]
    exact Nat.and_le_right
  rw [e, bv_toInt (by omega)]
  omega
def byC (w : Int64) (k : Int) : Int := i_and (l_i (l_ushr w (8 * k))) 255
def aFeed (s : Int → Int) (n : Int) : Int := if n < 1 ∨ 8 < n then -2 else if 120 < s 7 + n then -4 else s 7 + n
def uFeed (s : Int → Int) (f : Int → Int) (n : Int) : Int → Int := if n < 1 ∨ 8 < n then s else if 120 < s 7 + n then s else fun j => if j = 7 then s 7 + n else if 10 + s 7 ≤ j ∧ j < 10 + s 7 + n then f (n - 1 - (j - 10 - s 7)) else s j
def fdS (σ : St) (t n k : Int) (f : Int → Int) : St := fun a j => if a = 21 ∧ j = 1 then t + k else if a = 22 ∧ t ≤ j ∧ j < t + k then f (n - 1 - (j - t)) else σ a j
section OQ
variable {d L N : Nat} {s s' : Int → Int} {cl cl' : Nat → List Cl} {σ σ1 : St} {Q : Option AV → AW → Prop}
theorem fdS_s {t n k : Int} {f : Int → Int} (hk : 0 ≤ k) : st2 (st2 (fdS σ t n k f) 22 (t + k) (f (n - 1 - k))) 21 1 (t + k + 1) = fdS σ t n (k + 1) f := by
  funext a j
  simp only [st2, fdS]
  by_cases h1 : a = 21 ∧ j = 1
  · rw [if_pos h1, if_pos h1]
    omega
  · rw [if_neg h1, if_neg h1, if_neg h1]
    by_cases h2 : a = 22 ∧ j = t + k
    · rw [if_pos h2, if_pos (by omega), h2.2, show t + k - t = k by omega]
    · rw [if_neg h2]
      by_cases h3 : a = 22 ∧ t ≤ j ∧ j < t + k
      · rw [if_pos h3, if_pos (by omega)]
      · rw [if_neg h3, if_neg (by omega)]
theorem fdS_k {t n k : Int} {f : Int → Int} {a : Nat} (h : a ≠ 21 ∧ a ≠ 22) : fdS σ t n k f a = σ a := by
  funext j
  unfold fdS
  rw [if_neg (by omega), if_neg (by omega)]
theorem k47_l {t n : Int} {w : Int64} {u : AV} (ht : 0 ≤ t) (hn : n ≤ 8) (hm : t + n ≤ 120) : ∀ (m : Nat) (k : Int), 0 ≤ k → k + m = n → R (d + 1) 47 39 [vR 19, vL w, u, vI n, vI (n - 1 - k)] [] (WS L (fdS σ t n k (byC w))) Q = Q (some (vI (t + n))) (WS L (fdS σ t n n (byC w))) := by
  have hk : KD 21 = 5 := rfl
  have hl : LN L (21 + 1) = 120 := rfl
  have e21 : ∀ k, fdS σ t n k (byC w) 21 1 = t + k := fun k => by
    unfold fdS
    rw [if_pos ⟨rfl, rfl⟩]
  intro m
  induction m with
  | zero =>
    intro k h0 hkm
    obtain rfl : k = n := by omega
    rw [b47_39, if_pos (by omega), b47_73, e21]
  | succ m ih =>
    intro k h0 hkm
    rw [b47_39, if_neg (by omega), b47_44 (by omega), r48 hk (by rw [e21]; omega) (by rw [e21, hl]; omega) (by rw [hl]; omega), e21]
    simp only [am_push_s]
    have e := fdS_s (σ := σ) (t := t) (n := n) (f := byC w) h0
    unfold byC at e
    rw [b47_66 (by omega), show (21 + 1 : Nat) = 22 from rfl]
    unfold byC
    rw [e, show n - 1 - k + -1 = n - 1 - (k + 1) by omega]
    exact ih (k + 1) (by omega) (by omega)
theorem k47 {w : Int64} {n : Int} {u : AV} (h : HC N s cl σ) : ∃ σ1 : St, CP N (uFeed s (byC w) n) cl σ σ1 ∧ ∀ Q, R (d + 30) 47 0 [vR 19, vL w, u, vI n, vX 9] [] (WS L σ) Q = Q (some (vI (aFeed s n))) (WS L σ1) := by
  have h' := h
  obtain ⟨⟨w0, w1, w2, w3, w4, w5, w6, w8, w9⟩, ⟨c0, c1, c2, c3, c4, c5, c6, c7, c8, c9⟩, -⟩ := h
  unfold W0 at w0
  have e21 : σ 21 1 = s 7 := c1.1
  unfold aFeed uFeed
  by_cases q : n < 1 ∨ 8 < n
  · rw [if_pos q, if_pos q]
    refine ⟨σ, CP_r h', fun Q => ?_⟩
    rw [b47_0]
    by_cases q1 : n < 1
    · rw [if_pos q1, b47_11]
    · rw [if_neg q1, b47_5, if_neg (by omega), b47_11]
  · have start : ∀ Q, R (d + 30) 47 0 [vR 19, vL w, u, vI n, vX 9] [] (WS L σ) Q = R (d + 30) 47 14 [vR 19, vL w, u, vI n, vX 9] [] (WS L σ) Q := by
      intro Q
      rw [b47_0, if_neg (by omega), b47_5, if_pos (by omega)]
    rw [if_neg q, if_neg q]
    by_cases q2 : 120 < s 7 + n
    · rw [if_pos q2, if_pos q2]
      refine ⟨σ, CP_r h', fun Q => ?_⟩
      rw [start, b47_14 (by omega), if_neg (by omega), b47_31]
    · rw [if_neg q2, if_neg q2]
      have hσ : ∀ a, (a ≠ 21 ∧ a ≠ 22) → fdS σ (s 7) n n (byC w) a = σ a := fun a ha => fdS_k ha
      have h20 : ∀ j : Int, (0 : Int) ≤ 0 → fdS σ (s 7) n n (byC w) 20 j = σ 20 j := fun j _ => by rw [hσ 20 (by omega)]
      have hs : ∀ j : Int, (j ≠ 7 ∧ (j < 10 ∨ 130 ≤ j)) → (fun j => if j = 7 then s 7 + n else if 10 + s 7 ≤ j ∧ j < 10 + s 7 + n then byC w (n - 1 - (j - 10 - s 7)) else s j) j = s j := fun j hj => by
        dsimp only
        rw [if_neg hj.1, if_neg (by omega)]
      have e0 : fdS σ (s 7) n 0 (byC w) = σ := by
        funext a j
        unfold fdS
        by_cases q3 : a = 21 ∧ j = 1
        · rw [if_pos q3, q3.1, q3.2, e21]
          omega
        · rw [if_neg q3, if_neg (by omega)]
      refine ⟨fdS σ (s 7) n n (byC w), CP_of h' (fun a ha => hσ a (by omega)) ⟨(by unfold C0; rw [h20 0 (by omega), h20 1 (by omega), h20 2 (by omega), h20 3 (by omega), h20 4 (by omega), hs 0 (by omega), hs 1 (by omega), hs 2 (by omega), hs 3 (by omega), hs 4 (by omega)]; exact c0), ?_, (C2_fr c2 (hσ 23 (by omega)) (hσ 24 (by omega)) (hs 5 (by omega)) (fun j _ _ => hs j (by omega)) (by omega)), (C3_fr c3 (hσ 25 (by omega)) (hσ 26 (by omega)) (hs 6 (by omega)) (fun j _ _ => hs j (by omega)) (by omega)), (C4_fr c4 (hσ 27 (by omega)) (hs 0 (by omega)) (by omega) (fun j _ _ => hs j (by omega))), (C5_fr c5 (hσ 28 (by omega)) (hσ 29 (by omega)) (hσ 30 (by omega)) (hs 0 (by omega)) (by omega) (fun j _ _ => hs j (by omega)) (fun j _ _ => hs j (by omega))), (C6_fr c6 w6 (fun a _ _ => hσ a (by omega)) (fun j _ _ => hs j (by omega))), (C7_fr c7 (hσ 31 (by omega)) (hs 0 (by omega)) (by omega) (fun j _ _ => hs j (by omega))), (C8_fr c8 (fun a _ _ => hσ a (by omega)) (hs 1 (by omega)) (by omega)), (C9_fr c9 w9 (by omega) (fun a _ _ => hσ a (by omega)) (hs 3 (by omega)) (by omega) (fun j _ _ => hs j (by omega)))⟩ (hσ 31 (by omega)) (h20 5 (by omega)) (hs 0 (by omega)), fun Q => ?_⟩
      · refine ⟨?_, fun i hi => ?_⟩
        · show fdS σ (s 7) n n (byC w) 21 1 = _
          unfold fdS
          rw [if_pos ⟨rfl, rfl⟩]
          exact (if_pos rfl).symm
        · dsimp only at hi ⊢
          rw [if_pos rfl] at hi
          show fdS σ (s 7) n n (byC w) 22 i = _
          unfold fdS
          rw [if_neg (show ¬ ((22 : Nat) = 21 ∧ (i : Int) = 1) by omega), if_neg (show ¬ (10 + (i : Int) = 7) by omega)]
          by_cases q3 : s 7 ≤ (i : Int)
          · rw [if_pos (by omega), if_pos (by omega), show 10 + (i : Int) - 10 - s 7 = i - s 7 by omega]
          · rw [if_neg (by omega), if_neg (by omega)]
            exact c1.2 i (by omega)
      · have e := k47_l (d := d + 29) (L := L) (σ := σ) (Q := Q) (t := s 7) (n := n) (w := w) (u := u) (by omega) (by omega) (by omega) n.toNat 0 (by omega) (by omega)
        rw [e0, show n - 1 - 0 = n - 1 by omega] at e
        rw [start, b47_14 (by omega), if_pos (by omega), b47_34 (by omega)]
        exact e
/-- a row copied -/
theorem i_min_s {a b : Int} (h : a ≤ b) : i_min a b = a := by
  unfold i_min
  rw [if_neg (by omega)]
theorem r52 {q0 q1 : Nat} (h1 : KD q0 = 100) (h2 : KD q1 = 100) (hN : LN L q0 = LN L q1) : R d 52 0 [vR q0, vR q1] [] (WS L σ) Q = Q none (WS L (cp2 σ q0 q1 0 0 (LN L q1))) := by
  have e : i_min (LN L q0 : Int) (LN L q1 : Int) = (LN L q1 : Int) := by rw [hN]; exact i_min_s (Int.le_refl _)
  rw [b52_0 h1 h2 (by rw [e]; omega) (by rw [e]; omega) (by rw [e]; omega), e, b52_14]
theorem r51 {r0 r1 : Nat} (h1 : KD r0 = 5) (h2 : KD r1 = 5) (hN : LN L (r1 + 1) = LN L (r0 + 1)) : R (d + 1) 51 0 [vR r0, vR r1] [] (WS L σ) Q = Q none (WS L (st2 (cp2 σ (r1 + 1) (r0 + 1) 0 0 (LN L (r0 + 1))) r0 1 (i_min (cp2 σ (r1 + 1) (r0 + 1) 0 0 (LN L (r0 + 1)) r1 1) (LN L (r0 + 1) : Int)))) := by
  rw [b51_0, b51_4 h2 h1, r52 (row_ar h2) (row_ar h1) hN]
  simp only [am_push_n]
  rw [b51_15 h2 h1, b51_31]
theorem cp2_k {k q a : Nat} {x y z : Int} (h : a ≠ q) : cp2 σ k q x y z a = σ a := by
  funext j
  unfold cp2
  rw [if_neg (by omega)]
theorem cp2_in {k q : Nat} {z j : Int} (h0 : 0 ≤ j) (h1 : j < z) : cp2 σ k q 0 0 z q j = σ k j := by
  unfold cp2
  rw [if_pos (by omega), show 0 + (j - 0) = j by omega]
/-- a tape that is a yard now, or a fault: what of the array is another -/
def UY (s : Int → Int) (cl : Nat → List Cl) (res : Nat × Option (List Cl)) (s' : Int → Int) (cl' : Nat → List Cl) : Prop :=
  s' 7 = 0 ∧ (∀ j : Int, (j ≠ 7 ∧ j ≠ 1 ∧ (j < 211 ∨ 1369 ≤ j)) → s' j = s j) ∧ (res.2 = none → s' 1 = s 1 ∧ cl' = cl) ∧ ∀ l, res.2 = some l → s' 1 = s 1 + 1 ∧ cl' = fun y : Nat => if (y : Int) = s 1 then l else cl y
def aYard (s : Int → Int) (res : Nat × Option (List Cl)) : Int := if s 1 = 6 then -4 else if res.2.isSome then s 1 else -10 - (res.1 : Int)
theorem k49f (h : HC N s cl σ) (h6 : s 1 = 6) : ∃ σ1 : St, CP N s cl σ σ1 ∧ ∀ Q, R (d + 30) 49 0 [vR 19, vX 9, vX 9] [] (WS L σ) Q = Q (some (vI (-4))) (WS L σ1) := by
  refine ⟨σ, CP_r h, fun Q => ?_⟩
  have c0 := h.2.1.1
  unfold C0 at c0
  rw [b49_0, if_neg (by omega), b49_12]
theorem k49 {t : Nat → Int} (h : HC N s cl σ) (h6 : s 1 < 6) (ht : ∀ i : Nat, (i : Int) < s 7 → t i = s (10 + i)) (hu : UY s cl (pY t (s 7).toNat) s' cl') : ∃ σ1 : St, CP N s' cl' σ σ1 ∧ ∀ Q, R (d + 30) 49 0 [vR 19, vX 9, vX 9] [] (WS L σ) Q = Q (some (vI (aYard s (pY t (s 7).toNat)))) (WS L σ1) := by
  have h' := h
  obtain ⟨⟨w0, w1, w2, w3, w4, w5, w6, w8, w9⟩, ⟨c0, c1, c2, c3, c4, c5, c6, c7, c8, c9⟩, hE, hv⟩ := h
  have hn8 := nS_8 w0
  unfold W0 at w0
  have c0' := c0
  unfold C0 at c0'
  obtain ⟨u1, u2, u3, u4⟩ := hu
  have e21 : σ 21 1 = s 7 := c1.1
  obtain ⟨σa, a1, -, a3⟩ := r18 (d := d + 7) (L := L) (σ := σ) (r := 21) (t := t) (e := (s 7).toNat) hn8.1 (by rw [c0'.1]; exact hn8.2) rfl (fun _ => rfl) (by omega) (by omega) (by rw [e21]; omega) (fun i hi => by
    have := w1 i (by omega)
    rw [ht i (by omega)]
    exact ⟨c1.2 i (by omega), this.1, this.2⟩)
  have start : ∀ Q, R (d + 30) 49 0 [vR 19, vX 9, vX 9] [] (WS L σ) Q = R (d + 30) 49 29 [vR 19, vX 9, vX 9] [vI (ansY (pY t (s 7).toNat))] (WS L σa) Q := by
    intro Q
    rw [b49_0, if_pos (by omega), b49_15, a3]
    simp only [am_push_s]
  have hn : nS s' = nS s := by unfold nS; rw [u2 0 (by omega)]
  rcases hq : pY t (s 7).toNat with ⟨q, _ | l⟩
  · rw [hq] at start u3
    obtain ⟨u5, u6⟩ := u3 rfl
    rw [u6]
    have hσ : ∀ a, (a ≠ 21 ∧ (a < 134 ∨ 137 < a)) → st2 σa 21 1 0 a = σ a := by
      intro a ha
      funext j
      rw [st2_k ha.1, a1 a ha.2]
    have h20 : ∀ j : Int, (0 : Int) ≤ 0 → st2 σa 21 1 0 20 j = σ 20 j := fun j _ => by rw [hσ 20 (by omega)]
    have hs : ∀ j : Int, (j ≠ 7 ∧ (j < 211 ∨ 1369 ≤ j)) → s' j = s j := by
      intro j hj
      by_cases q1 : j = 1
      · rw [q1, u5]
      · exact u2 j (by omega)
    refine ⟨st2 σa 21 1 0, ⟨fun a ha => hσ a (by omega), ⟨(by unfold C0; rw [h20 0 (by omega), h20 1 (by omega), h20 2 (by omega), h20 3 (by omega), h20 4 (by omega), hs 0 (by omega), hs 1 (by omega), hs 2 (by omega), hs 3 (by omega), hs 4 (by omega)]; exact c0), ⟨by rw [u1]; exact st2_eq, fun i hi => by omega⟩, (C2_fr c2 (hσ 23 (by omega)) (hσ 24 (by omega)) (hs 5 (by omega)) (fun j _ _ => hs j (by omega)) (by omega)), (C3_fr c3 (hσ 25 (by omega)) (hσ 26 (by omega)) (hs 6 (by omega)) (fun j _ _ => hs j (by omega)) (by omega)), (C4_fr c4 (hσ 27 (by omega)) (hs 0 (by omega)) (by omega) (fun j _ _ => hs j (by omega))), (C5_fr c5 (hσ 28 (by omega)) (hσ 29 (by omega)) (hσ 30 (by omega)) (hs 0 (by omega)) (by omega) (fun j _ _ => hs j (by omega)) (fun j _ _ => hs j (by omega))), (C6_fr c6 w6 (fun a _ _ => hσ a (by omega)) (fun j _ _ => hs j (by omega))), (C7_fr c7 (hσ 31 (by omega)) (hs 0 (by omega)) (by omega) (fun j _ _ => hs j (by omega))), (C8_fr c8 (fun a _ _ => hσ a (by omega)) (hs 1 (by omega)) (by omega)), (C9_fr c9 w9 (by omega) (fun a _ _ => hσ a (by omega)) (hs 3 (by omega)) (by omega) (fun j _ _ => hs j (by omega)))⟩, ?_, by rw [h20 5 (by omega)]; omega, by rw [h20 5 (by omega)]; omega⟩, fun Q => ?_⟩
    · rw [hn]
      exact EN_mono (EN_fr hE (hσ 139 (by omega)) (hσ 140 (by omega)) (hσ 141 (by omega)) (by rw [h20 5 (by omega)]; omega) (fun _ c x _ _ => by unfold Wc; rw [hσ 31 (by omega)]) hn8.1) (by omega)
    · rw [start]
      show R (d + 30) 49 29 [vR 19, vX 9, vX 9] [vI (q : Int)] (WS L σa) Q = Q (some (vI (aYard s (q, none)))) _
      have hq120 : q ≤ 120 := by
        have := pC_ok (t := t) (p := 0) (e := (s 7).toNat) (by omega)
        unfold pY at hq
        rcases hq1 : pC t (s 7).toNat 0 with ⟨q1, _ | c⟩
        · rw [hq1] at hq this
          rw [pb_nn, pb_nn] at hq
          simp only [Prod.mk.injEq, and_true] at hq
          have := this.2
          omega
        · rw [hq1] at hq this
          rw [pb_ss] at hq
          have h2 := pCs_ok (t := t) (e := (s 7).toNat) 9 [c] q1 this.2
          rcases hq2 : pCs t (s 7).toNat 9 [c] q1 with ⟨q2, _ | l⟩
          · rw [hq2] at hq h2
            rw [pb_nn] at hq
            simp only [Prod.mk.injEq, and_true] at hq
            have := h2.2
            omega
          · rw [hq2] at hq h2
            rw [pb_ss] at hq
            have := h2.2
            split at hq
            · simp only [Prod.mk.injEq, and_true] at hq
              omega
            · simp at hq
      rw [b49_29, if_pos (by omega), b49_51 (by omega), b49_55, r53 rfl]
      simp only [am_push_n]
      rw [b49_66]
      unfold aYard
      rw [if_neg (by omega)]
      rfl
  · rw [hq] at start u4
    obtain ⟨u5, u6⟩ := u4 l rfl
    obtain ⟨y, hy, hy6⟩ : ∃ y : Nat, s 1 = (y : Int) ∧ y < 6 := ⟨(s 1).toNat, by omega, by omega⟩
    have hs : ∀ j : Int, (j ≠ 7 ∧ j ≠ 1 ∧ (j < 211 ∨ 1369 ≤ j)) → s' j = s j := u2
    have e202 : σa 20 2 = (y : Int) := by rw [a1 20 (by omega), c0'.2.2.1, hy]
    have hk := kd_ya hy6
    have hl : LN L (33 + 2 * y + 1) = 120 := ln_ya hy6 L
    have hl2 : LN L (21 + 1) = 120 := rfl
    have es : i_min (cp2 σa (21 + 1) (33 + 2 * y + 1) 0 0 120 21 1) 120 = s 7 := by rw [cp2_k (by omega), a1 21 (by omega), e21]; exact i_min_s (by omega)
    let σb : St := st2 (st2 (st2 (cp2 σa (21 + 1) (33 + 2 * y + 1) 0 0 120) (33 + 2 * y) 1 (s 7)) 20 2 ((y : Int) + 1)) 21 1 0
    have hσb : σb = st2 (st2 (st2 (cp2 σa (21 + 1) (33 + 2 * y + 1) 0 0 120) (33 + 2 * y) 1 (s 7)) 20 2 ((y : Int) + 1)) 21 1 0 := rfl
    have hσ : ∀ a, (a ≠ 20 ∧ a ≠ 21 ∧ a ≠ 33 + 2 * y ∧ a ≠ 33 + 2 * y + 1 ∧ (a < 134 ∨ 137 < a)) → σb a = σ a := by
      intro a ha
      funext j
      rw [hσb, st2_k ha.2.1, st2_k ha.1, st2_k ha.2.2.1, cp2_k ha.2.2.2.1, a1 a ha.2.2.2.2]
    have h20 : ∀ j : Int, j ≠ 2 → σb 20 j = σ 20 j := by
      intro j hj
      rw [hσb, st2_k (by omega), st2_i hj, st2_k (by omega), cp2_k (by omega), a1 20 (by omega)]
    refine ⟨σb, ⟨fun a ha => hσ a (by omega), ⟨?_, ⟨by rw [u1, hσb]; exact st2_eq, fun i hi => by omega⟩, (C2_fr c2 (hσ 23 (by omega)) (hσ 24 (by omega)) (hs 5 (by omega)) (fun j _ _ => hs j (by omega)) (by omega)), (C3_fr c3 (hσ 25 (by omega)) (hσ 26 (by omega)) (hs 6 (by omega)) (fun j _ _ => hs j (by omega)) (by omega)), (C4_fr c4 (hσ 27 (by omega)) (hs 0 (by omega)) (by omega) (fun j _ _ => hs j (by omega))), (C5_fr c5 (hσ 28 (by omega)) (hσ 29 (by omega)) (hσ 30 (by omega)) (hs 0 (by omega)) (by omega) (fun j _ _ => hs j (by omega)) (fun j _ _ => hs j (by omega))), (C6_fr c6 w6 (fun a _ _ => hσ a (by omega)) (fun j _ _ => hs j (by omega))), ?_, ?_, (C9_fr c9 w9 (by omega) (fun a _ _ => hσ a (by omega)) (hs 3 (by omega)) (by omega) (fun j _ _ => hs j (by omega)))⟩, ?_, by rw [h20 5 (by omega)]; omega, by rw [h20 5 (by omega)]; omega⟩, fun Q => ?_⟩
    · unfold C0
      rw [h20 0 (by omega), h20 1 (by omega), h20 3 (by omega), h20 4 (by omega), hs 0 (by omega), hs 2 (by omega), hs 3 (by omega), hs 4 (by omega), u5, hσb, st2_k (by omega), st2_eq, hy]
      exact ⟨c0'.1, c0'.2.1, rfl, c0'.2.2.2⟩
    · intro c x hc hx
      rw [hn] at hx
      have w5' := (w5 c hc).1
      rw [hσ (20 + 11) (by omega), Wr_fr (hs 0 (by omega)) (hs _ (by omega)) (by
        by_cases q1 : s (154 + c) < 0
        · exact Or.inr q1
        · left
          rw [u6]
          dsimp only
          rw [if_neg (by omega)]) (fun j _ _ => hs j (by omega)) (by omega)]
      exact c7 c x hc hx
    · intro y' hy'
      rw [u6]
      dsimp only
      by_cases q1 : (y' : Int) = s 1
      · rw [if_pos q1]
        obtain rfl : y' = y := by omega
        refine ⟨(s 7).toNat, t, ?_, by omega, fun i hi => ?_, by rw [hq]⟩
        · rw [hσb, st2_k (by omega), st2_k (by omega), show 20 + 13 + 2 * y' = 33 + 2 * y' by omega, st2_eq]
          omega
        · have := w1 i (by omega)
          rw [hσb, st2_k (by omega), st2_k (by omega), st2_k (by omega), show 20 + 14 + 2 * y' = 33 + 2 * y' + 1 by omega, cp2_in (by omega) (by omega), a1 (21 + 1) (by omega), ht i (by omega)]
          exact ⟨c1.2 i (by omega), this.1, this.2⟩
      · rw [if_neg q1]
        rw [u5] at hy'
        exact YT_fr (c8 y' (by omega)) (hσ _ (by omega)) (hσ _ (by omega))
    · rw [hn]
      exact EN_mono (EN_fr hE (hσ 139 (by omega)) (hσ 140 (by omega)) (hσ 141 (by omega)) (by rw [h20 5 (by omega)]; omega) (fun _ c x _ _ => by unfold Wc; rw [hσ 31 (by omega)]) hn8.1) (by omega)
    · rw [start]
      show R (d + 30) 49 29 [vR 19, vX 9, vX 9] [vI (-1)] (WS L σa) Q = Q (some (vI (aYard s (q, some l)))) _
      rw [b49_29, if_neg (by omega), b49_34, b50_0, e202, r13]
      simp only [am_push_s]
      rw [b50_14]
      simp only [tI_0]
      rw [if_neg (by omega), b50_17 (by omega) (by omega), b50_26 (by omega) (by omega) (by rw [Int.toNat_natCast]; exact hk), Int.toNat_natCast, r51 hk rfl (by rw [hl]; rfl), hl]
      simp only [am_push_n]
      have e20 : st2 (cp2 σa (21 + 1) (33 + 2 * y + 1) 0 0 120) (33 + 2 * y) 1 (s 7) 20 2 = (y : Int) := by rw [st2_k (by omega), cp2_k (by omega), e202]
      show R (d + 29) 50 36 _ _ (WS L (st2 (cp2 σa (21 + 1) (33 + 2 * y + 1) 0 0 120) (33 + 2 * y) 1 (i_min (cp2 σa (21 + 1) (33 + 2 * y + 1) 0 0 120 21 1) 120))) _ = _
      rw [es, b50_36 (by omega), e20, b50_46]
      simp only [am_push_s]
      rw [b49_48, b49_55, r53 rfl]
      simp only [am_push_n]
      rw [b49_66]
      unfold aYard
      rw [if_neg (by omega)]
      show Q (some (vI (y : Int))) _ = Q (some (vI (s 1))) _
      rw [hy]
end OQ
