/-! the reference: what each thought of whom -/
def flS (s : Int → Int) (k c a t : Nat) : Bool := anyN (fun t => decide (smT s k t = a) && decide (smB s k t = c)) t
def glS (s : Int → Int) (k c a b t : Nat) : Bool := anyN (fun t' => flS s k c a t' && decide (smT s k t' = b)) t
section RN8
variable {d L : Nat} {N : Int} {s s' : Int → Int} {cl cl' : Nat → List Cl} {σ σ1 : St} {Q : Option AV → AW → Prop}
theorem gl_lw {k c a b : Nat} : glS s k c a b (smZ s k) = lwS s k c a b := by
  have h : (glS s k c a b (smZ s k) = true) ↔ (lwS s k c a b = true) := by
    unfold glS lwS
    rw [anyN_iff, anyN_iff]
    constructor
    · rintro ⟨t', h1, h2⟩
      simp only [Bool.and_eq_true] at h2
      obtain ⟨h3, h4⟩ := h2
      unfold flS at h3
      rw [anyN_iff] at h3
      obtain ⟨t, h5, h6⟩ := h3
      refine ⟨t, by omega, ?_⟩
      rw [Bool.and_eq_true]
      refine ⟨h6, ?_⟩
      unfold afS
      rw [anyN_iff]
      exact ⟨t', h1, by rw [Bool.and_eq_true]; exact ⟨decide_eq_true h5, h4⟩⟩
    · rintro ⟨t, h1, h2⟩
      rw [Bool.and_eq_true] at h2
      obtain ⟨h3, h4⟩ := h2
      unfold afS at h4
      rw [anyN_iff] at h4
      obtain ⟨t', h5, h6⟩ := h4
      rw [Bool.and_eq_true] at h6
      refine ⟨t', h5, ?_⟩
      rw [Bool.and_eq_true]
      refine ⟨?_, h6.2⟩
      unfold flS
      rw [anyN_iff]
      exact ⟨t, of_decide_eq_true h6.1, h3⟩
  cases h1 : glS s k c a b (smZ s k) <;> cases h2 : lwS s k c a b <;> rw [h1, h2] at h <;> simp at h <;> rfl
theorem r212_t {k c a b v : Nat} (hw : WF s cl) (h4 : σ 154 = s) (hk : (k : Int) < s 3) (hv : v ≤ 100) : ∀ (j t : Nat) (u8 : AV), t + j = smZ s k → ∃ v7 v8 : AV, ∀ Q, R d 212 56 [vR 153, vI c, vI a, vI b, vI ((v : Int) + (if glS s k c a b t = true then 1 else 0)), vI k, vI (if flS s k c a t = true then 1 else 0), vI t, u8] [] (WS L σ) Q = R d 212 157 [vR 153, vI c, vI a, vI b, vI ((v : Int) + (if lwS s k c a b = true then 1 else 0)), vI k, vI (if flS s k c a (smZ s k) = true then 1 else 0), v7, v8] [] (WS L σ) Q := by
  have w0 := hw.1
  unfold W0 at w0
  have n8 := (nS_8 hw.1).1
  obtain ⟨x1, x2, x3, x4⟩ := sm_r hw hk
  have ez : s (1369 + k) = (smZ s k : Int) := by
    have := (hw.2.2.2.2.2.2.2.2 k hk).1
    unfold smZ
    omega
  intro j
  induction j with
  | zero =>
    intro t u8 ht
    obtain rfl : t = smZ s k := by omega
    refine ⟨vI (smZ s k), u8, fun Q => ?_⟩
    rw [b212_56 (by omega) (by omega) (by omega), h4, if_pos (by omega), gl_lw]
  | succ j ih =>
    intro t u8 ht
    obtain ⟨v7, v8, f⟩ := ih (t + 1) (vI (smT s k t)) (by omega)
    have eT : σ 154 ((1381 + (8 * (k : Int))) + t) = smT s k t := by rw [h4]; rfl
    have eB : σ 154 ((1477 + (8 * (k : Int))) + t) = smB s k t := by rw [h4]; rfl
    have eg : glS s k c a b (t + 1) = (glS s k c a b t || (flS s k c a t && decide (smT s k t = b))) := rfl
    have ef : flS s k c a (t + 1) = (flS s k c a t || (decide (smT s k t = a) && decide (smB s k t = c))) := rfl
    have hone : flS s k c a t = true → smT s k t = b → glS s k c a b t = false := by
      intro h1 h2
      refine anyN_f (fun i hi => ?_)
      by_cases q : smT s k i = b
      · exact absurd (x4 i t (by omega) (by omega) (by rw [q, h2])) (by omega)
      · simp [q]
    refine ⟨v7, v8, fun Q => ?_⟩
    have g := f Q
    rw [eg, ef] at g
    have fin : ∀ (y : Int), y = (if (flS s k c a t || (decide (smT s k t = a) && decide (smB s k t = c))) = true then 1 else 0) → ∀ w : Int, w = (v : Int) + (if (glS s k c a b t || (flS s k c a t && decide (smT s k t = b))) = true then 1 else 0) → R d 212 149 [vR 153, vI c, vI a, vI b, vI w, vI k, vI (if flS s k c a t = true then 1 else 0), vI t, vI (smT s k t)] [vI y] (WS L σ) Q = R d 212 157 [vR 153, vI c, vI a, vI b, vI ((v : Int) + (if lwS s k c a b = true then 1 else 0)), vI k, vI (if flS s k c a (smZ s k) = true then 1 else 0), v7, v8] [] (WS L σ) Q := by
      intro y hy w hw'
      rw [b212_149 (by omega), hy, hw']
      exact g
    rw [b212_56 (by omega) (by omega) (by omega), h4, if_neg (by omega), b212_72 (by omega) (by omega) (by omega) (by omega) (by omega), eT]
    by_cases q1 : flS s k c a t = true
    · rw [if_neg (by rw [if_pos q1]; omega), b212_98]
      by_cases q2 : smT s k t = b
      · have hg := hone q1 q2
        rw [if_neg (by simpa using q2), b212_104, b212_109 (by rw [hg]; simp; omega), if_pos (by rw [if_pos q1]; omega), b212_144]
        exact fin 1 (by simp [q1]) _ (by rw [hg]; simp [q1, q2])
      · rw [if_pos q2, b212_108, b212_109 (by split <;> omega), if_pos (by rw [if_pos q1]; omega), b212_144]
        exact fin 1 (by simp [q1]) _ (by simp [q2])
    · rw [if_pos (by rw [if_neg q1]), b212_108, b212_109 (by split <;> omega), if_neg (by rw [if_neg q1]; omega), b212_117]
      by_cases q2 : smT s k t = a
      · rw [if_neg (by simpa using q2), b212_123 (by omega) (by omega) (by omega) (by omega) (by omega), eB]
        by_cases q3 : smB s k t = c
        · rw [if_neg (by simpa using q3), b212_144]
          exact fin 1 (by simp [q2, q3]) _ (by simp [q1])
        · rw [if_pos q3, b212_148]
          exact fin 0 (by simp [q1, q3]) _ (by simp [q1])
      · rw [if_pos q2, b212_148]
        exact fin 0 (by simp [q1, q2]) _ (by simp [q1])
theorem r212_k {c a b : Nat} (hw : WF s cl) (h4 : σ 154 = s) : ∀ (j k : Nat) (u6 u7 u8 : AV), k + j = (s 3).toNat → R d 212 39 [vR 153, vI c, vI a, vI b, vI (cnt (fun k => lwS s k c a b) k), vI k, u6, u7, u8] [] (WS L σ) Q = Q (some (vI (cnt (fun k => lwS s k c a b) (s 3).toNat))) (WS L σ) := by
  have w0 := hw.1
  unfold W0 at w0
  intro j
  induction j with
  | zero =>
    intro k u6 u7 u8 hk
    obtain rfl : k = (s 3).toNat := by omega
    rw [b212_39, h4, if_pos (by omega), b212_163]
  | succ j ih =>
    intro k u6 u7 u8 hk
    have hc := cnt_le (fun k => lwS s k c a b) k
    obtain ⟨v7, v8, f⟩ := r212_t (d := d) (L := L) (σ := σ) (c := c) (a := a) (b := b) (v := cnt (fun k => lwS s k c a b) k) hw h4 (show (k : Int) < s 3 by omega) (by omega) (smZ s k) 0 u8 (by omega)
    have e := ih (k + 1) (vI (if flS s k c a (smZ s k) = true then 1 else 0)) v7 v8 (by omega)
    have g := f Q
    have e0 : glS s k c a b 0 = false := rfl
    have e1 : flS s k c a 0 = false := rfl
    rw [e0, e1] at g
    simp only [Bool.false_eq_true, if_false, Int.add_zero] at g
    rw [b212_39, h4, if_neg (by omega), b212_50]
    refine g.trans ?_
    rw [b212_157 (by omega), ← e, cnt]
    by_cases q : lwS s k c a b = true
    · rw [if_pos q, if_pos q]
      rfl
    · rw [if_neg q, if_neg q]
      rfl
theorem q212 {x y z : Int} (hw : WF s cl) (h4 : σ 154 = s) : R (d + 3) 212 0 [vR 153, vI x, vI y, vI z, vX 9, vX 9, vX 9, vX 9, vX 9] [] (WS L σ) Q = Q (some (vI (aThought s x y z))) (WS L σ) := by
  have w0 := hw.1
  unfold W0 at w0
  have g := fun (x : Int) (Q : Option AV → AW → Prop) => r147 (d := d + 1) (L := L) (Q := Q) (σ := σ) (s := s) (x := x) w0.1
  simp only [ss_self h4] at g
  unfold aThought
  rw [b212_0, r167]
  simp only [am_push_s]
  rw [b212_4]
  by_cases q1 : 0 ≤ x ∧ x < 3
  · rw [if_neg (by rw [tI_t q1]; omega), b212_7, g]
    simp only [am_push_s]
    rw [b212_12]
    by_cases q2 : 0 ≤ y ∧ y < s 0
    · rw [if_neg (by rw [tI_t q2]; omega), b212_15, g]
      simp only [am_push_s]
      rw [b212_20]
      by_cases q3 : 0 ≤ z ∧ z < s 0
      · have q : (0 ≤ x ∧ x < 3) ∧ (0 ≤ y ∧ y < s 0) ∧ (0 ≤ z ∧ z < s 0) := ⟨q1, q2, q3⟩
        rw [if_pos (by rw [tI_t q3]; omega), b212_25, if_pos q]
        by_cases q4 : y = z
        · rw [if_neg (by omega), b212_30, if_pos q4]
        · obtain ⟨c, rfl⟩ : ∃ c : Nat, x = (c : Int) := ⟨x.toNat, by omega⟩
          obtain ⟨a, rfl⟩ : ∃ a : Nat, y = (a : Int) := ⟨y.toNat, by omega⟩
          obtain ⟨b, rfl⟩ : ∃ b : Nat, z = (b : Int) := ⟨z.toNat, by omega⟩
          rw [if_pos q4, b212_33, if_neg q4]
          exact r212_k hw h4 (s 3).toNat 0 _ _ _ (by omega)
      · rw [if_neg (by rw [tI_f q3]; omega), b212_23, if_neg (fun h => q3 h.2.2)]
    · rw [if_pos (by rw [tI_f q2]), b212_23, if_neg (fun h => q2 h.2.1)]
  · rw [if_pos (by rw [tI_f q1]), b212_23, if_neg (fun h => q1 h.1)]
end RN8
