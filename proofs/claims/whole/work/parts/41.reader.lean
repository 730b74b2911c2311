/-! the reader of the class, by bytes -/
section RD
variable {d L : Nat} {σ : St} {Q : Option AV → AW → Prop} {t : Nat → Int} {e r : Nat}
theorem st2_id {a : Nat} {i z : Int} (h : σ a i = z) : st2 σ a i z = σ := by
  funext a' j
  unfold st2
  split
  · rename_i q
    rw [q.1, q.2, h]
  · rfl
/-- but the reader's place, byte and fault nothing is another -/
def F7 (σ σ' : St) : Prop := (∀ a, a ≠ 134 → σ' a = σ a) ∧ ∀ i : Int, i < 7 → σ' 134 i = σ 134 i
theorem F7_r : F7 σ σ := ⟨fun _ _ => rfl, fun _ _ => rfl⟩
theorem F7_t {σ' σ'' : St} (h : F7 σ σ') (h2 : F7 σ' σ'') : F7 σ σ'' := ⟨fun a ha => (h2.1 a ha).trans (h.1 a ha), fun i hi => (h2.2 i hi).trans (h.2 i hi)⟩
def TX (t : Nat → Int) (e r : Nat) (σ : St) : Prop := KD r = 5 ∧ KD (r + 1) = 100 ∧ (∀ L, LN L (r + 1) = 120) ∧ r + 1 < 134 ∧ e ≤ 120 ∧ (∀ i : Nat, i < e → σ (r + 1) i = t i ∧ 0 ≤ t i ∧ t i < 256) ∧ σ 134 5 = ((r + 1 : Nat) : Int) ∧ σ 134 6 = (e : Int)
def RO (t : Nat → Int) (e r : Nat) (σ : St) (p : Nat) : Prop := TX t e r σ ∧ p ≤ e ∧ σ 134 7 = (p : Int) ∧ σ 134 8 = hh t e p ∧ σ 134 9 = -1
def RN (t : Nat → Int) (e r : Nat) (σ : St) (p : Nat) : Prop := TX t e r σ ∧ p ≤ e ∧ σ 134 7 = (p : Int) ∧ σ 134 8 = -1 ∧ σ 134 9 = (p : Int)
def RP {α : Type} (t : Nat → Int) (e r : Nat) (σ : St) (res : Nat × Option α) : Prop := if res.2.isSome then RO t e r σ res.1 else RN t e r σ res.1
theorem TX_fr {σ' : St} (h : TX t e r σ) (hf : F7 σ σ') : TX t e r σ' := by
  obtain ⟨h1, h2, h3, h4, h5, h6, h7, h8⟩ := h
  refine ⟨h1, h2, h3, h4, h5, ?_, ?_, ?_⟩
  · rw [hf.1 (r + 1) (by omega)]
    exact h6
  · rw [hf.2 5 (by omega)]
    exact h7
  · rw [hf.2 6 (by omega)]
    exact h8
theorem hh_r (h : TX t e r σ) (p : Nat) : -1 ≤ hh t e p ∧ hh t e p < 256 ∧ (p < e → 0 ≤ hh t e p) := by
  unfold hh
  split
  · rename_i hp
    have := h.2.2.2.2.2.1 p hp
    omega
  · exact ⟨by omega, by omega, fun hp => by omega⟩
theorem r19 {z : Int} {q : Nat} (h : TX t e r σ) (hz : σ 134 7 = z) (hq : z + 1 = (q : Int)) (hqe : q ≤ e) (hf : σ 134 9 = -1) : ∃ σ' : St, F7 σ σ' ∧ RO t e r σ' q ∧ ∀ Q, R d 19 0 [vR 134] [] (WS L σ) Q = Q none (WS L σ') := by
  have hX := h
  obtain ⟨h1, h2, h3, h4, h5, h6, h7, h8⟩ := h
  have hF : ∀ y, F7 σ (st2 (st2 σ 134 7 (q : Int)) 134 8 y) := by
    intro y
    refine ⟨fun a ha => ?_, fun i hi => ?_⟩
    · funext j
      rw [st2_k ha, st2_k ha]
    · rw [st2_i (by omega), st2_i (by omega)]
  refine ⟨st2 (st2 σ 134 7 (q : Int)) 134 8 (hh t e q), hF _, ⟨TX_fr hX (hF _), hqe, ?_, st2_eq, ?_⟩, fun Q => ?_⟩
  · rw [st2_i (by omega), st2_eq]
  · rw [st2_i (by omega), st2_i (by omega), hf]
  · have g6 : st2 σ 134 7 (q : Int) 134 6 = (e : Int) := by rw [st2_i (by omega), h8]
    have g5 : st2 σ 134 7 (q : Int) 134 5 = ((r + 1 : Nat) : Int) := by rw [st2_i (by omega), h7]
    have g7 : st2 σ 134 7 (q : Int) 134 7 = (q : Int) := st2_eq
    rw [b19_0 (by omega), hz, hq, b19_10, if_neg (by omega), b19_18, g6, g7]
    by_cases hlt : q < e
    · have hb := (h6 q hlt).1
      have hk : KD (st2 σ 134 7 (q : Int) 134 5).toNat = 100 := by rw [g5]; exact h2
      have hl : LN L (st2 σ 134 7 (q : Int) 134 5).toNat = 120 := by rw [g5]; exact h3 L
      have hv : st2 σ 134 7 (q : Int) (r + 1) q = hh t e q := by
        rw [st2_k (by omega), hb]
        unfold hh
        rw [if_pos hlt]
      rw [if_neg (by omega), b19_29 hk, g7, hl, if_neg (by omega), b19_41 hk (by omega) (by rw [g7, hl]; omega), g5, g7, Int.toNat_natCast, hv, b19_54, b19_57]
    · have hv : hh t e q = -1 := by
        unfold hh
        rw [if_neg hlt]
      rw [if_pos (by omega), b19_53, b19_54, b19_57, hv]
theorem r21 {p : Nat} (h : RO t e r σ p) : ∃ σ' : St, F7 σ σ' ∧ RN t e r σ' p ∧ ∀ Q, R d 21 0 [vR 134] [] (WS L σ) Q = Q none (WS L σ') := by
  obtain ⟨h1, h2, h3, h4, h5⟩ := h
  have hF : F7 σ (st2 (st2 σ 134 9 (p : Int)) 134 8 (-1)) := by
    refine ⟨fun a ha => ?_, fun i hi => ?_⟩
    · funext j
      rw [st2_k ha, st2_k ha]
    · rw [st2_i (by omega), st2_i (by omega)]
  refine ⟨_, hF, ⟨TX_fr h1 hF, h2, ?_, st2_eq, ?_⟩, fun Q => ?_⟩
  · rw [st2_i (by omega), st2_i (by omega), h3]
  · rw [st2_i (by omega), st2_eq]
  · rw [b21_0, if_neg (by omega), b21_7, h3, b21_15, b21_20]
theorem r21n {p : Nat} (h : RN t e r σ p) : R d 21 0 [vR 134] [] (WS L σ) Q = Q none (WS L σ) := by
  obtain ⟨h1, h2, h3, h4, h5⟩ := h
  rw [b21_0, if_pos (by omega), b21_15, b21_20, st2_id h4]
/-- one step, where a byte stands -/
theorem r19o {p : Nat} (h : RO t e r σ p) (hp : 0 ≤ hh t e p) : ∃ σ' : St, F7 σ σ' ∧ RO t e r σ' (p + 1) ∧ ∀ Q, R d 19 0 [vR 134] [] (WS L σ) Q = Q none (WS L σ') := by
  have hlt := hh_lt (c := hh t e p) rfl hp
  exact r19 (q := p + 1) h.1 h.2.2.1 (by omega) (by omega) h.2.2.2.2
theorem r29 {p : Nat} {c : Int} (h : RO t e r σ p) (hc : 0 ≤ c) : ∃ σ' : St, F7 σ σ' ∧ RP t e r σ' (pW t e [c] p) ∧ ∀ Q, R (d + 1) 29 0 [vR 134, vI c] [] (WS L σ) Q = Q none (WS L σ') := by
  by_cases q : hh t e p = c
  · obtain ⟨σ1, a1, a2, a3⟩ := r19o (d := d) (L := L) h (by omega)
    refine ⟨σ1, a1, ?_, fun Q => ?_⟩
    · unfold RP
      rw [pW, if_pos q]
      exact a2
    · rw [b29_0, h.2.2.2.1, if_neg (by simpa using q), b29_8, a3]
      simp only [am_push_n]
      rw [b29_12, b29_19]
  · obtain ⟨σ1, a1, a2, a3⟩ := r21 (d := d) (L := L) h
    refine ⟨σ1, a1, ?_, fun Q => ?_⟩
    · unfold RP
      rw [pW, if_neg q]
      exact a2
    · rw [b29_0, h.2.2.2.1, if_pos q, b29_15, a3]
      simp only [am_push_n]
      rw [b29_19]
theorem r29n {p : Nat} {c : Int} (h : RN t e r σ p) (hc : 0 ≤ c) : R (d + 1) 29 0 [vR 134, vI c] [] (WS L σ) Q = Q none (WS L σ) := by
  rw [b29_0, h.2.2.2.1, if_pos (by omega), b29_15, r21n h]
  simp only [am_push_n]
  rw [b29_19]
theorem r38 {p lim : Nat} (h : RO t e r σ p) (hl : lim ≤ 10) : ∃ (σ' : St) (v : Int), F7 σ σ' ∧ RP t e r σ' (pDig t e lim p) ∧ (∀ a, (pDig t e lim p).2 = some a → v = (a : Int)) ∧ ∀ Q, R (d + 1) 38 0 [vR 134, vI lim, vX 9] [] (WS L σ) Q = Q (some (vI v)) (WS L σ') := by
  have hr := hh_r h.1 p
  have h8 := h.2.2.2.1
  by_cases q : 48 ≤ hh t e p ∧ hh t e p < 48 + (lim : Int)
  · obtain ⟨σ1, a1, a2, a3⟩ := r19o (d := d) (L := L) h (by omega)
    refine ⟨σ1, hh t e p - 48, a1, ?_, ?_, fun Q => ?_⟩
    · unfold RP pDig
      rw [if_pos q]
      exact a2
    · intro a ha
      unfold pDig at ha
      rw [if_pos q] at ha
      simp only [Option.some.injEq] at ha
      omega
    · rw [b38_0 (by omega), h8, if_neg (by omega), b38_12, if_pos (by omega), b38_23, a3]
      simp only [am_push_n]
      rw [b38_27]
  · obtain ⟨σ1, a1, a2, a3⟩ := r21 (d := d) (L := L) h
    refine ⟨σ1, 0, a1, ?_, ?_, fun Q => ?_⟩
    · unfold RP pDig
      rw [if_neg q]
      exact a2
    · intro a ha
      unfold pDig at ha
      rw [if_neg q] at ha
      simp at ha
    · rw [b38_0 (by omega), h8]
      by_cases q2 : hh t e p - 48 < 0
      · rw [if_pos q2, b38_17, a3]
        simp only [am_push_n]
        rw [b38_21]
      · rw [if_neg q2, b38_12, if_neg (by omega), b38_17, a3]
        simp only [am_push_n]
        rw [b38_21]
theorem r38n {p lim : Nat} (h : RN t e r σ p) : R (d + 1) 38 0 [vR 134, vI lim, vX 9] [] (WS L σ) Q = Q (some (vI 0)) (WS L σ) := by
  have h8 := h.2.2.2.1
  rw [b38_0 (by omega), h8, if_pos (by omega), b38_17, r21n h]
  simp only [am_push_n]
  rw [b38_21]
theorem i_max_p {x : Int} (h : 0 ≤ x) : i_max x 0 = x := by
  unfold i_max
  split
  · omega
  · rfl
theorem r30 {p : Nat} (h : RO t e r σ p) : ∃ (σ' : St) (v : Int), F7 σ σ' ∧ RP t e r σ' (pNum t e p) ∧ (∀ a, (pNum t e p).2 = some a → v = (a : Int)) ∧ ∀ Q, R (d + 1) 30 0 [vR 134, vX 9, vX 9] [] (WS L σ) Q = Q (some (vI v)) (WS L σ') := by
  have hr := hh_r h.1 p
  have h8 := h.2.2.2.1
  have m1 : i_max (-1) 0 = 0 := by decide
  by_cases q : 48 ≤ hh t e p ∧ hh t e p ≤ 57
  · obtain ⟨σ1, a1, a2, a3⟩ := r19o (d := d) (L := L) h (by omega)
    have hr1 := hh_r a2.1 (p + 1)
    have g8 := a2.2.2.2.1
    have start : ∀ Q, R (d + 1) 30 0 [vR 134, vX 9, vX 9] [] (WS L σ) Q = R (d + 1) 30 4 [vR 134, vI (hh t e p - 48), vI 1] [] (WS L σ1) Q := by
      intro Q
      rw [b30_0, b30_4, if_neg (by omega), b30_9, if_neg (by omega), b30_13, if_neg (by omega), b30_22, if_neg (by omega), b30_31 (by rw [m1]; omega) (by rw [m1]; omega) (by rw [m1]; omega), a3]
      simp only [am_push_n]
      rw [b30_52 (by omega), m1, h8]
      rw [show (0 : Int) * 10 + hh t e p - 48 = hh t e p - 48 by omega]
      rfl
    by_cases q2 : hh t e p ≠ 48 ∧ 48 ≤ hh t e (p + 1) ∧ hh t e (p + 1) ≤ 57
    · obtain ⟨σ2, c1, c2, c3⟩ := r19o (d := d) (L := L) a2 (by omega)
      have mp : i_max (hh t e p - 48) 0 = hh t e p - 48 := i_max_p (by omega)
      refine ⟨σ2, 10 * (hh t e p - 48) + (hh t e (p + 1) - 48), F7_t a1 c1, ?_, ?_, fun Q => ?_⟩
      · unfold RP pNum
        rw [if_pos q, if_pos q2]
        exact c2
      · intro a ha
        unfold pNum at ha
        rw [if_pos q, if_pos q2] at ha
        simp only [Option.some.injEq] at ha
        omega
      · rw [start, b30_4, if_neg (by omega), b30_9, if_neg (by omega), b30_13, if_neg (by omega), b30_22, if_neg (by omega), b30_31 (by rw [mp]; omega) (by rw [mp]; omega) (by rw [mp]; omega), c3]
        simp only [am_push_n]
        rw [b30_52 (by omega), b30_4, if_pos (by omega), b30_58, mp, g8, if_pos (by omega), b30_66]
        congr 3
        omega
    · refine ⟨σ1, hh t e p - 48, a1, ?_, ?_, fun Q => ?_⟩
      · unfold RP pNum
        rw [if_pos q, if_neg q2]
        exact a2
      · intro a ha
        unfold pNum at ha
        rw [if_pos q, if_neg q2] at ha
        simp only [Option.some.injEq] at ha
        omega
      · rw [start, b30_4, if_neg (by omega), b30_9]
        have fin : R (d + 1) 30 58 [vR 134, vI (hh t e p - 48), vI 1] [] (WS L σ1) Q = Q (some (vI (hh t e p - 48))) (WS L σ1) := by
          rw [b30_58, if_pos (by omega), b30_66]
        by_cases c1 : hh t e p - 48 = 0
        · rw [if_pos c1, fin]
        · rw [if_neg c1, b30_13]
          by_cases c2 : σ1 134 8 < 48
          · rw [if_pos c2, fin]
          · rw [if_neg c2, b30_22, if_pos (by omega), fin]
  · obtain ⟨σ1, a1, a2, a3⟩ := r21 (d := d) (L := L) h
    refine ⟨σ1, -1, a1, ?_, ?_, fun Q => ?_⟩
    · unfold RP pNum
      rw [if_neg q]
      exact a2
    · intro a ha
      unfold pNum at ha
      rw [if_neg q] at ha
      simp at ha
    · have fin : R (d + 1) 30 58 [vR 134, vI (-1), vI 0] [] (WS L σ) Q = Q (some (vI (-1))) (WS L σ1) := by
        rw [b30_58, if_neg (by omega), b30_62, a3]
        simp only [am_push_n]
        rw [b30_66]
      rw [b30_0, b30_4, if_neg (by omega), b30_9, if_neg (by omega), b30_13]
      by_cases c2 : σ 134 8 < 48
      · rw [if_pos c2, fin]
      · rw [if_neg c2, b30_22, if_pos (by omega), fin]
theorem r30n {p : Nat} (h : RN t e r σ p) : R (d + 1) 30 0 [vR 134, vX 9, vX 9] [] (WS L σ) Q = Q (some (vI (-1))) (WS L σ) := by
  have h8 := h.2.2.2.1
  rw [b30_0, b30_4, if_neg (by omega), b30_9, if_neg (by omega), b30_13, if_pos (by omega), b30_58, if_neg (by omega), b30_62, r21n h]
  simp only [am_push_n]
  rw [b30_66]
/-- a test, by traits T (place, strength, friend, number) of a boy -/
def tsT (T : Nat → Nat → Int) (b : Nat) (x : Int) : Bool := if x.toNat / 4 % 4 = 0 then decide (T (x.toNat % 4) b < ((x.toNat / 16 : Nat) : Int)) else if x.toNat / 4 % 4 = 1 then decide (T (x.toNat % 4) b = ((x.toNat / 16 : Nat) : Int)) else decide (((x.toNat / 16 : Nat) : Int) < T (x.toNat % 4) b)
theorem tsT_s {T : Nat → Nat → Int} {b w h v : Nat} (hw : w ≤ 3) (hh : h ≤ 2) : tsT T b (stp w h v) = decide (sgn (T w b) (v : Int) = (h : Int) - 1) := by
  unfold tsT stp
  rw [Int.toNat_natCast, show (w + 4 * h + 16 * v) % 4 = w by omega, show (w + 4 * h + 16 * v) / 4 % 4 = h by omega, show (w + 4 * h + 16 * v) / 16 = v by omega]
  have h3 : h = 0 ∨ h = 1 ∨ h = 2 := by omega
  unfold sgn
  rcases h3 with rfl | rfl | rfl
  · rw [if_pos rfl]
    congr 1
    apply propext
    repeat' split
    all_goals omega
  · rw [if_neg (by omega), if_pos rfl]
    congr 1
    apply propext
    repeat' split
    all_goals omega
  · rw [if_neg (by omega), if_neg (by omega)]
    congr 1
    apply propext
    repeat' split
    all_goals omega
def mkE (T : Nat → Nat → Int) (n : Nat) (st : List Int) : Nat := bits (fun b => evT (tsT T b) st) n
def VAL (σ : St) (n : Nat) (res : Nat × Option (List Int)) (v : Int) : Prop := ∀ st, res.2 = some st → v = (mkE (tr σ) n st : Int)
theorem tr_F7 {σ' : St} (h : F7 σ σ') : tr σ' = tr σ := by
  unfold tr
  rw [h.1 27 (by omega)]
def whv (c : Int) : Nat := if c = 112 then 0 else if c = 115 then 1 else if c = 102 then 2 else 3
theorem whv_some {c : Int} {w : Nat} (h : whC c = some w) : whv c = w ∧ (w = 3 → c = 110) := by
  unfold whC at h
  unfold whv
  repeat' split at h
  all_goals simp only [Option.some.injEq, reduceCtorEq] at h
  all_goals subst h
  all_goals simp_all
theorem whv_none {c : Int} (h : whC c = none) : whv c = 3 ∧ c ≠ 110 := by
  unfold whC at h
  unfold whv
  repeat' split at h
  all_goals simp only [reduceCtorEq] at h
  simp_all
theorem r32_w {p : Nat} {u1 : AV} (h : σ 134 8 = hh t e p) : R d 32 24 [vR 134, u1, vX 9, vX 9] [] (WS L σ) Q = R d 32 64 [vR 134, u1, vX 9, vX 9] [vI (whv (hh t e p))] (WS L σ) Q := by
  rw [b32_24, h]
  unfold whv
  by_cases c1 : hh t e p = 112
  · rw [if_neg (by simpa using c1), b32_33, if_pos c1]
    rfl
  · rw [if_pos c1, b32_37, if_neg c1, h]
    by_cases c2 : hh t e p = 115
    · rw [if_neg (by simpa using c2), b32_46, if_pos c2]
      rfl
    · rw [if_pos c2, b32_50, if_neg c2, h]
      by_cases c3 : hh t e p = 102
      · rw [if_neg (by simpa using c3), b32_59, if_pos c3]
        rfl
      · rw [if_pos c3, b32_63, if_neg c3]
        rfl
theorem r32_t {p n : Nat} {o : Int} (hn : σ 20 0 = (n : Int)) (h8n : n ≤ 8) (h : RO t e r σ p) : ∃ (σ' : St) (v : Int), F7 σ σ' ∧ RP t e r σ' (pTest t e p) ∧ VAL σ n (pTest t e p) v ∧ ∀ Q, R (d + 2) 32 24 [vR 134, vI o, vX 9, vX 9] [] (WS L σ) Q = Q (some (vI v)) (WS L σ') := by
  have h8 := h.2.2.2.1
  cases hw : whC (hh t e p) with
  | none =>
    obtain ⟨w1, w2⟩ := whv_none hw
    obtain ⟨σ1, a1, a2, a3⟩ := r21 (d := d + 1) (L := L) h
    have ep : pTest t e p = (p, none) := by unfold pTest; rw [hw]
    refine ⟨σ1, 0, a1, ?_, ?_, fun Q => ?_⟩
    · rw [ep]
      exact a2
    · rw [ep]
      intro st hst
      simp at hst
    · rw [r32_w h8, w1, b32_64, if_neg (by simp), b32_70, h8, if_neg w2, b32_79, a3]
      simp only [am_push_n]
      rw [b32_83]
  | some w =>
    obtain ⟨w1, w2⟩ := whv_some hw
    have hwr := whC_r hw
    obtain ⟨σ1, a1, a2, a3⟩ := r19o (d := d + 1) (L := L) h hwr.2
    have hr1 := hh_r a2.1 (p + 1)
    have g8 := a2.2.2.2.1
    have start : ∀ Q, R (d + 2) 32 24 [vR 134, vI o, vX 9, vX 9] [] (WS L σ) Q = R (d + 2) 32 89 [vR 134, vI o, vI w, vX 9] [] (WS L σ1) Q := by
      intro Q
      rw [r32_w h8, w1, b32_64]
      by_cases w3 : w = 3
      · rw [if_neg (by omega), b32_70, h8, if_pos (w2 w3), b32_85, a3]
        simp only [am_push_n]
      · rw [if_pos (by omega), b32_85, a3]
        simp only [am_push_n]
    have ep : pTest t e p = if 60 ≤ hh t e (p + 1) ∧ hh t e (p + 1) ≤ 62 then pb (pNum t e (p + 2)) (fun q v => (q, some [stp w (hh t e (p + 1) - 60).toNat v])) else (p + 1, none) := by
      unfold pTest
      rw [hw]
    by_cases q : 60 ≤ hh t e (p + 1) ∧ hh t e (p + 1) ≤ 62
    · rw [if_pos q] at ep
      obtain ⟨σ2, c1, c2, c3⟩ := r19o (d := d + 1) (L := L) a2 (by omega)
      obtain ⟨σ3, v, f1, f2, f3, f4⟩ := r30 (d := d) (L := L) c2
      have hn3 : σ3 20 0 = (n : Int) := by rw [(F7_t (F7_t a1 c1) f1).1 20 (by omega)]; exact hn
      refine ⟨σ3, ((bits (fun b => decide (sgn (tr σ3 w b) v = hh t e (p + 1) - 61)) n : Nat) : Int), F7_t (F7_t a1 c1) f1, ?_, ?_, fun Q => ?_⟩
      · rw [ep]
        unfold RP at f2 ⊢
        revert f2
        show (if (pNum t e (p + 2)).2.isSome = true then _ else _) → _
        rcases hq : pNum t e (p + 2) with ⟨q', _ | v'⟩
        · rw [pb_n rfl]
          exact id
        · rw [pb_s rfl]
          exact id
      · show VAL σ n (pTest t e p) ((bits (fun b => decide (sgn (tr σ3 w b) v = hh t e (p + 1) - 61)) n : Nat) : Int)
        rw [ep]
        intro st hst
        rcases hq : pNum t e (p + 2) with ⟨q', _ | v'⟩
        · rw [hq, pb_n rfl] at hst
          simp at hst
        · rw [hq, pb_s rfl] at hst
          simp only [Option.some.injEq] at hst
          subst hst
          have hv : v = (v' : Int) := f3 v' (by show (pNum t e (p + 2)).2 = _; rw [hq])
          unfold mkE
          congr 1
          refine bits_congr (fun b _ => ?_)
          rw [evT_1 (by unfold stp; omega), tsT_s (by omega) (by omega), hv, tr_F7 (F7_t (F7_t a1 c1) f1)]
          congr 2
          omega
      · rw [start, b32_89 (by omega), g8, if_neg (by omega), b32_102, if_pos (by omega), b32_113, c3]
        simp only [am_push_n]
        rw [b32_117, f4]
        simp only [am_push_s]
        rw [b32_127, r35 hn3 h8n (by omega)]
        simp only [am_push_s]
        rw [b32_130]
    · rw [if_neg q] at ep
      obtain ⟨σ2, c1, c2, c3⟩ := r21 (d := d + 1) (L := L) a2
      refine ⟨σ2, 0, F7_t a1 c1, ?_, ?_, fun Q => ?_⟩
      · rw [ep]
        exact c2
      · rw [ep]
        intro st hst
        simp at hst
      · rw [start, b32_89 (by omega), g8]
        by_cases q2 : hh t e (p + 1) - 61 < -1
        · rw [if_pos q2, b32_107, c3]
          simp only [am_push_n]
          rw [b32_111]
        · rw [if_neg q2, b32_102, if_neg (by omega), b32_107, c3]
          simp only [am_push_n]
          rw [b32_111]
theorem r32n {p : Nat} {o : Int} (h : RN t e r σ p) : R (d + 1) 32 0 [vR 134, vI o, vX 9, vX 9] [] (WS L σ) Q = Q (some (vI 0)) (WS L σ) := by
  have h8 := h.2.2.2.1
  rw [b32_0, h8, if_neg (by omega), b32_9, h8, if_pos (by omega), b32_24, h8, if_pos (by omega), b32_37, h8, if_pos (by omega), b32_50, h8, if_pos (by omega), b32_63, b32_64, if_neg (by omega), b32_70, h8, if_neg (by omega), b32_79, r21n h]
  simp only [am_push_n]
  rw [b32_83]
theorem r31n {p : Nat} {o : Int} (h : RN t e r σ p) : R (d + 2) 31 0 [vR 134, vI o, vX 9, vX 9, vX 9, vX 9, vX 9] [] (WS L σ) Q = Q (some (vI (i_or 0 0))) (WS L σ) := by
  have h8 := h.2.2.2.1
  rw [b31_0, r32n h]
  simp only [am_push_s]
  rw [b31_7, b31_11, if_neg (by omega), b31_18, h8, if_neg (by omega), b31_27, h8, if_pos (by omega), b31_97]
def S32 (n L : Nat) (t : Nat → Int) (e r d k : Nat) : Prop := ∀ (σ : St) (p : Nat), σ 20 0 = (n : Int) → RO t e r σ p → ∃ (σ' : St) (v : Int), F7 σ σ' ∧ RP t e r σ' (pF t e k p) ∧ VAL σ n (pF t e k p) v ∧ ∀ Q, R d 32 0 [vR 134, vI ((5 - k : Nat) : Int), vX 9, vX 9] [] (WS L σ) Q = Q (some (vI v)) (WS L σ')
def mA (T : Nat → Nat → Int) (n : Nat) (any : List Int) : Nat := if any = [] then 0 else mkE T n any
theorem mkE_lt {T : Nat → Nat → Int} {n : Nat} {st : List Int} (h : n ≤ 8) : mkE T n st < 256 := Nat.lt_of_lt_of_le (bits_lt _ _) (pw8 h)
theorem mA_lt {T : Nat → Nat → Int} {n : Nat} {st : List Int} (h : n ≤ 8) : mA T n st < 256 := by
  unfold mA
  split
  · omega
  · exact mkE_lt h
theorem mk_or {T : Nat → Nat → Int} {n m m' : Nat} {l l' : List Int} (h : GS l m) (h' : GS l' m') : mkE T n (l ++ l' ++ [-3]) = mkE T n l ||| mkE T n l' := by
  apply tb_ext
  intro i
  unfold mkE
  rw [Nat.testBit_or, bits_test, bits_test, bits_test, evT_or h h']
  cases decide (i < n) <;> rfl
theorem mk_and {T : Nat → Nat → Int} {n m m' : Nat} {l l' : List Int} (h : GS l m) (h' : GS l' m') : mkE T n (l ++ l' ++ [-2]) = mkE T n l &&& mkE T n l' := by
  apply tb_ext
  intro i
  unfold mkE
  rw [Nat.testBit_and, bits_test, bits_test, bits_test, evT_and h h']
  cases decide (i < n) <;> rfl
theorem mk_not {T : Nat → Nat → Int} {n m : Nat} {l : List Int} (h : GS l m) : mkE T n (l ++ [-1]) = (2 ^ n - 1) ^^^ ((2 ^ n - 1) &&& mkE T n l) := by
  apply tb_ext
  intro i
  unfold mkE
  rw [Nat.testBit_xor, Nat.testBit_and, bits_test, bits_test, evT_not h, all_t]
  cases decide (i < n) <;> cases evT (tsT T i) l <;> rfl
theorem mk_jn {T : Nat → Nat → Int} {n m : Nat} {any all : List Int} (h : JG any all m) : mkE T n (jn any all) = mA T n any ||| mkE T n all := by
  unfold jn mA
  rcases h with ⟨h1, h2⟩ | ⟨h1, m1, m2, h2, h3, h4⟩
  · rw [if_pos h1, if_pos h1, Nat.zero_or]
  · rw [if_neg h1, if_neg h1, mk_or h2 h3]
theorem jn_ne {T : Nat → Nat → Int} {n : Nat} {any all : List Int} {m : Nat} (h : JG any all m) : mA T n (jn any all) = mkE T n (jn any all) := by
  unfold mA
  rw [if_neg (GS_ne (JG_jn h))]
theorem r31_l {n k : Nat} (h8n : n ≤ 8) (ih : S32 n L t e r (d + 2) k) : ∀ (g i p m : Nat) (any all : List Int) (u5 u6 : AV) (σ : St), i + g = 120 → σ 20 0 = (n : Int) → RO t e r σ p → JG any all m → ∃ (σ' : St) (v : Int), F7 σ σ' ∧ RP t e r σ' (pL t e (pF t e k) g any all p) ∧ VAL σ n (pL t e (pF t e k) g any all p) v ∧ ∀ Q, R (d + 3) 31 11 [vR 134, vI ((5 - k : Nat) : Int), vI (mA (tr σ) n any), vI (mkE (tr σ) n all), vI i, u5, u6] [] (WS L σ) Q = Q (some (vI v)) (WS L σ') := by
  intro g
  induction g with
  | zero =>
    intro i p m any all u5 u6 σ hi hn h hj
    have l1 := mA_lt (T := tr σ) (st := any) h8n
    have l2 := mkE_lt (T := tr σ) (st := all) h8n
    refine ⟨σ, ((mA (tr σ) n any ||| mkE (tr σ) n all : Nat) : Int), F7_r, h, ?_, fun Q => ?_⟩
    · intro st hst
      simp only [pL, Option.some.injEq] at hst
      subst hst
      exact congrArg Int.ofNat (mk_jn hj).symm
    · rw [b31_11, if_pos (by omega), b31_97, i_or_nat (by omega) (by omega)]
  | succ g ihg =>
    intro i p m any all u5 u6 σ hi hn h hj
    have l1 := mA_lt (T := tr σ) (st := any) h8n
    have l2 := mkE_lt (T := tr σ) (st := all) h8n
    have h8 := h.2.2.2.1
    have hop : ∀ (sg : Int), (sg = 124 ∨ sg = 38) → hh t e p = sg → ∃ (σ1 σ2 : St) (v : Int), F7 σ σ1 ∧ F7 σ1 σ2 ∧ RP t e r σ2 (pF t e k (p + 1)) ∧ VAL σ n (pF t e k (p + 1)) v ∧ ∀ Q, R (d + 3) 31 11 [vR 134, vI ((5 - k : Nat) : Int), vI (mA (tr σ) n any), vI (mkE (tr σ) n all), vI i, u5, u6] [] (WS L σ) Q = R (d + 3) 31 61 [vR 134, vI ((5 - k : Nat) : Int), vI (mA (tr σ) n any), vI (mkE (tr σ) n all), vI i, vI (if sg = 124 then 1 else 0), u6] [vI v] (WS L σ2) Q := by
      intro sg hs he
      obtain ⟨σ1, a1, a2, a3⟩ := r19o (d := d + 2) (L := L) h (by omega)
      obtain ⟨σ2, v, c1, c2, c3, c4⟩ := ih σ1 (p + 1) (by rw [a1.1 20 (by omega)]; exact hn) a2
      refine ⟨σ1, σ2, v, a1, c1, c2, ?_, fun Q => ?_⟩
      · intro st hst
        rw [c3 st hst, tr_F7 a1]
      · rw [b31_11, if_neg (by omega), b31_18, h8, he]
        rcases hs with rfl | rfl
        · rw [if_pos rfl, b31_36, h8, he, if_neg (by simp), b31_45, b31_50, a3]
          simp only [am_push_n]
          rw [b31_56, c4]
          simp only [am_push_s]
          rfl
        · rw [if_neg (by omega), b31_27, h8, he, if_neg (by simp), b31_36, h8, he, if_pos (by omega), b31_49, b31_50, a3]
          simp only [am_push_n]
          rw [b31_56, c4]
          simp only [am_push_s]
          rfl
    have hfault : ∀ (x y : Int) (a b : AV) (σ2 : St) (q : Nat), RN t e r σ2 q → ∀ Q, R (d + 3) 31 11 [vR 134, vI ((5 - k : Nat) : Int), vI x, vI y, vI ((i : Int) + 1), a, b] [] (WS L σ2) Q = Q (some (vI (i_or x y))) (WS L σ2) := by
      intro x y a b σ2 q hq Q
      have q8 := hq.2.2.2.1
      rw [b31_11]
      by_cases hi2 : (120 : Int) ≤ (i : Int) + 1
      · rw [if_pos hi2, b31_97]
      · rw [if_neg hi2, b31_18, q8, if_neg (by omega), b31_27, q8, if_pos (by omega), b31_97]
    by_cases c1 : hh t e p = 124
    · obtain ⟨σ1, σ2, v, e1, e2, e3, e4, e5⟩ := hop 124 (Or.inl rfl) c1
      have ep : pL t e (pF t e k) (g + 1) any all p = pb (pF t e k (p + 1)) (fun q st => pL t e (pF t e k) g (jn any all) st q) := by rw [pL, if_pos c1]
      have l3 : mA (tr σ) n any ||| mkE (tr σ) n all < 2 ^ 8 := or_lt (by omega) (by omega)
      have step : ∀ Q, R (d + 3) 31 61 [vR 134, vI ((5 - k : Nat) : Int), vI (mA (tr σ) n any), vI (mkE (tr σ) n all), vI i, vI (if (124 : Int) = 124 then 1 else 0), u6] [vI v] (WS L σ2) Q = R (d + 3) 31 11 [vR 134, vI ((5 - k : Nat) : Int), vI (mA (tr σ) n any ||| mkE (tr σ) n all : Nat), vI v, vI ((i : Int) + 1), vI 1, vI v] [] (WS L σ2) Q := by
        intro Q
        rw [if_pos rfl, b31_61, if_neg (by omega), b31_69, b31_74, if_neg (by omega), b31_81, b31_90 (by omega), i_or_nat (by omega) (by omega)]
      rcases hq : pF t e k (p + 1) with ⟨q', _ | st⟩
      · rw [hq, pb_n rfl] at ep
        rw [hq] at e3
        refine ⟨σ2, i_or ((mA (tr σ) n any ||| mkE (tr σ) n all : Nat) : Int) v, F7_t e1 e2, by rw [ep]; exact e3, ?_, fun Q => ?_⟩
        · rw [ep]
          intro st hst
          simp at hst
        · rw [e5, step, hfault _ _ _ _ σ2 q' e3]
      · rw [hq, pb_s rfl] at ep
        rw [hq] at e3 e4
        have hv := e4 st rfl
        obtain ⟨-, gst⟩ := pF_G k (p + 1) q' st hq
        have F12 := F7_t e1 e2
        obtain ⟨σ3, v3, f1, f2, f3, f4⟩ := ihg (i + 1) q' _ (jn any all) st (vI 1) (vI v) σ2 (by omega) (by rw [F12.1 20 (by omega)]; exact hn) e3 (JG_or hj gst)
        rw [tr_F7 F12] at f4
        refine ⟨σ3, v3, F7_t F12 f1, by rw [ep]; exact f2, ?_, fun Q => ?_⟩
        · rw [ep]
          intro st' hst'
          rw [f3 st' hst', tr_F7 F12]
        · rw [e5, step, ← f4 Q, jn_ne hj, mk_jn hj, hv]
          rfl
    · by_cases c2 : hh t e p = 38
      · obtain ⟨σ1, σ2, v, e1, e2, e3, e4, e5⟩ := hop 38 (Or.inr rfl) c2
        have ep : pL t e (pF t e k) (g + 1) any all p = pb (pF t e k (p + 1)) (fun q st => pL t e (pF t e k) g any (all ++ st ++ [-2]) q) := by rw [pL, if_neg c1, if_pos c2]
        have step : ∀ Q, R (d + 3) 31 61 [vR 134, vI ((5 - k : Nat) : Int), vI (mA (tr σ) n any), vI (mkE (tr σ) n all), vI i, vI (if (38 : Int) = 124 then 1 else 0), u6] [vI v] (WS L σ2) Q = R (d + 3) 31 11 [vR 134, vI ((5 - k : Nat) : Int), vI (mA (tr σ) n any), vI (i_and (mkE (tr σ) n all) v), vI ((i : Int) + 1), vI 0, vI v] [] (WS L σ2) Q := by
          intro Q
          have e0 : i_or (mA (tr σ) n any) 0 = (mA (tr σ) n any : Int) := by
            have := i_or_nat (a := mA (tr σ) n any) (b := 0) (by omega) (by omega)
            rw [Nat.or_zero] at this
            exact this
          rw [if_neg (by omega), b31_61, if_pos rfl, b31_73, b31_74, if_pos rfl, b31_86, b31_90 (by omega), e0]
        rcases hq : pF t e k (p + 1) with ⟨q', _ | st⟩
        · rw [hq, pb_n rfl] at ep
          rw [hq] at e3
          refine ⟨σ2, i_or (mA (tr σ) n any) (i_and (mkE (tr σ) n all) v), F7_t e1 e2, by rw [ep]; exact e3, ?_, fun Q => ?_⟩
          · rw [ep]
            intro st hst
            simp at hst
          · rw [e5, step, hfault _ _ _ _ σ2 q' e3]
        · rw [hq, pb_s rfl] at ep
          rw [hq] at e3 e4
          have hv := e4 st rfl
          obtain ⟨-, gst⟩ := pF_G k (p + 1) q' st hq
          have F12 := F7_t e1 e2
          have gall : ∃ m', GS all m' := by
            rcases hj with ⟨-, h2⟩ | ⟨-, m1, m2, -, h3, -⟩
            · exact ⟨_, h2⟩
            · exact ⟨_, h3⟩
          obtain ⟨m', gall⟩ := gall
          obtain ⟨σ3, v3, f1, f2, f3, f4⟩ := ihg (i + 1) q' _ any (all ++ st ++ [-2]) (vI 0) (vI v) σ2 (by omega) (by rw [F12.1 20 (by omega)]; exact hn) e3 (JG_and hj gst)
          rw [tr_F7 F12] at f4
          have l3 := mkE_lt (T := tr σ) (st := st) h8n
          refine ⟨σ3, v3, F7_t F12 f1, by rw [ep]; exact f2, ?_, fun Q => ?_⟩
          · rw [ep]
            intro st' hst'
            rw [f3 st' hst', tr_F7 F12]
          · rw [e5, step, ← f4 Q, mk_and gall gst, hv, i_and_nat (by omega) (by omega)]
            rfl
      · have ep : pL t e (pF t e k) (g + 1) any all p = (p, some (jn any all)) := by rw [pL, if_neg c1, if_neg c2]
        refine ⟨σ, ((mA (tr σ) n any ||| mkE (tr σ) n all : Nat) : Int), F7_r, by rw [ep]; exact h, ?_, fun Q => ?_⟩
        · rw [ep]
          intro st hst
          simp only [Option.some.injEq] at hst
          subst hst
          exact congrArg Int.ofNat (mk_jn hj).symm
        · rw [b31_11, if_neg (by omega), b31_18, h8, if_neg c1, b31_27, h8, if_pos c2, b31_97, i_or_nat (by omega) (by omega)]
theorem r31 {n k p : Nat} (h8n : n ≤ 8) (ih : S32 n L t e r (d + 2) k) (hn : σ 20 0 = (n : Int)) (h : RO t e r σ p) : ∃ (σ' : St) (v : Int), F7 σ σ' ∧ RP t e r σ' (pE t e (pF t e k) p) ∧ VAL σ n (pE t e (pF t e k) p) v ∧ ∀ Q, R (d + 3) 31 0 [vR 134, vI ((5 - k : Nat) : Int), vX 9, vX 9, vX 9, vX 9, vX 9] [] (WS L σ) Q = Q (some (vI v)) (WS L σ') := by
  obtain ⟨σ1, v, a1, a2, a3, a4⟩ := ih σ p hn h
  have start : ∀ Q, R (d + 3) 31 0 [vR 134, vI ((5 - k : Nat) : Int), vX 9, vX 9, vX 9, vX 9, vX 9] [] (WS L σ) Q = R (d + 3) 31 11 [vR 134, vI ((5 - k : Nat) : Int), vI 0, vI v, vI 0, vX 9, vX 9] [] (WS L σ1) Q := by
    intro Q
    rw [b31_0, a4]
    simp only [am_push_s]
    rw [b31_7]
  rcases hq : pF t e k p with ⟨q', _ | st⟩
  · have ep : pE t e (pF t e k) p = (q', none) := by unfold pE; rw [hq, pb_n rfl]
    rw [hq] at a2
    have q8 := a2.2.2.2.1
    refine ⟨σ1, i_or 0 v, a1, by rw [ep]; exact a2, ?_, fun Q => ?_⟩
    · rw [ep]
      intro st hst
      simp at hst
    · rw [start, b31_11, if_neg (by omega), b31_18, q8, if_neg (by omega), b31_27, q8, if_pos (by omega), b31_97]
  · have ep : pE t e (pF t e k) p = pL t e (pF t e k) 120 [] st q' := by unfold pE; rw [hq, pb_s rfl]
    rw [hq] at a2 a3
    have hv := a3 st rfl
    obtain ⟨-, gst⟩ := pF_G k p q' st hq
    obtain ⟨σ2, v2, f1, f2, f3, f4⟩ := r31_l h8n ih 120 0 q' _ [] st (vX 9) (vX 9) σ1 (by omega) (by rw [a1.1 20 (by omega)]; exact hn) a2 (Or.inl ⟨rfl, gst⟩)
    rw [tr_F7 a1] at f4
    refine ⟨σ2, v2, F7_t a1 f1, by rw [ep]; exact f2, ?_, fun Q => ?_⟩
    · rw [ep]
      intro st' hst'
      rw [f3 st' hst', tr_F7 a1]
    · rw [start, ← f4 Q, hv]
      rfl
end RD
