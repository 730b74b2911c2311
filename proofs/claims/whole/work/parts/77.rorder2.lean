/-! the reference: orders -/
section RP
variable {d L : Nat} {N : Int} {s s' : Int → Int} {cl cl' : Nat → List Cl} {σ σ1 : St} {Q : Option AV → AW → Prop}
/-- whether a later one of the row stands ahead -/
def lfS (s : Int → Int) (pl : Nat → Nat) (k t x : Nat) : Bool := anyN (fun t' => decide (t < t') && decide (pl (smT s k t').toNat < pl (smT s k t).toNat)) x
theorem r215_i {c k t v : Nat} {pl : Nat → Nat} (hw : WF s cl) (h4 : σ 154 = s) (hk : (k : Int) < s 3) (ht : t < smZ s k) (hp : ∀ b : Nat, b < nS s → σ 161 b = (pl b : Int)) : ∀ (j x : Nat), x + j = smZ s k → t < x → R d 215 41 [vR 153, vI c, vI v, vI k, vI t, vI (if lfS s pl k t x = true then 1 else 0), vI x] [] (WS L σ) Q = R d 215 119 [vR 153, vI c, vI v, vI k, vI t, vI (if lfS s pl k t (smZ s k) = true then 1 else 0), vI (smZ s k)] [] (WS L σ) Q := by
  have w0 := hw.1
  unfold W0 at w0
  have n8 := (nS_8 hw.1).1
  have hn : s 0 = (nS s : Int) := by unfold nS; omega
  obtain ⟨x1, x2, x3, x4⟩ := sm_r hw hk
  have ez : s (1369 + k) = (smZ s k : Int) := by
    have := (hw.2.2.2.2.2.2.2.2 k hk).1
    unfold smZ
    omega
  intro j
  induction j with
  | zero =>
    intro x hx htx
    obtain rfl : x = smZ s k := by omega
    rw [b215_41 (by omega) (by omega) (by omega), h4, if_pos (by omega)]
  | succ j ih =>
    intro x hx htx
    have e := ih (x + 1) (by omega) (by omega)
    have el : lfS s pl k t (x + 1) = (lfS s pl k t x || (decide (t < x) && decide (pl (smT s k x).toNat < pl (smT s k t).toNat))) := rfl
    rw [el] at e
    have eT : ∀ i : Nat, σ 154 ((1381 + (8 * (k : Int))) + i) = smT s k i := fun i => by rw [h4]; rfl
    have rx := (x3 x (by omega)).1
    have rt := (x3 t ht).1
    obtain ⟨a, ha⟩ : ∃ a : Nat, smT s k x = (a : Int) := ⟨(smT s k x).toNat, by omega⟩
    obtain ⟨b, hb⟩ : ∃ b : Nat, smT s k t = (b : Int) := ⟨(smT s k t).toNat, by omega⟩
    have fin : ∀ y : Int, y = (if (lfS s pl k t x || (decide (t < x) && decide (pl (smT s k x).toNat < pl (smT s k t).toNat))) = true then 1 else 0) → R d 215 111 [vR 153, vI c, vI v, vI k, vI t, vI (if lfS s pl k t x = true then 1 else 0), vI x] [vI y] (WS L σ) Q = R d 215 119 [vR 153, vI c, vI v, vI k, vI t, vI (if lfS s pl k t (smZ s k) = true then 1 else 0), vI (smZ s k)] [] (WS L σ) Q := by
      intro y hy
      rw [b215_111 (by omega), hy]
      exact e
    rw [b215_41 (by omega) (by omega) (by omega), h4, if_neg (by omega), b215_56]
    by_cases q : lfS s pl k t x = true
    · rw [if_pos (by rw [if_pos q]; omega), b215_106]
      exact fin 1 (by simp [q])
    · rw [if_neg (by rw [if_neg q]; omega), b215_61 (by omega) (by omega) (by omega) (by omega) (by omega) (by rw [eT]; omega) (by rw [eT]; omega) (by omega) (by omega) (by omega) (by rw [eT]; omega) (by rw [eT]; omega), eT, eT, ha, hb, hp a (by omega), hp b (by omega)]
      rw [ha, hb, Int.toNat_natCast, Int.toNat_natCast] at fin
      by_cases q2 : pl a < pl b
      · rw [if_neg (by omega), b215_106]
        exact fin 1 (by simp [q2, htx])
      · rw [if_pos (by omega), b215_110]
        exact fin 0 (by simp [q, q2])
theorem sl_lf {c k t : Nat} {pl : Nat → Nat} : slP s c pl k t = (decide (smB s k t = c) && lfS s pl k t (smZ s k)) := rfl
theorem lf_0 {k t : Nat} {pl : Nat → Nat} : lfS s pl k t (t + 1) = false := anyN_f (fun i hi => by
  have : ¬ t < i := by omega
  simp [this])
theorem r215_t {c k v : Nat} {pl : Nat → Nat} (hw : WF s cl) (h4 : σ 154 = s) (hk : (k : Int) < s 3) (hv : v ≤ 1000) (hp : ∀ b : Nat, b < nS s → σ 161 b = (pl b : Int)) : ∀ (j t : Nat) (u5 u6 : AV), t + j = smZ s k → ∃ v5 v6 : AV, ∀ Q, R d 215 17 [vR 153, vI c, vI ((v + cnt (slP s c pl k) t : Nat) : Int), vI k, vI t, u5, u6] [] (WS L σ) Q = R d 215 158 [vR 153, vI c, vI ((v + cnt (slP s c pl k) (smZ s k) : Nat) : Int), vI k, vI (smZ s k), v5, v6] [] (WS L σ) Q := by
  have w0 := hw.1
  unfold W0 at w0
  have n8 := (nS_8 hw.1).1
  obtain ⟨x1, x2, x3, x4⟩ := sm_r hw hk
  have ez : s (1369 + k) = (smZ s k : Int) := by
    have := (hw.2.2.2.2.2.2.2.2 k hk).1
    unfold smZ
    omega
  intro j
  induction j with
  | zero =>
    intro t u5 u6 ht
    obtain rfl : t = smZ s k := by omega
    refine ⟨u5, u6, fun Q => ?_⟩
    rw [b215_17 (by omega) (by omega) (by omega), h4, if_pos (by omega)]
  | succ j ih =>
    intro t u5 u6 ht
    have hc := cnt_le (slP s c pl k) t
    have eB : σ 154 ((1477 + (8 * (k : Int))) + t) = smB s k t := by rw [h4]; rfl
    obtain ⟨v5, v6, f⟩ := ih (t + 1) (vI (if lfS s pl k t (smZ s k) = true then 1 else 0)) (vI (smZ s k)) (by omega)
    refine ⟨v5, v6, fun Q => ?_⟩
    have i := r215_i (d := d) (L := L) (σ := σ) (c := c) (v := v + cnt (slP s c pl k) t) (Q := Q) hw h4 hk (show t < smZ s k by omega) hp (smZ s k - (t + 1)) (t + 1) (by omega) (by omega)
    rw [lf_0, if_neg (by simp)] at i
    have g := f Q
    rw [cnt, sl_lf] at g
    rw [b215_17 (by omega) (by omega) (by omega), h4, if_neg (by omega), b215_32 (by omega)]
    refine i.trans ?_
    rw [b215_119]
    by_cases q : lfS s pl k t (smZ s k) = true
    · rw [if_neg (by rw [if_pos q]; omega), b215_125 (by omega) (by omega) (by omega) (by omega) (by omega), eB]
      by_cases q2 : smB s k t = c
      · rw [if_neg (by simpa using q2), b215_145, b215_150 (by omega) (by omega)]
        simp [q, q2] at g ⊢
        exact g
      · rw [if_pos q2, b215_149, b215_150 (by omega) (by omega)]
        simp [q, q2] at g ⊢
        exact g
    · rw [if_pos (by rw [if_neg q]), b215_149, b215_150 (by omega) (by omega)]
      simp [q] at g ⊢
      exact g
theorem r215_k {c : Nat} {pl : Nat → Nat} (hw : WF s cl) (h4 : σ 154 = s) (hp : ∀ b : Nat, b < nS s → σ 161 b = (pl b : Int)) : ∀ (j k : Nat) (u4 u5 u6 : AV), k + j = (s 3).toNat → R d 215 4 [vR 153, vI c, vI (sNat (fun k => cnt (slP s c pl k) (smZ s k)) k : Nat), vI k, u4, u5, u6] [] (WS L σ) Q = Q (some (vI (slS s c pl : Nat))) (WS L σ) := by
  have w0 := hw.1
  unfold W0 at w0
  have n8 := (nS_8 hw.1).1
  have bd : ∀ k : Nat, (k : Int) ≤ s 3 → sNat (fun k => cnt (slP s c pl k) (smZ s k)) k ≤ 8 * k := by
    intro k
    induction k with
    | zero => intro _; exact Nat.le_refl _
    | succ k ih =>
      intro hk
      have h1 := ih (by omega)
      have h2 := cnt_le (slP s c pl k) (smZ s k)
      have h3 := (sm_r hw (show (k : Int) < s 3 by omega)).2.1
      rw [sNat]
      omega
  intro j
  induction j with
  | zero =>
    intro k u4 u5 u6 hk
    obtain rfl : k = (s 3).toNat := by omega
    rw [b215_4, h4, if_pos (by omega), b215_164]
    rfl
  | succ j ih =>
    intro k u4 u5 u6 hk
    have hb := bd k (by omega)
    obtain ⟨v5, v6, f⟩ := r215_t (d := d) (L := L) (σ := σ) (c := c) (v := sNat (fun k => cnt (slP s c pl k) (smZ s k)) k) hw h4 (show (k : Int) < s 3 by omega) (by omega) hp (smZ s k) 0 u5 u6 (by omega)
    rw [b215_4, h4, if_neg (by omega), b215_14]
    refine (f Q).trans ?_
    rw [b215_158 (by omega), ← ih (k + 1) (vI (smZ s k)) v5 v6 (by omega), sNat]
    rfl
theorem r215 {c : Nat} {pl : Nat → Nat} (hw : WF s cl) (h4 : σ 154 = s) (hp : ∀ b : Nat, b < nS s → σ 161 b = (pl b : Int)) : R d 215 0 [vR 153, vI c, vX 9, vX 9, vX 9, vX 9, vX 9] [] (WS L σ) Q = Q (some (vI (slS s c pl : Nat))) (WS L σ) := by
  rw [b215_0]
  exact r215_k hw h4 hp (s 3).toNat 0 _ _ _ (by omega)
end RP
