/-! the reference: the best of the orders -/
def UVo (n : Nat) (σ0 σ : St) (v : Int) (g : Nat → Int) : Prop := ((σ0 153 23 = -1 ∨ v < σ0 153 23) → σ 153 23 = v ∧ ∀ j : Nat, j < n → σ 163 j = g j) ∧ (¬ (σ0 153 23 = -1 ∨ v < σ0 153 23) → σ 153 23 = σ0 153 23 ∧ ∀ j : Nat, j < n → σ 163 j = σ0 163 j)
def FOo (n i S : Nat) (σ σ' : St) : Prop := (∀ a, a ≠ 153 → a ≠ 161 → a ≠ 162 → a ≠ 163 → σ' a = σ a) ∧ (∀ j : Int, j ≠ 23 → σ' 153 j = σ 153 j) ∧ (∀ b : Nat, b < n → S.testBit b = true → σ' 161 b = σ 161 b) ∧ ∀ j : Nat, j < i → σ' 162 j = σ 162 j
theorem UVo_t {n : Nat} {σ0 σ σ' : St} {v1 v2 : Int} {g1 g2 : Nat → Int} (h1 : UVo n σ0 σ v1 g1) (h2 : UVo n σ σ' v2 g2) (p1 : 0 ≤ v1) (p2 : 0 ≤ v2) : (v2 < v1 → UVo n σ0 σ' v2 g2) ∧ (¬ v2 < v1 → UVo n σ0 σ' v1 g1) := by
  obtain ⟨a1, a2⟩ := h1
  obtain ⟨b1, b2⟩ := h2
  refine ⟨fun h => ⟨fun c => ?_, fun c => ?_⟩, fun h => ⟨fun c => ?_, fun c => ?_⟩⟩
  · by_cases q : σ0 153 23 = -1 ∨ v1 < σ0 153 23
    · obtain ⟨e1, e2⟩ := a1 q
      exact b1 (by omega)
    · obtain ⟨e1, e2⟩ := a2 q
      exact b1 (by omega)
  · obtain ⟨e1, e2⟩ := a2 (by omega)
    obtain ⟨e3, e4⟩ := b2 (by omega)
    exact ⟨by omega, fun j hj => (e4 j hj).trans (e2 j hj)⟩
  · obtain ⟨e1, e2⟩ := a1 c
    obtain ⟨e3, e4⟩ := b2 (by omega)
    exact ⟨by omega, fun j hj => (e4 j hj).trans (e2 j hj)⟩
  · obtain ⟨e1, e2⟩ := a2 c
    obtain ⟨e3, e4⟩ := b2 (by omega)
    exact ⟨by omega, fun j hj => (e4 j hj).trans (e2 j hj)⟩
theorem UVo_0 {n : Nat} {σ0 σ σ' : St} {v : Int} {g : Nat → Int} (h1 : σ 153 23 = σ0 153 23) (h2 : ∀ j : Nat, j < n → σ 163 j = σ0 163 j) (h : UVo n σ σ' v g) : UVo n σ0 σ' v g := by
  obtain ⟨a1, a2⟩ := h
  rw [h1] at a1 a2
  exact ⟨a1, fun c => ⟨(a2 c).1, fun j hj => ((a2 c).2 j hj).trans (h2 j hj)⟩⟩
theorem UVo_g {n : Nat} {σ0 σ : St} {v v' : Int} {g g' : Nat → Int} (h : UVo n σ0 σ v g) (hv : v = v') (hg : ∀ j, j < n → g j = g' j) : UVo n σ0 σ v' g' := by
  subst hv
  exact ⟨fun c => ⟨(h.1 c).1, fun j hj => ((h.1 c).2 j hj).trans (hg j hj)⟩, h.2⟩
section RR
variable {d L : Nat} {N : Int} {s s' : Int → Int} {cl cl' : Nat → List Cl} {σ σ1 : St} {Q : Option AV → AW → Prop}
theorem r214_c {n : Nat} {u1 u2 u4 : AV} (h8 : n ≤ 8) : ∀ (j k : Nat) (σ : St), k + j = n → ∃ σ' : St, (∀ a, a ≠ 163 → σ' a = σ a) ∧ (∀ i : Nat, i < n → k ≤ i → σ' 163 i = σ 162 i) ∧ (∀ i : Nat, i < k → σ' 163 i = σ 163 i) ∧ ∀ Q, R d 214 43 [vR 153, u1, u2, vI n, u4, vI k] [] (WS L σ) Q = Q none (WS L σ') := by
  intro j
  induction j with
  | zero =>
    intro k σ hk
    obtain rfl : k = n := by omega
    refine ⟨σ, fun _ _ => rfl, fun i h1 h2 => by omega, fun _ _ => rfl, fun Q => ?_⟩
    rw [b214_43, if_pos (by omega), b214_69]
  | succ j ih =>
    intro k σ hk
    obtain ⟨σ1, f1, f2, f3, f4⟩ := ih (k + 1) (st2 σ 163 k (σ 162 k)) (by omega)
    refine ⟨σ1, fun a ha => (f1 a ha).trans (by funext j; exact st2_k ha), fun i h1 h2 => ?_, fun i hi => ?_, fun Q => ?_⟩
    · by_cases q : i = k
      · rw [q, f3 k (by omega), st2_eq]
      · rw [f2 i h1 (by omega), st2_k (by omega)]
    · rw [f3 i (by omega), st2_i (by omega)]
    · rw [b214_43, if_neg (by omega), b214_49 (by omega) (by omega), b214_63 (by omega)]
      exact f4 Q
theorem reS_all {n S : Nat} (h : reS n S = 0) : ∀ b, b < n → S.testBit b = true := by
  intro b hb
  cases q : S.testBit b
  · have := reS_or (n := n) hb q
    omega
  · rfl
def S214 (s : Int → Int) (c L D m : Nat) : Prop := ∀ (i S : Nat) (σ : St), σ 154 = s → i + m = nS s → S < 2 ^ nS s → reS (nS s) S = m → (∀ b : Nat, b < nS s → S.testBit b = true → 0 ≤ σ 161 b ∧ σ 161 b < i) → ∃ σ' : St, FOo (nS s) i S σ σ' ∧ UVo (nS s) σ σ' ((coS (wS s c) (nS s) S (fun b => (σ 161 b).toNat) + gG (wS s c) (nS s) m S : Nat) : Int) (fun j => if j < i then σ 162 j else GOf (wS s c) (nS s) m S (j - i)) ∧ ∀ Q, R D 214 0 [vR 153, vI c, vI S, vI i, vX 9, vX 9] [] (WS L σ) Q = Q none (WS L σ')
theorem r214_b {c m i S D : Nat} {σ0 : St} (hw : WF s cl) (ih : S214 s c L D m) (h4 : σ0 154 = s) (hi : i + (m + 1) = nS s) (hS : S < 2 ^ nS s) (hm : reS (nS s) S = m + 1) (hp : ∀ b : Nat, b < nS s → S.testBit b = true → 0 ≤ σ0 161 b ∧ σ0 161 b < i) : ∀ (j b : Nat) (u5 : AV) (σ : St), b + j = nS s → FOo (nS s) i S σ0 σ → (amx (fun b => !S.testBit b) (fun b => -((wS s c S b + gG (wS s c) (nS s) m (S ||| 2 ^ b) : Nat) : Int)) b < 0 → σ 153 23 = σ0 153 23 ∧ ∀ j : Nat, j < nS s → σ 163 j = σ0 163 j) → (∀ e : Nat, amx (fun b => !S.testBit b) (fun b => -((wS s c S b + gG (wS s c) (nS s) m (S ||| 2 ^ b) : Nat) : Int)) b = (e : Int) → UVo (nS s) σ0 σ ((coS (wS s c) (nS s) S (fun b => (σ0 161 b).toNat) + (wS s c S e + gG (wS s c) (nS s) m (S ||| 2 ^ e)) : Nat) : Int) (fun j => if j < i then σ0 162 j else if j = i then (e : Int) else GOf (wS s c) (nS s) m (S ||| 2 ^ e) (j - i - 1))) → ∃ σ' : St, FOo (nS s) i S σ0 σ' ∧ UVo (nS s) σ0 σ' ((coS (wS s c) (nS s) S (fun b => (σ0 161 b).toNat) + gG (wS s c) (nS s) (m + 1) S : Nat) : Int) (fun j => if j < i then σ0 162 j else GOf (wS s c) (nS s) (m + 1) S (j - i)) ∧ ∀ Q, R (D + 1) 214 73 [vR 153, vI c, vI S, vI i, vI b, u5] [] (WS L σ) Q = Q none (WS L σ') := by
  have w0 := hw.1
  unfold W0 at w0
  have hn : s 0 = (nS s : Int) := by unfold nS; omega
  have h8 : nS s ≤ 8 := by omega
  have p8 := pw8 h8
  intro j
  induction j with
  | zero =>
    intro b u5 σ hb hF hN hU
    obtain rfl : b = nS s := by omega
    have e0 : σ 154 0 = s 0 := by rw [hF.1 154 (by omega) (by omega) (by omega) (by omega), h4]
    obtain ⟨r1, r2, r3⟩ := goB_r (w := wS s c) (m := m) (n := nS s) (S := S) (by omega)
    obtain ⟨e, he⟩ : ∃ e : Nat, goB (wS s c) (nS s) m S = (e : Int) := ⟨(goB (wS s c) (nS s) m S).toNat, by omega⟩
    have hU' := hU e he
    refine ⟨σ, hF, UVo_g hU' ?_ (fun j hj => ?_), fun Q => ?_⟩
    · rw [gG_s, if_neg (by omega), he, Int.toNat_natCast]
    · show (if j < i then _ else _) = (if j < i then _ else _)
      by_cases q : j < i
      · rw [if_pos q, if_pos q]
      · rw [if_neg q, if_neg q, GOf, he, Int.toNat_natCast]
        by_cases q2 : j = i
        · rw [if_pos q2, if_pos (by omega)]
        · rw [if_neg q2, if_neg (by omega)]
    · rw [b214_73, e0, if_pos (by omega), b214_129]
  | succ j ihj =>
    intro b u5 σ hb hF hN hU
    have e4 : σ 154 = s := by rw [hF.1 154 (by omega) (by omega) (by omega) (by omega), h4]
    have e0 : σ 154 0 = s 0 := by rw [e4]
    have hbit : i_and (i_shr S b) 1 = if S.testBit b then 1 else 0 := i_bit (by omega) (by omega)
    by_cases q : S.testBit b = true
    · have eam : amx (fun b => !S.testBit b) (fun b => -((wS s c S b + gG (wS s c) (nS s) m (S ||| 2 ^ b) : Nat) : Int)) (b + 1) = amx (fun b => !S.testBit b) (fun b => -((wS s c S b + gG (wS s c) (nS s) m (S ||| 2 ^ b) : Nat) : Int)) b := by
        rw [amx, if_neg]
        intro h
        have := h.1
        simp [q] at this
      obtain ⟨σ', f1, f2, f3⟩ := ihj (b + 1) u5 σ (by omega) hF (by rw [eam]; exact hN) (by rw [eam]; exact hU)
      refine ⟨σ', f1, f2, fun Q => ?_⟩
      rw [b214_73, e0, if_neg (by omega), b214_84, hbit, if_pos (by simp [q]), b214_123 (by omega)]
      exact f3 Q
    · have qf : S.testBit b = false := by simpa using q
      have hbn : b < nS s := by omega
      let σb : St := st2 (st2 σ 162 i b) 161 b i
      have hσb : σb = st2 (st2 σ 162 i b) 161 b i := rfl
      have kb : ∀ a, a ≠ 161 → a ≠ 162 → σb a = σ a := fun a h1 h2 => by
        funext j
        rw [hσb, st2_k h1, st2_k h2]
      have tb : ∀ b', (S ||| 2 ^ b).testBit b' = (S.testBit b' || decide (b = b')) := fun b' => by rw [Nat.testBit_or, Nat.testBit_two_pow]
      have p161 : σb 161 b = (i : Int) := by rw [hσb, st2_eq]
      have o161 : ∀ b' : Nat, b' < nS s → S.testBit b' = true → σb 161 b' = σ0 161 b' := fun b' h1 h2 => by
        have hne : b' ≠ b := fun h => by rw [h, qf] at h2; simp at h2
        rw [hσb, st2_i (by omega), st2_k (by omega)]
        exact hF.2.2.1 b' h1 h2
      have o162 : ∀ j : Nat, j < i → σb 162 j = σ0 162 j := fun j hj => by
        rw [hσb, st2_k (by omega), st2_i (by omega)]
        exact hF.2.2.2 j hj
      have i162 : σb 162 i = (b : Int) := by rw [hσb, st2_k (by omega), st2_eq]
      have l2 : S ||| 2 ^ b < 2 ^ nS s := or_lt hS (two_pow_lt hbn)
      have re := reS_or (n := nS s) hbn qf
      obtain ⟨σ1, g1, g2, g3⟩ := ih (i + 1) (S ||| 2 ^ b) σb (by rw [kb 154 (by omega) (by omega), e4]) (by omega) l2 (by omega) (fun b' h1 h2 => by
        rw [tb] at h2
        by_cases q2 : b' = b
        · rw [q2, p161]
          omega
        · have : S.testBit b' = true := by
            have : ¬ b = b' := fun h => q2 h.symm
            simpa [this] using h2
          have := hp b' h1 this
          rw [o161 b' h1 (by assumption)]
          omega)
      have ec : coS (wS s c) (nS s) (S ||| 2 ^ b) (fun b => (σb 161 b).toNat) = coS (wS s c) (nS s) S (fun b => (σ0 161 b).toNat) + wS s c S b := coS_add (i := i) hS hbn qf (fun b' h1 h2 => by
        have h3 := hp b' h1 h2
        rw [o161 b' h1 h2]
        exact ⟨rfl, by omega⟩) (by rw [p161]; rfl)
      have hF1 : FOo (nS s) i S σ0 σ1 := by
        refine ⟨fun a a1 a2 a3 a4 => ?_, fun j hj => ?_, fun b' h1 h2 => ?_, fun j hj => ?_⟩
        · rw [g1.1 a a1 a2 a3 a4, kb a a2 a3, hF.1 a a1 a2 a3 a4]
        · rw [g1.2.1 j hj, kb 153 (by omega) (by omega), hF.2.1 j hj]
        · rw [g1.2.2.1 b' h1 (by rw [tb, h2]; rfl), o161 b' h1 h2]
        · rw [g1.2.2.2 j (by omega), o162 j hj]
      have hUV : UVo (nS s) σ σ1 ((coS (wS s c) (nS s) S (fun b => (σ0 161 b).toNat) + (wS s c S b + gG (wS s c) (nS s) m (S ||| 2 ^ b)) : Nat) : Int) (fun j => if j < i then σ0 162 j else if j = i then (b : Int) else GOf (wS s c) (nS s) m (S ||| 2 ^ b) (j - i - 1)) := by
        refine UVo_0 (by rw [kb 153 (by omega) (by omega)]) (fun j hj => by rw [kb 163 (by omega) (by omega)]) (UVo_g g2 (by rw [ec]; omega) (fun j hj => ?_))
        by_cases q2 : j < i
        · rw [if_pos (by omega), if_pos q2, o162 j q2]
        · by_cases q3 : j = i
          · rw [if_pos (by omega), if_neg q2, if_pos q3, q3, i162]
          · rw [if_neg (by omega), if_neg q2, if_neg q3, show j - (i + 1) = j - i - 1 by omega]
      have run : ∀ Q, R (D + 1) 214 73 [vR 153, vI c, vI S, vI i, vI b, u5] [] (WS L σ) Q = R (D + 1) 214 73 [vR 153, vI c, vI S, vI i, vI ((b + 1 : Nat) : Int), u5] [] (WS L σ1) Q := by
        intro Q
        rw [b214_73, e0, if_neg (by omega), b214_84, hbit, if_neg (by simp [qf]), b214_93 (by omega) (by omega), b214_101 (by omega) (by omega), b214_109 (by omega), i_one_shl (by omega), i_or_nat (by omega) (by have : 2 ^ b < 2 ^ nS s := two_pow_lt hbn; omega)]
        refine (g3 _).trans ?_
        simp only [am_push_n]
        rw [b214_123 (by omega)]
        rfl
      by_cases q2 : amx (fun b => !S.testBit b) (fun b => -((wS s c S b + gG (wS s c) (nS s) m (S ||| 2 ^ b) : Nat) : Int)) b < 0
      · have eam : amx (fun b => !S.testBit b) (fun b => -((wS s c S b + gG (wS s c) (nS s) m (S ||| 2 ^ b) : Nat) : Int)) (b + 1) = (b : Int) := by
          rw [amx, if_pos ⟨by simp [qf], Or.inl q2⟩]
        obtain ⟨n1, n2⟩ := hN q2
        obtain ⟨σ', f1, f2, f3⟩ := ihj (b + 1) u5 σ1 (by omega) hF1 (by rw [eam]; intro h; omega) (by
          rw [eam]
          intro e he
          obtain rfl : e = b := by omega
          exact UVo_0 n1 n2 hUV)
        refine ⟨σ', f1, f2, fun Q => ?_⟩
        rw [run]
        exact f3 Q
      · obtain ⟨e, he⟩ : ∃ e : Nat, amx (fun b => !S.testBit b) (fun b => -((wS s c S b + gG (wS s c) (nS s) m (S ||| 2 ^ b) : Nat) : Int)) b = (e : Int) := ⟨(amx (fun b => !S.testBit b) (fun b => -((wS s c S b + gG (wS s c) (nS s) m (S ||| 2 ^ b) : Nat) : Int)) b).toNat, by omega⟩
        obtain ⟨t1, t2⟩ := UVo_t (hU e he) hUV (by omega) (by omega)
        by_cases q3 : wS s c S b + gG (wS s c) (nS s) m (S ||| 2 ^ b) < wS s c S e + gG (wS s c) (nS s) m (S ||| 2 ^ e)
        · have eam : amx (fun b => !S.testBit b) (fun b => -((wS s c S b + gG (wS s c) (nS s) m (S ||| 2 ^ b) : Nat) : Int)) (b + 1) = (b : Int) := by
            rw [amx, if_pos]
            refine ⟨by simp [qf], Or.inr ?_⟩
            rw [he, Int.toNat_natCast]
            omega
          obtain ⟨σ', f1, f2, f3⟩ := ihj (b + 1) u5 σ1 (by omega) hF1 (by rw [eam]; intro h; omega) (by
            rw [eam]
            intro e' he'
            obtain rfl : e' = b := by omega
            exact t1 (by omega))
          refine ⟨σ', f1, f2, fun Q => ?_⟩
          rw [run]
          exact f3 Q
        · have eam : amx (fun b => !S.testBit b) (fun b => -((wS s c S b + gG (wS s c) (nS s) m (S ||| 2 ^ b) : Nat) : Int)) (b + 1) = (e : Int) := by
            rw [amx, if_neg]
            · exact he
            · intro h
              have := h.2
              rw [he, Int.toNat_natCast] at this
              omega
          obtain ⟨σ', f1, f2, f3⟩ := ihj (b + 1) u5 σ1 (by omega) hF1 (by rw [eam]; intro h; omega) (by
            rw [eam]
            intro e' he'
            obtain rfl : e' = e := by omega
            exact t2 (by omega))
          refine ⟨σ', f1, f2, fun Q => ?_⟩
          rw [run]
          exact f3 Q
theorem s214 {c : Nat} (hw : WF s cl) : ∀ m d, S214 s c L (d + m + 1) m := by
  have w0 := hw.1
  unfold W0 at w0
  have hn : s 0 = (nS s : Int) := by unfold nS; omega
  have h8 : nS s ≤ 8 := by omega
  intro m
  induction m with
  | zero =>
    intro d i S σ h4 hi hS hm hp
    have hall := reS_all hm
    have e0 : σ 154 0 = s 0 := by rw [h4]
    have hpl : ∀ b : Nat, b < nS s → σ 161 b = (((σ 161 b).toNat : Nat) : Int) := fun b hb => by
      have := hp b hb (hall b hb)
      omega
    have hs := fun Q : Option AV → AW → Prop => r215 (d := d) (L := L) (Q := Q) (σ := σ) (c := c) (pl := fun b => (σ 161 b).toNat) hw h4 hpl
    rw [sl_all hw hall] at hs
    have hg : gG (wS s c) (nS s) 0 S = 0 := rfl
    rw [hg, Nat.add_zero]
    have run : ∀ Q, R (d + 0 + 1) 214 0 [vR 153, vI c, vI S, vI i, vX 9, vX 9] [] (WS L σ) Q = if σ 153 23 = -1 ∨ ((coS (wS s c) (nS s) S (fun b => (σ 161 b).toNat) : Nat) : Int) < σ 153 23 then R (d + 1) 214 34 [vR 153, vI c, vI S, vI i, vI (coS (wS s c) (nS s) S (fun b => (σ 161 b).toNat) : Nat), vX 9] [] (WS L σ) Q else Q none (WS L σ) := by
      intro Q
      rw [b214_0, e0, if_neg (by omega), b214_10]
      refine (hs _).trans ?_
      simp only [am_push_s]
      rw [b214_15]
      by_cases q1 : σ 153 23 = -1
      · rw [if_pos q1, if_pos (Or.inl q1)]
      · rw [if_neg q1, b214_25]
        by_cases q2 : ((coS (wS s c) (nS s) S (fun b => (σ 161 b).toNat) : Nat) : Int) < σ 153 23
        · rw [if_neg (by omega), if_pos (Or.inr q2)]
        · rw [if_pos (by omega), if_neg (fun h => h.elim q1 q2), b214_69]
    by_cases q : σ 153 23 = -1 ∨ ((coS (wS s c) (nS s) S (fun b => (σ 161 b).toNat) : Nat) : Int) < σ 153 23
    · obtain ⟨σ1, f1, f2, f3, f4⟩ := r214_c (d := d + 1) (L := L) (u1 := vI c) (u2 := vI S) (u4 := vI (coS (wS s c) (nS s) S (fun b => (σ 161 b).toNat) : Nat)) h8 (nS s) 0 (st2 σ 153 23 (coS (wS s c) (nS s) S (fun b => (σ 161 b).toNat) : Nat)) (by omega)
      obtain rfl : i = nS s := by omega
      refine ⟨σ1, ⟨fun a a1 a2 a3 a4 => by rw [f1 a a4]; funext j; exact st2_k a1, fun j hj => by rw [f1 153 (by omega), st2_i hj], fun b _ _ => by rw [f1 161 (by omega), st2_k (by omega)], fun j _ => by rw [f1 162 (by omega), st2_k (by omega)]⟩, ⟨fun _ => ⟨by rw [f1 153 (by omega), st2_eq], fun j hj => ?_⟩, fun h => absurd q h⟩, fun Q => ?_⟩
      · rw [f2 j hj (by omega), st2_k (by omega)]
        exact (if_pos hj).symm
      · rw [run, if_pos q, b214_34, b214_40]
        exact f4 Q
    · refine ⟨σ, ⟨fun _ _ _ _ _ => rfl, fun _ _ => rfl, fun _ _ _ => rfl, fun _ _ => rfl⟩, ⟨fun h => absurd h q, fun _ => ⟨rfl, fun _ _ => rfl⟩⟩, fun Q => ?_⟩
      rw [run, if_neg q]
  | succ m ih =>
    intro d i S σ h4 hi hS hm hp
    have e0 : σ 154 0 = s 0 := by rw [h4]
    obtain ⟨σ', f1, f2, f3⟩ := r214_b (L := L) hw (ih d) h4 hi hS hm hp (nS s) 0 (vX 9) σ (by omega) ⟨fun _ _ _ _ _ => rfl, fun _ _ => rfl, fun _ _ _ => rfl, fun _ _ => rfl⟩ (fun _ => ⟨rfl, fun _ _ => rfl⟩) (fun e he => by rw [amx] at he; omega)
    refine ⟨σ', f1, f2, fun Q => ?_⟩
    rw [b214_0, e0, if_pos (by omega), b214_70]
    exact f3 Q
theorem q213 {x y : Int} (hw : WF s cl) (h : RQ N s σ) : ∃ σ' : St, RQ N s σ' ∧ FQ σ σ' ∧ ∀ Q, R (d + 12) 213 0 [vR 153, vI x, vI y] [] (WS L σ) Q = Q (some (vI (aOrder s x y))) (WS L σ') := by
  have w0 := hw.1
  unfold W0 at w0
  have hn : s 0 = (nS s : Int) := by unfold nS; omega
  have h4 := h.1
  have e0 : σ 154 0 = s 0 := by rw [h4]
  unfold aOrder
  by_cases q1 : 0 ≤ x ∧ x < 3
  · have a1 : ¬ ¬ (0 ≤ x ∧ x < 3) := fun h => h q1
    rw [if_neg a1]
    by_cases q2 : 6 < s 0
    · rw [if_pos q2]
      refine ⟨σ, h, FQ_r, fun Q => ?_⟩
      rw [b213_0, r167]
      simp only [am_push_s]
      rw [b213_4, if_pos (by rw [tI_t q1]; omega), b213_9, e0, if_neg (by omega), b213_20]
    · rw [if_neg q2]
      have start : ∀ Q, R (d + 12) 213 0 [vR 153, vI x, vI y] [] (WS L σ) Q = if -1 ≤ y ∧ y < s 0 then R (d + 12) 213 41 [vR 153, vI x, vI y] [] (WS L σ) Q else R (d + 12) 213 39 [vR 153, vI x, vI y] [] (WS L σ) Q := by
        intro Q
        rw [b213_0, r167]
        simp only [am_push_s]
        rw [b213_4, if_pos (by rw [tI_t q1]; omega), b213_9, e0, if_pos (by omega), b213_23 (by omega), e0, r145]
        simp only [am_push_s]
        rw [b213_36]
        by_cases q3 : -1 ≤ y ∧ y < s 0
        · rw [if_pos (by rw [tI_t (by omega)]; omega), if_pos q3]
        · rw [if_neg (by rw [tI_f (by omega)]; omega), if_neg q3]
      by_cases q3 : -1 ≤ y ∧ y < s 0
      · have a2 : ¬ ¬ (-1 ≤ y ∧ y < s 0) := fun h => h q3
        rw [if_neg a2]
        obtain ⟨c, rfl⟩ : ∃ c : Nat, x = (c : Int) := ⟨x.toNat, by omega⟩
        have hS := s214 (L := L) (c := c) hw (nS s) (d + 10 - nS s)
        rw [show d + 10 - nS s + nS s + 1 = d + 11 by omega] at hS
        obtain ⟨σ1, f1, f2, f3⟩ := hS 0 0 (st2 σ 153 23 (-1)) (by funext j; rw [st2_k (by omega), h4]) (by omega) (Nat.two_pow_pos _) reS_0 (fun b _ h => by simp at h)
        obtain ⟨v1, v2⟩ := f2.1 (Or.inl st2_eq)
        rw [coS_0, Nat.zero_add] at v1
        have k1 : ∀ a, a ≠ 153 → a ≠ 161 → a ≠ 162 → a ≠ 163 → σ1 a = σ a := fun a a1 a2 a3 a4 => by
          rw [f1.1 a a1 a2 a3 a4]
          funext j
          exact st2_k a1
        have k2 : ∀ j : Int, j ≠ 23 → σ1 153 j = σ 153 j := fun j hj => by
          rw [f1.2.1 j hj]
          exact st2_i hj
        have z154 := k1 154 (by omega) (by omega) (by omega) (by omega)
        have z158 := k1 158 (by omega) (by omega) (by omega) (by omega)
        have z14 := k2 14 (by omega)
        refine ⟨σ1, ⟨z154.trans h4, by rw [z14]; exact h.2.1, by rw [z14]; exact h.2.2.1, fun x hx => by rw [z158, z14]; exact h.2.2.2 x hx⟩, ⟨fun a ha => k1 a (by omega) (by omega) (by omega) (by omega), k2 3 (by omega), k2 25 (by omega)⟩, fun Q => ?_⟩
        rw [start, if_pos q3, b213_41, b213_46]
        refine (f3 _).trans ?_
        simp only [am_push_n]
        rw [b213_53, Int.toNat_natCast]
        by_cases q4 : y = -1
        · rw [if_neg (by omega), b213_58, b213_71, v1, if_pos (by omega)]
        · obtain ⟨i, rfl⟩ : ∃ i : Nat, y = (i : Int) := ⟨y.toNat, by omega⟩
          have eo := GOf_oA (w := wS s c) (n := nS s) i 0 (by omega)
          rw [Nat.zero_add] at eo
          have ei := v2 i (by omega)
          dsimp only at ei
          rw [if_neg (by omega)] at ei
          have eo' : GOf (wS s c) (nS s) (nS s) 0 (i - 0) = goB (wS s c) (nS s) (nS s - i - 1) (oA (wS s c) (nS s) i) := eo
          rw [if_pos q4, b213_65 (by omega) (by omega), b213_71, ei, eo', if_neg (by omega), Int.toNat_natCast]
      · rw [if_pos q3]
        refine ⟨σ, h, FQ_r, fun Q => ?_⟩
        rw [start, if_neg q3, b213_39]
  · rw [if_pos q1]
    refine ⟨σ, h, FQ_r, fun Q => ?_⟩
    rw [b213_0, r167]
    simp only [am_push_s]
    rw [b213_4, if_neg (by rw [tI_f q1]; omega), b213_7]
end RR
