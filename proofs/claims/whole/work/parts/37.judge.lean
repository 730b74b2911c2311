/-! judged, first, fairest of the class -/
/-- rows of picks told by hand, after t of them: sides, the wrong one, the slip, by how much -/
def jS (W : Nat → Nat → Int) (mv : Nat → Nat) (n : Nat) (row : Nat → Int) : Nat → (Nat → Nat) × Int × Int × Int
  | 0 => (fun _ => 0, -5, -5, 0)
  | t + 1 => 
    let p := jS W mv n row t
    if 0 ≤ p.2.1 then p
    else if ¬ (0 ≤ row t ∧ row t < n) ∨ p.1 (row t).toNat ≠ 0 then (p.1, (t : Int), p.2.2.1, p.2.2.2)
    else
      let o2 := oup p.1 (row t).toNat (mv t + 1)
      let ahead := W (mv t) (sdO (EF W mv n (frO n p.1) p.1) (mv t))
      let behind := W (mv t) (sdO (EF W mv n (frO n o2) o2) (mv t))
      if p.2.2.1 < 0 ∧ behind < ahead then (o2, -5, (t : Int), ahead - behind) else (o2, -5, p.2.2.1, p.2.2.2)
theorem jS_r {W : Nat → Nat → Int} {mv : Nat → Nat} {n : Nat} {row : Nat → Int} (h8 : n ≤ 8) (hm : ∀ t, t < 8 → mv t < 3) : ∀ t, t ≤ 8 → (jS W mv n row t).2.1 < t ∧ ((jS W mv n row t).2.1 < 0 → (jS W mv n row t).2.1 = -5) ∧ ((jS W mv n row t).2.2.1 < 0 → (jS W mv n row t).2.2.1 = -5) ∧ Ov n (jS W mv n row t).1 ∧ ((jS W mv n row t).2.1 < 0 → frO n (jS W mv n row t).1 + t = n) := by
  intro t
  induction t with
  | zero =>
    intro _
    have e : cnt (fun b => decide ((fun _ : Nat => 0) b = 0)) n = n := by
      have : ∀ m, cnt (fun b => decide ((fun _ : Nat => 0) b = 0)) m = m := by
        intro m
        induction m with
        | zero => rfl
        | succ m ih => rw [cnt, ih]; rfl
      exact this n
    refine ⟨by show (-5 : Int) < _; omega, fun _ => rfl, fun _ => rfl, ⟨fun b => Nat.zero_le _, fun b _ => rfl⟩, fun _ => ?_⟩
    exact e
  | succ t ih =>
    intro ht
    obtain ⟨i1, i2, i3, i4, i5⟩ := ih (by omega)
    have hmt := hm t (by omega)
    rw [jS]
    dsimp only
    by_cases c1 : 0 ≤ (jS W mv n row t).2.1
    · rw [if_pos c1]
      exact ⟨by omega, i2, i3, i4, fun h => absurd h (by omega)⟩
    · rw [if_neg c1]
      by_cases c2 : ¬ (0 ≤ row t ∧ row t < n) ∨ (jS W mv n row t).1 (row t).toNat ≠ 0
      · rw [if_pos c2]
        exact ⟨by dsimp only; omega, fun h => absurd h (by dsimp only; omega), i3, i4, fun h => absurd h (by dsimp only; omega)⟩
      · rw [if_neg c2]
        have hr : 0 ≤ row t ∧ row t < n := by
          by_cases q : 0 ≤ row t ∧ row t < n
          · exact q
          · exact absurd (Or.inl q) c2
        have h0 : (jS W mv n row t).1 (row t).toNat = 0 := by
          by_cases q : (jS W mv n row t).1 (row t).toNat = 0
          · exact q
          · exact absurd (Or.inr q) c2
        have hO2 : Ov n (oup (jS W mv n row t).1 (row t).toNat (mv t + 1)) := Ov_oup i4 (by omega) (by omega)
        have hf := frO_oup (o := (jS W mv n row t).1) (v := mv t + 1) (n := n) (b := (row t).toNat) (by omega) h0 (by omega)
        have hf2 := i5 (by omega)
        split
        · exact ⟨by dsimp only; omega, fun _ => rfl, fun h => absurd h (by dsimp only; omega), hO2, fun _ => by dsimp only; omega⟩
        · exact ⟨by dsimp only; omega, fun _ => rfl, i3, hO2, fun _ => by dsimp only; omega⟩
theorem jS_stop {W : Nat → Nat → Int} {mv : Nat → Nat} {n : Nat} {row : Nat → Int} {t : Nat} (h : 0 ≤ (jS W mv n row t).2.1) : ∀ j, jS W mv n row (t + j) = jS W mv n row t
  | 0 => rfl
  | j + 1 => by
    have ih := jS_stop h j
    rw [← Nat.add_assoc, jS]
    dsimp only
    rw [ih, if_pos h]
section JU
variable {d L : Nat} {σ : St} {Q : Option AV → AW → Prop}
theorem EI_fr {n s0 : Nat} {W : Nat → Nat → Int} {mv : Nat → Nat} {σ' : St} (h : EI n W mv s0 σ) (h1 : σ' 20 = σ 20) (h2 : σ' 31 = σ 31) (h3 : σ' 139 = σ 139) (h4 : σ' 140 = σ 140) (h5 : σ' 141 = σ 141) : EI n W mv s0 σ' := by
  unfold EI at *
  rw [h1, h2, h3, h4, h5]
  exact h
theorem r105 {t : Nat} {a b : Int} (hab : -2147483648 ≤ a - b ∧ a - b ≤ 2147483647) : ∃ σ' : St, (∀ q, q ≠ 145 → σ' q = σ q) ∧ σ' 145 2 = σ 145 2 ∧ σ' 145 3 = (if σ 145 3 < 0 ∧ b < a then (t : Int) else σ 145 3) ∧ σ' 145 4 = (if σ 145 3 < 0 ∧ b < a then a - b else σ 145 4) ∧ ∀ Q, R d 105 0 [vR 145, vI t, vI a, vI b] [] (WS L σ) Q = Q none (WS L σ') := by
  by_cases h : σ 145 3 < 0 ∧ b < a
  · refine ⟨st2 (st2 σ 145 3 t) 145 4 (a - b), ?_, ?_, ?_, ?_, fun Q => ?_⟩
    · intro q hq
      funext j
      rw [st2_k hq, st2_k hq]
    · rw [st2_i (by omega), st2_i (by omega)]
    · rw [st2_i (by omega), st2_eq, if_pos h]
    · rw [st2_eq, if_pos h]
    · rw [b105_0, if_neg (by omega), b105_7, if_neg (by omega), b105_12, b105_17 hab, b105_24]
  · refine ⟨σ, fun _ _ => rfl, rfl, by rw [if_neg h], by rw [if_neg h], fun Q => ?_⟩
    rw [b105_0]
    by_cases h2 : 0 ≤ σ 145 3
    · rw [if_pos h2, b105_24]
    · rw [if_neg h2, b105_7, if_pos (by omega), b105_24]
theorem rem8 {x : Int} (h : 0 ≤ x) (h2 : x < 8) : ∃ b : Nat, x = (b : Int) ∧ b < 8 := ⟨x.toNat, by omega, by omega⟩
theorem r104_l {n s0 z : Nat} {W : Nat → Nat → Int} {mv : Nat → Nat} {row : Nat → Int} (hz : z ≤ 8) (hrow : ∀ t, t < z → 0 ≤ row t ∧ row t < 8) (hWb : ∀ c x, c < 3 → x < 2 ^ n → W c x < 1000000) :
    ∀ (j t x : Nat) (u4 u5 u6 : AV) (σ : St), t + j = z → σ 25 1 = (z : Int) → (∀ t : Nat, t < z → σ 26 t = row t) → EI n W mv s0 σ → x < 65536 → dC x = (jS W mv n row t).1 → σ 145 2 = (jS W mv n row t).2.1 → σ 145 3 = (jS W mv n row t).2.2.1 → σ 145 4 = (jS W mv n row t).2.2.2 →
    ∃ σ' : St, EI n W mv s0 σ' ∧ (∀ a, a ≠ 141 → a ≠ 145 → σ' a = σ a) ∧ σ' 145 2 = (jS W mv n row z).2.1 ∧ σ' 145 3 = (jS W mv n row z).2.2.1 ∧ σ' 145 4 = (jS W mv n row z).2.2.2 ∧ ∀ Q, R (d + 21) 104 36 [vR 145, vR 25, vI x, vI t, u4, u5, u6] [] (WS L σ) Q = Q none (WS L σ') := by
  intro j
  induction j with
  | zero =>
    intro t x u4 u5 u6 σ ht hs hr hE hx hd h2 h3 h4
    obtain rfl : t = z := by omega
    refine ⟨σ, hE, fun _ _ _ => rfl, h2, h3, h4, fun Q => ?_⟩
    rw [b104_36 rfl, if_pos (by omega), b104_149]
  | succ j ih =>
    intro t x u4 u5 u6 σ ht hs hr hE hx hd h2 h3 h4
    have hm8 : ∀ t, t < 8 → mv t < 3 := fun t ht => (hE.2.2.2.2.1 t ht).1
    obtain ⟨i1, i2, i3, i4, i5⟩ := jS_r (W := W) (row := row) hE.1 hm8 t (by omega)
    by_cases c1 : 0 ≤ (jS W mv n row t).2.1
    · have hst := jS_stop c1 (j + 1)
      rw [ht] at hst
      refine ⟨σ, hE, fun _ _ _ => rfl, by rw [hst]; exact h2, by rw [hst]; exact h3, by rw [hst]; exact h4, fun Q => ?_⟩
      rw [b104_36 rfl, if_neg (by omega), b104_44, if_pos (by omega), b104_149]
    · have hrt := hrow t (by omega)
      have hn := hE.2.1
      have h8 := hE.1
      have hl : LN L (25 + 1) = 8 := rfl
      obtain ⟨b, hb, hb8⟩ := rem8 hrt.1 hrt.2
      have e25 : σ 26 t = (b : Int) := by rw [hr t (by omega), hb]
      have h64 : ∀ Q, R (d + 20) 64 0 [vR 25, vI t] [] (WS L σ) Q = Q (some (vI b)) (WS L σ) := by
        intro Q
        rw [r64 (r := 25) rfl (by omega) (by omega) (by rw [hl]; omega)]
        rw [show σ (25 + 1) t = (b : Int) from e25]
      have start : ∀ Q, R (d + 21) 104 36 [vR 145, vR 25, vI x, vI t, u4, u5, u6] [] (WS L σ) Q = if tI (0 ≤ (b : Int) ∧ (b : Int) < n) = 0 then R (d + 21) 104 86 [vR 145, vR 25, vI x, vI t, vI b, u5, u6] [] (WS L σ) Q else R (d + 21) 104 73 [vR 145, vR 25, vI x, vI t, vI b, u5, u6] [] (WS L σ) Q := by
        intro Q
        rw [b104_36 rfl, if_neg (by omega), b104_44, if_neg (by omega), b104_51 rfl, h64]
        simp only [am_push_s]
        rw [b104_56, r13, hn]
        simp only [am_push_s]
        rw [b104_70]
      have hjs : jS W mv n row (t + 1) = if ¬ (0 ≤ row t ∧ row t < n) ∨ (jS W mv n row t).1 (row t).toNat ≠ 0 then ((jS W mv n row t).1, (t : Int), (jS W mv n row t).2.2.1, (jS W mv n row t).2.2.2)
          else if (jS W mv n row t).2.2.1 < 0 ∧ W (mv t) (sdO (EF W mv n (frO n (oup (jS W mv n row t).1 (row t).toNat (mv t + 1))) (oup (jS W mv n row t).1 (row t).toNat (mv t + 1))) (mv t)) < W (mv t) (sdO (EF W mv n (frO n (jS W mv n row t).1) (jS W mv n row t).1) (mv t)) then (oup (jS W mv n row t).1 (row t).toNat (mv t + 1), -5, (t : Int), W (mv t) (sdO (EF W mv n (frO n (jS W mv n row t).1) (jS W mv n row t).1) (mv t)) - W (mv t) (sdO (EF W mv n (frO n (oup (jS W mv n row t).1 (row t).toNat (mv t + 1))) (oup (jS W mv n row t).1 (row t).toNat (mv t + 1))) (mv t))) else (oup (jS W mv n row t).1 (row t).toNat (mv t + 1), -5, (jS W mv n row t).2.2.1, (jS W mv n row t).2.2.2) := by
        rw [jS]
        dsimp only
        rw [if_neg c1]
      rw [hb, Int.toNat_natCast, ← hd] at hjs
      have hwrong : (¬ (0 ≤ (b : Int) ∧ (b : Int) < n) ∨ dC x b ≠ 0) → (∀ Q, R (d + 21) 104 36 [vR 145, vR 25, vI x, vI t, u4, u5, u6] [] (WS L σ) Q = R (d + 21) 104 86 [vR 145, vR 25, vI x, vI t, vI b, u5, u6] [] (WS L σ) Q) → ∃ σ' : St, EI n W mv s0 σ' ∧ (∀ a, a ≠ 141 → a ≠ 145 → σ' a = σ a) ∧ σ' 145 2 = (jS W mv n row z).2.1 ∧ σ' 145 3 = (jS W mv n row z).2.2.1 ∧ σ' 145 4 = (jS W mv n row z).2.2.2 ∧ ∀ Q, R (d + 21) 104 36 [vR 145, vR 25, vI x, vI t, u4, u5, u6] [] (WS L σ) Q = Q none (WS L σ') := by
        intro hw hq
        rw [if_pos hw] at hjs
        have hfr : ∀ a, a ≠ 145 → st2 σ 145 2 (t : Int) a = σ a := by
          intro a ha
          funext q
          exact st2_k ha
        obtain ⟨σ2, f1, f2, f3, f4, f5, f6⟩ := ih (t + 1) x (vI b) u5 u6 (st2 σ 145 2 (t : Int)) (by omega) (by rw [hfr 25 (by omega)]; exact hs) (by rw [hfr 26 (by omega)]; exact hr) (EI_fr hE (hfr 20 (by omega)) (hfr 31 (by omega)) (hfr 139 (by omega)) (hfr 140 (by omega)) (hfr 141 (by omega))) hx (by rw [hjs]) (by rw [hjs, st2_eq]) (by rw [hjs, st2_i (by omega), h3]) (by rw [hjs, st2_i (by omega), h4])
        refine ⟨σ2, f1, fun a h h' => (f2 a h h').trans (hfr a h'), f3, f4, f5, fun Q => ?_⟩
        rw [hq, b104_86, b104_91, b104_143 (by omega)]
        exact f6 Q
      by_cases c2 : b < n
      · have start2 : ∀ Q, R (d + 21) 104 36 [vR 145, vR 25, vI x, vI t, u4, u5, u6] [] (WS L σ) Q = if dC x b ≠ 0 then R (d + 21) 104 86 [vR 145, vR 25, vI x, vI t, vI b, u5, u6] [] (WS L σ) Q else R (d + 21) 104 94 [vR 145, vR 25, vI x, vI t, vI b, u5, u6] [] (WS L σ) Q := by
          intro Q
          have htk : tkO (dC x) < 2 ^ 8 := bits_lt _ 8
          have hbit : i_and (i_shr (tkO (dC x)) b) 1 = if (tkO (dC x)).testBit b then 1 else 0 := i_bit (by omega) (by omega)
          have htb : (tkO (dC x)).testBit b = decide (dC x b ≠ 0) := by
            unfold tkO
            rw [bits_test]
            simp [hb8]
          rw [start]
          simp only [tI_0]
          rw [if_neg (by omega), b104_73, r86 hx]
          simp only [am_push_s]
          rw [b104_77, hbit, htb]
          by_cases h0 : dC x b = 0 <;> simp [h0]
        by_cases c3 : dC x b = 0
        · rw [if_neg (by rintro (h | h) <;> omega)] at hjs
          have hOx : Ov n (dC x) := by rw [hd]; exact i4
          have hft : frO n (dC x) + t = n := by rw [hd]; exact i5 (by omega)
          have hct : cntO (dC x) = t := by
            have := fr_cnt h8 hOx
            omega
          have hmv := hE.2.2.2.2.1 t (by omega)
          obtain ⟨wl, wd⟩ := withC_r hx (by omega) hmv.1 c3
          have hO2 : Ov n (dC (withC x b (mv t))) := by rw [wd]; exact Ov_oup hOx c2 (by omega)
          obtain ⟨σ1, e1, e2, e3⟩ := r101 (d := d) (L := L) hE hx hOx hmv.1
          obtain ⟨σ2, g1, g2, g3⟩ := r101 (d := d) (L := L) e1 wl hO2 hmv.1
          have bnd : ∀ x, Ov n (dC x) → -1000000 < W (mv t) (sdO (EF W mv n (frO n (dC x)) (dC x)) (mv t)) ∧ W (mv t) (sdO (EF W mv n (frO n (dC x)) (dC x)) (mv t)) < 1000000 := by
            intro x hO
            have hsl := sdO_lt (c := mv t) (EF_Ov (W := W) h8 hm8 (frO n (dC x)) _ hO) h8
            exact ⟨hE.2.2.2.1 _ _ hmv.1 hsl, hWb _ _ hmv.1 hsl⟩
          have bx := bnd x hOx
          have bw := bnd _ hO2
          rw [wd] at bw g3
          have h145 : σ2 145 = σ 145 := by rw [g2 145 (by omega), e2 145 (by omega)]
          obtain ⟨σ3, k1, k2, k3, k4, k5⟩ := r105 (d := d + 20) (L := L) (σ := σ2) (t := t) (a := W (mv t) (sdO (EF W mv n (frO n (dC x)) (dC x)) (mv t))) (b := W (mv t) (sdO (EF W mv n (frO n (oup (dC x) b (mv t + 1))) (oup (dC x) b (mv t + 1))) (mv t))) (by omega)
          rw [h145] at k2 k3 k4
          have hfr : ∀ a, a ≠ 141 → a ≠ 145 → σ3 a = σ a := fun a h h' => by rw [k1 a h', g2 a h, e2 a h]
          obtain ⟨σ4, f1, f2, f3, f4, f5, f6⟩ := ih (t + 1) (withC x b (mv t)) (vI b) (vI (mv t)) (vI (withC x b (mv t))) σ3 (by omega) (by rw [hfr 25 (by omega) (by omega)]; exact hs) (by rw [hfr 26 (by omega) (by omega)]; exact hr) (EI_fr g1 (k1 20 (by omega)) (k1 31 (by omega)) (k1 139 (by omega)) (k1 140 (by omega)) (k1 141 (by omega))) wl (by rw [hjs, wd]; split <;> rfl) (by rw [hjs, k2, h2, i2 (by omega)]; split <;> rfl) (by rw [hjs, k3, h3]; split <;> rfl) (by rw [hjs, k4, h4, h3]; split <;> rfl)
          refine ⟨σ4, f1, fun a h h' => (f2 a h h').trans (hfr a h h'), f3, f4, f5, fun Q => ?_⟩
          rw [start2, if_neg (by simp [c3]), b104_94, r89 hx, hct, if_pos (by omega)]
          simp only [am_push_s]
          rw [b104_102, hmv.2, r87 hx (by omega) hmv.1]
          simp only [am_push_s]
          rw [b104_112]
          refine (e3 _).trans ?_
          simp only [am_push_s]
          rw [b104_126]
          refine (g3 _).trans ?_
          simp only [am_push_s]
          rw [b104_137]
          refine (k5 _).trans ?_
          simp only [am_push_n]
          rw [b104_140, b104_143 (by omega)]
          exact f6 Q
        · exact hwrong (Or.inr c3) (fun Q => by rw [start2, if_pos c3])
      · refine hwrong (Or.inl (by omega)) (fun Q => ?_)
        rw [start]
        simp only [tI_0]
        rw [if_pos (by omega)]
def Fr4 (σ σ' : St) : Prop := ∀ a, a ≠ 139 → a ≠ 140 → a ≠ 141 → a ≠ 145 → σ' a = σ a
theorem r104 {n w m kd N z : Nat} {sd : Nat → Nat} (h : CW n w m kd sd σ) (hN : N + 1 < 30000) (hE : EN N n σ) (hz : z ≤ 8) (hs : σ 25 1 = (z : Int)) (hrow : ∀ t : Nat, t < z → 0 ≤ σ 26 t ∧ σ 26 t < 8) (hWb : ∀ c x, c < 3 → x < 2 ^ n → Wc σ c x < 1000000) : ∃ σ' : St, EN (N + 1) n σ' ∧ Fr4 σ σ' ∧ σ' 145 2 = (jS (Wc σ) (mvN w m kd σ) n (fun q => σ 26 q) z).2.1 ∧ σ' 145 3 = (jS (Wc σ) (mvN w m kd σ) n (fun q => σ 26 q) z).2.2.1 ∧ σ' 145 4 = (jS (Wc σ) (mvN w m kd σ) n (fun q => σ 26 q) z).2.2.2 ∧ ∀ Q, R (d + 21) 104 0 [vR 145, vR 25, vX 9, vX 9, vX 9, vX 9, vX 9] [] (WS L σ) Q = Q none (WS L σ') := by
  have f0 : ∀ a, a ≠ 145 → st2 (st2 (st2 σ 145 2 (-5)) 145 3 (-5)) 145 4 0 a = σ a := by
    intro a ha
    funext j
    rw [st2_k ha, st2_k ha, st2_k ha]
  have hC0 : CW n w m kd sd (st2 (st2 (st2 σ 145 2 (-5)) 145 3 (-5)) 145 4 0) := by
    unfold CW Wc at *
    rw [f0 20 (by omega), f0 23 (by omega), f0 30 (by omega), f0 31 (by omega)]
    exact h
  have hE0 : EN N n (st2 (st2 (st2 σ 145 2 (-5)) 145 3 (-5)) 145 4 0) := by
    refine EN_fr hE (f0 139 (by omega)) (f0 140 (by omega)) (f0 141 (by omega)) ?_ ?_ h.2.1
    · rw [f0 20 (by omega)]
      omega
    · intro _ c x _ _
      unfold Wc
      rw [f0 31 (by omega)]
  obtain ⟨σ1, s1, a1, a2, a3, a4, a5⟩ := r83n (d := d + 18) (L := L) (sw := false) kd hC0 hN hE0
  have eW : Wc (st2 (st2 (st2 σ 145 2 (-5)) 145 3 (-5)) 145 4 0) = Wc σ := by
    unfold Wc
    rw [f0 31 (by omega)]
  rw [eW, f0 24 (by omega)] at a2
  have b145 : σ1 145 = st2 (st2 (st2 σ 145 2 (-5)) 145 3 (-5)) 145 4 0 145 := a4 145 (by omega) (by omega) (by omega)
  have h0 : dC 0 = (jS (Wc σ) (mvN w m kd σ) n (fun q => σ 26 q) 0).1 := by
    funext b
    unfold dC
    simp [jS]
  obtain ⟨σ2, c1, c2, c3, c4, c5, c6⟩ := r104_l (d := d) (L := L) (row := fun q => σ 26 q) hz hrow hWb z 0 0 (vX 9) (vX 9) (vX 9) σ1 (by omega)
    (by rw [a4 25 (by omega) (by omega) (by omega), f0 25 (by omega)]; exact hs) (by rw [a4 26 (by omega) (by omega) (by omega), f0 26 (by omega)]; exact fun _ _ => rfl) a2 (by omega) h0
    (by rw [b145, st2_i (by omega), st2_i (by omega), st2_eq]; rfl) (by rw [b145, st2_i (by omega), st2_eq]; rfl) (by rw [b145, st2_eq]; rfl)
  refine ⟨σ2, EN_of c1 a1 (by rw [c2 139 (by omega) (by omega), c2 20 (by omega) (by omega)]; exact a3), fun a x y z' u => by rw [c2 a z' u, a4 a x y z', f0 a u], c3, c4, c5, fun Q => ?_⟩
  have hk : st2 (st2 (st2 σ 145 2 (-5)) 145 3 (-5)) 145 4 0 20 3 = (kd : Int) := hC0.2.2.2.2.2.2.1
  rw [b104_0, b104_6, b104_12, b104_17, hk, show vI 0 = vI (if false = true then 1 else 0) from rfl, a5]
  simp only [am_push_n]
  rw [b104_32]
  exact c6 Q
theorem r107 {n w m kd N k : Nat} {sd : Nat → Nat} (h : CW n w m kd sd σ) (hN : N + 2 < 30000) (hE : EN N n σ) (hk : k < 3) (hWb : ∀ c x, c < 3 → x < 2 ^ n → Wc σ c x < 1000000) : ∃ σ' : St, EN (N + 2) n σ' ∧ Fr3 σ σ' ∧ ∀ Q, R (d + 21) 107 0 [vR 145, vI k, vX 9] [] (WS L σ) Q = Q (some (vI (Wc σ 0 (sdO (EF (Wc σ) (mvF w k m (fun q => σ 24 q) false) n n (fun _ => 0)) 0) - Wc σ 0 (sdO (EF (Wc σ) (mvF w k m (fun q => σ 24 q) true) n n (fun _ => 0)) 0)))) (WS L σ') := by
  have h0 : dC 0 = fun _ => 0 := by
    funext b
    unfold dC
    simp
  have hO0 : Ov n (dC 0) := by
    rw [h0]
    exact ⟨fun b => Nat.zero_le _, fun b _ => rfl⟩
  have hf0 : frO n (dC 0) = n := by
    have := fr_cnt h.2.1 hO0
    have e : cntO (dC 0) = 0 := by rw [h0]; rfl
    omega
  obtain ⟨σ1, s1, a1, a2, a3, a4, a5⟩ := r83n (d := d + 18) (L := L) (sw := false) k h (by omega) hE
  obtain ⟨σ2, b1, b2, b3⟩ := r101 (d := d) (L := L) (x := 0) (c := 0) a2 (by omega) hO0 (by omega)
  have F2 : Fr3 σ σ2 := fun a x y z => by rw [b2 a z, a4 a x y z]
  have C2 := CW_fr h F2
  have E2 : EN (N + 1) n σ2 := EN_ret b1 a1 a3 b2
  obtain ⟨σ3, s3, c1, c2, c3, c4, c5⟩ := r83n (d := d + 18) (L := L) (sw := true) k C2 (by omega) E2
  obtain ⟨σ4, e1, e2, e3⟩ := r101 (d := d) (L := L) (x := 0) (c := 0) c2 (by omega) hO0 (by omega)
  have eW : Wc σ2 = Wc σ := by
    unfold Wc
    rw [F2 31 (by omega) (by omega) (by omega)]
  rw [hf0, h0] at b3 e3
  rw [eW, F2 24 (by omega) (by omega) (by omega)] at e3 c2
  refine ⟨σ4, EN_ret e1 c1 c3 e2, fun a x y z => by rw [e2 a z, c4 a x y z, F2 a x y z], fun Q => ?_⟩
  have hm8 : ∀ t, t < 8 → mvF w k m (fun q => σ 24 q) false t < 3 := fun t _ => mvF_r h.2.2.2.1
  have hm8' : ∀ t, t < 8 → mvF w k m (fun q => σ 24 q) true t < 3 := fun t _ => mvF_r h.2.2.2.1
  rw [h0] at hO0
  have l1 := sdO_lt (c := 0) (EF_Ov (W := Wc σ) h.2.1 hm8 n _ hO0) h.2.1
  have l2 := sdO_lt (c := 0) (EF_Ov (W := Wc σ) h.2.1 hm8' n _ hO0) h.2.1
  have B := h.2.2.2.2.2.2.2.2.2.2
  have B1 := B 0 _ (by omega) l1
  have B2 := B 0 _ (by omega) l2
  have B3 := hWb 0 _ (by omega) l1
  have B4 := hWb 0 _ (by omega) l2
  rw [b107_0, show vI 0 = vI (if false = true then 1 else 0) from rfl, a5]
  simp only [am_push_n]
  rw [b107_9]
  refine (b3 _).trans ?_
  simp only [am_push_s]
  rw [b107_18, show vI 1 = vI (if true = true then 1 else 0) from rfl, c5]
  simp only [am_push_n]
  rw [b107_28]
  refine (e3 _).trans ?_
  simp only [am_push_s]
  rw [b107_38 (by omega)]
/-- FIRST by turns of a kind -/
def fiF (W : Nat → Nat → Int) (w m n : Nat) (told : Nat → Int) (k : Nat) : Int := W 0 (sdO (EF W (mvF w k m told false) n n (fun _ => 0)) 0) - W 0 (sdO (EF W (mvF w k m told true) n n (fun _ => 0)) 0)
def absI (x : Int) : Int := if x < 0 then -x else x
theorem i_abs_id {x : Int} (h : -2147483647 ≤ x ∧ x ≤ 2147483647) : i_abs x = absI x := by
  unfold i_abs absI
  by_cases q : 0 ≤ x
  · rw [if_pos q, if_neg (by omega)]
  · rw [if_neg q, if_pos (by omega), wr_id (by omega) (by omega)]
    omega
theorem r107' {n w m kd N k : Nat} {sd : Nat → Nat} (h : CW n w m kd sd σ) (hN : N + 2 < 30000) (hE : EN N n σ) (hk : k < 3) (hWb : ∀ c x, c < 3 → x < 2 ^ n → Wc σ c x < 1000000) : ∃ σ' : St, EN (N + 2) n σ' ∧ Fr3 σ σ' ∧ ∀ Q, R (d + 21) 107 0 [vR 145, vI k, vX 9] [] (WS L σ) Q = Q (some (vI (fiF (Wc σ) w m n (fun q => σ 24 q) k))) (WS L σ') := r107 h hN hE hk hWb
theorem CW_w {n w m kd : Nat} {sd : Nat → Nat} {σ σ' : St} (hf : Fr3 σ σ') (hWb : ∀ c x, c < 3 → x < 2 ^ n → Wc σ c x < 1000000) : ∀ c x, c < 3 → x < 2 ^ n → Wc σ' c x < 1000000 := by
  unfold Wc at *
  rw [hf 31 (by omega) (by omega) (by omega)]
  exact hWb
theorem fiF_b {n w m kd k : Nat} {sd : Nat → Nat} (h : CW n w m kd sd σ) (hWb : ∀ c x, c < 3 → x < 2 ^ n → Wc σ c x < 1000000) : -2000000 < fiF (Wc σ) w m n (fun q => σ 24 q) k ∧ fiF (Wc σ) w m n (fun q => σ 24 q) k < 2000000 := by
  have hO0 : Ov n (fun _ => 0) := ⟨fun b => Nat.zero_le _, fun b _ => rfl⟩
  have hm8 : ∀ t, t < 8 → mvF w k m (fun q => σ 24 q) false t < 3 := fun t _ => mvF_r h.2.2.2.1
  have hm8' : ∀ t, t < 8 → mvF w k m (fun q => σ 24 q) true t < 3 := fun t _ => mvF_r h.2.2.2.1
  have l1 := sdO_lt (c := 0) (EF_Ov (W := Wc σ) h.2.1 hm8 n _ hO0) h.2.1
  have l2 := sdO_lt (c := 0) (EF_Ov (W := Wc σ) h.2.1 hm8' n _ hO0) h.2.1
  have B := h.2.2.2.2.2.2.2.2.2.2
  have B1 := B 0 _ (by omega) l1
  have B2 := B 0 _ (by omega) l2
  have B3 := hWb 0 _ (by omega) l1
  have B4 := hWb 0 _ (by omega) l2
  unfold fiF
  omega
def faF (v : Nat → Int) : Int := amx (fun _ => true) (fun k => - absI (v k)) 3
theorem faF_eq (v : Nat → Int) : faF v = if absI (v 2) < absI (v (if absI (v 1) < absI (v 0) then 1 else 0)) then 2 else if absI (v 1) < absI (v 0) then 1 else 0 := by
  unfold faF
  have e1 : amx (fun _ => true) (fun k => - absI (v k)) 1 = 0 := by simp [amx]
  have e2 : amx (fun _ => true) (fun k => - absI (v k)) 2 = if absI (v 1) < absI (v 0) then 1 else 0 := by
    rw [amx, e1]
    by_cases h : absI (v 1) < absI (v 0)
    · rw [if_pos ⟨rfl, Or.inr (by simpa using h)⟩, if_pos h]
      rfl
    · rw [if_neg (by rintro ⟨-, q | q⟩ <;> simp at q <;> omega), if_neg h]
  rw [amx, e2]
  by_cases h : absI (v 1) < absI (v 0)
  · simp only [if_pos h]
    by_cases h2 : absI (v 2) < absI (v 1)
    · rw [if_pos ⟨by simp, Or.inr (by simpa using h2)⟩, if_pos h2]
      rfl
    · rw [if_neg (by rintro ⟨-, q | q⟩ <;> simp at q <;> omega), if_neg h2]
  · simp only [if_neg h]
    by_cases h2 : absI (v 2) < absI (v 0)
    · rw [if_pos ⟨by simp, Or.inr (by simpa using h2)⟩, if_pos h2]
      rfl
    · rw [if_neg (by rintro ⟨-, q | q⟩ <;> simp at q <;> omega), if_neg h2]
theorem r108 {n w m kd N : Nat} {sd : Nat → Nat} (h : CW n w m kd sd σ) (hN : N + 6 < 30000) (hE : EN N n σ) (hWb : ∀ c x, c < 3 → x < 2 ^ n → Wc σ c x < 1000000) (hWs : ∀ k, -1000000 < fiF (Wc σ) w m n (fun q => σ 24 q) k ∧ fiF (Wc σ) w m n (fun q => σ 24 q) k < 1000000) : ∃ σ' : St, EN (N + 6) n σ' ∧ Fr3 σ σ' ∧ ∀ Q, R (d + 22) 108 0 [vR 19, vX 9, vX 9, vX 9, vX 9] [] (WS L σ) Q = Q (some (vI (faF (fiF (Wc σ) w m n (fun q => σ 24 q))))) (WS L σ') := by
  obtain ⟨σ1, a1, a2, a3⟩ := r107' (d := d) (L := L) (k := 0) h (by omega) hE (by omega) hWb
  have h1 := CW_fr h a2
  have e1 : Wc σ1 = Wc σ := by unfold Wc; rw [a2 31 (by omega) (by omega) (by omega)]
  obtain ⟨σ2, b1, b2, b3⟩ := r107' (d := d) (L := L) (k := 1) h1 (by omega) a1 (by omega) (CW_w (n := n) (w := w) (m := m) (kd := kd) (sd := sd) a2 hWb)
  have f2 := Fr3_t a2 b2
  have h2 := CW_fr h f2
  have e2 : Wc σ2 = Wc σ := by unfold Wc; rw [f2 31 (by omega) (by omega) (by omega)]
  obtain ⟨σ3, c1, c2, c3⟩ := r107' (d := d) (L := L) (k := 2) h2 (by omega) b1 (by omega) (CW_w (n := n) (w := w) (m := m) (kd := kd) (sd := sd) f2 hWb)
  rw [e1, a2 24 (by omega) (by omega) (by omega)] at b3
  rw [e2, f2 24 (by omega) (by omega) (by omega)] at c3
  refine ⟨σ3, c1, Fr3_t f2 c2, fun Q => ?_⟩
  have v0 := hWs 0
  have v1 := hWs 1
  have v2 := hWs 2
  rw [faF_eq]
  generalize fiF (Wc σ) w m n (fun q => σ 24 q) = v at *
  have g0 : i_abs (v 0) = absI (v 0) := i_abs_id (by omega)
  have g1 : i_abs (v 1) = absI (v 1) := i_abs_id (by omega)
  have g2 : i_abs (v 2) = absI (v 2) := i_abs_id (by omega)
  have l0 : absI (v 0) < 1000000 := by unfold absI; split <;> omega
  have step : ∀ (k : Nat) (x y : Int) (u4 : AV) (σ σ' : St), k < 3 → (∀ Q, R (d + 21) 107 0 [vR 145, vI k, vX 9] [] (WS L σ) Q = Q (some (vI (v k))) (WS L σ')) → i_abs (v k) = absI (v k) → ∀ Q, R (d + 22) 108 7 [vR 19, vI x, vI y, vI k, u4] [] (WS L σ) Q = R (d + 22) 108 7 [vR 19, vI (if absI (v k) < y then (k : Int) else x), vI (if absI (v k) < y then absI (v k) else y), vI ((k + 1 : Nat) : Int), vI (absI (v k))] [] (WS L σ') Q := by
    intro k x y u4 σ σ' hk hr hg Q
    rw [b108_7, if_neg (by omega), b108_12, hr]
    simp only [am_push_s]
    rw [b108_20, hg]
    by_cases q : absI (v k) < y
    · rw [if_neg (by omega), b108_31, b108_36 (by omega), if_pos q, if_pos q]
      rfl
    · rw [if_pos (by omega), b108_36 (by omega), if_neg q, if_neg q]
      rfl
  rw [b108_0, show vI 0 = vI ((0 : Nat) : Int) from rfl, step 0 _ _ _ σ σ1 (by omega) a3 g0, step 1 _ _ _ σ1 σ2 (by omega) b3 g1, step 2 _ _ _ σ2 σ3 (by omega) c3 g2, b108_7, if_pos (by omega), b108_42]
  rw [if_pos l0]
  congr 3
  by_cases q : absI (v 1) < absI (v 0)
  · simp only [if_pos q]
    rfl
  · simp only [if_neg q, if_pos l0]
    rfl
theorem r106 {n w m kd N : Nat} {k : Int} {sd : Nat → Nat} (h : CW n w m kd sd σ) (hN : N + 2 < 30000) (hE : EN N n σ) (hWb : ∀ c x, c < 3 → x < 2 ^ n → Wc σ c x < 1000000) : ∃ σ' : St, EN (N + 2) n σ' ∧ Fr3 σ σ' ∧ ∀ Q, R (d + 22) 106 0 [vR 19, vI k] [] (WS L σ) Q = Q (some (vI (if 0 ≤ k ∧ k < 3 then fiF (Wc σ) w m n (fun q => σ 24 q) k.toNat else -1001))) (WS L σ') := by
  have b13 : ∀ Q, R (d + 22) 106 0 [vR 19, vI k] [] (WS L σ) Q = if ¬ (0 ≤ k ∧ k < 3) then R (d + 22) 106 19 [vR 19, vI k] [] (WS L σ) Q else R (d + 22) 106 8 [vR 19, vI k] [] (WS L σ) Q := by
    intro Q
    rw [b106_0, r13]
    simp only [am_push_s]
    rw [b106_5]
    simp only [tI_0]
  by_cases hk : 0 ≤ k ∧ k < 3
  · obtain ⟨σ1, a1, a2, a3⟩ := r107' (d := d) (L := L) (k := k.toNat) h hN hE (by omega) hWb
    rw [show ((k.toNat : Nat) : Int) = k by omega] at a3
    refine ⟨σ1, a1, a2, fun Q => ?_⟩
    rw [b13, if_neg (by simpa using hk), b106_8, a3]
    simp only [am_push_s]
    rw [b106_16, b106_22, if_pos hk]
  · obtain ⟨s0, q1, q2, q3⟩ := hE
    refine ⟨σ, ⟨s0, q1, by omega, q3⟩, fun _ _ _ _ => rfl, fun Q => ?_⟩
    rw [b13, if_pos hk, b106_19, b106_22, if_neg hk]
theorem r103 {n w m kd N z : Nat} {k : Int} {sd : Nat → Nat} (h : CW n w m kd sd σ) (hN : N + 1 < 30000) (hE : EN N n σ) (hz : z ≤ 8) (hs : σ 25 1 = (z : Int)) (hrow : ∀ t : Nat, t < z → 0 ≤ σ 26 t ∧ σ 26 t < 8) (hWb : ∀ c x, c < 3 → x < 2 ^ n → Wc σ c x < 1000000) : ∃ σ' : St, EN (N + 1) n σ' ∧ Fr4 σ σ' ∧ ∀ Q, R (d + 22) 103 0 [vR 19, vI k] [] (WS L σ) Q = Q (some (vI (if 0 ≤ k ∧ k < 3 then (if k = 0 then (jS (Wc σ) (mvN w m kd σ) n (fun q => σ 26 q) z).2.1 else if k = 1 then (jS (Wc σ) (mvN w m kd σ) n (fun q => σ 26 q) z).2.2.1 else (jS (Wc σ) (mvN w m kd σ) n (fun q => σ 26 q) z).2.2.2) else -1))) (WS L σ') := by
  have b13 : ∀ Q, R (d + 22) 103 0 [vR 19, vI k] [] (WS L σ) Q = if 0 ≤ k ∧ k < 3 then R (d + 22) 103 10 [vR 19, vI k] [] (WS L σ) Q else R (d + 22) 103 8 [vR 19, vI k] [] (WS L σ) Q := by
    intro Q
    rw [b103_0, r13]
    simp only [am_push_s]
    rw [b103_5]
    simp only [tI_0, Decidable.not_not]
  by_cases hk : 0 ≤ k ∧ k < 3
  · obtain ⟨σ1, a1, a2, a3, a4, a5, a6⟩ := r104 (d := d) (L := L) h hN hE hz hs hrow hWb
    refine ⟨σ1, a1, a2, fun Q => ?_⟩
    rw [b13, if_pos hk, b103_10, a6]
    simp only [am_push_n]
    rw [b103_24, if_pos hk]
    by_cases k0 : k = 0
    · rw [if_neg (by simpa using k0), b103_28, if_pos k0, a3]
    · rw [if_pos k0, b103_36, if_neg k0]
      by_cases k1 : k = 1
      · rw [if_neg (by simpa using k1), b103_41, b103_58, if_pos k1, a4]
      · rw [if_pos k1, b103_51, b103_58, if_neg k1, a5]
  · obtain ⟨s0, q1, q2, q3⟩ := hE
    refine ⟨σ, ⟨s0, q1, by omega, q3⟩, fun _ _ _ _ _ => rfl, fun Q => ?_⟩
    rw [b13, if_neg hk, b103_8, if_neg hk]
end JU
