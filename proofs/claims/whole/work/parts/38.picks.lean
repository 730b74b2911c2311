/-! what captains pick: the class -/
section PK
variable {d L : Nat} {σ : St} {Q : Option AV → AW → Prop}
/-- summers: sizes and picks (captain times 8 and the boy) -/
def SU (S : Nat) (σ : St) : Prop := σ 20 4 = (S : Int) ∧ S ≤ 12 ∧ ∀ i : Nat, i < S → 1 ≤ σ (53 + 2 * i) 1 ∧ σ (53 + 2 * i) 1 ≤ 8 ∧ ∀ j : Nat, (j : Int) < σ (53 + 2 * i) 1 → 0 ≤ σ (54 + 2 * i) j ∧ σ (54 + 2 * i) j < 24
def zS (σ : St) (i : Nat) : Nat := (σ (53 + 2 * i) 1).toNat
def itS (σ : St) (i j : Nat) : Nat := (σ (54 + 2 * i) j).toNat
theorem kd_su {i : Nat} (h : i < 12) : KD (53 + 2 * i) = 5 := (by decide +kernel : ∀ i, i < 12 → KD (53 + 2 * i) = 5) i h
theorem ln_su {i : Nat} (h : i < 12) : LN L (53 + 2 * i + 1) = 8 := by
  have : ∀ i, i < 12 → wsL.getD (53 + 2 * i + 1) 0 = 8 := by decide +kernel
  exact this i h
def tlC (σ : St) (S b : Nat) : Nat := cnt (fun i => decide (itS σ i (zS σ i - 1) % 8 = b)) S
theorem r94_l {S b : Nat} (hS : SU S σ) (hb : b < 8) : ∀ (m i : Nat) (u4 : AV), i + m = S → R (d + 2) 94 4 [vR 20, vI b, vI (tlC σ i b), vI i, u4] [] (WS L σ) Q = Q (some (vI (tlC σ S b))) (WS L σ) := by
  obtain ⟨h1, h2, h3⟩ := hS
  intro m
  induction m with
  | zero =>
    intro i u4 hi
    obtain rfl : i = S := by omega
    rw [b94_4, if_pos (by omega), b94_60]
  | succ m ih =>
    intro i u4 hi
    obtain ⟨a1, a2, a3⟩ := h3 i (by omega)
    have a4 := a3 (zS σ i - 1) (by unfold zS; omega)
    have hkd := kd_su (i := i) (by omega)
    have hln := ln_su (L := L) (i := i) (by omega)
    have hz : σ (53 + 2 * i) 1 - 1 = ((zS σ i - 1 : Nat) : Int) := by unfold zS; omega
    have hit : σ (54 + 2 * i) ((zS σ i - 1 : Nat) : Int) = (itS σ i (zS σ i - 1) : Int) := by unfold itS; omega
    have ht : tlC σ (i + 1) b = tlC σ i b + if itS σ i (zS σ i - 1) % 8 = b then 1 else 0 := by
      unfold tlC
      rw [cnt]
      simp only [decide_eq_true_eq]
    have hle : tlC σ i b ≤ i := cnt_le _ _
    have hrem : i_rem (itS σ i (zS σ i - 1) : Int) 8 = ((itS σ i (zS σ i - 1) % 8 : Nat) : Int) := i_rem_nat (b := 8) (by omega) (by omega)
    have start : R (d + 2) 94 4 [vR 20, vI b, vI (tlC σ i b), vI i, u4] [] (WS L σ) Q = if ¬ itS σ i (zS σ i - 1) % 8 = b then R (d + 2) 94 54 [vR 20, vI b, vI (tlC σ i b), vI i, vR (53 + 2 * i)] [] (WS L σ) Q else R (d + 2) 94 51 [vR 20, vI b, vI (tlC σ i b), vI i, vR (53 + 2 * i)] [] (WS L σ) Q := by
      rw [b94_4, if_neg (by omega), b94_12, r95 (by omega)]
      simp only [am_push_s]
      rw [b94_17, b94_24 hkd, if_neg (by omega), b94_32 hkd (by omega), r64 hkd (by omega) (by omega) (by rw [hln]; omega)]
      simp only [am_push_s]
      rw [show 53 + 2 * i + 1 = 54 + 2 * i by omega, hz, hit, b94_44, hrem]
      by_cases q : itS σ i (zS σ i - 1) % 8 = b
      · rw [if_neg (by omega), if_neg (by omega)]
      · rw [if_pos (by omega), if_pos q]
    have e := ih (i + 1) (vR (53 + 2 * i)) (by omega)
    rw [ht] at e
    rw [start]
    by_cases q : itS σ i (zS σ i - 1) % 8 = b
    · rw [if_neg (by simpa using q), b94_51 (by omega), b94_54 (by omega)]
      rw [if_pos q] at e
      exact e
    · rw [if_pos q, b94_54 (by omega)]
      rw [if_neg q] at e
      exact e
theorem r94 {S b : Nat} (hS : SU S σ) (hb : b < 8) : R (d + 2) 94 0 [vR 20, vI b, vX 9, vX 9, vX 9] [] (WS L σ) Q = Q (some (vI (tlC σ S b))) (WS L σ) := by
  rw [b94_0]
  exact r94_l hS hb S 0 _ (by omega)
/-- the most, 0 at least -/
def mxN (ok : Nat → Bool) (v : Nat → Nat) : Nat → Nat
  | 0 => 0
  | k + 1 => if ok k = true ∧ mxN ok v k < v k then v k else mxN ok v k
theorem mxN_le {ok : Nat → Bool} {v : Nat → Nat} {i : Nat} : ∀ {n}, i < n → ok i = true → v i ≤ mxN ok v n
  | 0, h, _ => absurd h (by omega)
  | n + 1, h, hk => by
    rw [mxN]
    by_cases q : i < n
    · have := mxN_le (v := v) q hk
      split <;> omega
    · obtain rfl : i = n := by omega
      split
      · exact Nat.le_refl _
      · rename_i h2
        have : ¬ mxN ok v i < v i := fun x => h2 ⟨hk, x⟩
        omega
def oflC (ok : Nat → Bool) (v : Nat → Nat) (n : Nat) : Nat := bits (fun b => ok b && decide (v b = mxN ok v n)) n
theorem i_max_n {a b : Nat} : i_max a b = ((if a < b then b else a : Nat) : Int) := by
  unfold i_max
  by_cases h : a < b
  · rw [if_pos h, if_pos (by omega)]
  · rw [if_neg h, if_neg (by omega)]
theorem ofl_t {ok : Nat → Bool} {v : Nat → Nat} {i : Nat} (h : ok i = true) : oflC ok v (i + 1) = (if mxN ok v i < v i then 0 else oflC ok v i) ||| (if v i = mxN ok v (i + 1) then 2 ^ i else 0) := by
  unfold oflC
  have hx : mxN ok v (i + 1) = if mxN ok v i < v i then v i else mxN ok v i := by
    rw [mxN]
    by_cases q : mxN ok v i < v i
    · rw [if_pos ⟨h, q⟩, if_pos q]
    · rw [if_neg (fun x => q x.2), if_neg q]
  apply tb_ext
  intro j
  rw [bits_test, hx]
  by_cases q : mxN ok v i < v i
  · simp only [if_pos q]
    rw [Nat.zero_or, if_pos trivial, Nat.testBit_two_pow]
    by_cases hj : i = j
    · subst hj
      simp [h]
    · by_cases hj2 : j < i
      · have hne : ok j = true → ¬ v j = v i := fun hk e => by
          have := mxN_le (v := v) hj2 hk
          omega
        cases hk : ok j
        · simp [hj]
        · simp [hj, hne hk]
      · have : ¬ j < i + 1 := by omega
        simp [this, hj]
  · simp only [if_neg q]
    rw [Nat.testBit_or, bits_test]
    by_cases hj : i = j
    · subst hj
      by_cases e : v i = mxN ok v i <;> simp [h, e]
    · have e1 : (if v i = mxN ok v i then 2 ^ i else 0).testBit j = false := by
        split
        · rw [Nat.testBit_two_pow]
          simp [hj]
        · simp
      rw [e1, Bool.or_false]
      have : decide (j < i + 1) = decide (j < i) := by
        congr 1
        exact propext ⟨fun _ => by omega, fun _ => by omega⟩
      rw [this]
theorem ofl_f {ok : Nat → Bool} {v : Nat → Nat} {i : Nat} (h : ok i = false) : oflC ok v (i + 1) = oflC ok v i ∧ mxN ok v (i + 1) = mxN ok v i := by
  have hx : mxN ok v (i + 1) = mxN ok v i := by rw [mxN, if_neg (by rw [h]; simp)]
  refine ⟨?_, hx⟩
  unfold oflC
  rw [hx, bits, h]
  simp
theorem ofl_lt {ok : Nat → Bool} {v : Nat → Nat} {i : Nat} (h : i ≤ 8) : oflC ok v i < 256 := Nat.lt_of_lt_of_le (bits_lt _ _) (pw8 h)
theorem r93_l {S x : Nat} (hS : SU S σ) (hx : x < 256) : ∀ (m i : Nat) (u5 : AV), i + m = 8 → R (d + 3) 93 7 [vR 142, vI x, vI (mxN (fun b => x.testBit b) (tlC σ S) i), vI (oflC (fun b => x.testBit b) (tlC σ S) i), vI i, u5] [] (WS L σ) Q = Q (some (vI (oflC (fun b => x.testBit b) (tlC σ S) 8))) (WS L σ) := by
  intro m
  induction m with
  | zero =>
    intro i u5 hi
    obtain rfl : i = 8 := by omega
    rw [b93_7, if_pos (by omega), b93_77]
  | succ m ih =>
    intro i u5 hi
    have hb : i_and (i_shr x i) 1 = if x.testBit i then 1 else 0 := i_bit (by omega) (by omega)
    have hp2 : 2 ^ i < 2 ^ 8 := two_pow_lt (by omega)
    have hof := ofl_lt (ok := fun b => x.testBit b) (v := tlC σ S) (i := i) (by omega)
    rw [b93_7, if_neg (by omega), b93_14, hb]
    by_cases hp : x.testBit i = true
    · have e := ih (i + 1) (vI (tlC σ S i)) (by omega)
      have ho := ofl_t (ok := fun b => x.testBit b) (v := tlC σ S) (i := i) hp
      have hmx : mxN (fun b => x.testBit b) (tlC σ S) (i + 1) = if mxN (fun b => x.testBit b) (tlC σ S) i < tlC σ S i then tlC σ S i else mxN (fun b => x.testBit b) (tlC σ S) i := by
        rw [mxN]
        by_cases q : mxN (fun b => x.testBit b) (tlC σ S) i < tlC σ S i
        · rw [if_pos ⟨hp, q⟩, if_pos q]
        · rw [if_neg (fun x => q x.2), if_neg q]
      rw [if_pos hp, if_neg (by simp), b93_24, r94 hS (by omega)]
      simp only [am_push_s]
      have j1 : ∀ Q, R (d + 3) 93 33 [vR 142, vI x, vI (mxN (fun b => x.testBit b) (tlC σ S) i), vI (oflC (fun b => x.testBit b) (tlC σ S) i), vI i, u5] [vI (tlC σ S i)] (WS L σ) Q = R (d + 3) 93 46 [vR 142, vI x, vI (mxN (fun b => x.testBit b) (tlC σ S) i), vI (oflC (fun b => x.testBit b) (tlC σ S) i), vI i, vI (tlC σ S i)] [vI ((if mxN (fun b => x.testBit b) (tlC σ S) i < tlC σ S i then 0 else oflC (fun b => x.testBit b) (tlC σ S) i : Nat) : Int)] (WS L σ) Q := by
        intro Q
        rw [b93_33]
        by_cases q : mxN (fun b => x.testBit b) (tlC σ S) i < tlC σ S i
        · rw [if_neg (by omega), b93_41, if_pos q]
          rfl
        · rw [if_pos (by omega), b93_45, if_neg q]
      rw [j1, b93_46, i_max_n, ← hmx]
      rw [ho] at e
      have hz : (if mxN (fun b => x.testBit b) (tlC σ S) i < tlC σ S i then 0 else oflC (fun b => x.testBit b) (tlC σ S) i) < 256 := by split <;> omega
      generalize (if mxN (fun b => x.testBit b) (tlC σ S) i < tlC σ S i then 0 else oflC (fun b => x.testBit b) (tlC σ S) i) = z at *
      by_cases q : tlC σ S i = mxN (fun b => x.testBit b) (tlC σ S) (i + 1)
      · rw [if_pos q] at e
        rw [if_neg (by omega), b93_61, b93_69, b93_71 (by omega), i_one_shl (by omega), i_or_nat (by omega) (by omega)]
        exact e
      · rw [if_neg q] at e
        rw [if_pos (by omega), b93_68, b93_69, b93_71 (by omega), show (0 : Int) = ((0 : Nat) : Int) from rfl, i_or_nat (by omega) (by omega)]
        exact e
    · have hp' : x.testBit i = false := by simpa using hp
      obtain ⟨e1, e2⟩ := ofl_f (ok := fun b => x.testBit b) (v := tlC σ S) (i := i) hp'
      have e := ih (i + 1) u5 (by omega)
      rw [e1, e2] at e
      rw [if_neg hp, if_pos (by simp), b93_71 (by omega)]
      exact e
theorem r93 {S x : Nat} (hS : SU S σ) (hx : x < 256) : R (d + 3) 93 0 [vR 142, vI x, vX 9, vX 9, vX 9, vX 9] [] (WS L σ) Q = Q (some (vI (oflC (fun b => x.testBit b) (tlC σ S) 8))) (WS L σ) := by
  rw [b93_0]
  exact r93_l hS hx 8 0 _ (by omega)
theorem kd_li {c : Nat} (h : c < 3) : KD (46 + 2 * c) = 5 := (by decide +kernel : ∀ i, i < 3 → KD (46 + 2 * i) = 5) c h
theorem ln_li {c : Nat} (h : c < 3) : LN L (46 + 2 * c + 1) = 8 := by
  have : ∀ i, i < 3 → wsL.getD (46 + 2 * i + 1) 0 = 8 := by decide +kernel
  exact this c h
/-- the first listed who is among them; else the least of them -/
def flC (row : Nat → Int) (z x : Nat) : Int := if amx (fun k => x.testBit (row k).toNat) (fun _ => 0) z < 0 then bz (amx (fun b => x.testBit b) (fun _ => 0) 8) else row (amx (fun k => x.testBit (row k).toNat) (fun _ => 0) z).toNat
theorem r91_l {c z x : Nat} (hc : c < 3) (hx : x < 256) (hz : σ (46 + 2 * c) 1 = (z : Int)) (hz8 : z ≤ 8) (hr : ∀ i : Nat, i < z → 0 ≤ σ (47 + 2 * c) i ∧ σ (47 + 2 * c) i < 8) : ∀ (m i : Nat), i + m = z → (∀ j, j < i → x.testBit (σ (47 + 2 * c) (j : Nat)).toNat = false) → R (d + 2) 91 12 [vR 142, vI c, vI x, vR (46 + 2 * c), vI i] [] (WS L σ) Q = Q (some (vI (flC (fun q => σ (47 + 2 * c) q) z x))) (WS L σ) := by
  have hkd := kd_li hc
  have hln := ln_li (L := L) hc
  intro m
  induction m with
  | zero =>
    intro i hi hno
    obtain rfl : i = z := by omega
    have h0 : amx (fun k : Nat => x.testBit (σ (47 + 2 * c) k).toNat) (fun _ => 0) i < 0 := by rw [amx_none]; exact hno
    rw [b91_12, b91_16 hkd, if_pos (by omega), b91_66, r92 hx]
    simp only [am_push_s]
    rw [b91_70]
    unfold flC
    rw [if_pos h0]
  | succ m ih =>
    intro i hi hno
    have hri := hr i (by omega)
    obtain ⟨b, hb, hb8⟩ := rem8 hri.1 hri.2
    have h64 : ∀ Q, R (d + 1) 64 0 [vR (46 + 2 * c), vI i] [] (WS L σ) Q = Q (some (vI b)) (WS L σ) := by
      intro Q
      rw [r64 hkd (by omega) (by omega) (by rw [hln]; omega), show 46 + 2 * c + 1 = 47 + 2 * c by omega, hb]
    have hbt : i_and (i_shr x b) 1 = if x.testBit b then 1 else 0 := i_bit (by omega) (by omega)
    rw [b91_12, b91_16 hkd, if_neg (by omega), b91_25 hkd, h64]
    simp only [am_push_s]
    rw [b91_31, r13]
    simp only [am_push_s]
    rw [b91_36]
    simp only [tI_0]
    rw [if_neg (by omega), b91_39 hkd, h64]
    simp only [am_push_s]
    rw [b91_46, hbt]
    by_cases hp : x.testBit b = true
    · rw [if_pos hp, if_neg (by simp), b91_53 hkd, h64]
      simp only [am_push_s]
      rw [b91_59]
      have e := amx_first (ok := fun k : Nat => x.testBit (σ (47 + 2 * c) k).toNat) m hno (by show x.testBit (σ (47 + 2 * c) i).toNat = true; rw [hb, Int.toNat_natCast]; exact hp)
      rw [show i + 1 + m = z by omega] at e
      unfold flC
      rw [e, if_neg (by omega), Int.toNat_natCast]
      show Q (some (vI b)) _ = Q (some (vI (σ (47 + 2 * c) i))) _
      rw [hb]
    · rw [if_neg hp, if_pos (by simp), b91_60 (by omega)]
      refine ih (i + 1) (by omega) ?_
      intro j hj
      by_cases q : j < i
      · exact hno j q
      · obtain rfl : j = i := by omega
        rw [hb, Int.toNat_natCast]
        simpa using hp
theorem r91 {c z x : Nat} (hc : c < 3) (hx : x < 256) (hz : σ (46 + 2 * c) 1 = (z : Int)) (hz8 : z ≤ 8) (hr : ∀ i : Nat, i < z → 0 ≤ σ (47 + 2 * c) i ∧ σ (47 + 2 * c) i < 8) : R (d + 2) 91 0 [vR 142, vI c, vI x, vX 9, vX 9] [] (WS L σ) Q = Q (some (vI (flC (fun q => σ (47 + 2 * c) q) z x))) (WS L σ) := by
  rw [b91_0, r69 hc]
  simp only [am_push_s]
  rw [b91_8]
  exact r91_l hc hx hz hz8 hr z 0 (by omega) (fun j hj => absurd hj (by omega))
/-- his friends of those left; all of them, if there is none -/
def fgC (fr x : Nat) : Nat := if fr &&& x = 0 then x else fr &&& x
theorem r80 {n c x : Nat} (hn : σ 20 0 = (n : Int)) (h8 : n ≤ 8) (hx : x < 256) : R (d + 3) 80 0 [vR 142, vI c, vI x, vX 9] [] (WS L σ) Q = Q (some (vI (fgC (bits (fun b => decide (tr σ 2 b = c)) n) x))) (WS L σ) := by
  have hb := bits_lt (fun b => decide (tr σ 2 b = c)) n
  have p8 := pw8 h8
  rw [b80_0, r81 hn h8]
  simp only [am_push_s]
  rw [b80_8, i_and_nat (by omega) (by omega)]
  unfold fgC
  by_cases q : bits (fun b => decide (tr σ 2 b = c)) n &&& x = 0
  · rw [if_neg (by omega), b80_15, b80_20, if_pos q]
  · rw [if_pos (by omega), b80_19, b80_20, if_neg q]
theorem fgC_lt {fr x : Nat} (hx : x < 256) : fgC fr x < 256 := by
  unfold fgC
  split
  · exact hx
  · exact Nat.lt_of_le_of_lt Nat.and_le_right hx
/-- whose dearest is taken away -/
def ahC (n w m kd : Nat) (told : Nat → Int) (c x : Nat) : Nat := if cnt (fun b => x.testBit b) 8 < 2 then c else (tkC w kd (n - cnt (fun b => x.testBit b) 8 + 1) m told).toNat
theorem r79 {n w m kd c : Nat} {sd : Nat → Nat} (h : CW n w m kd sd σ) : R (d + 4) 79 0 [vR 142, vI c, vI (leftC sd n)] [] (WS L σ) Q = Q (some (vI (ahC n w m kd (fun q => σ 24 q) c (leftC sd n)))) (WS L σ) := by
  have h' := h
  obtain ⟨h1, h2, h3, h4, h5, h6, h7, h8, h9, h10, h11⟩ := h
  have p8 := pw8 h2
  have hl : leftC sd n < 256 := Nat.lt_of_lt_of_le (bits_lt _ _) p8
  have e := lf_cn h2 (fun c hc => (h9 c hc).2)
  have hk := tkC_r (kind := kd) (t := n - cnt (fun b => (leftC sd n).testBit b) 8 + 1) (m := m) (told := fun q => σ 24 q) h4
  rw [b79_0, r42 hl]
  simp only [am_push_s]
  rw [b79_4]
  unfold ahC
  by_cases q : cnt (fun b => (leftC sd n).testBit b) 8 < 2
  · rw [if_neg (by omega), b79_8, b79_35, if_pos q]
  · rw [if_pos (by omega), b79_12, r231 h']
    simp only [am_push_s]
    rw [b79_30 (by omega), h7, show ((cntO (oS sd) : Nat) : Int) + 1 = ((n - cnt (fun b => (leftC sd n).testBit b) 8 + 1 : Nat) : Int) by omega, r63 h3 h4 (by omega) h5 h6]
    simp only [am_push_s]
    rw [b79_35, if_neg q]
    congr 3
    omega
def dearC (W : Nat → Nat → Int) (sd : Nat → Nat) (c x : Nat) : Int := bz (amx (fun b => x.testBit b) (fun b => W c (sd c ||| 2 ^ b)) 8)
theorem left_sub {sd : Nat → Nat} {n b : Nat} (h : (leftC sd n).testBit b = true) : b < n := by
  unfold leftC at h
  rw [bits_test] at h
  simp at h
  exact h.1
theorem fg_sub {fr x b : Nat} (h : (fgC fr x).testBit b = true) : x.testBit b = true := by
  unfold fgC at h
  split at h
  · exact h
  · rw [Nat.testBit_and] at h
    simp at h
    exact h.2
theorem ofl_sub {ok : Nat → Bool} {v : Nat → Nat} {n b : Nat} (h : (oflC ok v n).testBit b = true) : ok b = true := by
  unfold oflC at h
  rw [bits_test] at h
  simp at h
  exact h.2.1
theorem r78' {n w m kd c x : Nat} {sd : Nat → Nat} (h : CW n w m kd sd σ) (hc : c < 3) (hx : x < 256) (hb : ∀ b, x.testBit b = true → b < n) : R (d + 2) 78 0 [vR 142, vI c, vI x, vX 9, vX 9, vX 9, vX 9, vX 9] [] (WS L σ) Q = Q (some (vI (dearC (Wc σ) sd c x))) (WS L σ) := by
  have h9 := h.2.2.2.2.2.2.2.2.1
  have p8 := pw8 h.2.1
  refine r78 hc hx (fun c hc => (h9 c hc).1) (fun c hc => by have := (h9 c hc).2; omega) (fun b _ hbx => ?_)
  have hbn := hb b hbx
  have l : sd c ||| 2 ^ b < 2 ^ n := or_lt (h9 c hc).2 (two_pow_lt hbn)
  exact h.2.2.2.2.2.2.2.2.2.2 c _ hc l
/-- what a captain picks, x being left -/
def pkC (n w m kd S way z : Nat) (sd : Nat → Nat) (σ : St) (c : Nat) : Int :=
  if leftC sd n = 0 then -5
  else if way = 1 then dearC (Wc σ) sd c (leftC sd n)
  else if way = 2 then dearC (Wc σ) sd (ahC n w m kd (fun q => σ 24 q) c (leftC sd n)) (leftC sd n)
  else if way = 3 then dearC (Wc σ) sd c (fgC (bits (fun b => decide (tr σ 2 b = c)) n) (leftC sd n))
  else if way = 4 then bz (chF (Wc σ) (mvN w m kd σ) n (frO n (oS sd) - 1) (oS sd) c)
  else if way = 5 then flC (fun q => σ (47 + 2 * c) q) z (leftC sd n)
  else if way = 6 then dearC (Wc σ) sd c (oflC (fun b => (leftC sd n).testBit b) (tlC σ S) 8)
  else bz (amx (fun b => (leftC sd n).testBit b) (fun _ => 0) 8)
theorem cnt_bits {x n : Nat} (hx : ∀ b, x.testBit b = true → b < n) (h8 : n ≤ 8) : cnt (fun b => x.testBit b) 8 ≤ n := by
  have e : ∀ m, n + m ≤ 8 → cnt (fun b => x.testBit b) (n + m) = cnt (fun b => x.testBit b) n := by
    intro m
    induction m with
    | zero => intro _; rfl
    | succ m ih =>
      intro hm
      have : x.testBit (n + m) = false := by
        cases q : x.testBit (n + m)
        · rfl
        · have := hx _ q
          omega
      rw [← Nat.add_assoc, cnt, ih (by omega), this]
      rfl
  have e2 := e (8 - n) (by omega)
  rw [show n + (8 - n) = 8 by omega] at e2
  rw [e2]
  exact cnt_le _ n
theorem r76 {n w m kd S way z N c : Nat} {sd : Nat → Nat} (h : CW n w m kd sd σ) (hS : SU S σ) (hN : N + 1 < 30000) (hE : EN N n σ) (hc : c < 3) (hway : σ 29 c = (way : Int)) (hz : σ (46 + 2 * c) 1 = (z : Int)) (hz8 : z ≤ 8) (hr : ∀ i : Nat, i < z → 0 ≤ σ (47 + 2 * c) i ∧ σ (47 + 2 * c) i < 8) : ∃ σ' : St, EN (N + 1) n σ' ∧ Fr3 σ σ' ∧ ∀ Q, R (d + 22) 76 0 [vR 142, vI c, vX 9] [] (WS L σ) Q = Q (some (vI (pkC n w m kd S way z sd σ c))) (WS L σ') := by
  have h9 := h.2.2.2.2.2.2.2.2.1
  have h8 := h.2.1
  have p8 := pw8 h8
  have hn := h.1
  have hl : leftC sd n < 256 := Nat.lt_of_lt_of_le (bits_lt _ _) p8
  have hlb : ∀ b, (leftC sd n).testBit b = true → b < n := fun b hb => left_sub hb
  have hE1 : EN (N + 1) n σ := by
    obtain ⟨s0, q1, q2, q3⟩ := hE
    exact ⟨s0, q1, by omega, q3⟩
  have start : ∀ Q, R (d + 22) 76 0 [vR 142, vI c, vX 9] [] (WS L σ) Q = if leftC sd n = 0 then Q (some (vI (-5))) (WS L σ) else R (d + 22) 76 23 [vR 142, vI c, vI (leftC sd n)] [vI way] (WS L σ) Q := by
    intro Q
    rw [b76_0, r77 hn h8 (fun c hc => (h9 c hc).1) (fun c hc => by have := (h9 c hc).2; omega)]
    simp only [am_push_s]
    rw [b76_7]
    by_cases q : leftC sd n = 0
    · rw [if_neg (by omega), b76_12, if_pos q]
    · rw [if_pos (by omega), b76_15, r66 hc, if_neg q]
      simp only [am_push_s]
      rw [hway]
  unfold pkC
  by_cases q0 : leftC sd n = 0
  · exact ⟨σ, hE1, fun _ _ _ _ => rfl, fun Q => by rw [start, if_pos q0, if_pos q0]⟩
  · rw [if_neg q0]
    by_cases w1 : way = 1
    · refine ⟨σ, hE1, fun _ _ _ _ => rfl, fun Q => ?_⟩
      rw [start, if_neg q0, b76_23, if_pos (by omega), b76_60, r78' h hc hl hlb, if_pos w1]
      simp only [am_push_s]
      rw [b76_66]
    · rw [if_neg w1]
      by_cases w2 : way = 2
      · refine ⟨σ, hE1, fun _ _ _ _ => rfl, fun Q => ?_⟩
        have ha : ahC n w m kd (fun q => σ 24 q) c (leftC sd n) < 3 := by
          have := tkC_r (kind := kd) (t := n - cnt (fun b => (leftC sd n).testBit b) 8 + 1) (m := m) (told := fun q => σ 24 q) h.2.2.2.1
          have := h.2.2.2.1
          unfold ahC
          split <;> omega
        rw [start, if_neg q0, b76_23, if_neg (by omega), if_pos (by omega), b76_67, r79 h, if_pos w2]
        simp only [am_push_s]
        rw [b76_74, r78' h ha hl hlb]
        simp only [am_push_s]
        rw [b76_78]
      · rw [if_neg w2]
        by_cases w3 : way = 3
        · refine ⟨σ, hE1, fun _ _ _ _ => rfl, fun Q => ?_⟩
          rw [start, if_neg q0, b76_23, if_neg (by omega), if_neg (by omega), if_pos (by omega), b76_79, r80 hn h8 hl, if_pos w3]
          simp only [am_push_s]
          rw [b76_87, r78' h hc (fgC_lt hl) (fun b hb => hlb b (fg_sub hb))]
          simp only [am_push_s]
          rw [b76_90]
        · rw [if_neg w3]
          by_cases w4 : way = 4
          · obtain ⟨σ1, a1, a2, a3⟩ := r82 (d := d) (L := L) h hN hE hc
            refine ⟨σ1, a1, a2, fun Q => ?_⟩
            rw [start, if_neg q0, b76_23, if_neg (by omega), if_neg (by omega), if_neg (by omega), if_pos (by omega), b76_91, a3, if_pos w4]
            simp only [am_push_s]
            rw [b76_99]
          · rw [if_neg w4]
            by_cases w5 : way = 5
            · refine ⟨σ, hE1, fun _ _ _ _ => rfl, fun Q => ?_⟩
              rw [start, if_neg q0, b76_23, if_neg (by omega), if_neg (by omega), if_neg (by omega), if_neg (by omega), if_pos (by omega), b76_100, r91 hc hl hz hz8 hr, if_pos w5]
              simp only [am_push_s]
              rw [b76_106]
            · rw [if_neg w5]
              by_cases w6 : way = 6
              · refine ⟨σ, hE1, fun _ _ _ _ => rfl, fun Q => ?_⟩
                rw [start, if_neg q0, b76_23, if_neg (by omega), if_neg (by omega), if_neg (by omega), if_neg (by omega), if_neg (by omega), if_pos (by omega), b76_107, r93 hS hl, if_pos w6]
                simp only [am_push_s]
                rw [b76_114, r78' h hc (ofl_lt (by omega)) (fun b hb => hlb b (ofl_sub hb))]
                simp only [am_push_s]
                rw [b76_117]
              · refine ⟨σ, hE1, fun _ _ _ _ => rfl, fun Q => ?_⟩
                rw [start, if_neg q0, b76_23, if_neg (by omega), if_neg (by omega), if_neg (by omega), if_neg (by omega), if_neg (by omega), if_neg (by omega), b76_118, r92 hl, if_neg w6]
                simp only [am_push_s]
                rw [b76_122]
end PK
