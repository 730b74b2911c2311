/-! the reference: orders, the mathematics -/
def sNat (f : Nat → Nat) : Nat → Nat
  | 0 => 0
  | n + 1 => sNat f n + f n
theorem sNat_congr {f g : Nat → Nat} : ∀ {n : Nat}, (∀ i, i < n → f i = g i) → sNat f n = sNat g n
  | 0, _ => rfl
  | n + 1, h => by rw [sNat, sNat, sNat_congr (fun i hi => h i (by omega)), h n (by omega)]
theorem sNat_add {f g : Nat → Nat} : ∀ n, sNat (fun i => f i + g i) n = sNat f n + sNat g n
  | 0 => rfl
  | n + 1 => by rw [sNat, sNat, sNat, sNat_add n]; omega
theorem sNat_upd {f g : Nat → Nat} {b0 v : Nat} : ∀ {n : Nat}, b0 < n → g b0 = f b0 + v → (∀ b, b < n → b ≠ b0 → g b = f b) → sNat g n = sNat f n + v
  | 0, h, _, _ => absurd h (by omega)
  | n + 1, h, h0, hb => by
    rw [sNat, sNat]
    by_cases q : b0 = n
    · subst q
      rw [sNat_congr (fun i hi => hb i (by omega) (by omega)), h0]
      omega
    · rw [sNat_upd (n := n) (by omega) h0 (fun b h1 h2 => hb b (by omega) h2), hb n (by omega) (by omega)]
      omega
theorem sNat_cnt {p : Nat → Bool} : ∀ n, sNat (fun k => if p k = true then 1 else 0) n = cnt p n
  | 0 => rfl
  | n + 1 => by
    rw [sNat, cnt, sNat_cnt n]
theorem sNat_0 : ∀ n, sNat (fun _ => 0) n = 0
  | 0 => rfl
  | n + 1 => by rw [sNat, sNat_0 n]
theorem sNat_swap {D : Nat → Nat → Bool} {K : Nat} : ∀ n, sNat (fun b => cnt (fun k => D k b) K) n = sNat (fun k => cnt (fun b => D k b) n) K
  | 0 => by
    rw [sNat]
    exact (sNat_0 K).symm
  | n + 1 => by
    rw [sNat, sNat_swap n, ← sNat_cnt (p := fun k => D k n), ← sNat_add]
    refine sNat_congr (fun k _ => ?_)
    rw [cnt]
theorem cnt_put {p : Nat → Bool} {b0 : Nat} : ∀ {n : Nat}, b0 < n → p b0 = false → cnt (fun b => p b || decide (b0 = b)) n = cnt p n + 1
  | 0, h, _ => absurd h (by omega)
  | n + 1, h, h0 => by
    rw [cnt, cnt]
    by_cases q : b0 = n
    · subst q
      have : cnt (fun b => p b || decide (b0 = b)) b0 = cnt p b0 := cnt_congr (fun i hi => by
        have : ¬ b0 = i := by omega
        simp [this])
      rw [this, h0]
      simp
    · rw [cnt_put (n := n) (by omega) h0]
      simp [q]
      omega
theorem cnt_bt {who : Nat → Nat} {P : Nat → Bool} {n : Nat} : ∀ z, (∀ t, t < z → who t < n) → (∀ t t', t < z → t' < z → who t = who t' → t = t') → cnt (fun b => anyN (fun t => decide (who t = b) && P t) z) n = cnt P z
  | 0, _, _ => by
    have : ∀ m, cnt (fun b => anyN (fun t => decide (who t = b) && P t) 0) m = 0 := by
      intro m
      induction m with
      | zero => rfl
      | succ m ih => rw [cnt, ih]; rfl
    exact this n
  | z + 1, h, hi => by
    have ih := cnt_bt (who := who) (P := P) (n := n) z (fun t ht => h t (by omega)) (fun t t' a b => hi t t' (by omega) (by omega))
    rw [cnt]
    by_cases q : P z = true
    · have e0 : anyN (fun t => decide (who t = who z) && P t) z = false := anyN_f (fun i hi2 => by
        have : ¬ who i = who z := fun e => by
          have := hi i z (by omega) (by omega) e
          omega
        simp [this])
      have := cnt_put (p := fun b => anyN (fun t => decide (who t = b) && P t) z) (b0 := who z) (n := n) (h z (by omega)) e0
      rw [if_pos q, ← ih, ← this]
      refine cnt_congr (fun i _ => ?_)
      rw [anyN, q]
      simp
    · rw [if_neg q, ← ih, Nat.add_zero]
      refine cnt_congr (fun i _ => ?_)
      rw [anyN]
      simp [q]
/-- who stands ahead of a boy; what an order costs -/
def plB (pl : Nat → Nat) (S n b : Nat) : Nat := bits (fun b' => S.testBit b' && decide (pl b' < pl b)) n
def coS (w : Nat → Nat → Nat) (n S : Nat) (pl : Nat → Nat) : Nat := sNat (fun b => if S.testBit b = true then w (plB pl S n b) b else 0) n
theorem coS_0 {w : Nat → Nat → Nat} {n : Nat} {pl : Nat → Nat} : coS w n 0 pl = 0 := by
  unfold coS
  rw [sNat_congr (g := fun _ => 0) (fun i _ => by simp), sNat_0]
theorem coS_add {w : Nat → Nat → Nat} {n S b0 i : Nat} {pl pl' : Nat → Nat} (hS : S < 2 ^ n) (hb : b0 < n) (h0 : S.testBit b0 = false) (hp : ∀ b, b < n → S.testBit b = true → pl' b = pl b ∧ pl b < i) (hi : pl' b0 = i) : coS w n (S ||| 2 ^ b0) pl' = coS w n S pl + w S b0 := by
  have tb : ∀ b, (S ||| 2 ^ b0).testBit b = (S.testBit b || decide (b0 = b)) := fun b => by rw [Nat.testBit_or, Nat.testBit_two_pow]
  unfold coS
  refine sNat_upd hb ?_ (fun b hbn hne => ?_)
  · have e : plB pl' (S ||| 2 ^ b0) n b0 = S := by
      apply tb_ext
      intro j
      unfold plB
      rw [bits_test, tb, hi]
      by_cases hj : j < n
      · by_cases q : S.testBit j = true
        · obtain ⟨h1, h2⟩ := hp j hj q
          rw [h1]
          simp [hj, q, h2]
        · by_cases q2 : b0 = j
          · subst q2
            rw [hi]
            simp [q]
          · simp [q, q2]
      · have : S.testBit j = false := Nat.testBit_lt_two_pow (Nat.lt_of_lt_of_le hS (Nat.pow_le_pow_right (by omega) (by omega)))
        simp [hj, this]
    have e1 : (S ||| 2 ^ b0).testBit b0 = true := by rw [tb]; simp
    have e2 : ¬ S.testBit b0 = true := by rw [h0]; simp
    rw [if_pos e1, if_neg e2, e]
    omega
  · have : ¬ b0 = b := fun h => hne h.symm
    by_cases q : S.testBit b = true
    · have e1 : (S ||| 2 ^ b0).testBit b = true := by rw [tb, q]; rfl
      rw [if_pos q, if_pos e1]
      congr 1
      obtain ⟨h1, h2⟩ := hp b hbn q
      unfold plB
      refine bits_congr (fun j hj => ?_)
      rw [tb, h1]
      by_cases q2 : S.testBit j = true
      · obtain ⟨h3, h4⟩ := hp j hj q2
        rw [q2, h3]
        simp
      · by_cases q3 : b0 = j
        · subst q3
          have : ¬ i < pl b := by omega
          rw [hi]
          simp [q2, this]
        · simp [q2, q3]
    · have e1 : ¬ (S ||| 2 ^ b0).testBit b = true := by rw [tb]; simp [q, this]
      rw [if_neg q, if_neg e1]
/-- slips of a whole order -/
def slP (s : Int → Int) (c : Nat) (pl : Nat → Nat) (k t : Nat) : Bool := decide (smB s k t = c) && anyN (fun t' => decide (t < t') && decide (pl (smT s k t').toNat < pl (smT s k t).toNat)) (smZ s k)
def slS (s : Int → Int) (c : Nat) (pl : Nat → Nat) : Nat := sNat (fun k => cnt (slP s c pl k) (smZ s k)) (s 3).toNat
section OM
variable {s : Int → Int} {cl : Nat → List Cl}
theorem sl_b {c b k : Nat} {pl : Nat → Nat} (hw : WF s cl) (hk : (k : Int) < s 3) {S : Nat} (hS : ∀ b, b < nS s → S.testBit b = true) (hb : b < nS s) : decide (lwM s k c b &&& plB pl S (nS s) b ≠ 0) = anyN (fun t => decide ((smT s k t).toNat = b) && slP s c pl k t) (smZ s k) := by
  obtain ⟨x1, x2, x3, x4⟩ := sm_r hw hk
  have n8 := (nS_8 hw.1).1
  have w0 := hw.1
  unfold W0 at w0
  have hn : s 0 = (nS s : Int) := by unfold nS; omega
  have h : (lwM s k c b &&& plB pl S (nS s) b ≠ 0) ↔ (anyN (fun t => decide ((smT s k t).toNat = b) && slP s c pl k t) (smZ s k) = true) := by
    unfold plB
    rw [Ne, and_any, Bool.not_eq_false, anyN_iff, anyN_iff]
    constructor
    · rintro ⟨b', h1, h2⟩
      simp only [Bool.and_eq_true, decide_eq_true_eq] at h2
      obtain ⟨h3, h4, h5⟩ := h2
      rw [lwM_tb] at h3
      simp only [Bool.and_eq_true] at h3
      have h6 := h3.2
      unfold lwS at h6
      rw [anyN_iff] at h6
      obtain ⟨t, ht, h7⟩ := h6
      simp only [Bool.and_eq_true, decide_eq_true_eq] at h7
      obtain ⟨⟨h8, h9⟩, h10⟩ := h7
      unfold afS at h10
      rw [anyN_iff] at h10
      obtain ⟨t', ht', h11⟩ := h10
      simp only [Bool.and_eq_true, decide_eq_true_eq] at h11
      refine ⟨t, ht, ?_⟩
      unfold slP
      simp only [Bool.and_eq_true, decide_eq_true_eq]
      refine ⟨by omega, h9, ?_⟩
      rw [anyN_iff]
      refine ⟨t', ht', ?_⟩
      simp only [Bool.and_eq_true, decide_eq_true_eq]
      rw [h8, h11.2, Int.toNat_natCast, Int.toNat_natCast]
      exact ⟨h11.1, h5⟩
    · rintro ⟨t, ht, h2⟩
      unfold slP at h2
      simp only [Bool.and_eq_true, decide_eq_true_eq] at h2
      obtain ⟨h3, h4, h5⟩ := h2
      rw [anyN_iff] at h5
      obtain ⟨t', ht', h6⟩ := h5
      simp only [Bool.and_eq_true, decide_eq_true_eq] at h6
      have r1 := (x3 t ht).1
      have r2 := (x3 t' ht').1
      refine ⟨(smT s k t').toNat, by omega, ?_⟩
      simp only [Bool.and_eq_true, decide_eq_true_eq]
      refine ⟨?_, hS _ (by omega), by rw [← h3]; exact h6.2⟩
      rw [lwM_tb]
      simp only [Bool.and_eq_true, decide_eq_true_eq]
      refine ⟨by omega, ?_⟩
      unfold lwS
      rw [anyN_iff]
      refine ⟨t, ht, ?_⟩
      simp only [Bool.and_eq_true, decide_eq_true_eq]
      refine ⟨⟨by omega, h4⟩, ?_⟩
      unfold afS
      rw [anyN_iff]
      refine ⟨t', ht', ?_⟩
      simp only [Bool.and_eq_true, decide_eq_true_eq]
      exact ⟨h6.1, by omega⟩
  by_cases q : lwM s k c b &&& plB pl S (nS s) b ≠ 0
  · rw [h.mp q]
    exact decide_eq_true q
  · have : anyN (fun t => decide ((smT s k t).toNat = b) && slP s c pl k t) (smZ s k) = false := by
      cases e : anyN (fun t => decide ((smT s k t).toNat = b) && slP s c pl k t) (smZ s k)
      · rfl
      · exact absurd (h.mpr e) q
    rw [this]
    exact decide_eq_false q
theorem sl_all {c S : Nat} {pl : Nat → Nat} (hw : WF s cl) (hS : ∀ b, b < nS s → S.testBit b = true) : slS s c pl = coS (wS s c) (nS s) S pl := by
  have w0 := hw.1
  unfold W0 at w0
  have hn : s 0 = (nS s : Int) := by unfold nS; omega
  unfold coS
  rw [sNat_congr (g := fun b => cnt (fun k => decide (lwM s k c b &&& plB pl S (nS s) b ≠ 0)) (s 3).toNat) (fun b hb => by rw [if_pos (hS b hb)]; rfl), sNat_swap]
  unfold slS
  refine sNat_congr (fun k hk => ?_)
  obtain ⟨x1, x2, x3, x4⟩ := sm_r hw (show (k : Int) < s 3 by omega)
  rw [← cnt_bt (who := fun t => (smT s k t).toNat) (P := slP s c pl k) (n := nS s) (smZ s k) (fun t ht => by have := (x3 t ht).1; omega) (fun t t' ht ht' e => x4 t t' ht ht' (by have := (x3 t ht).1; have := (x3 t' ht').1; omega))]
  exact cnt_congr (fun b hb => (sl_b hw (by omega) hS hb).symm)
/-- the first of the best orders behind a set -/
def GOf (w : Nat → Nat → Nat) (n : Nat) : Nat → Nat → Nat → Int
  | 0, _, _ => 0
  | m + 1, S, j => if j = 0 then goB w n m S else GOf w n m (S ||| 2 ^ (goB w n m S).toNat) (j - 1)
theorem GOf_oA {w : Nat → Nat → Nat} {n : Nat} : ∀ (j i : Nat), i + j < n → GOf w n (n - i) (oA w n i) j = goB w n (n - (i + j) - 1) (oA w n (i + j))
  | 0, i, h => by
    rw [show n - i = (n - i - 1) + 1 by omega, GOf, if_pos rfl]
    rfl
  | j + 1, i, h => by
    have ih := GOf_oA (w := w) (n := n) j (i + 1) (by omega)
    rw [show n - i = (n - i - 1) + 1 by omega, GOf, if_neg (by omega)]
    have e : oA w n i ||| 2 ^ (goB w n (n - i - 1) (oA w n i)).toNat = oA w n (i + 1) := rfl
    rw [e, show j + 1 - 1 = j by omega, show n - i - 1 = n - (i + 1) by omega, ih, show i + 1 + j = i + (j + 1) by omega]
end OM
