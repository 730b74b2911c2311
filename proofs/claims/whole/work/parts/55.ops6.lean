/-! the calls of the class, by the array: what each thought of whom, orders -/
def anyN (p : Nat → Bool) : Nat → Bool
  | 0 => false
  | n + 1 => anyN p n || p n
theorem anyN_iff {p : Nat → Bool} : ∀ {n : Nat}, (anyN p n = true) = (∃ i, i < n ∧ p i = true)
  | 0 => by simp [anyN]
  | n + 1 => by
    have ih := anyN_iff (p := p) (n := n)
    rw [anyN, Bool.or_eq_true, ih]
    apply propext
    constructor
    · rintro (⟨i, h1, h2⟩ | h)
      · exact ⟨i, by omega, h2⟩
      · exact ⟨n, by omega, h⟩
    · rintro ⟨i, h1, h2⟩
      by_cases e : i = n
      · subst e
        exact Or.inr h2
      · exact Or.inl ⟨i, by omega, h2⟩
theorem anyN_f {p : Nat → Bool} {n : Nat} (h : ∀ i, i < n → p i = false) : anyN p n = false := by
  cases e : anyN p n with
  | false => rfl
  | true =>
    rw [anyN_iff] at e
    obtain ⟨i, h1, h2⟩ := e
    rw [h i h1] at h2
    simp at h2
theorem anyN_congr {p q : Nat → Bool} : ∀ {n : Nat}, (∀ i, i < n → p i = q i) → anyN p n = anyN q n
  | 0, _ => rfl
  | n + 1, h => by rw [anyN, anyN, anyN_congr (fun i hi => h i (by omega)), h n (by omega)]
/-- of a summer: who took whom, how many -/
def smT (s : Int → Int) (k t : Nat) : Int := s (1381 + 8 * k + t)
def smB (s : Int → Int) (k t : Nat) : Int := s (1477 + 8 * k + t)
def smZ (s : Int → Int) (k : Nat) : Nat := (s (1369 + k)).toNat
/-- was he taken behind the t-th -/
def afS (s : Int → Int) (k t b : Nat) : Bool := anyN (fun t' => decide (t < t') && decide (smT s k t' = b)) (smZ s k)
def lwS (s : Int → Int) (k c a b : Nat) : Bool := anyN (fun t => decide (smT s k t = a) && decide (smB s k t = c) && afS s k t b) (smZ s k)
def lwM (s : Int → Int) (k c a : Nat) : Nat := bits (fun b => lwS s k c a b) 8
def aThought (s : Int → Int) (c a b : Int) : Int := if (0 ≤ c ∧ c < 3) ∧ (0 ≤ a ∧ a < s 0) ∧ (0 ≤ b ∧ b < s 0) then (if a = b then -2 else (cnt (fun k => lwS s k c.toNat a.toNat b.toNat) (s 3).toNat : Int)) else -1
def wS (s : Int → Int) (c S b : Nat) : Nat := cnt (fun k => decide (lwM s k c b &&& S ≠ 0)) (s 3).toNat
def gG (w : Nat → Nat → Nat) (n : Nat) : Nat → Nat → Nat
  | 0, _ => 0
  | m + 1, S => if amx (fun b => !S.testBit b) (fun b => -((w S b + gG w n m (S ||| 2 ^ b) : Nat) : Int)) n < 0 then 0 else w S (amx (fun b => !S.testBit b) (fun b => -((w S b + gG w n m (S ||| 2 ^ b) : Nat) : Int)) n).toNat + gG w n m (S ||| 2 ^ (amx (fun b => !S.testBit b) (fun b => -((w S b + gG w n m (S ||| 2 ^ b) : Nat) : Int)) n).toNat)
def goB (w : Nat → Nat → Nat) (n m S : Nat) : Int := amx (fun b => !S.testBit b) (fun b => -((w S b + gG w n m (S ||| 2 ^ b) : Nat) : Int)) n
theorem gG_s {w : Nat → Nat → Nat} {n m S : Nat} : gG w n (m + 1) S = if goB w n m S < 0 then 0 else w S (goB w n m S).toNat + gG w n m (S ||| 2 ^ (goB w n m S).toNat) := rfl
/-- how many are not in a set; the set behind i of the best order -/
def reS (n S : Nat) : Nat := cnt (fun b => !S.testBit b) n
def oA (w : Nat → Nat → Nat) (n : Nat) : Nat → Nat
  | 0 => 0
  | i + 1 => oA w n i ||| 2 ^ (goB w n (n - i - 1) (oA w n i)).toNat
def aOrder (s : Int → Int) (c i : Int) : Int := if ¬ (0 ≤ c ∧ c < 3) then -1 else if 6 < s 0 then -9 else if ¬ (-1 ≤ i ∧ i < s 0) then -1 else if i < 0 then (gG (wS s c.toNat) (nS s) (nS s) 0 : Int) else goB (wS s c.toNat) (nS s) (nS s - i.toNat - 1) (oA (wS s c.toNat) (nS s) i.toNat)
theorem amx_neg {ok : Nat → Bool} {f : Nat → Nat} {n : Nat} (h : 0 ≤ amx ok (fun b => -(f b : Int)) n) : ∀ i, i < n → ok i = true → f (amx ok (fun b => -(f b : Int)) n).toNat ≤ f i ∧ (f i = f (amx ok (fun b => -(f b : Int)) n).toNat → (amx ok (fun b => -(f b : Int)) n).toNat ≤ i) := by
  induction n with
  | zero => intro i hi; omega
  | succ n ih =>
    intro i hi hk
    have hr := amx_r ok (fun b => -(f b : Int)) n
    rw [amx] at h ⊢
    by_cases q : ok n = true ∧ (amx ok (fun b => -(f b : Int)) n < 0 ∨ -(f (amx ok (fun b => -(f b : Int)) n).toNat : Int) < -(f n : Int))
    · rw [if_pos q] at h ⊢
      rw [Int.toNat_natCast]
      by_cases e : i = n
      · subst e
        exact ⟨Nat.le_refl _, fun _ => Nat.le_refl _⟩
      · rcases q.2 with q2 | q2
        · rw [amx_none] at q2
          rw [q2 i (by omega)] at hk
          simp at hk
        · by_cases q3 : amx ok (fun b => -(f b : Int)) n < 0
          · rw [amx_none] at q3
            rw [q3 i (by omega)] at hk
            simp at hk
          · have := ih (by omega) i (by omega) hk
            omega
    · rw [if_neg q] at h ⊢
      by_cases e : i = n
      · subst e
        have : ¬ (amx ok (fun b => -(f b : Int)) i < 0 ∨ -(f (amx ok (fun b => -(f b : Int)) i).toNat : Int) < -(f i : Int)) := fun x => q ⟨hk, x⟩
        omega
      · exact ih h i (by omega) hk
theorem reS_0 {n : Nat} : reS n 0 = n := by
  unfold reS
  induction n with
  | zero => rfl
  | succ n ih =>
    rw [cnt, ih]
    simp
theorem reS_or : ∀ {n b S : Nat}, b < n → S.testBit b = false → reS n (S ||| 2 ^ b) + 1 = reS n S
  | 0, b, S, h, _ => by omega
  | n + 1, b, S, h, hb => by
    unfold reS
    rw [cnt, cnt]
    by_cases e : b = n
    · subst e
      have h1 : cnt (fun i => !(S ||| 2 ^ b).testBit i) b = cnt (fun i => !S.testBit i) b := cnt_congr (fun i hi => by
        rw [Nat.testBit_or, Nat.testBit_two_pow]
        have : ¬ b = i := by omega
        simp [this])
      rw [h1, Nat.testBit_or, Nat.testBit_two_pow, hb]
      simp
    · have ih := reS_or (n := n) (b := b) (S := S) (by omega) hb
      unfold reS at ih
      rw [Nat.testBit_or, Nat.testBit_two_pow]
      have : ¬ b = n := e
      simp only [this, decide_false, Bool.or_false]
      omega
theorem reS_pos {n S : Nat} (h : reS n S ≠ 0) : ∃ b, b < n ∧ S.testBit b = false := by
  induction n with
  | zero => exact absurd rfl h
  | succ n ih =>
    unfold reS at h ih
    rw [cnt] at h
    by_cases q : S.testBit n = true
    · obtain ⟨b, h1, h2⟩ := ih (by simp [q] at h; omega)
      exact ⟨b, by omega, h2⟩
    · exact ⟨n, by omega, by simpa using q⟩
theorem goB_r {w : Nat → Nat → Nat} {n m S : Nat} (h : reS n S ≠ 0) : 0 ≤ goB w n m S ∧ goB w n m S < n ∧ S.testBit (goB w n m S).toNat = false := by
  obtain ⟨b, h1, h2⟩ := reS_pos h
  have r := amx_r (fun b => !S.testBit b) (fun b => -((w S b + gG w n m (S ||| 2 ^ b) : Nat) : Int)) n
  have p : 0 ≤ goB w n m S := amx_pos h1 (by simp [h2])
  have h3 : (!S.testBit (goB w n m S).toNat) = true := r.2.2 p
  exact ⟨p, r.2.1, by simpa only [Bool.not_eq_true'] using h3⟩
theorem oA_r {w : Nat → Nat → Nat} {n : Nat} : ∀ i, i ≤ n → oA w n i < 2 ^ n ∧ reS n (oA w n i) = n - i
  | 0, _ => ⟨Nat.two_pow_pos n, by rw [show oA w n 0 = 0 from rfl, reS_0]; omega⟩
  | i + 1, hi => by
    obtain ⟨h1, h2⟩ := oA_r (w := w) (n := n) i (by omega)
    obtain ⟨g1, g2, g3⟩ := goB_r (w := w) (m := n - i - 1) (S := oA w n i) (n := n) (by omega)
    have hb : (goB w n (n - i - 1) (oA w n i)).toNat < n := by omega
    rw [oA]
    refine ⟨or_lt h1 (two_pow_lt hb), ?_⟩
    have := reS_or (n := n) hb g3
    omega
section OS
variable {d L N : Nat} {s s' : Int → Int} {cl cl' : Nat → List Cl} {σ σ1 : St} {Q : Option AV → AW → Prop}
theorem lwM_tb {k c a b : Nat} : (lwM s k c a).testBit b = (decide (b < 8) && lwS s k c a b) := bits_test _ _ _
theorem lwM_lt {k c a : Nat} : lwM s k c a < 256 := bits_lt _ 8
def afM (s : Int → Int) (k t : Nat) : Nat := bits (fun b => afS s k t b) 8
theorem afM_lt {k t : Nat} : afM s k t < 256 := bits_lt _ 8
theorem sm_r (hw : WF s cl) {k : Nat} (hk : (k : Int) < s 3) : 1 ≤ smZ s k ∧ smZ s k ≤ nS s ∧ (∀ t, t < smZ s k → (0 ≤ smT s k t ∧ smT s k t < s 0) ∧ (0 ≤ smB s k t ∧ smB s k t < 3)) ∧ ∀ t t', t < smZ s k → t' < smZ s k → smT s k t = smT s k t' → t = t' := by
  obtain ⟨w0, -, -, -, -, -, -, -, w9⟩ := hw
  unfold W0 at w0
  obtain ⟨x1, x2, x3⟩ := w9 k hk
  unfold smZ nS
  exact ⟨by omega, by omega, fun t ht => x2 t (by omega), fun t t' ht ht' => x3 t t' (by omega) (by omega)⟩
theorem i_and_7 {x : Nat} (h : x < 100) : i_and x 7 = ((x % 8 : Nat) : Int) := by
  have e := i_and_nat (a := x) (b := 7) (by omega) (by omega)
  have : x &&& 7 = x % 8 := Nat.and_two_pow_sub_one_eq_mod x 3
  rw [this] at e
  exact e
theorem r120_l (hw : WF s cl) (h9 : C9 20 s σ) {k c a : Nat} (hk : (k : Int) < s 3) (hc : c < 3) (ha : a < 8) : ∀ (t : Nat), t ≤ smZ s k → (∀ t', t ≤ t' → t' < smZ s k → ¬ (smT s k t' = a ∧ smB s k t' = c)) → R (d + 1) 120 31 [vR 147, vI k, vI c, vI a, vR (53 + 2 * k), vI (if t = 0 then (bits (fun b => anyN (fun t' => decide (smT s k t' = b)) (smZ s k)) 8 : Int) else (afM s k (t - 1) : Int)), vI ((t : Int) - 1)] [] (WS L σ) Q = Q (some (vI (lwM s k c a))) (WS L σ) := by
  obtain ⟨z1, z2, z3, z4⟩ := sm_r hw hk
  have w0 := hw.1
  have n8 := nS_8 w0
  unfold W0 at w0
  have hk12 : k < 12 := by omega
  have hkd := kd_su hk12
  have hln := ln_su (L := L) hk12
  obtain ⟨y1, y2⟩ := h9.2 k hk
  have ez : σ (53 + 2 * k) 1 = (smZ s k : Int) := by
    rw [show 53 + 2 * k = 20 + 33 + 2 * k by omega, y1]
    have e1 : smZ s k = (s (1369 + k)).toNat := rfl
    omega
  have ei : ∀ t : Nat, t < smZ s k → σ (53 + 2 * k + 1) t = 8 * smB s k t + smT s k t := by
    intro t ht
    rw [show 53 + 2 * k + 1 = 20 + 34 + 2 * k by omega]
    exact y2 t (by unfold smZ at ht; omega)
  intro t
  induction t with
  | zero =>
    intro _ hno
    rw [b120_31, if_pos (by omega), b120_78]
    have e : lwM s k c a = 0 := by
      unfold lwM
      refine bits_f (fun b _ => ?_)
      unfold lwS
      refine anyN_f (fun t ht => ?_)
      have := hno t (by omega) ht
      cases h1 : decide (smT s k t = a) <;> cases h2 : decide (smB s k t = c) <;> simp at h1 h2 <;> simp
      exact absurd ⟨h1, h2⟩ this
    rw [e]
    rfl
  | succ t ih =>
    intro ht hno
    obtain ⟨⟨a1, a2⟩, a3, a4⟩ := z3 t (by omega)
    obtain ⟨u, hu⟩ : ∃ u : Nat, smT s k t = (u : Int) := ⟨(smT s k t).toNat, by omega⟩
    obtain ⟨v, hv⟩ : ∃ v : Nat, smB s k t = (v : Int) := ⟨(smB s k t).toNat, by omega⟩
    have h64 : ∀ Q, R d 64 0 [vR (53 + 2 * k), vI (t : Int)] [] (WS L σ) Q = Q (some (vI ((8 * v + u : Nat) : Int))) (WS L σ) := by
      intro Q
      rw [r64 hkd (by omega) (by omega) (by rw [hln]; omega), ei t (by omega), hu, hv]
      congr 3
    rw [if_neg (by omega), show t + 1 - 1 = t by omega, show ((t + 1 : Nat) : Int) - 1 = (t : Int) by omega]
    rw [b120_31, if_neg (by omega), b120_36 hkd, h64]
    simp only [am_push_s]
    rw [b120_43 (by omega) (by omega)]
    by_cases q : smT s k t = a ∧ smB s k t = c
    · rw [if_neg (by omega), b120_52]
      have e : afM s k t = lwM s k c a := by
        unfold afM lwM
        refine bits_congr (fun b _ => ?_)
        unfold lwS
        by_cases q2 : afS s k t b = true
        · rw [q2]
          symm
          rw [anyN_iff]
          exact ⟨t, by omega, by simp [q, q2]⟩
        · have q2' : afS s k t b = false := by simpa using q2
          rw [q2']
          symm
          refine anyN_f (fun t' ht' => ?_)
          by_cases e1 : t' = t
          · rw [e1, q2']
            simp
          · have : ¬ smT s k t' = a := fun x => e1 (z4 t' t ht' (by omega) (by rw [x, q.1]))
            simp [this]
      rw [e]
    · rw [if_pos (by omega), b120_55 hkd, h64]
      simp only [am_push_s]
      have hm : (8 * v + u) % 8 = u := by omega
      have hp : 2 ^ u < 2 ^ 8 := two_pow_lt (by omega)
      have hal := afM_lt (s := s) (k := k) (t := t)
      rw [b120_65 (by omega), i_and_7 (by omega), hm, i_one_shl (by omega), i_or_nat (by omega) (by omega)]
      have e := ih (by omega) (fun t' h1 h2 => by
        by_cases e1 : t' = t
        · rw [e1]
          exact q
        · exact hno t' (by omega) h2)
      rw [show (t : Int) + -1 = (t : Int) - 1 by omega]
      have ea : ((afM s k t ||| 2 ^ u : Nat) : Int) = if t = 0 then (bits (fun b => anyN (fun t' => decide (smT s k t' = b)) (smZ s k)) 8 : Int) else (afM s k (t - 1) : Int) := by
        have af : ∀ t0 : Nat, t0 + 1 = t → afM s k t ||| 2 ^ u = afM s k t0 := by
          intro t0 h0
          apply tb_ext
          intro b
          unfold afM
          rw [Nat.testBit_or, bits_test, bits_test, Nat.testBit_two_pow]
          by_cases hb8 : b < 8
          · have : afS s k t0 b = (afS s k t b || decide (u = b)) := by
              rw [Bool.eq_iff_iff]
              unfold afS
              rw [Bool.or_eq_true, anyN_iff, anyN_iff]
              constructor
              · rintro ⟨i, h1, h2⟩
                simp only [Bool.and_eq_true, decide_eq_true_eq] at h2
                by_cases e1 : i = t
                · right
                  rw [e1, hu] at h2
                  simp
                  omega
                · left
                  exact ⟨i, h1, by simp; omega⟩
              · rintro (⟨i, h1, h2⟩ | h)
                · simp only [Bool.and_eq_true, decide_eq_true_eq] at h2
                  exact ⟨i, h1, by simp; omega⟩
                · simp only [decide_eq_true_eq] at h
                  exact ⟨t, by omega, by simp; omega⟩
            rw [this]
            simp [hb8]
          · have : ¬ u = b := by omega
            simp [hb8, this]
        by_cases e0 : t = 0
        · rw [if_pos e0]
          congr 1
          apply tb_ext
          intro b
          unfold afM
          rw [Nat.testBit_or, bits_test, bits_test, Nat.testBit_two_pow]
          by_cases hb8 : b < 8
          · have : anyN (fun t' => decide (smT s k t' = b)) (smZ s k) = (afS s k t b || decide (u = b)) := by
              rw [Bool.eq_iff_iff]
              unfold afS
              rw [Bool.or_eq_true, anyN_iff, anyN_iff]
              constructor
              · rintro ⟨i, h1, h2⟩
                simp only [decide_eq_true_eq] at h2
                by_cases e1 : i = t
                · right
                  rw [e1, hu] at h2
                  simp
                  omega
                · left
                  exact ⟨i, h1, by simp; omega⟩
              · rintro (⟨i, h1, h2⟩ | h)
                · simp only [Bool.and_eq_true, decide_eq_true_eq] at h2
                  exact ⟨i, h1, by simp; omega⟩
                · simp only [decide_eq_true_eq] at h
                  exact ⟨t, by omega, by simp; omega⟩
            rw [this]
            simp [hb8]
          · have : ¬ u = b := by omega
            simp [hb8, this]
        · rw [if_neg e0]
          congr 1
          exact af (t - 1) (by omega)
      rw [ea]
      exact e
theorem r120 (hw : WF s cl) (h9 : C9 20 s σ) {k c a : Nat} (hk : (k : Int) < s 3) (hc : c < 3) (ha : a < 8) : R (d + 2) 120 0 [vR 147, vI k, vI c, vI a, vX 9, vX 9, vX 9] [] (WS L σ) Q = Q (some (vI (lwM s k c a))) (WS L σ) := by
  obtain ⟨z1, z2, z3, z4⟩ := sm_r hw hk
  have w0 := hw.1
  have n8 := nS_8 w0
  unfold W0 at w0
  have hk12 : k < 12 := by omega
  have hkd := kd_su hk12
  obtain ⟨y1, y2⟩ := h9.2 k hk
  have ez : σ (53 + 2 * k) 1 = (smZ s k : Int) := by
    rw [show 53 + 2 * k = 20 + 33 + 2 * k by omega, y1]
    have e1 : smZ s k = (s (1369 + k)).toNat := rfl
    omega
  have e := r120_l (d := d + 1) (L := L) (Q := Q) hw h9 hk hc ha (smZ s k) (Nat.le_refl _) (fun t' h1 h2 => by omega)
  rw [if_neg (by omega)] at e
  have e0 : afM s k (smZ s k - 1) = 0 := by
    unfold afM
    refine bits_f (fun b _ => ?_)
    unfold afS
    refine anyN_f (fun t ht => ?_)
    have : ¬ smZ s k - 1 < t := by omega
    simp [this]
  rw [e0] at e
  rw [b120_0, r95 hk12]
  simp only [am_push_s]
  rw [b120_8, b120_22 hkd (by omega), b120_29, ez]
  exact e
/-- of any row, there or not: some answer -/
theorem r120x (h9 : C9 20 s σ) {k c a : Nat} (hk : k < 12) (hc : c < 3) (ha : a < 8) : ∃ v : Int, ∀ Q, R (d + 2) 120 0 [vR 147, vI k, vI c, vI a, vX 9, vX 9, vX 9] [] (WS L σ) Q = Q (some (vI v)) (WS L σ) := by
  have hkd := kd_su hk
  have hln := ln_su (L := L) hk
  have hb := h9.1 k hk
  rw [show 20 + 33 + 2 * k = 53 + 2 * k by omega] at hb
  have lp : ∀ (t : Nat) (w : Int), (t : Int) ≤ σ (53 + 2 * k) 1 → ∃ v : Int, ∀ Q, R (d + 2) 120 31 [vR 147, vI k, vI c, vI a, vR (53 + 2 * k), vI w, vI ((t : Int) - 1)] [] (WS L σ) Q = Q (some (vI v)) (WS L σ) := by
    intro t
    induction t with
    | zero =>
      intro w _
      refine ⟨0, fun Q => ?_⟩
      rw [b120_31, if_pos (by omega), b120_78]
    | succ t ih =>
      intro w ht
      have h64 : ∀ Q, R (d + 1) 64 0 [vR (53 + 2 * k), vI (t : Int)] [] (WS L σ) Q = Q (some (vI (σ (53 + 2 * k + 1) t))) (WS L σ) := fun Q => r64 hkd (by omega) (by omega) (by rw [hln]; omega)
      rw [show ((t + 1 : Nat) : Int) - 1 = (t : Int) by omega]
      by_cases q : σ (53 + 2 * k + 1) t = (c : Int) * 8 + a
      · refine ⟨w, fun Q => ?_⟩
        rw [b120_31, if_neg (by omega), b120_36 hkd, h64]
        simp only [am_push_s]
        rw [b120_43 (by omega) (by omega), if_neg (by simpa using q), b120_52]
      · obtain ⟨v, hv⟩ := ih (i_or w (i_shl 1 (i_and (σ (53 + 2 * k + 1) t) 7))) (by omega)
        refine ⟨v, fun Q => ?_⟩
        rw [b120_31, if_neg (by omega), b120_36 hkd, h64]
        simp only [am_push_s]
        rw [b120_43 (by omega) (by omega), if_pos q, b120_55 hkd, h64]
        simp only [am_push_s]
        rw [b120_65 (by omega)]
        exact hv Q
  obtain ⟨z, hz⟩ : ∃ z : Nat, σ (53 + 2 * k) 1 = (z : Int) := ⟨(σ (53 + 2 * k) 1).toNat, by omega⟩
  obtain ⟨v, hv⟩ := lp z 0 (by omega)
  refine ⟨v, fun Q => ?_⟩
  rw [b120_0, r95 hk]
  simp only [am_push_s]
  rw [b120_8, b120_22 hkd (by omega), b120_29, hz]
  exact hv Q
theorem r119_l (hw : WF s cl) (hr : CR 20 s cl σ) {c a b : Nat} (hc : c < 3) (ha : a < 8) (hb : b < 8) : ∀ (j k : Nat), k + j = (s 3).toNat → R (d + 3) 119 6 [vR 147, vI c, vI a, vI b, vI (cnt (fun k => lwS s k c a b) k), vI k] [] (WS L σ) Q = Q (some (vI (cnt (fun k => lwS s k c a b) (s 3).toNat))) (WS L σ) := by
  have w0 := hw.1
  unfold W0 at w0
  have c0 := hr.1
  unfold C0 at c0
  intro j
  induction j with
  | zero =>
    intro k hk
    obtain rfl : k = (s 3).toNat := by omega
    rw [b119_6, c0.2.2.2.2, if_pos (by omega), b119_41]
  | succ j ih =>
    intro k hk
    have hl := lwM_lt (s := s) (k := k) (c := c) (a := a)
    have hbt : i_and (i_shr (lwM s k c a) b) 1 = if (lwM s k c a).testBit b then 1 else 0 := i_bit (by omega) (by omega)
    have hle := cnt_le (fun k => lwS s k c a b) k
    have e := ih (k + 1) (by omega)
    rw [cnt] at e
    rw [b119_6, c0.2.2.2.2, if_neg (by omega), b119_18, r120 hw hr.2.2.2.2.2.2.2.2.2 (by omega) hc ha]
    simp only [am_push_s]
    rw [lwM_tb] at hbt
    simp only [hb, decide_true, Bool.true_and] at hbt
    by_cases q : lwS s k c a b = true
    · rw [if_pos q] at e hbt
      rw [b119_28 (by rw [hbt]; omega) (by omega), hbt]
      exact e
    · rw [if_neg q] at e hbt
      rw [b119_28 (by rw [hbt]; omega) (by omega), hbt]
      exact e
theorem k118 {x y z : Int} (h : HC N s cl σ) : ∃ σ1 : St, CP N s cl σ σ1 ∧ ∀ Q, R (d + 30) 118 0 [vR 19, vI x, vI y, vI z] [] (WS L σ) Q = Q (some (vI (aThought s x y z))) (WS L σ1) := by
  refine ⟨σ, CP_r h, fun Q => ?_⟩
  obtain ⟨hw, hr, hE, hv⟩ := h
  have w0 := hw.1
  unfold W0 at w0
  have c0 := hr.1
  unfold C0 at c0
  unfold aThought
  rw [b118_0, r13]
  simp only [am_push_s]
  rw [b118_5]
  simp only [tI_0]
  by_cases q1 : 0 ≤ x ∧ x < 3
  · rw [if_neg (by omega), b118_8, c0.1, r13]
    simp only [am_push_s]
    rw [b118_19]
    simp only [tI_0]
    by_cases q2 : 0 ≤ y ∧ y < s 0
    · rw [if_neg (by omega), b118_22, c0.1, r13]
      simp only [am_push_s]
      rw [b118_33]
      simp only [tI_0]
      by_cases q3 : 0 ≤ z ∧ z < s 0
      · rw [if_pos (by omega), if_pos ⟨q1, q2, q3⟩, b118_38]
        by_cases q4 : y = z
        · rw [if_neg (by omega), b118_43, b118_58, if_pos q4]
        · obtain ⟨c, rfl⟩ : ∃ c : Nat, x = (c : Int) := ⟨x.toNat, by omega⟩
          obtain ⟨a, rfl⟩ : ∃ a : Nat, y = (a : Int) := ⟨y.toNat, by omega⟩
          obtain ⟨b, rfl⟩ : ∃ b : Nat, z = (b : Int) := ⟨z.toNat, by omega⟩
          rw [if_pos q4, if_neg q4, b118_48, b119_0]
          refine (r119_l (d := d + 26) hw hr (c := c) (a := a) (b := b) (by omega) (by omega) (by omega) (s 3).toNat 0 (by omega)).trans ?_
          simp only [am_push_s]
          rw [b118_58, Int.toNat_natCast, Int.toNat_natCast, Int.toNat_natCast]
      · rw [if_neg (by omega), if_neg (fun x => q3 x.2.2), b118_36]
    · rw [if_pos (by omega), if_neg (fun x => q2 x.2.1), b118_36]
  · rw [if_pos (by omega), if_neg (fun x => q1 x.1), b118_36]
/-- who was left when he took them, of all summers -/
def LT (s : Int → Int) (c : Nat) (σ : St) : Prop := ∀ a k : Nat, a < 8 → (k : Int) < s 3 → σ 148 ((a : Int) * 12 + k) = (lwM s k c a : Int)
theorem r122_1 (hw : WF s cl) {c : Nat} (hc : c < 3) : ∀ (j i : Nat) (σ : St), i + j = 96 → CR 20 s cl σ → (∀ a k : Nat, a * 12 + k < i → k < 12 → (k : Int) < s 3 → σ 148 ((a : Int) * 12 + k) = (lwM s k c a : Int)) → ∃ σ' : St, (∀ a, a ≠ 148 → σ' a = σ a) ∧ LT s c σ' ∧ ∀ Q, R (d + 3) 122 2 [vR 147, vI c, vI i, vX 9, vX 9, vX 9] [] (WS L σ) Q = R (d + 3) 122 36 [vR 147, vI c, vI 96, vX 9, vX 9, vX 9] [] (WS L σ') Q := by
  have w0 := hw.1
  unfold W0 at w0
  intro j
  induction j with
  | zero =>
    intro i σ hi hr h
    obtain rfl : i = 96 := by omega
    refine ⟨σ, fun _ _ => rfl, fun a k ha hk => h a k (by omega) (by omega) hk, fun Q => ?_⟩
    rw [b122_2, if_pos (by omega)]
    rfl
  | succ j ih =>
    intro i σ hi hr h
    have d1 : i_div (i : Int) 12 = ((i / 12 : Nat) : Int) := i_div_nat (b := 12) (by omega) (by omega)
    have d2 : i_rem (i : Int) 12 = ((i % 12 : Nat) : Int) := i_rem_nat (b := 12) (by omega) (by omega)
    have key : ∃ v : Int, ((((i % 12 : Nat) : Int) < s 3) → v = (lwM s (i % 12) c (i / 12) : Int)) ∧ ∀ Q, R (d + 2) 120 0 [vR 147, vI ((i % 12 : Nat) : Int), vI c, vI ((i / 12 : Nat) : Int), vX 9, vX 9, vX 9] [] (WS L σ) Q = Q (some (vI v)) (WS L σ) := by
      by_cases q : ((i % 12 : Nat) : Int) < s 3
      · exact ⟨(lwM s (i % 12) c (i / 12) : Int), fun _ => rfl, fun Q => r120 hw hr.2.2.2.2.2.2.2.2.2 q hc (by omega)⟩
      · obtain ⟨v, hv⟩ := r120x (d := d) (L := L) hr.2.2.2.2.2.2.2.2.2 (k := i % 12) (c := c) (a := i / 12) (by omega) hc (by omega)
        exact ⟨v, fun x => absurd x q, hv⟩
    obtain ⟨v, hv, hR⟩ := key
    have hf : ∀ a, a ≠ 148 → st2 σ 148 i v a = σ a := fun a ha => by funext j; exact st2_k ha
    obtain ⟨σ', f1, f2, f3⟩ := ih (i + 1) (st2 σ 148 i v) (by omega) (CR_fr hr (fun j _ => by rw [hf 20 (by omega)]) (fun a _ _ => hf a (by omega)) (by omega) (by omega)) (by
      intro a k h1 h2 h3
      by_cases e : a * 12 + k = i
      · have : i % 12 = k ∧ i / 12 = a := by omega
        rw [this.1, this.2] at hv
        rw [show (a : Int) * 12 + k = (i : Int) by omega, st2_eq]
        exact hv h3
      · rw [st2_i (by omega)]
        exact h a k (by omega) h2 h3)
    refine ⟨σ', fun a ha => (f1 a ha).trans (hf a ha), f2, fun Q => ?_⟩
    rw [b122_2, if_neg (by omega), b122_11, d1, d2, hR]
    simp only [am_push_s]
    rw [b122_29 (by omega) (by omega), b122_30 (by omega)]
    exact f3 Q
theorem LT_fr {c : Nat} (h : LT s c σ) (hf : σ1 148 = σ 148) : LT s c σ1 := by
  unfold LT
  rw [hf]
  exact h
theorem or_bit64 {S b : Nat} (h : S < 64) (hb : b < 6) : i_or S (i_shl 1 b) = ((S ||| 2 ^ b : Nat) : Int) ∧ S ||| 2 ^ b < 64 := by
  have h2 : 2 ^ b < 2 ^ 6 := two_pow_lt hb
  have l1 : S ||| 2 ^ b < 2 ^ 6 := or_lt (by omega) (by omega)
  rw [i_one_shl (by omega), i_or_nat (by omega) (by omega)]
  exact ⟨rfl, by omega⟩
theorem r123_l (hw : WF s cl) (hr : CR 20 s cl σ) {c S b : Nat} (hc : c < 3) (hb : b < 6) (hS : S < 64) (hLT : LT s c σ) {v : Int} (hv : 0 ≤ v ∧ v < 1000000) {u3 : AV} : ∀ (j k : Nat) (u6 : AV), k + j = (s 3).toNat → R (d + 1) 123 33 [vR 147, vI S, vI b, u3, vI (v + (cnt (fun k => decide (lwM s k c b &&& S ≠ 0)) k : Int)), vI k, u6] [] (WS L σ) Q = Q (some (vI (v + (wS s c S b : Int)))) (WS L σ) := by
  have w0 := hw.1
  unfold W0 at w0
  have c0 := hr.1
  unfold C0 at c0
  intro j
  induction j with
  | zero =>
    intro k u6 hk
    obtain rfl : k = (s 3).toNat := by omega
    rw [b123_33, c0.2.2.2.2, if_pos (by omega), b123_88]
    rfl
  | succ j ih =>
    intro k u6 hk
    have hl := lwM_lt (s := s) (k := k) (c := c) (a := b)
    have hle := cnt_le (fun k => decide (lwM s k c b &&& S ≠ 0)) k
    have e := ih (k + 1) (vI ((b : Int) * 12 + k)) (by omega)
    rw [cnt] at e
    rw [b123_33, c0.2.2.2.2, if_neg (by omega), b123_45 (by omega) (by omega), r13]
    simp only [am_push_s]
    rw [b123_64]
    simp only [tI_0]
    rw [if_neg (by omega), b123_67 (by omega) (by omega), hLT b k (by omega) (by omega), i_and_nat (by omega) (by omega)]
    by_cases q : lwM s k c b &&& S = 0
    · rw [if_neg (by simp [q])] at e
      rw [if_pos (by omega), b123_82 (by omega)]
      exact e
    · rw [if_pos (by simp [q])] at e
      rw [if_neg (by omega), b123_79 (by omega), b123_82 (by omega), show v + (cnt (fun k => decide (lwM s k c b &&& S ≠ 0)) k : Int) + 1 = v + ((cnt (fun k => decide (lwM s k c b &&& S ≠ 0)) k + 1 : Nat) : Int) by omega]
      exact e
theorem r123 (hw : WF s cl) (hr : CR 20 s cl σ) {c S b g : Nat} (hc : c < 3) (hb : b < 6) (hS : S < 64) (hLT : LT s c σ) (hg : σ 149 ((S ||| 2 ^ b : Nat) : Int) = (g : Int)) (hg2 : g < 1000000) : R (d + 2) 123 0 [vR 147, vI S, vI b, vX 9, vX 9, vX 9, vX 9] [] (WS L σ) Q = Q (some (vI ((wS s c S b + g : Nat) : Int))) (WS L σ) := by
  obtain ⟨o1, o2⟩ := or_bit64 hS hb
  rw [b123_0, o1, r13]
  simp only [am_push_s]
  rw [b123_15]
  simp only [tI_0]
  rw [if_neg (by omega), b123_18 (by omega) (by omega), hg, b123_28]
  have e := r123_l (d := d + 1) (L := L) (Q := Q) hw hr hc hb hS hLT (v := (g : Int)) (by omega) (u3 := vI ((S ||| 2 ^ b : Nat) : Int)) (s 3).toNat 0 (vX 9) (by omega)
  rw [show ((wS s c S b + g : Nat) : Int) = (g : Int) + (wS s c S b : Int) by omega, ← e]
  simp [cnt]
/-- what is reckoned of the sets from S on -/
def SB (s : Int → Int) (c S : Nat) (σ : St) : Prop := ∀ x, S ≤ x → x < 2 ^ nS s → σ 149 (x : Int) = (gG (wS s c) (nS s) (reS (nS s) x) x : Int)
theorem wS_le {c S b : Nat} : wS s c S b ≤ (s 3).toNat := cnt_le _ _
theorem gG_le {c : Nat} : ∀ m S, gG (wS s c) (nS s) m S ≤ m * (s 3).toNat
  | 0, _ => by simp [gG]
  | m + 1, S => by
    rw [gG_s]
    split
    · exact Nat.zero_le _
    · have h1 := wS_le (s := s) (c := c) (S := S) (b := (goB (wS s c) (nS s) m S).toNat)
      have h2 := gG_le (c := c) m (S ||| 2 ^ (goB (wS s c) (nS s) m S).toNat)
      rw [Nat.succ_mul]
      omega
theorem gG_b (hw : W0 s) (h6 : nS s ≤ 6) {c m S : Nat} (hm : m ≤ 6) : gG (wS s c) (nS s) m S < 1000000 := by
  unfold W0 at hw
  have h1 := gG_le (s := s) (c := c) m S
  have h2 : m * (s 3).toNat ≤ 6 * 12 := Nat.mul_le_mul hm (by omega)
  omega
theorem reS_le {n S : Nat} : reS n S ≤ n := cnt_le _ _
/-- the least as the class keeps it -/
def mnX (ok : Nat → Bool) (f : Nat → Nat) (i : Nat) : Int := if amx ok (fun b => -(f b : Int)) i < 0 then 1000000 else (f (amx ok (fun b => -(f b : Int)) i).toNat : Int)
theorem mnX_f {ok : Nat → Bool} {f : Nat → Nat} {i : Nat} (h : ok i = false) : mnX ok f (i + 1) = mnX ok f i := by
  have e : amx ok (fun b => -(f b : Int)) (i + 1) = amx ok (fun b => -(f b : Int)) i := by
    rw [amx, if_neg (by rw [h]; simp)]
  unfold mnX
  rw [e]
theorem mnX_t {ok : Nat → Bool} {f : Nat → Nat} {i : Nat} (h : ok i = true) (hf : f i < 1000000) : mnX ok f (i + 1) = i_min (mnX ok f i) (f i : Int) := by
  unfold mnX i_min
  by_cases q : amx ok (fun b => -(f b : Int)) i < 0
  · have e : amx ok (fun b => -(f b : Int)) (i + 1) = (i : Int) := by rw [amx, if_pos ⟨h, Or.inl q⟩]
    rw [e, if_neg (by omega), Int.toNat_natCast, if_pos q, if_pos (by omega)]
  · by_cases q2 : -(f (amx ok (fun b => -(f b : Int)) i).toNat : Int) < -(f i : Int)
    · have e : amx ok (fun b => -(f b : Int)) (i + 1) = (i : Int) := by rw [amx, if_pos ⟨h, Or.inr q2⟩]
      rw [e, if_neg (by omega), Int.toNat_natCast, if_neg q, if_pos (by omega)]
    · have e : amx ok (fun b => -(f b : Int)) (i + 1) = amx ok (fun b => -(f b : Int)) i := by
        rw [amx, if_neg (fun x => by rcases x.2 with y | y <;> omega)]
      rw [e, if_neg q, if_neg (by omega)]
def mnV (w : Nat → Nat → Nat) (n m S i : Nat) : Int := mnX (fun b => !S.testBit b) (fun b => w S b + gG w n m (S ||| 2 ^ b)) i
theorem r122_b (hw : WF s cl) (hr : CR 20 s cl σ) (h6 : nS s ≤ 6) {c S : Nat} (hc : c < 3) (hS : S + 1 < 2 ^ nS s) (hLT : LT s c σ) (hSB : SB s c (S + 1) σ) (hne : reS (nS s) S ≠ 0) : ∀ (j i : Nat), i + j = 6 → R (d + 3) 122 74 [vR 147, vI c, vI ((2 ^ nS s - 1 : Nat) : Int), vI S, vI (mnV (wS s c) (nS s) (reS (nS s) S - 1) S (if i < nS s then i else nS s)), vI i] [] (WS L σ) Q = R (d + 3) 122 115 [vR 147, vI c, vI ((2 ^ nS s - 1 : Nat) : Int), vI S, vI (gG (wS s c) (nS s) (reS (nS s) S) S : Int), vI 6] [] (WS L σ) Q := by
  have p6 : 2 ^ nS s ≤ 2 ^ 6 := Nat.pow_le_pow_right (by decide) h6
  have w0 := hw.1
  obtain ⟨m, hm⟩ : ∃ m, reS (nS s) S = m + 1 := ⟨reS (nS s) S - 1, by omega⟩
  have hm6 : m ≤ 6 := by have := reS_le (n := nS s) (S := S); omega
  rw [hm, show m + 1 - 1 = m by omega]
  intro j
  induction j with
  | zero =>
    intro i hi
    obtain rfl : i = 6 := by omega
    have e : (if 6 < nS s then 6 else nS s) = nS s := by split <;> omega
    have g := goB_r (w := wS s c) (m := m) hne
    rw [e, b122_74, if_pos (by omega), gG_s, if_neg (by omega)]
    have e2 : mnV (wS s c) (nS s) m S (nS s) = ((wS s c S (goB (wS s c) (nS s) m S).toNat + gG (wS s c) (nS s) m (S ||| 2 ^ (goB (wS s c) (nS s) m S).toNat) : Nat) : Int) := if_neg (show ¬ goB (wS s c) (nS s) m S < 0 by omega)
    rw [e2]
    rfl
  | succ j ih =>
    intro i hi
    have hcm : i_and ((2 ^ nS s - 1 : Nat) : Int) (i_xor S (-1)) = (cpl (nS s) S : Int) := cpl_m (by omega) (by omega)
    have hce := cpl_e (n := nS s) (x := S) (by omega) (by omega)
    have hbt : i_and (i_shr (cpl (nS s) S) i) 1 = if (cpl (nS s) S).testBit i then 1 else 0 := i_bit (by omega) (by omega)
    have htb : (cpl (nS s) S).testBit i = (decide (i < nS s) && !S.testBit i) := by
      unfold cpl
      rw [Nat.testBit_xor, Nat.testBit_and, all_t]
      cases decide (i < nS s) <;> cases S.testBit i <;> rfl
    have e := ih (i + 1) (by omega)
    rw [b122_74, if_neg (by omega), b122_81, hcm, hbt, htb]
    by_cases q : i < nS s
    · rw [if_pos q]
      by_cases q2 : S.testBit i = true
      · have e2 : mnV (wS s c) (nS s) m S (if i + 1 < nS s then i + 1 else nS s) = mnV (wS s c) (nS s) m S i := by
          have : (if i + 1 < nS s then i + 1 else nS s) = i + 1 := by split <;> omega
          rw [this]
          exact mnX_f (by simp [q2])
        rw [e2] at e
        rw [if_pos (by simp [q2]), b122_109 (by omega)]
        exact e
      · have hf : S.testBit i = false := by simpa using q2
        have hor : S ||| 2 ^ i < 2 ^ nS s := or_lt (by omega) (two_pow_lt q)
        have hre := reS_or (n := nS s) q hf
        have hgt : S + 1 ≤ S ||| 2 ^ i := by
          have h1 : S ≤ S ||| 2 ^ i := Nat.left_le_or
          rcases Nat.lt_or_ge S (S ||| 2 ^ i) with h2 | h2
          · omega
          · exfalso
            have h3 : S ||| 2 ^ i = S := by omega
            have h4 : (S ||| 2 ^ i).testBit i = true := by rw [Nat.testBit_or, Nat.testBit_two_pow]; simp
            rw [h3, hf] at h4
            simp at h4
        have hsb := hSB (S ||| 2 ^ i) hgt hor
        rw [show reS (nS s) (S ||| 2 ^ i) = m by omega] at hsb
        have hgb := gG_b w0 h6 (c := c) (m := m) (S := S ||| 2 ^ i) hm6
        have hwl := wS_le (s := s) (c := c) (S := S) (b := i)
        unfold W0 at w0
        have h72 : gG (wS s c) (nS s) m (S ||| 2 ^ i) ≤ 72 := by
          have h1 := gG_le (s := s) (c := c) m (S ||| 2 ^ i)
          have h2 : m * (s 3).toNat ≤ 6 * 12 := Nat.mul_le_mul hm6 (by omega)
          omega
        have e2 : mnV (wS s c) (nS s) m S (if i + 1 < nS s then i + 1 else nS s) = i_min (mnV (wS s c) (nS s) m S i) ((wS s c S i + gG (wS s c) (nS s) m (S ||| 2 ^ i) : Nat) : Int) := by
          have : (if i + 1 < nS s then i + 1 else nS s) = i + 1 := by split <;> omega
          rw [this]
          exact mnX_t (f := fun b => wS s c S b + gG (wS s c) (nS s) m (S ||| 2 ^ b)) (by simp [hf]) (show wS s c S i + gG (wS s c) (nS s) m (S ||| 2 ^ i) < 1000000 by omega)
        rw [e2] at e
        rw [if_neg (by simp [q, hf]), b122_95, r123 hw hr hc (by omega) (by omega) hLT hsb hgb]
        simp only [am_push_s]
        rw [b122_104, b122_109 (by omega)]
        exact e
    · rw [if_neg q]
      rw [if_neg (show ¬ i + 1 < nS s by omega)] at e
      rw [if_pos (by simp [q]), b122_109 (by omega)]
      exact e
theorem reS_lt : ∀ n, n < 7 → ∀ S, S < 2 ^ n → S + 1 < 2 ^ n → reS n S ≠ 0 := by decide +kernel
theorem reS_top : ∀ n, n < 9 → reS n (2 ^ n - 1) = 0 := by decide +kernel
theorem r122_2 (hw : WF s cl) (h6 : nS s ≤ 6) {c : Nat} (hc : c < 3) : ∀ (S : Nat) (u4 u5 : AV) (σ : St), S + 1 ≤ 2 ^ nS s → CR 20 s cl σ → LT s c σ → SB s c S σ → ∃ σ' : St, (∀ a, a ≠ 149 → σ' a = σ a) ∧ SB s c 0 σ' ∧ ∀ Q, R (d + 3) 122 63 [vR 147, vI c, vI ((2 ^ nS s - 1 : Nat) : Int), vI ((S : Int) - 1), u4, u5] [] (WS L σ) Q = Q none (WS L σ') := by
  have p6 : 2 ^ nS s ≤ 2 ^ 6 := Nat.pow_le_pow_right (by decide) h6
  have w0 := hw.1
  unfold W0 at w0
  intro S
  induction S with
  | zero =>
    intro u4 u5 σ hS hr hLT hSB
    refine ⟨σ, fun _ _ => rfl, hSB, fun Q => ?_⟩
    rw [b122_63, if_pos (by omega), b122_129]
  | succ S ih =>
    intro u4 u5 σ hS hr hLT hSB
    have hne := reS_lt (nS s) (by omega) S (by omega) (by omega)
    have hf : ∀ a, a ≠ 149 → st2 σ 149 S (gG (wS s c) (nS s) (reS (nS s) S) S : Int) a = σ a := fun a ha => by funext j; exact st2_k ha
    obtain ⟨σ', f1, f2, f3⟩ := ih (vI (gG (wS s c) (nS s) (reS (nS s) S) S : Int)) (vI 6) (st2 σ 149 S (gG (wS s c) (nS s) (reS (nS s) S) S : Int)) (by omega) (CR_fr hr (fun j _ => by rw [hf 20 (by omega)]) (fun a _ _ => hf a (by omega)) (by omega) (by omega)) (LT_fr hLT (hf 148 (by omega))) (by
      intro x h1 h2
      by_cases e : x = S
      · subst e
        exact st2_eq
      · rw [st2_i (by omega)]
        exact hSB x (by omega) h2)
    refine ⟨σ', fun a ha => (f1 a ha).trans (hf a ha), f2, fun Q => ?_⟩
    have e := r122_b (d := d) (L := L) (Q := Q) hw hr h6 hc (S := S) (by omega) hLT hSB hne 6 0 (by omega)
    have e0 : mnV (wS s c) (nS s) (reS (nS s) S - 1) S (if 0 < nS s then 0 else nS s) = 1000000 := by
      have : (if 0 < nS s then 0 else nS s) = 0 := by split <;> omega
      rw [this]
      rfl
    rw [e0] at e
    rw [show ((S + 1 : Nat) : Int) - 1 = (S : Int) by omega, b122_63, if_neg (by omega), b122_67]
    refine e.trans ?_
    rw [b122_115 (by omega) (by omega), b122_123 (by omega), show (S : Int) + -1 = (S : Int) - 1 by omega]
    exact f3 Q
theorem r122 (hw : WF s cl) (hr : CR 20 s cl σ) (h6 : nS s ≤ 6) {c : Nat} (hc : c < 3) : ∃ σ' : St, (∀ a, a ≠ 148 → a ≠ 149 → σ' a = σ a) ∧ LT s c σ' ∧ SB s c 0 σ' ∧ ∀ Q, R (d + 3) 122 0 [vR 147, vI c, vX 9, vX 9, vX 9, vX 9] [] (WS L σ) Q = Q none (WS L σ') := by
  have p6 : 2 ^ nS s ≤ 2 ^ 6 := Nat.pow_le_pow_right (by decide) h6
  have p1 := pw1 (nS s)
  have w0 := hw.1
  have n8 := nS_8 w0
  unfold W0 at w0
  have c0 := hr.1
  unfold C0 at c0
  obtain ⟨σ1, a1, a2, a3⟩ := r122_1 (d := d) (L := L) hw hc 96 0 σ (by omega) hr (fun a k h => by omega)
  have e63 : i_and ((2 ^ nS s - 1 : Nat) : Int) 63 = ((2 ^ nS s - 1 : Nat) : Int) := by
    have h1 := i_and_nat (a := 2 ^ nS s - 1) (b := 63) (by omega) (by omega)
    have h2 : (2 ^ nS s - 1) &&& 63 = 2 ^ nS s - 1 := by
      have := Nat.and_two_pow_sub_one_eq_mod (2 ^ nS s - 1) 6
      rw [show 2 ^ 6 - 1 = 63 from rfl] at this
      rw [this]
      exact Nat.mod_eq_of_lt (by omega)
    rw [h2] at h1
    exact h1
  have hf : ∀ a, a ≠ 149 → st2 σ1 149 ((2 ^ nS s - 1 : Nat) : Int) 0 a = σ1 a := fun a ha => by funext j; exact st2_k ha
  have hr1 : CR 20 s cl σ1 := CR_fr hr (fun j _ => by rw [a1 20 (by omega)]) (fun a _ _ => a1 a (by omega)) (by omega) (by omega)
  obtain ⟨σ2, b1, b2, b3⟩ := r122_2 (d := d) (L := L) hw h6 hc (2 ^ nS s - 1) (vX 9) (vX 9) (st2 σ1 149 ((2 ^ nS s - 1 : Nat) : Int) 0) (by omega) (CR_fr hr1 (fun j _ => by rw [hf 20 (by omega)]) (fun a _ _ => hf a (by omega)) (by omega) (by omega)) (LT_fr a2 (hf 148 (by omega))) (by
    intro x h1 h2
    obtain rfl : x = 2 ^ nS s - 1 := by omega
    rw [st2_eq, reS_top (nS s) (by omega)]
    rfl)
  refine ⟨σ2, fun a h1 h2 => by rw [b1 a h2, hf a h2, a1 a h1], LT_fr (LT_fr a2 (hf 148 (by omega))) (b1 148 (by omega)), b2, fun Q => ?_⟩
  rw [b122_0]
  refine (a3 Q).trans ?_
  rw [b122_36, r34 (by rw [a1 20 (by omega), c0.1]; exact n8.2) n8.1]
  simp only [am_push_s]
  rw [b122_43 (by rw [e63]; omega) (by rw [e63]; omega), e63, b122_59 (by omega)]
  exact b3 Q
theorem r126_l (hw : WF s cl) (hr : CR 20 s cl σ) (h6 : nS s ≤ 6) {c S m : Nat} (hc : c < 3) (hS : S < 2 ^ nS s) (hLT : LT s c σ) (hSB : SB s c 0 σ) (hm : reS (nS s) S = m + 1) : ∀ (j b : Nat), b + j = nS s → (b : Int) ≤ goB (wS s c) (nS s) m S → R (d + 3) 126 2 [vR 147, vI S, vI b] [] (WS L σ) Q = Q (some (vI (goB (wS s c) (nS s) m S))) (WS L σ) := by
  have p6 : 2 ^ nS s ≤ 2 ^ 6 := Nat.pow_le_pow_right (by decide) h6
  have w0 := hw.1
  have c0 := hr.1
  unfold C0 at c0
  have g := goB_r (w := wS s c) (m := m) (S := S) (n := nS s) (by omega)
  have hm6 : m ≤ 6 := by have := reS_le (n := nS s) (S := S); omega
  have eG : gG (wS s c) (nS s) (m + 1) S = wS s c S (goB (wS s c) (nS s) m S).toNat + gG (wS s c) (nS s) m (S ||| 2 ^ (goB (wS s c) (nS s) m S).toNat) := by rw [gG_s, if_neg (by omega)]
  have hs := hSB S (Nat.zero_le _) hS
  rw [hm, eG] at hs
  intro j
  induction j with
  | zero =>
    intro b hb hle
    omega
  | succ j ih =>
    intro b hb hle
    have hbt : i_and (i_shr S b) 1 = if S.testBit b then 1 else 0 := i_bit (by omega) (by omega)
    have n8 := nS_8 w0
    rw [b126_2, c0.1, if_neg (by omega), b126_13, if_neg (by omega), b126_19, hbt]
    by_cases q : S.testBit b = true
    · have hne : (b : Int) ≠ goB (wS s c) (nS s) m S := by
        intro e
        have h3 := g.2.2
        rw [← e, Int.toNat_natCast, q] at h3
        simp at h3
      rw [if_pos (by simp [q]), b126_56 (by omega)]
      exact ih (b + 1) (by omega) (by omega)
    · have hf : S.testBit b = false := by simpa using q
      have hbn : b < nS s := by omega
      have hor : S ||| 2 ^ b < 2 ^ nS s := or_lt hS (two_pow_lt hbn)
      have hre := reS_or (n := nS s) hbn hf
      have hsb := hSB (S ||| 2 ^ b) (Nat.zero_le _) hor
      rw [show reS (nS s) (S ||| 2 ^ b) = m by omega] at hsb
      have hgb := gG_b w0 h6 (c := c) (m := m) (S := S ||| 2 ^ b) hm6
      have hmin := amx_neg (ok := fun b => !S.testBit b) (f := fun b => wS s c S b + gG (wS s c) (nS s) m (S ||| 2 ^ b)) (n := nS s) g.1 b hbn (by simp [hf])
      rw [if_neg (by simp [hf]), b126_27, r13]
      simp only [am_push_s]
      rw [b126_36]
      simp only [tI_0]
      rw [if_neg (by omega), b126_39, r123 hw hr hc (by omega) (by omega) hLT hsb hgb]
      simp only [am_push_s]
      rw [b126_45 (by omega) (by omega), hs]
      by_cases e : (b : Int) = goB (wS s c) (nS s) m S
      · rw [if_neg (by rw [← e, Int.toNat_natCast]; simp), b126_54, e]
      · have hlt : (b : Int) < goB (wS s c) (nS s) m S := by omega
        have hne : ¬ ((wS s c S b + gG (wS s c) (nS s) m (S ||| 2 ^ b) : Nat) : Int) = ((wS s c S (goB (wS s c) (nS s) m S).toNat + gG (wS s c) (nS s) m (S ||| 2 ^ (goB (wS s c) (nS s) m S).toNat) : Nat) : Int) := by
          intro x
          have h2 := hmin.2 (Int.ofNat.inj x)
          have h3 : (goB (wS s c) (nS s) m S).toNat ≤ b := h2
          omega
        rw [if_pos hne, b126_56 (by omega)]
        exact ih (b + 1) (by omega) (by omega)
theorem r125_l (hw : WF s cl) (hr : CR 20 s cl σ) (h6 : nS s ≤ 6) {c i : Nat} (hc : c < 3) (hi : i < nS s) (hLT : LT s c σ) (hSB : SB s c 0 σ) : ∀ (j k : Nat) (u3 : AV), k + j = i + 1 → (0 < k → u3 = vI (goB (wS s c) (nS s) (nS s - (k - 1) - 1) (oA (wS s c) (nS s) (k - 1)))) → (0 < j ∨ 0 < k) → R (d + 4) 125 7 [vR 147, vI i, vI (oA (wS s c) (nS s) k : Int), u3, vI k] [] (WS L σ) Q = Q (some (vI (goB (wS s c) (nS s) (nS s - i - 1) (oA (wS s c) (nS s) i)))) (WS L σ) := by
  have p6 : 2 ^ nS s ≤ 2 ^ 6 := Nat.pow_le_pow_right (by decide) h6
  intro j
  induction j with
  | zero =>
    intro k u3 hk hu _
    obtain rfl : k = i + 1 := by omega
    rw [hu (by omega), b125_7, if_pos (by omega), b125_46]
    rfl
  | succ j ih =>
    intro k u3 hk hu _
    obtain ⟨o1, o2⟩ := oA_r (w := wS s c) (n := nS s) k (by omega)
    have g := goB_r (w := wS s c) (m := nS s - k - 1) (S := oA (wS s c) (nS s) k) (n := nS s) (by omega)
    have e := ih (k + 1) (vI (goB (wS s c) (nS s) (nS s - k - 1) (oA (wS s c) (nS s) k))) (by omega) (fun _ => by rw [show k + 1 - 1 = k by omega]) (Or.inr (by omega))
    have r := fun Q => r126_l (d := d) (L := L) (Q := Q) hw hr h6 hc o1 hLT hSB (m := nS s - k - 1) (by omega) (nS s) 0 (by omega) (by omega)
    have hg : (goB (wS s c) (nS s) (nS s - k - 1) (oA (wS s c) (nS s) k)).toNat < 6 := by omega
    obtain ⟨b1, b2⟩ := or_bit64 (S := oA (wS s c) (nS s) k) (by omega) hg
    rw [natI g.1] at b1
    have w0 := hw.1
    unfold W0 at w0
    rw [b125_7, if_neg (by omega), b125_13, if_neg (by omega), b125_20, b126_0]
    refine (r _).trans ?_
    simp only [am_push_s]
    rw [b125_25, if_pos g.1, b125_35, b125_38 (by omega), b1]
    exact e
theorem k121 {x y : Int} (hy : RG y) (h : HC N s cl σ) : ∃ σ1 : St, CP N s cl σ σ1 ∧ ∀ Q, R (d + 30) 121 0 [vR 19, vI x, vI y] [] (WS L σ) Q = Q (some (vI (aOrder s x y))) (WS L σ1) := by
  have h' := h
  obtain ⟨hw, hr, hE, hv⟩ := h
  have w0 := hw.1
  have n8 := nS_8 w0
  unfold W0 at w0
  have c0 := hr.1
  unfold C0 at c0
  have hin := wr_in (k := s 0) hy (by omega)
  have ew : wr (s 0 + 1) = s 0 + 1 := wr_id (by omega) (by omega)
  unfold aOrder
  by_cases q1 : 0 ≤ x ∧ x < 3
  · have start : ∀ Q, R (d + 30) 121 0 [vR 19, vI x, vI y] [] (WS L σ) Q = if s 0 ≤ 6 then R (d + 30) 121 25 [vR 19, vI x, vI y] [] (WS L σ) Q else Q (some (vI (-9))) (WS L σ) := by
      intro Q
      rw [b121_0, r13]
      simp only [am_push_s]
      rw [b121_5]
      simp only [tI_0]
      rw [if_pos (by omega), b121_10, c0.1]
      by_cases q : s 0 ≤ 6
      · rw [if_pos q, if_pos q]
      · rw [if_neg q, if_neg q, b121_22]
    rw [if_neg (by omega)]
    by_cases q2 : 6 < s 0
    · rw [if_pos q2]
      refine ⟨σ, CP_r h', fun Q => ?_⟩
      rw [start, if_neg (by omega)]
    · rw [if_neg q2]
      have start2 : ∀ Q, R (d + 30) 121 0 [vR 19, vI x, vI y] [] (WS L σ) Q = if -1 ≤ y ∧ y < s 0 then R (d + 30) 121 45 [vR 19, vI x, vI y] [] (WS L σ) Q else Q (some (vI (-1))) (WS L σ) := by
        intro Q
        rw [start, if_pos (by omega), b121_25w, r13, c0.1]
        simp only [am_push_s]
        rw [b121_40, ew]
        simp only [tI_0]
        by_cases q : -1 ≤ y ∧ y < s 0
        · rw [if_pos (by omega), if_pos q]
        · rw [if_neg (by omega), if_neg q, b121_43]
      by_cases q3 : -1 ≤ y ∧ y < s 0
      · rw [if_neg (by simpa using q3)]
        obtain ⟨c, rfl⟩ : ∃ c : Nat, x = (c : Int) := ⟨x.toNat, by omega⟩
        obtain ⟨σ', f1, f2, f3, f4⟩ := r122 (d := d + 26) (L := L) hw hr (by omega) (c := c) (by omega)
        have hr' : CR 20 s cl σ' := CR_fr hr (fun j _ => by rw [f1 20 (by omega) (by omega)]) (fun a _ _ => f1 a (by omega) (by omega)) (by omega) (by omega)
        refine ⟨σ', CP_q h' (fun a ha => f1 a (by omega) (by omega)), fun Q => ?_⟩
        rw [start2, if_pos q3, b121_45]
        refine (f4 _).trans ?_
        simp only [am_push_n]
        rw [b121_53, Int.toNat_natCast]
        by_cases q4 : y < 0
        · have p1 := pw1 (nS s)
          have e0 := f3 0 (Nat.le_refl _) (by omega)
          rw [reS_0] at e0
          rw [if_neg (by omega), b121_57, b124_0, show (0 : Int) = ((0 : Nat) : Int) from rfl, e0]
          simp only [am_push_s]
          rw [b121_64, b121_75]
          simp only [Int.ofNat_zero] at *
          rw [if_pos (by omega)]
        · obtain ⟨i, rfl⟩ : ∃ i : Nat, y = (i : Int) := ⟨y.toNat, by omega⟩
          rw [if_pos (by omega), if_neg q4, b121_67, b125_0]
          refine (r125_l (d := d + 25) hw hr' (by omega) (c := c) (i := i) (by omega) (by omega) f2 f3 (i + 1) 0 (vI (-1)) (by omega) (fun h => by omega) (Or.inl (by omega))).trans ?_
          simp only [am_push_s]
          rw [b121_75, Int.toNat_natCast]
      · rw [if_pos q3]
        refine ⟨σ, CP_r h', fun Q => ?_⟩
        rw [start2, if_neg q3]
  · rw [if_pos q1]
    refine ⟨σ, CP_r h', fun Q => ?_⟩
    rw [b121_0, r13]
    simp only [am_push_s]
    rw [b121_5]
    simp only [tI_0]
    rw [if_neg (by omega), b121_8]
end OS
