/-! what is best: goBy, stateNow, value; the memo between calls -/
section ET
variable {d L : Nat} {σ : St} {Q : Option AV → AW → Prop}
theorem cntO_lt {n i : Nat} {o : Nat → Nat} (h8 : n ≤ 8) (hi : i < n) (h : o i = 0) : cntO o < 8 := cnt_lt (j := i) (by omega) (by simp [h])
theorem EF_congr {W W' : Nat → Nat → Int} {mv mv' : Nat → Nat} {n : Nat} (h8 : n ≤ 8) (hW : ∀ c x, c < 3 → x < 2 ^ n → W c x = W' c x) (hm : ∀ t, t < 8 → mv t < 3 ∧ mv t = mv' t) : ∀ k o, Ov n o → EF W mv n k o = EF W' mv' n k o := by
  intro k
  induction k with
  | zero => intro o h; rfl
  | succ k ih =>
    intro o h
    have hch : ∀ c, c < 3 → chF W mv n k o c = chF W' mv' n k o c := by
      intro c hc
      unfold chF
      refine amx_congr (fun i hi => rfl) (fun i hi h0 => ?_)
      have h00 : o i = 0 := of_decide_eq_true h0
      have hO2 : Ov n (oup o i (c + 1)) := Ov_oup h hi (by omega)
      rw [← ih _ hO2]
      exact hW c _ hc (sdO_lt (EF_Ov h8 (fun t ht => (hm t ht).1) k _ hO2) h8)
    by_cases hex : ∃ i, i < n ∧ o i = 0
    · obtain ⟨i, hi, h0⟩ := hex
      have hc8 := cntO_lt h8 hi h0
      have hmc := hm _ hc8
      rw [EF_s, EF_s, ← hmc.2, ← hch _ hmc.1]
      have hcr := chF_r (W := W) (mv := mv) (n := n) (k := k) (o := o) (c := mv (cntO o))
      split
      · rfl
      · exact ih _ (Ov_oup h (by omega) (by omega))
    · have hno : ∀ W mv, ∀ c, chF W mv n k o c < 0 := by
        intro W mv c
        unfold chF
        rw [amx_none]
        intro i hi
        simp only [decide_eq_false_iff_not]
        exact fun h0 => hex ⟨i, hi, h0⟩
      rw [EF_s, EF_s, if_pos (hno _ _ _), if_pos (hno _ _ _)]
theorem chF_congr {W W' : Nat → Nat → Int} {mv mv' : Nat → Nat} {n k c : Nat} {o : Nat → Nat} (h8 : n ≤ 8) (hW : ∀ c x, c < 3 → x < 2 ^ n → W c x = W' c x) (hm : ∀ t, t < 8 → mv t < 3 ∧ mv t = mv' t) (h : Ov n o) (hc : c < 3) : chF W mv n k o c = chF W' mv' n k o c := by
  unfold chF
  refine amx_congr (fun i hi => rfl) (fun i hi h0 => ?_)
  have hO2 : Ov n (oup o i (c + 1)) := Ov_oup h hi (by omega)
  rw [← EF_congr h8 hW hm _ _ hO2]
  exact hW c _ hc (sdO_lt (EF_Ov h8 (fun t ht => (hm t ht).1) k _ hO2) h8)
/-- the class's worths, as they stand -/
def Wc (σ : St) (c x : Nat) : Int := σ 31 ((c : Int) * 256 + x)
/-- the memo between calls -/
def EN (N n : Nat) (σ : St) : Prop := ∃ s0 : Nat, σ 139 3 = (s0 : Int) ∧ s0 ≤ N ∧ σ 139 4 ≤ σ 20 5 ∧ (∀ t : Nat, t < 8 → 0 ≤ σ 140 t ∧ σ 140 t < 3) ∧
  ∀ x : Nat, x < 65536 → ∃ r : Nat, σ 141 x = (r : Int) ∧ r < (s0 + 1) * 65536 ∧ (σ 139 4 = σ 20 5 → Ov n (dC x) → r / 65536 = s0 → dC (r % 65536) = EF (Wc σ) (fun t => (σ 140 t).toNat) n (frO n (dC x)) (dC x))
theorem EN_of {n s0 N : Nat} {W : Nat → Nat → Int} {mv : Nat → Nat} (h : EI n W mv s0 σ) (hs : s0 ≤ N) (hv : σ 139 4 = σ 20 5) : EN N n σ := by
  obtain ⟨h1, h2, h3, h4, h5, h6, h7, h8⟩ := h
  refine ⟨s0, h6, hs, by omega, fun t ht => by have := h5 t ht; omega, fun x hx => ?_⟩
  obtain ⟨r, r1, r2, r3⟩ := h8 x hx
  refine ⟨r, r1, r2, fun _ hO hr => ?_⟩
  rw [r3 hO hr]
  refine EF_congr h1 (fun c z hc hz => ?_) (fun t ht => ?_) _ _ hO
  · unfold Wc
    rw [h3 c z hc hz]
  · have := h5 t ht
    refine ⟨this.1, ?_⟩
    omega
/-- what has nothing to do with the memo leaves it -/
theorem EN_fr {N n : Nat} {σ' : St} (h : EN N n σ) (h1 : σ' 139 = σ 139) (h2 : σ' 140 = σ 140) (h3 : σ' 141 = σ 141) (h5 : σ 20 5 ≤ σ' 20 5) (h4 : σ' 20 5 = σ 20 5 → ∀ c x : Nat, c < 3 → x < 2 ^ n → Wc σ' c x = Wc σ c x) (h8 : n ≤ 8) : EN N n σ' := by
  obtain ⟨s0, a1, a2, a3, a4, a5⟩ := h
  refine ⟨s0, by rw [h1]; exact a1, a2, by rw [h1]; omega, by rw [h2]; exact a4, fun x hx => ?_⟩
  obtain ⟨r, r1, r2, r3⟩ := a5 x hx
  refine ⟨r, by rw [h3]; exact r1, r2, fun hv hO hr => ?_⟩
  rw [h1] at hv
  have e5 : σ' 20 5 = σ 20 5 := by omega
  rw [r3 (by omega) hO hr, h2]
  exact EF_congr h8 (fun c z hc hz => (h4 e5 c z hc hz).symm) (fun t ht => by have := a4 t ht; exact ⟨by omega, rfl⟩) _ _ hO
theorem EN_new {N n m : Nat} {σ' : St} (h : EN N n σ) (h1 : σ' 139 = σ 139) (h2 : σ' 140 = σ 140) (h3 : σ' 141 = σ 141) (h5 : σ 20 5 < σ' 20 5) : EN N m σ' := by
  obtain ⟨s0, a1, a2, a3, a4, a5⟩ := h
  refine ⟨s0, by rw [h1]; exact a1, a2, by rw [h1]; omega, by rw [h2]; exact a4, fun x hx => ?_⟩
  obtain ⟨r, r1, r2, r3⟩ := a5 x hx
  refine ⟨r, by rw [h3]; exact r1, r2, fun hv => ?_⟩
  rw [h1] at hv
  omega
/-- who takes, by the turns of a kind, swapped or not -/
def mvF (w kind m : Nat) (told : Nat → Int) (sw : Bool) (t : Nat) : Nat := if sw = true ∧ (tkC w kind t m told).toNat < 2 then 1 - (tkC w kind t m told).toNat else (tkC w kind t m told).toNat
theorem tkC_r {w kind t m : Nat} {told : Nat → Int} (hw : w = 2 ∨ w = 3) : 0 ≤ tkC w kind t m told ∧ tkC w kind t m told < w := by
  have h1 : t % (2 * w) < 2 * w := Nat.mod_lt _ (by omega)
  have h2 : (t + 1) / 2 % w < w := Nat.mod_lt _ (by omega)
  have h3 : t % w < w := Nat.mod_lt _ (by omega)
  unfold tkC
  split
  · split <;> omega
  · split
    · omega
    · split
      · rename_i h
        exact ⟨h.2.2.1, h.2.2.2⟩
      · omega
theorem mvF_r {w kind t m : Nat} {told : Nat → Int} {sw : Bool} (hw : w = 2 ∨ w = 3) : mvF w kind m told sw t < 3 := by
  have := tkC_r (kind := kind) (t := t) (m := m) (told := told) hw
  unfold mvF
  split <;> omega
theorem i_and_b {p q : Prop} [Decidable p] [Decidable q] : i_and (tI p) (tI q) = tI (p ∧ q) := by
  unfold tI
  by_cases h1 : p <;> by_cases h2 : q <;> simp only [h1, h2, and_true, true_and, and_false, false_and, and_self, if_true, if_false] <;> decide +kernel
theorem r83_l {w kind m : Nat} {sw : Bool} (hw : σ 20 1 = (w : Int)) (hw2 : w = 2 ∨ w = 3) (hm : σ 23 1 = (m : Int)) (hm8 : m ≤ 8) (V : Prop) :
    ∀ (j i : Nat) (u5 : AV) (y : Int), i + j = 8 → (y = 0 ∨ y = 1) → (y = 1 ↔ V ∧ ∀ t : Nat, t < i → σ 140 t = (mvF w kind m (fun q => σ 24 q) sw t : Int)) → ∃ (y' : Int) (v5 : AV), (y' = 0 ∨ y' = 1) ∧ (y' = 1 ↔ V ∧ ∀ t : Nat, t < 8 → σ 140 t = (mvF w kind m (fun q => σ 24 q) sw t : Int)) ∧ ∀ Q, R (d + 2) 83 23 [vR 139, vI kind, vI (if sw = true then 1 else 0), vI y, vI i, u5] [] (WS L (setA σ 140 i (fun t => (mvF w kind m (fun q => σ 24 q) sw t : Int)))) Q = R (d + 2) 83 107 [vR 139, vI kind, vI (if sw = true then 1 else 0), vI y', vI 8, v5] [] (WS L (st2 (setA σ 140 8 (fun t => (mvF w kind m (fun q => σ 24 q) sw t : Int))) 139 4 (σ 20 5))) Q := by
  intro j
  induction j with
  | zero =>
    intro i u5 y hi hy hV
    obtain rfl : i = 8 := by omega
    refine ⟨y, u5, hy, hV, fun Q => ?_⟩
    rw [b83_23, if_pos (by omega), b83_96, setA_k (by omega)]
    rfl
  | succ j ih =>
    intro i u5 y hi hy hV
    have hr := tkC_r (kind := kind) (t := i) (m := m) (told := fun q => σ 24 q) hw2
    have m0 : sw = false → (mvF w kind m (fun q => σ 24 q) sw i : Int) = tkC w kind i m (fun q => σ 24 q) := by
      intro h
      unfold mvF
      rw [h, if_neg (by simp)]
      omega
    have m1 : sw = true → tkC w kind i m (fun q => σ 24 q) < 2 → (mvF w kind m (fun q => σ 24 q) sw i : Int) = 1 - tkC w kind i m (fun q => σ 24 q) := by
      intro h h2
      unfold mvF
      rw [h, if_pos (by constructor <;> first | rfl | omega)]
      omega
    have m2 : sw = true → ¬ tkC w kind i m (fun q => σ 24 q) < 2 → (mvF w kind m (fun q => σ 24 q) sw i : Int) = tkC w kind i m (fun q => σ 24 q) := by
      intro h h2
      unfold mvF
      rw [if_neg (fun q => h2 (by have := q.2; omega))]
      omega
    have hso : setA σ 140 i (fun t => (mvF w kind m (fun q => σ 24 q) sw t : Int)) 140 i = σ 140 i := setA_out (by omega)
    have hy2 : i_and y (if σ 140 i = (mvF w kind m (fun q => σ 24 q) sw i : Int) then 1 else 0) = 1 ↔ V ∧ ∀ t : Nat, t < i + 1 → σ 140 t = (mvF w kind m (fun q => σ 24 q) sw t : Int) := by
      have hall : (∀ t : Nat, t < i + 1 → σ 140 t = (mvF w kind m (fun q => σ 24 q) sw t : Int)) ↔ (∀ t : Nat, t < i → σ 140 t = (mvF w kind m (fun q => σ 24 q) sw t : Int)) ∧ σ 140 i = (mvF w kind m (fun q => σ 24 q) sw i : Int) := by
        constructor
        · intro h
          exact ⟨fun t ht => h t (by omega), h i (by omega)⟩
        · intro h t ht
          by_cases hti : t < i
          · exact h.1 t hti
          · obtain rfl : t = i := by omega
            exact h.2
      rw [hall, ← and_assoc, ← hV]
      rcases hy with rfl | rfl <;> by_cases hq : σ 140 i = (mvF w kind m (fun q => σ 24 q) sw i : Int) <;> simp only [hq, if_true, if_false, and_true, and_false] <;> decide +kernel
    have hy3 : i_and y (if σ 140 i = (mvF w kind m (fun q => σ 24 q) sw i : Int) then 1 else 0) = 0 ∨ i_and y (if σ 140 i = (mvF w kind m (fun q => σ 24 q) sw i : Int) then 1 else 0) = 1 := by
      rcases hy with rfl | rfl <;> split <;> decide +kernel
    obtain ⟨y', v5, e1, e2, e3⟩ := ih (i + 1) (vI (mvF w kind m (fun q => σ 24 q) sw i)) _ (by omega) hy3 hy2
    refine ⟨y', v5, e1, e2, fun Q => ?_⟩
    have eq61 : R (d + 2) 83 23 [vR 139, vI kind, vI (if sw = true then 1 else 0), vI y, vI i, u5] [] (WS L (setA σ 140 i (fun t => (mvF w kind m (fun q => σ 24 q) sw t : Int)))) Q = R (d + 2) 83 61 [vR 139, vI kind, vI (if sw = true then 1 else 0), vI y, vI i, vI (mvF w kind m (fun q => σ 24 q) sw i)] [] (WS L (setA σ 140 i (fun t => (mvF w kind m (fun q => σ 24 q) sw t : Int)))) Q := by
      rw [b83_23, if_neg (by omega), b83_33, r63 (w := w) (m := m) (by rw [setA_k (by omega)]; exact hw) hw2 (by omega) (by rw [setA_k (by omega)]; exact hm) hm8]
      simp only [am_push_s]
      have e24 : (fun i_1 : Nat => setA σ 140 i (fun t => (mvF w kind m (fun q => σ 24 q) sw t : Int)) 24 i_1) = fun q : Nat => σ 24 q := by
        funext q
        rw [setA_k (by omega)]
      rw [e24, b83_43]
      cases sw with
      | false =>
        rw [if_pos (by simp), m0 rfl]
      | true =>
        rw [if_neg (by simp), b83_49]
        by_cases h2 : tkC w kind i m (fun q => σ 24 q) < 2
        · rw [if_neg (by omega), b83_55 (by omega), m1 rfl h2]
        · rw [if_pos (by omega), m2 rfl h2]
    rw [eq61, b83_61 (by omega) (by omega), hso]
    have fin : ∀ z : Int, R (d + 2) 83 79 [vR 139, vI kind, vI (if sw = true then 1 else 0), vI y, vI i, vI (mvF w kind m (fun q => σ 24 q) sw i)] [vI z, vI y] (WS L (setA σ 140 i (fun t => (mvF w kind m (fun q => σ 24 q) sw t : Int)))) Q = R (d + 2) 83 23 [vR 139, vI kind, vI (if sw = true then 1 else 0), vI (i_and y z), vI ((i + 1 : Nat) : Int), vI (mvF w kind m (fun q => σ 24 q) sw i)] [] (WS L (setA σ 140 (i + 1) (fun t => (mvF w kind m (fun q => σ 24 q) sw t : Int)))) Q := by
      intro z
      rw [b83_79 (by omega) (by omega), b83_90 (by omega), setA_s rfl]
      rfl
    rw [← e3 Q]
    by_cases hq : σ 140 i = (mvF w kind m (fun q => σ 24 q) sw i : Int)
    · rw [if_neg (by simpa using hq), b83_74, fin, if_pos hq]
    · rw [if_pos hq, b83_78, fin, if_neg hq]
theorem r83 {w kind m n N : Nat} {sw : Bool} (hw : σ 20 1 = (w : Int)) (hw2 : w = 2 ∨ w = 3) (hm : σ 23 1 = (m : Int)) (hm8 : m ≤ 8) (hn : σ 20 0 = (n : Int)) (h8 : n ≤ 8) (hN : N + 1 < 30000) (hE : EN N n σ) (hW : ∀ c x : Nat, c < 3 → x < 2 ^ n → -1000000 < Wc σ c x) : ∃ (σ' : St) (s' : Nat), s' ≤ N + 1 ∧ EI n (Wc σ) (mvF w kind m (fun q => σ 24 q) sw) s' σ' ∧ σ' 139 4 = σ' 20 5 ∧ (∀ a, a ≠ 139 → a ≠ 140 → σ' a = σ a) ∧ ∀ Q, R (d + 2) 83 0 [vR 139, vI kind, vI (if sw = true then 1 else 0), vX 9, vX 9, vX 9] [] (WS L σ) Q = Q none (WS L σ') := by
  obtain ⟨s0, a1, a2, a3, a4, a5⟩ := hE
  have e0 : (if σ 139 4 = σ 20 5 then (1 : Int) else 0) = 1 ↔ σ 139 4 = σ 20 5 ∧ ∀ t : Nat, t < 0 → σ 140 t = (mvF w kind m (fun q => σ 24 q) sw t : Int) := by
    constructor
    · intro h
      refine ⟨?_, fun t ht => absurd ht (by omega)⟩
      split at h
      · assumption
      · exact absurd h (by decide)
    · intro h
      exact if_pos h.1
  obtain ⟨y', v5, e1, e2, e3⟩ := r83_l (d := d) (L := L) (kind := kind) (sw := sw) hw hw2 hm hm8 (σ 139 4 = σ 20 5) 8 0 (vX 9) (if σ 139 4 = σ 20 5 then 1 else 0) (by omega) (by split <;> omega) e0
  rw [setA_0] at e3
  have start : ∀ Q, R (d + 2) 83 0 [vR 139, vI kind, vI (if sw = true then 1 else 0), vX 9, vX 9, vX 9] [] (WS L σ) Q = R (d + 2) 83 107 [vR 139, vI kind, vI (if sw = true then 1 else 0), vI y', vI 8, v5] [] (WS L (st2 (setA σ 140 8 (fun t => (mvF w kind m (fun q => σ 24 q) sw t : Int))) 139 4 (σ 20 5))) Q := by
    intro Q
    rw [b83_0]
    by_cases hv : σ 139 4 = σ 20 5
    · rw [if_neg (by simpa using hv), b83_14, b83_19, ← e3 Q, if_pos hv]
      rfl
    · rw [if_pos hv, b83_18, b83_19, ← e3 Q, if_neg hv]
      rfl
  have fin : ∀ (y z : Int) Q, (z = 0 ∨ z = 1) → R (d + 2) 83 121 [vR 139, vI kind, vI (if sw = true then 1 else 0), vI y, vI 8, v5] [vI z, vI s0, vR 139] (WS L (st2 (setA σ 140 8 (fun t => (mvF w kind m (fun q => σ 24 q) sw t : Int))) 139 4 (σ 20 5))) Q = Q none (WS L (st2 (st2 (setA σ 140 8 (fun t => (mvF w kind m (fun q => σ 24 q) sw t : Int))) 139 4 (σ 20 5)) 139 3 (s0 + z))) := by
    intro y z Q hz
    rw [b83_121 (by omega), b83_125]
  have s3 : st2 (setA σ 140 8 (fun t => (mvF w kind m (fun q => σ 24 q) sw t : Int))) 139 4 (σ 20 5) 139 3 = (s0 : Int) := by
    rw [st2_i (by omega), setA_k (by omega), a1]
  have frame : ∀ z : Int, ∀ a, a ≠ 139 → a ≠ 140 → st2 (st2 (setA σ 140 8 (fun t => (mvF w kind m (fun q => σ 24 q) sw t : Int))) 139 4 (σ 20 5)) 139 3 z a = σ a := by
    intro z a h1 h2
    funext j
    rw [st2_k h1, st2_k h1, setA_k h2]
  have tkn : ∀ z : Int, ∀ t : Nat, t < 8 → mvF w kind m (fun q => σ 24 q) sw t < 3 ∧ st2 (st2 (setA σ 140 8 (fun t => (mvF w kind m (fun q => σ 24 q) sw t : Int))) 139 4 (σ 20 5)) 139 3 z 140 t = (mvF w kind m (fun q => σ 24 q) sw t : Int) := by
    intro z t ht
    refine ⟨mvF_r hw2, ?_⟩
    rw [st2_k (by omega), st2_k (by omega), setA_in (by omega) (by omega)]
    rfl
  have ver : ∀ z : Int, st2 (st2 (setA σ 140 8 (fun t => (mvF w kind m (fun q => σ 24 q) sw t : Int))) 139 4 (σ 20 5)) 139 3 z 139 4 = st2 (st2 (setA σ 140 8 (fun t => (mvF w kind m (fun q => σ 24 q) sw t : Int))) 139 4 (σ 20 5)) 139 3 z 20 5 := by
    intro z
    rw [st2_i (by omega), st2_eq, frame z 20 (by omega) (by omega)]
  rcases e1 with hy | hy
  · refine ⟨st2 (st2 (setA σ 140 8 (fun t => (mvF w kind m (fun q => σ 24 q) sw t : Int))) 139 4 (σ 20 5)) 139 3 (s0 + 1), s0 + 1, by omega, ⟨h8, ?_, ?_, hW, tkn _, st2_eq, by omega, ?_⟩, ver _, frame _, fun Q => ?_⟩
    · rw [frame _ 20 (by omega) (by omega)]
      exact hn
    · intro c x hc hx
      rw [frame _ 31 (by omega) (by omega)]
      rfl
    · intro x hx
      obtain ⟨r, r1, r2, r3⟩ := a5 x hx
      refine ⟨r, by rw [frame _ 141 (by omega) (by omega)]; exact r1, ?_, ?_⟩
      · have h3 : (s0 + 1 + 1) * 65536 = (s0 + 1) * 65536 + 65536 := Nat.succ_mul _ _
        show r < (s0 + 1 + 1) * 65536
        rw [h3]
        exact Nat.lt_add_right _ r2
      · intro _ h
        exfalso
        have h2 : r / 65536 = s0 + 1 := h
        omega
    · rw [start, b83_107, hy, if_pos rfl, s3, b83_120, fin 0 1 Q (by omega)]
  · have hV := e2.mp hy
    refine ⟨st2 (st2 (setA σ 140 8 (fun t => (mvF w kind m (fun q => σ 24 q) sw t : Int))) 139 4 (σ 20 5)) 139 3 (s0 + 0), s0, by omega, ⟨h8, ?_, ?_, hW, tkn _, by rw [st2_eq]; omega, by omega, ?_⟩, ver _, frame _, fun Q => ?_⟩
    · rw [frame _ 20 (by omega) (by omega)]
      exact hn
    · intro c x hc hx
      rw [frame _ 31 (by omega) (by omega)]
      rfl
    · intro x hx
      obtain ⟨r, r1, r2, r3⟩ := a5 x hx
      refine ⟨r, by rw [frame _ 141 (by omega) (by omega)]; exact r1, r2, fun hO hr => ?_⟩
      rw [r3 hV.1 hO hr]
      refine EF_congr h8 (fun c z _ _ => rfl) (fun t ht => ?_) _ _ hO
      have h1 := hV.2 t ht
      have h2 := a4 t ht
      exact ⟨by omega, by omega⟩
    · rw [start, b83_107, hy, if_neg (by omega), s3, b83_116, fin 1 0 Q (by omega)]
end ET
