/-! best, value, judged, first, fairest of the class -/
section BE
variable {d L : Nat} {σ : St} {Q : Option AV → AW → Prop}
/-- the wall as it stands, by its ints -/
def CW (n w m kd : Nat) (sd : Nat → Nat) (σ : St) : Prop :=
  σ 20 0 = (n : Int) ∧ n ≤ 8 ∧ σ 20 1 = (w : Int) ∧ (w = 2 ∨ w = 3) ∧ σ 23 1 = (m : Int) ∧ m ≤ 8 ∧ σ 20 3 = (kd : Int) ∧ kd ≤ 3 ∧ (∀ c : Nat, c < 3 → σ 30 c = (sd c : Int) ∧ sd c < 2 ^ n) ∧ (∀ b c c' : Nat, c < 3 → c' < 3 → (sd c).testBit b = true → (sd c').testBit b = true → c = c') ∧ (∀ c x : Nat, c < 3 → x < 2 ^ n → -1000000 < Wc σ c x)
def oS (sd : Nat → Nat) (b : Nat) : Nat := if (sd 0).testBit b then 1 else if (sd 1).testBit b then 2 else if (sd 2).testBit b then 3 else 0
theorem oS_Ov {n : Nat} {sd : Nat → Nat} (h : ∀ c, c < 3 → sd c < 2 ^ n) : Ov n (oS sd) := by
  constructor
  · intro b
    unfold oS
    repeat' split
    all_goals omega
  · intro b hb
    unfold oS
    rw [tb_big (h 0 (by omega)) hb, tb_big (h 1 (by omega)) hb, tb_big (h 2 (by omega)) hb]
    rfl
theorem CW_fr {n w m kd : Nat} {sd : Nat → Nat} {σ' : St} (h : CW n w m kd sd σ) (hf : ∀ a, a ≠ 139 → a ≠ 140 → a ≠ 141 → σ' a = σ a) : CW n w m kd sd σ' := by
  unfold CW Wc at *
  rw [hf 20 (by omega) (by omega) (by omega), hf 23 (by omega) (by omega) (by omega), hf 30 (by omega) (by omega) (by omega), hf 31 (by omega) (by omega) (by omega)]
  exact h
theorem s88' {n : Nat} {W : Nat → Nat → Int} {mv : Nat → Nat} {s0 k : Nat} (hk : k ≤ 8) : S88 n W mv s0 L (d + 19) k := by
  have := s88 (n := n) (W := W) (mv := mv) (s0 := s0) (L := L) k (d + 16 - 2 * k)
  rwa [show d + 16 - 2 * k + 2 * k + 3 = d + 19 by omega] at this
theorem r85_n {x c : Nat} {u4 u5 u6 u7 u8 u9 : AV} {n : Nat} (hn : σ 20 0 = (n : Int)) (h8 : n ≤ 8) (hx : x < 65536) (hO : Ov n (dC x)) (hf : frO n (dC x) = 0) : R (d + 1) 85 0 [vR 139, vI x, vI c, vI 0, u4, u5, u6, u7, u8, u9] [] (WS L σ) Q = Q (some (vI (-5))) (WS L σ) := by
  have htk : tkO (dC x) = 2 ^ n - 1 := by rw [tk_all h8 hO]; exact hf
  have h256 := pw8 h8
  have h1 := pw1 n
  have lp : ∀ j i u7 : Nat, i + j = 8 → R (d + 1) 85 27 [vR 139, vI x, vI c, vI 0, vI 0, vI (-5), vI (-1000000), vI i, u8, u9] [] (WS L σ) Q = Q (some (vI (-5))) (WS L σ) := by
    intro j
    induction j with
    | zero =>
      intro i _ hi
      rw [b85_27, if_pos (by omega), b85_98]
    | succ j ih =>
      intro i _ hi
      have hb : i_and (i_shr 0 i) 1 = if (0 : Nat).testBit i then 1 else 0 := i_bit (a := 0) (by omega) (by omega)
      rw [b85_27, if_neg (by omega), b85_34, hb, if_pos (by simp), b85_92 (by omega)]
      exact ih (i + 1) 0 (by omega)
  rw [b85_0, r34 hn h8]
  simp only [am_push_s]
  rw [b85_7, r86 hx]
  simp only [am_push_s]
  rw [b85_11, i_andn_nat (by omega) (by omega), htk, Nat.and_self, Nat.xor_self]
  exact lp 8 0 0 (by omega)
def stN (sd : Nat → Nat) : Nat := (sd 0 ||| sd 2) ||| (sd 1 ||| sd 2) * 2 ^ 8
theorem stN_r {n : Nat} {sd : Nat → Nat} (h : ∀ c, c < 3 → sd c < 2 ^ n) (h8 : n ≤ 8) (hd : ∀ b c c' : Nat, c < 3 → c' < 3 → (sd c).testBit b = true → (sd c').testBit b = true → c = c') : stN sd < 65536 ∧ dC (stN sd) = oS sd := by
  have p8 := pw8 h8
  have b0 := h 0 (by omega)
  have b1 := h 1 (by omega)
  have b2 := h 2 (by omega)
  have l1 : sd 0 ||| sd 2 < 2 ^ 8 := or_lt (by omega) (by omega)
  have l2 : sd 1 ||| sd 2 < 2 ^ 8 := or_lt (by omega) (by omega)
  constructor
  · have := or_lt (n := 16) (a := sd 0 ||| sd 2) (b := (sd 1 ||| sd 2) * 2 ^ 8) (by omega) (by omega)
    exact this
  · funext b
    unfold dC oS stN
    by_cases hb : b < 8
    · rw [if_pos hb]
      simp only [Nat.testBit_or, tb_shl]
      have e1 : decide (8 ≤ b) = false := by simp; omega
      have e2 : decide (8 ≤ b + 8) = true := by simp
      have e3 : b + 8 - 8 = b := by omega
      rw [e1, e2, e3, tb_big (n := 8) (x := sd 0) (i := b + 8) (by omega) (by omega), tb_big (n := 8) (x := sd 2) (i := b + 8) (by omega) (by omega), Bool.false_and]
      have d01 := hd b 0 1 (by omega) (by omega)
      have d02 := hd b 0 2 (by omega) (by omega)
      have d12 := hd b 1 2 (by omega) (by omega)
      revert d01 d02 d12
      cases (sd 0).testBit b <;> cases (sd 1).testBit b <;> cases (sd 2).testBit b <;> decide
    · rw [if_neg hb, tb_big (n := 8) (by omega) (by omega), tb_big (n := 8) (x := sd 1) (by omega) (by omega), tb_big (n := 8) (x := sd 2) (by omega) (by omega)]
      rfl
theorem r84 {n w m kd : Nat} {sd : Nat → Nat} (h : CW n w m kd sd σ) : R (d + 2) 84 0 [vR 139, vX 9] [] (WS L σ) Q = Q (some (vI (stN sd))) (WS L σ) := by
  obtain ⟨h1, h2, h3, h4, h5, h6, h7, h8, h9, h10, h11⟩ := h
  have p8 := pw8 h2
  have b0 := h9 0 (by omega)
  have b1 := h9 1 (by omega)
  have b2 := h9 2 (by omega)
  have l1 : sd 0 ||| sd 2 < 2 ^ 8 := or_lt (by omega) (by omega)
  have l2 : sd 1 ||| sd 2 < 2 ^ 8 := or_lt (by omega) (by omega)
  rw [b84_0, show vI 2 = vI ((2 : Nat) : Int) from rfl, r72 (by omega)]
  simp only [am_push_s]
  rw [b84_8, show vI 0 = vI ((0 : Nat) : Int) from rfl, r72 (by omega)]
  simp only [am_push_s]
  rw [b84_17, show vI 1 = vI ((1 : Nat) : Int) from rfl, r72 (by omega)]
  simp only [am_push_s]
  rw [b84_27, b0.1, b1.1, b2.1, i_or_nat (by omega) (by omega), i_or_nat (by omega) (by omega)]
  rw [show i_shl ((sd 1 ||| sd 2 : Nat) : Int) 8 = (((sd 1 ||| sd 2) * 2 ^ 8 : Nat) : Int) from i_shl_nat (b := 8) (by omega) (by omega), i_or_nat (by omega) (by omega)]
  rfl
theorem r101 {n : Nat} {W : Nat → Nat → Int} {mv : Nat → Nat} {s0 x c : Nat} (hE : EI n W mv s0 σ) (hx : x < 65536) (hO : Ov n (dC x)) (hc : c < 3) : ∃ σ' : St, EI n W mv s0 σ' ∧ Fr141 σ σ' ∧ ∀ Q, R (d + 20) 101 0 [vR 139, vI x, vI c] [] (WS L σ) Q = Q (some (vI (W c (sdO (EF W mv n (frO n (dC x)) (dC x)) c)))) (WS L σ') := by
  have hcn := fr_cnt hE.1 hO
  have h8 := hE.1
  obtain ⟨σ', y, hE', hF, hy, hd, hR⟩ := s88' (d := d) (L := L) (k := frO n (dC x)) (by omega) σ x 0 hE hx hO rfl (by omega)
  have hmv : ∀ t, t < 8 → mv t < 3 := fun t ht => (hE.2.2.2.2.1 t ht).1
  have hOy : Ov n (dC y) := by rw [hd]; exact EF_Ov hE.1 hmv _ _ hO
  have hsl := sdO_lt (c := c) hOy h8
  have p8 := pw8 h8
  refine ⟨σ', hE', hF, fun Q => ?_⟩
  rw [b101_0]
  refine (hR _).trans ?_
  simp only [am_push_s]
  rw [b101_11, r90 hy hc]
  simp only [am_push_s]
  rw [b101_15, r57 hc (by omega)]
  simp only [am_push_s]
  rw [b101_18, hE'.2.2.1 c _ hc hsl, hd]
theorem r85' {n : Nat} {W : Nat → Nat → Int} {mv : Nat → Nat} {s0 x c : Nat} (hE : EI n W mv s0 σ) (hx : x < 65536) (hO : Ov n (dC x)) (hc : c < 3) : ∃ σ' : St, EI n W mv s0 σ' ∧ Fr141 σ σ' ∧ ∀ Q, R (d + 20) 85 0 [vR 139, vI x, vI c, vI 0, vX 9, vX 9, vX 9, vX 9, vX 9, vX 9] [] (WS L σ) Q = Q (some (vI (bz (chF W mv n (frO n (dC x) - 1) (dC x) c)))) (WS L σ') := by
  have hcn := fr_cnt hE.1 hO
  have h8 := hE.1
  by_cases h0 : frO n (dC x) = 0
  · refine ⟨σ, hE, fun _ _ => rfl, fun Q => ?_⟩
    rw [r85_n hE.2.1 h8 hx hO h0]
    have : chF W mv n (frO n (dC x) - 1) (dC x) c < 0 := by
      unfold chF
      rw [amx_none]
      intro i hi
      simp only [decide_eq_false_iff_not]
      intro hi0
      have := frO_oup (v := 1) hi hi0 (by omega)
      omega
    unfold bz
    rw [if_pos this]
  · obtain ⟨k, hk⟩ : ∃ k, frO n (dC x) = k + 1 := ⟨frO n (dC x) - 1, by omega⟩
    rw [hk]
    have ih : S88 n W mv s0 L (d + 17 + 2) k := s88' (d := d) (by omega)
    exact r85 (dp := 0) ih hx hO hk (by omega) hc σ hE
/-- by whom the best goes on now -/
def mvN (w m kd : Nat) (σ : St) : Nat → Nat := mvF w kd m (fun q => σ 24 q) false
def Fr3 (σ σ' : St) : Prop := ∀ a, a ≠ 139 → a ≠ 140 → a ≠ 141 → σ' a = σ a
theorem Fr3_t {σ σ' σ'' : St} (h : Fr3 σ σ') (h2 : Fr3 σ' σ'') : Fr3 σ σ'' := fun a x y z => (h2 a x y z).trans (h a x y z)
theorem r83n {n w m kd N : Nat} {sd : Nat → Nat} {sw : Bool} (kind : Nat) (h : CW n w m kd sd σ) (hN : N + 1 < 30000) (hE : EN N n σ) : ∃ (σ' : St) (s' : Nat), s' ≤ N + 1 ∧ EI n (Wc σ) (mvF w kind m (fun q => σ 24 q) sw) s' σ' ∧ σ' 139 4 = σ' 20 5 ∧ Fr3 σ σ' ∧ ∀ Q, R (d + 2) 83 0 [vR 139, vI kind, vI (if sw = true then 1 else 0), vX 9, vX 9, vX 9] [] (WS L σ) Q = Q none (WS L σ') := by
  obtain ⟨h1, h2, h3, h4, h5, h6, h7, h8, h9, h10, h11⟩ := h
  obtain ⟨σ', s', a1, a2, a3, a4, a5⟩ := r83 (d := d) (L := L) (kind := kind) (sw := sw) h3 h4 h5 h6 h1 h2 hN hE h11
  exact ⟨σ', s', a1, a2, a3, fun a x y _ => a4 a x y, a5⟩
theorem EN_ret {n s0 N : Nat} {W : Nat → Nat → Int} {mv : Nat → Nat} {σ σ' : St} (h : EI n W mv s0 σ') (hs : s0 ≤ N) (hv : σ 139 4 = σ 20 5) (hf : Fr141 σ σ') : EN N n σ' := EN_of h hs (by rw [hf 139 (by omega), hf 20 (by omega)]; exact hv)
/-- how many are taken, and how many left -/
theorem lf_fr {n : Nat} {sd : Nat → Nat} (h8 : n ≤ 8) : cnt (fun b => (leftC sd n).testBit b) 8 = frO n (oS sd) := by
  have hz : ∀ i, n ≤ i → (leftC sd n).testBit i = false := by
    intro i hi
    unfold leftC
    rw [bits_test, decide_eq_false (by omega), Bool.false_and]
  have e : ∀ m, n + m ≤ 8 → cnt (fun b => (leftC sd n).testBit b) (n + m) = cnt (fun b => (leftC sd n).testBit b) n := by
    intro m
    induction m with
    | zero => intro _; rfl
    | succ m ih =>
      intro hm
      rw [← Nat.add_assoc, cnt, ih (by omega), hz (n + m) (by omega)]
      rfl
  have e2 := e (8 - n) (by omega)
  rw [show n + (8 - n) = 8 by omega] at e2
  rw [e2]
  unfold frO
  refine cnt_congr (fun i hi => ?_)
  unfold leftC
  rw [bits_test, decide_eq_true hi, Bool.true_and]
  unfold oS
  cases (sd 0).testBit i <;> cases (sd 1).testBit i <;> cases (sd 2).testBit i <;> rfl
theorem lf_cn {n : Nat} {sd : Nat → Nat} (h8 : n ≤ 8) (h : ∀ c, c < 3 → sd c < 2 ^ n) : cntO (oS sd) + cnt (fun b => (leftC sd n).testBit b) 8 = n := by
  rw [lf_fr h8]
  exact fr_cnt h8 (oS_Ov h)
theorem r231 {n w m kd : Nat} {sd : Nat → Nat} (h : CW n w m kd sd σ) : R (d + 3) 231 0 [vR 20] [] (WS L σ) Q = Q (some (vI (cntO (oS sd)))) (WS L σ) := by
  have h8 := h.2.1
  have h9 := h.2.2.2.2.2.2.2.2.1
  have p8 := pw8 h8
  have e := lf_cn h8 (fun c hc => (h9 c hc).2)
  have hl : leftC sd n < 256 := Nat.lt_of_lt_of_le (bits_lt _ _) p8
  rw [b231_0, r77 h.1 h8 (fun c hc => (h9 c hc).1) (fun c hc => by have := (h9 c hc).2; omega)]
  simp only [am_push_s]
  rw [b231_8, r42 hl]
  simp only [am_push_s]
  rw [b231_11 (by rw [h.1]; omega), h.1, show (n : Int) - (cnt (fun b => (leftC sd n).testBit b) 8 : Int) = ((cntO (oS sd) : Nat) : Int) by omega]
theorem r82 {n w m kd N c : Nat} {sd : Nat → Nat} (h : CW n w m kd sd σ) (hN : N + 1 < 30000) (hE : EN N n σ) (hc : c < 3) : ∃ σ' : St, EN (N + 1) n σ' ∧ Fr3 σ σ' ∧ ∀ Q, R (d + 21) 82 0 [vR 139, vI c] [] (WS L σ) Q = Q (some (vI (bz (chF (Wc σ) (mvN w m kd σ) n (frO n (oS sd) - 1) (oS sd) c)))) (WS L σ') := by
  obtain ⟨σ1, s1, a1, a2, a3, a4, a5⟩ := r83n (d := d + 18) (L := L) (sw := false) kd h hN hE
  have hC := CW_fr h a4
  obtain ⟨y1, y2⟩ := stN_r (fun c hc => (h.2.2.2.2.2.2.2.2.1 c hc).2) h.2.1 h.2.2.2.2.2.2.2.2.2.1
  have hOv : Ov n (dC (stN sd)) := by rw [y2]; exact oS_Ov (fun c hc => (h.2.2.2.2.2.2.2.2.1 c hc).2)
  obtain ⟨σ2, b1, b2, b3⟩ := r85' (d := d) (L := L) a2 y1 hOv hc
  refine ⟨σ2, EN_ret b1 a1 a3 b2, fun a x y z => (b2 a z).trans (a4 a x y z), fun Q => ?_⟩
  rw [b82_0, h.2.2.2.2.2.2.1, show vI 0 = vI (if false = true then 1 else 0) from rfl, a5]
  simp only [am_push_n]
  rw [b82_12, r84 hC]
  simp only [am_push_s]
  rw [b82_17]
  refine (b3 _).trans ?_
  simp only [am_push_s]
  rw [b82_22, y2]
  rfl
theorem r99 {n w m kd N : Nat} {sd : Nat → Nat} (h : CW n w m kd sd σ) (hN : N + 1 < 30000) (hE : EN N n σ) : ∃ σ' : St, EN (N + 1) n σ' ∧ Fr3 σ σ' ∧ ∀ Q, R (d + 22) 99 0 [vR 19] [] (WS L σ) Q = Q (some (vI (bz (chF (Wc σ) (mvN w m kd σ) n (frO n (oS sd) - 1) (oS sd) (mvN w m kd σ (cntO (oS sd))))))) (WS L σ') := by
  have hk := tkC_r (kind := kd) (t := cntO (oS sd)) (m := m) (told := fun q => σ 24 q) h.2.2.2.1
  have h4 := h.2.2.2.1
  have h8 := h.2.1
  have hcn := lf_cn h8 (fun c hc => (h.2.2.2.2.2.2.2.2.1 c hc).2)
  have hm : mvN w m kd σ (cntO (oS sd)) = (tkC w kd (cntO (oS sd)) m (fun q => σ 24 q)).toNat := by
    unfold mvN mvF
    rw [if_neg (by simp)]
  obtain ⟨σ1, a1, a2, a3⟩ := r82 (d := d) (L := L) (c := mvN w m kd σ (cntO (oS sd))) h hN hE (by omega)
  refine ⟨σ1, a1, a2, fun Q => ?_⟩
  rw [b99_0, r231 h]
  simp only [am_push_s]
  rw [b99_22, h.2.2.2.2.2.2.1, r63 h.2.2.1 h4 (by omega) h.2.2.2.2.1 h.2.2.2.2.2.1]
  simp only [am_push_s]
  rw [b99_25, show tkC w kd (cntO (oS sd)) m (fun q => σ 24 q) = ((mvN w m kd σ (cntO (oS sd)) : Nat) : Int) by omega]
  refine (a3 _).trans ?_
  simp only [am_push_s]
  rw [b99_28]
theorem r100 {n w m kd N c : Nat} {sd : Nat → Nat} (h : CW n w m kd sd σ) (hN : N + 1 < 30000) (hE : EN N n σ) (hc : c < w) : ∃ σ' : St, EN (N + 1) n σ' ∧ Fr3 σ σ' ∧ ∀ Q, R (d + 21) 100 0 [vR 19, vI c] [] (WS L σ) Q = Q (some (vI (Wc σ c (sdO (EF (Wc σ) (mvN w m kd σ) n (frO n (oS sd)) (oS sd)) c)))) (WS L σ') := by
  obtain ⟨σ1, s1, a1, a2, a3, a4, a5⟩ := r83n (d := d + 18) (L := L) (sw := false) kd h hN hE
  have hC := CW_fr h a4
  have hw := h.2.2.2.1
  obtain ⟨y1, y2⟩ := stN_r (fun c hc => (h.2.2.2.2.2.2.2.2.1 c hc).2) h.2.1 h.2.2.2.2.2.2.2.2.2.1
  have hOv : Ov n (dC (stN sd)) := by rw [y2]; exact oS_Ov (fun c hc => (h.2.2.2.2.2.2.2.2.1 c hc).2)
  obtain ⟨σ2, b1, b2, b3⟩ := r101 (d := d) (L := L) (c := c) a2 y1 hOv (by omega)
  refine ⟨σ2, EN_ret b1 a1 a3 b2, fun a x y z => (b2 a z).trans (a4 a x y z), fun Q => ?_⟩
  rw [b100_0, r13, h.2.2.1]
  simp only [am_push_s]
  rw [b100_11]
  simp only [tI_0]
  rw [if_pos (by omega), b100_18, h.2.2.2.2.2.2.1, show vI 0 = vI (if false = true then 1 else 0) from rfl, a5]
  simp only [am_push_n]
  rw [b100_33, r84 hC]
  simp only [am_push_s]
  rw [b100_44]
  refine (b3 _).trans ?_
  simp only [am_push_s]
  rw [b100_48, y2]
  rfl
theorem r100n {c : Int} {w : Nat} (hw : σ 20 1 = (w : Int)) (hc : ¬ (0 ≤ c ∧ c < w)) : R (d + 1) 100 0 [vR 19, vI c] [] (WS L σ) Q = Q (some (vI (-1001))) (WS L σ) := by
  rw [b100_0, r13, hw]
  simp only [am_push_s]
  rw [b100_11]
  simp only [tI_0]
  rw [if_neg (by simpa using hc), b100_14]
end BE
