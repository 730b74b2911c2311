/-! the calls of the class, by the array: the best, picks -/
def mvS (s : Int → Int) (kind : Nat) (sw : Bool) : Nat → Nat := mvF (s 2).toNat kind (s 5).toNat (fun i => s (187 + i)) sw
def oW (s : Int → Int) (b : Nat) : Nat := if b < nS s then (s (203 + b) + 1).toNat else 0
theorem jS_congr {W W' : Nat → Nat → Int} {mv mv' : Nat → Nat} {n z : Nat} {row row' : Nat → Int} (h8 : n ≤ 8) (hW : ∀ c x, c < 3 → x < 2 ^ n → W c x = W' c x) (hm : ∀ t, t < 8 → mv t < 3 ∧ mv t = mv' t) (hz : z ≤ 8) (hr : ∀ t, t < z → row t = row' t) : ∀ t, t ≤ z → jS W mv n row t = jS W' mv' n row' t := by
  intro t
  induction t with
  | zero => intro _; rfl
  | succ t ih =>
    intro ht
    have e := ih (by omega)
    have hO := (jS_r (W := W) (mv := mv) (row := row) h8 (fun t ht => (hm t ht).1) t (by omega)).2.2.2.1
    have hm8 : ∀ t, t < 8 → mv t < 3 := fun t ht => (hm t ht).1
    obtain ⟨m1, m2⟩ := hm t (by omega)
    have val : ∀ o, Ov n o → W (mv t) (sdO (EF W mv n (frO n o) o) (mv t)) = W' (mv' t) (sdO (EF W' mv' n (frO n o) o) (mv' t)) := by
      intro o ho
      rw [← m2, ← EF_congr h8 hW hm _ o ho]
      exact hW _ _ m1 (sdO_lt (EF_Ov h8 hm8 _ _ ho) h8)
    rw [jS, jS]
    dsimp only
    rw [← e, ← hr t (by omega), ← m2]
    by_cases q1 : 0 ≤ (jS W mv n row t).2.1
    · rw [if_pos q1, if_pos q1]
    · rw [if_neg q1, if_neg q1]
      by_cases q2 : ¬ (0 ≤ row t ∧ row t < n) ∨ (jS W mv n row t).1 (row t).toNat ≠ 0
      · rw [if_pos q2, if_pos q2]
      · rw [if_neg q2, if_neg q2]
        have hb : (row t).toNat < n := by omega
        have v1 := val _ hO
        have v2 := val _ (Ov_oup hO hb (show mv t + 1 ≤ 3 by omega))
        rw [← m2] at v1 v2
        rw [v1, v2]
section OE
variable {d L N : Nat} {s s' : Int → Int} {cl cl' : Nat → List Cl} {σ σ1 : St} {Q : Option AV → AW → Prop}
theorem tkC_t {w kind t m : Nat} {f g : Nat → Int} (h : ∀ i, i < m → f i = g i) : tkC w kind t m f = tkC w kind t m g := tkC_congr h
theorem mvF_congr {w kind m : Nat} {f g : Nat → Int} {sw : Bool} (h : ∀ i, i < m → f i = g i) : mvF w kind m f sw = mvF w kind m g sw := by
  funext t
  unfold mvF
  rw [tkC_t h]
theorem mvS_c (hw : WF s cl) (h : C2 20 s σ) {kind : Nat} {sw : Bool} : mvF (s 2).toNat kind (s 5).toNat (fun q => σ 24 q) sw = mvS s kind sw := by
  have w0 := hw.1
  unfold W0 at w0
  exact mvF_congr (fun i hi => h.2 i (by omega))
theorem mvS_r (hw : W0 s) {kind t : Nat} {sw : Bool} : mvS s kind sw t < 3 := by
  unfold W0 at hw
  exact mvF_r (by omega)
theorem W2_sw (hw : W0 s) : (s 2).toNat = 2 ∨ (s 2).toNat = 3 := by
  unfold W0 at hw
  omega
theorem Wc_eq (h7 : C7 20 s cl σ) : ∀ c x, c < 3 → x < 2 ^ nS s → Wc σ c x = Wr s cl c x := fun c x hc hx => h7 c x hc hx
theorem Wc_b (hw : WF s cl) (h7 : C7 20 s cl σ) : ∀ c x, c < 3 → x < 2 ^ nS s → Wc σ c x < 1000000 := by
  intro c x hc hx
  rw [Wc_eq h7 c x hc hx]
  have := Wr_b hw (c := c) (x := x) hc
  omega
theorem oS_W (hw : W4 s) (h2 : s 2 = 2 ∨ s 2 = 3) : oS (sdS s) = oW s := by
  funext b
  unfold oS oW
  simp only [sdS_tb]
  by_cases hb : b < nS s
  · have := (hw b (by unfold nS at hb; omega)).2.2.2
    rw [if_pos hb]
    simp only [hb, decide_true, Bool.true_and, decide_eq_true_eq]
    repeat' split
    all_goals omega
  · rw [if_neg hb]
    simp [hb]
theorem oW_Ov (hw : W4 s) (h2 : s 2 = 2 ∨ s 2 = 3) : Ov (nS s) (oW s) := by
  constructor
  · intro b
    unfold oW
    split
    · rename_i hb
      have := (hw b (by unfold nS at hb; omega)).2.2.2
      omega
    · omega
  · intro b hb
    unfold oW
    rw [if_neg (by omega)]
def kdS (s : Int → Int) : Nat := (s 4).toNat
/-- whom a captain takes best, sides being as now -/
def bsS (s : Int → Int) (cl : Nat → List Cl) (c : Nat) : Int := chF (Wr s cl) (mvS s (kdS s) false) (nS s) (frO (nS s) (oW s) - 1) (oW s) c
def aBest (s : Int → Int) (cl : Nat → List Cl) : Int := bz (bsS s cl (mvS s (kdS s) false (cntO (oW s))))
/-- what a side at the end is worth -/
def vlS (s : Int → Int) (cl : Nat → List Cl) (kind : Nat) (sw : Bool) (o : Nat → Nat) (c : Nat) : Int := Wr s cl c (sdO (EF (Wr s cl) (mvS s kind sw) (nS s) (frO (nS s) o) o) c)
def aValue (s : Int → Int) (cl : Nat → List Cl) (c : Int) : Int := if 0 ≤ c ∧ c < s 2 then vlS s cl (kdS s) false (oW s) c.toNat else -1001
def jdS (s : Int → Int) (cl : Nat → List Cl) : (Nat → Nat) × Int × Int × Int := jS (Wr s cl) (mvS s (kdS s) false) (nS s) (fun q => s (195 + q)) (s 6).toNat
def aJudged (s : Int → Int) (cl : Nat → List Cl) (k : Int) : Int := if 0 ≤ k ∧ k < 3 then (if k = 0 then (jdS s cl).2.1 else if k = 1 then (jdS s cl).2.2.1 else (jdS s cl).2.2.2) else -1
def fiS (s : Int → Int) (cl : Nat → List Cl) (k : Nat) : Int := fiF (Wr s cl) (s 2).toNat (s 5).toNat (nS s) (fun i => s (187 + i)) k
def aFirst (s : Int → Int) (cl : Nat → List Cl) (k : Int) : Int := if 0 ≤ k ∧ k < 3 then fiS s cl k.toNat else -1001
def aFairest (s : Int → Int) (cl : Nat → List Cl) : Int := faF (fiS s cl)
theorem fi_eq (hw : WF s cl) (h7 : C7 20 s cl σ) (h2 : C2 20 s σ) (k : Nat) : fiF (Wc σ) (s 2).toNat (s 5).toNat (nS s) (fun q => σ 24 q) k = fiS s cl k := by
  have n8 := (nS_8 hw.1).1
  unfold fiS fiF
  have O0 : Ov (nS s) (fun _ => 0) := ⟨fun _ => Nat.zero_le _, fun _ _ => rfl⟩
  have e : ∀ sw, Wc σ 0 (sdO (EF (Wc σ) (mvF (s 2).toNat k (s 5).toNat (fun q => σ 24 q) sw) (nS s) (nS s) (fun _ => 0)) 0) = Wr s cl 0 (sdO (EF (Wr s cl) (mvF (s 2).toNat k (s 5).toNat (fun i => s (187 + i)) sw) (nS s) (nS s) (fun _ => 0)) 0) := by
    intro sw
    rw [mvS_c hw h2]
    have hm : ∀ t, t < 8 → mvS s k sw t < 3 ∧ mvS s k sw t = mvS s k sw t := fun t _ => ⟨mvS_r hw.1, rfl⟩
    rw [EF_congr n8 (Wc_eq h7) hm _ _ O0]
    exact Wc_eq h7 _ _ (by omega) (sdO_lt (EF_Ov n8 (fun t ht => (hm t ht).1) _ _ O0) n8)
  rw [e, e]
theorem Fr3_rd {σ1 : St} (h : Fr3 σ σ1) : ∀ a, a < 134 ∨ 150 ≤ a → σ1 a = σ a := fun a ha => h a (by omega) (by omega) (by omega)
theorem bs_eq (hw : WF s cl) (h7 : C7 20 s cl σ) (h2 : C2 20 s σ) {c : Nat} (hc : c < 3) : chF (Wc σ) (mvN (s 2).toNat (s 5).toNat (kdS s) σ) (nS s) (frO (nS s) (oS (sdS s)) - 1) (oS (sdS s)) c = bsS s cl c := by
  have w0 := hw.1
  have w4 := hw.2.2.2.2.1
  have n8 := (nS_8 w0).1
  have w0' := w0
  unfold W0 at w0'
  unfold bsS mvN
  rw [oS_W w4 w0'.2.2.1, mvS_c hw h2]
  exact chF_congr n8 (Wc_eq h7) (fun t _ => ⟨mvS_r w0, rfl⟩) (oW_Ov w4 w0'.2.2.1) hc
theorem k99 (h : HC N s cl σ) : ∃ σ1 : St, CP N s cl σ σ1 ∧ ∀ Q, R (d + 30) 99 0 [vR 19] [] (WS L σ) Q = Q (some (vI (aBest s cl))) (WS L σ1) := by
  have h' := h
  obtain ⟨hw, hr, hE, hv⟩ := h
  have w0 := hw.1
  unfold W0 at w0
  obtain ⟨σ1, a1, a2, a3⟩ := r99 (d := d + 8) (L := L) (CR_CW hw hr) (by omega) hE
  refine ⟨σ1, CP_rd h' (Fr3_rd a2) (EN_mono a1 (by omega)), fun Q => ?_⟩
  rw [a3]
  have e : mvN (s 2).toNat (s 5).toNat (s 4).toNat σ = mvS s (kdS s) false := mvS_c hw hr.2.2.1
  have e2 := bs_eq hw hr.2.2.2.2.2.2.2.1 hr.2.2.1 (mvS_r hw.1 (kind := kdS s) (sw := false) (t := cntO (oW s)))
  unfold aBest
  rw [← e2, e, oS_W hw.2.2.2.2.1 w0.2.2.1]
  unfold mvN
  rw [mvS_c hw hr.2.2.1]
theorem k100 {x : Int} (h : HC N s cl σ) : ∃ σ1 : St, CP N s cl σ σ1 ∧ ∀ Q, R (d + 30) 100 0 [vR 19, vI x] [] (WS L σ) Q = Q (some (vI (aValue s cl x))) (WS L σ1) := by
  have h' := h
  obtain ⟨hw, hr, hE, hv⟩ := h
  have w0 := hw.1
  have n8 := (nS_8 w0).1
  have w0' := w0
  unfold W0 at w0
  have hcw := CR_CW hw hr
  unfold aValue
  by_cases q : 0 ≤ x ∧ x < s 2
  · obtain ⟨c, rfl⟩ : ∃ c : Nat, x = (c : Int) := ⟨x.toNat, by omega⟩
    obtain ⟨σ1, a1, a2, a3⟩ := r100 (d := d + 9) (L := L) (c := c) hcw (by omega) hE (by omega)
    refine ⟨σ1, CP_rd h' (Fr3_rd a2) (EN_mono a1 (by omega)), fun Q => ?_⟩
    rw [a3, if_pos q, Int.toNat_natCast]
    have O0 := oW_Ov hw.2.2.2.2.1 w0.2.2.1
    have hm : ∀ t, t < 8 → mvS s (kdS s) false t < 3 ∧ mvS s (kdS s) false t = mvS s (kdS s) false t := fun t _ => ⟨mvS_r w0', rfl⟩
    unfold vlS mvN
    rw [oS_W hw.2.2.2.2.1 w0.2.2.1, mvS_c hw hr.2.2.1]
    have e := EF_congr n8 (Wc_eq hr.2.2.2.2.2.2.2.1) hm (frO (nS s) (oW s)) _ O0
    unfold kdS at *
    rw [e, Wc_eq hr.2.2.2.2.2.2.2.1 _ _ (by omega) (sdO_lt (EF_Ov n8 (fun t ht => (hm t ht).1) _ _ O0) n8)]
  · refine ⟨σ, CP_r h', fun Q => ?_⟩
    have c0 := hr.1
    unfold C0 at c0
    rw [r100n (w := (s 2).toNat) (by rw [c0.2.1]; omega) (by omega), if_neg q]
theorem jd_eq (hw : WF s cl) (hr : CR 20 s cl σ) : jS (Wc σ) (mvN (s 2).toNat (s 5).toNat (s 4).toNat σ) (nS s) (fun q => σ 26 q) (s 6).toNat = jdS s cl := by
  have w0 := hw.1
  have n8 := (nS_8 w0).1
  unfold jdS mvN
  rw [mvS_c hw hr.2.2.1]
  unfold W0 at w0
  exact jS_congr n8 (Wc_eq hr.2.2.2.2.2.2.2.1) (fun t _ => ⟨mvS_r hw.1, rfl⟩) (by omega) (fun t ht => hr.2.2.2.1.2 t (by omega)) _ (Nat.le_refl _)
theorem k103 {x : Int} (h : HC N s cl σ) : ∃ σ1 : St, CP N s cl σ σ1 ∧ ∀ Q, R (d + 30) 103 0 [vR 19, vI x] [] (WS L σ) Q = Q (some (vI (aJudged s cl x))) (WS L σ1) := by
  have h' := h
  obtain ⟨hw, hr, hE, hv⟩ := h
  have w0 := hw.1
  have w3 := hw.2.2.2.1
  unfold W0 at w0
  have c3 := hr.2.2.2.1
  obtain ⟨σ1, a1, a2, a3⟩ := r103 (d := d + 8) (L := L) (k := x) (z := (s 6).toNat) (CR_CW hw hr) (by omega) hE (by omega) (by rw [show σ 25 1 = s 6 from c3.1]; omega) (fun t ht => by
    have e := c3.2 t (by omega)
    have e2 := w3 t (by omega)
    rw [show σ 26 t = s (195 + t) from e]
    exact e2) (Wc_b hw hr.2.2.2.2.2.2.2.1)
  refine ⟨σ1, CP_rd h' (fun a ha => a2 a (by omega) (by omega) (by omega) (by omega)) (EN_mono a1 (by omega)), fun Q => ?_⟩
  rw [a3, jd_eq hw hr]
  rfl
theorem k106 {x : Int} (h : HC N s cl σ) : ∃ σ1 : St, CP N s cl σ σ1 ∧ ∀ Q, R (d + 30) 106 0 [vR 19, vI x] [] (WS L σ) Q = Q (some (vI (aFirst s cl x))) (WS L σ1) := by
  have h' := h
  obtain ⟨hw, hr, hE, hv⟩ := h
  have w0 := hw.1
  unfold W0 at w0
  obtain ⟨σ1, a1, a2, a3⟩ := r106 (d := d + 8) (L := L) (k := x) (CR_CW hw hr) (by omega) hE (Wc_b hw hr.2.2.2.2.2.2.2.1)
  refine ⟨σ1, CP_rd h' (Fr3_rd a2) (EN_mono a1 (by omega)), fun Q => ?_⟩
  rw [a3]
  unfold aFirst
  rw [fi_eq hw hr.2.2.2.2.2.2.2.1 hr.2.2.1]
theorem fiS_b (hw : WF s cl) (k : Nat) : -1000000 < fiS s cl k ∧ fiS s cl k < 1000000 := by
  unfold fiS fiF
  have b1 := Wr_b hw (c := 0) (x := sdO (EF (Wr s cl) (mvF (s 2).toNat k (s 5).toNat (fun i => s (187 + i)) false) (nS s) (nS s) (fun _ => 0)) 0) (by omega)
  have b2 := Wr_b hw (c := 0) (x := sdO (EF (Wr s cl) (mvF (s 2).toNat k (s 5).toNat (fun i => s (187 + i)) true) (nS s) (nS s) (fun _ => 0)) 0) (by omega)
  omega
theorem k108 (h : HC N s cl σ) : ∃ σ1 : St, CP N s cl σ σ1 ∧ ∀ Q, R (d + 30) 108 0 [vR 19, vX 9, vX 9, vX 9, vX 9] [] (WS L σ) Q = Q (some (vI (aFairest s cl))) (WS L σ1) := by
  have h' := h
  obtain ⟨hw, hr, hE, hv⟩ := h
  have w0 := hw.1
  unfold W0 at w0
  have e : fiF (Wc σ) (s 2).toNat (s 5).toNat (nS s) (fun q => σ 24 q) = fiS s cl := by
    funext k
    exact fi_eq hw hr.2.2.2.2.2.2.2.1 hr.2.2.1 k
  obtain ⟨σ1, a1, a2, a3⟩ := r108 (d := d + 8) (L := L) (CR_CW hw hr) (by omega) hE (Wc_b hw hr.2.2.2.2.2.2.2.1) (fun k => by rw [e]; exact fiS_b hw k)
  refine ⟨σ1, CP_rd h' (Fr3_rd a2) (EN_mono a1 (by omega)), fun Q => ?_⟩
  rw [a3, e]
  rfl
/-- whom nobody has; friends; last ones; whom one picks -/
def leftS (s : Int → Int) : Nat := bits (fun b => decide (s (203 + b) = -1)) (nS s)
def frS (s : Int → Int) (c : Int) : Nat := bits (fun b => decide (s (146 + b) = c)) (nS s)
def tlS (s : Int → Int) (b : Nat) : Nat := cnt (fun k => decide (s (1381 + 8 * k + (s (1369 + k) - 1)) = b)) (s 3).toNat
def dearS (s : Int → Int) (cl : Nat → List Cl) (c x : Nat) : Int := bz (amx (fun b => x.testBit b) (fun b => Wr s cl c (sdS s c ||| 2 ^ b)) 8)
def ahS (s : Int → Int) (c x : Nat) : Nat := ahC (nS s) (s 2).toNat (s 5).toNat (kdS s) (fun i => s (187 + i)) c x
def pkS (s : Int → Int) (cl : Nat → List Cl) (c : Nat) : Int :=
  if leftS s = 0 then -5
  else if s (157 + c) = 1 then dearS s cl c (leftS s)
  else if s (157 + c) = 2 then dearS s cl (ahS s c (leftS s)) (leftS s)
  else if s (157 + c) = 3 then dearS s cl c (fgC (frS s c) (leftS s))
  else if s (157 + c) = 4 then bz (bsS s cl c)
  else if s (157 + c) = 5 then flC (fun q => s (163 + 8 * c + q)) (s (160 + c)).toNat (leftS s)
  else if s (157 + c) = 6 then dearS s cl c (oflC (fun b => (leftS s).testBit b) (tlS s) 8)
  else bz (amx (fun b => (leftS s).testBit b) (fun _ => 0) 8)
theorem left_eq (hw : W4 s) (h2 : s 2 = 2 ∨ s 2 = 3) : leftC (sdS s) (nS s) = leftS s := by
  unfold leftC leftS
  refine bits_congr (fun b hb => ?_)
  have := (hw b (by unfold nS at hb; omega)).2.2.2
  simp only [sdS_tb, hb, decide_true, Bool.true_and]
  by_cases q : s (203 + b) = -1
  · rw [q]
    rfl
  · have h3 : s (203 + b) = 0 ∨ s (203 + b) = 1 ∨ s (203 + b) = 2 := by omega
    rcases h3 with e | e | e <;> rw [e] <;> rfl
theorem leftS_sub {b : Nat} (h : (leftS s).testBit b = true) : b < nS s ∧ s (203 + b) = -1 := by
  unfold leftS at h
  rw [bits_test] at h
  simpa using h
theorem mxN_congr {ok ok' : Nat → Bool} {v v' : Nat → Nat} : ∀ {n : Nat}, (∀ i, i < n → ok i = ok' i) → (∀ i, i < n → v i = v' i) → mxN ok v n = mxN ok' v' n
  | 0, _, _ => rfl
  | n + 1, h1, h2 => by rw [mxN, mxN, mxN_congr (fun i hi => h1 i (by omega)) (fun i hi => h2 i (by omega)), h1 n (by omega), h2 n (by omega)]
theorem ofl_congr {ok : Nat → Bool} {v v' : Nat → Nat} {n : Nat} (h : ∀ i, i < n → v i = v' i) : oflC ok v n = oflC ok v' n := by
  unfold oflC
  exact bits_congr (fun i hi => by rw [h i hi, mxN_congr (fun _ _ => rfl) h])
theorem tl_eq (hw : WF s cl) (h9 : C9 20 s σ) {b : Nat} : tlC σ (s 3).toNat b = tlS s b := by
  obtain ⟨w0, -, -, -, -, -, -, -, w9⟩ := hw
  unfold W0 at w0
  unfold tlC tlS
  refine cnt_congr (fun k hk => ?_)
  obtain ⟨x1, x2, x3⟩ := w9 k (by omega)
  obtain ⟨y1, y2⟩ := h9.2 k (by omega)
  obtain ⟨t, ht⟩ : ∃ t : Nat, s (1369 + k) = (t : Int) + 1 := ⟨(s (1369 + k) - 1).toNat, by omega⟩
  have e := y2 t (by omega)
  obtain ⟨x4, x5⟩ := x2 t (by omega)
  have ez : zS σ k - 1 = t := by
    unfold zS
    rw [show σ (53 + 2 * k) 1 = σ (20 + 33 + 2 * k) 1 by rw [show 53 + 2 * k = 20 + 33 + 2 * k by omega], y1, ht]
    omega
  have ei : itS σ k t = (8 * s (1477 + 8 * k + t) + s (1381 + 8 * k + t)).toNat := by
    unfold itS
    rw [show σ (54 + 2 * k) t = σ (20 + 34 + 2 * k) t by rw [show 54 + 2 * k = 20 + 34 + 2 * k by omega], e]
  rw [ez, ei, ht, show (t : Int) + 1 - 1 = t by omega]
  congr 1
  apply propext
  constructor
  · intro h
    omega
  · intro h
    omega
theorem SU_of (hw : WF s cl) (h0 : C0 20 s σ) (h9 : C9 20 s σ) : SU (s 3).toNat σ := by
  obtain ⟨w0, -, -, -, -, -, -, -, w9⟩ := hw
  unfold W0 at w0
  unfold C0 at h0
  refine ⟨by rw [h0.2.2.2.2]; omega, by omega, fun k hk => ?_⟩
  obtain ⟨x1, x2, x3⟩ := w9 k (by omega)
  obtain ⟨y1, y2⟩ := h9.2 k (by omega)
  rw [show 53 + 2 * k = 20 + 33 + 2 * k by omega, show 54 + 2 * k = 20 + 34 + 2 * k by omega, y1]
  refine ⟨x1.1, by omega, fun j hj => ?_⟩
  rw [y2 j hj]
  have := x2 j hj
  omega
theorem pkc_eq (hw : WF s cl) (hr : CR 20 s cl σ) {c : Nat} (hc : c < 3) : pkC (nS s) (s 2).toNat (s 5).toNat (s 4).toNat (s 3).toNat (s (157 + c)).toNat (s (160 + c)).toNat (sdS s) σ c = pkS s cl c := by
  have hw' := hw
  have hr' := hr
  obtain ⟨w0, w1, w2, w3, w4, w5, w6, w8, w9⟩ := hw
  obtain ⟨c0, c1, c2, c3, c4, c5, c6, c7, c8, c9⟩ := hr
  have n8 := (nS_8 w0).1
  have w0' := w0
  unfold W0 at w0
  have w5' := (w5 c hc).2
  have w6' := (w6 c hc).1
  have p8 := pw8 n8
  have dear : ∀ c x : Nat, c < 3 → (∀ b, x.testBit b = true → b < nS s) → dearC (Wc σ) (sdS s) c x = dearS s cl c x := by
    intro c x hc hx
    unfold dearC dearS
    congr 1
    refine amx_congr (fun _ _ => rfl) (fun b hb hbx => ?_)
    exact Wc_eq c7 c _ hc (or_lt sdS_lt (two_pow_lt (hx b hbx)))
  have hl : ∀ b, (leftS s).testBit b = true → b < nS s := fun b hb => (leftS_sub hb).1
  have ea : ahC (nS s) (s 2).toNat (s 5).toNat (s 4).toNat (fun q => σ 24 q) c (leftS s) = ahS s c (leftS s) := by
    unfold ahS ahC
    rw [tkC_t (f := fun q => σ 24 q) (g := fun i => s (187 + i)) (fun i hi => c2.2 i (by omega))]
    rfl
  have ea3 : ahS s c (leftS s) < 3 := by
    unfold ahS ahC
    have := tkC_r (kind := kdS s) (t := nS s - cnt (fun b => (leftS s).testBit b) 8 + 1) (m := (s 5).toNat) (told := fun i => s (187 + i)) (W2_sw w0')
    split <;> omega
  have ef : bits (fun b => decide (tr σ 2 b = c)) (nS s) = frS s c := by
    unfold frS
    refine bits_congr (fun b hb => ?_)
    have h1 := c4 b 2 (by unfold nS at hb; omega) (by omega)
    have h2 := (w4 b (by unfold nS at hb; omega)).2.2.1
    rw [show tr σ 2 b = trS s 2 b from h1]
    unfold trS
    rw [if_neg (by omega), if_neg (by omega), if_pos rfl]
    congr 1
    apply propext
    split <;> omega
  have eb : chF (Wc σ) (mvN (s 2).toNat (s 5).toNat (s 4).toNat σ) (nS s) (frO (nS s) (oS (sdS s)) - 1) (oS (sdS s)) c = bsS s cl c := bs_eq hw' c7 c2 hc
  unfold pkC pkS
  rw [left_eq w4 w0.2.2.1, ea, ef, eb]
  have en1 : ((s (157 + c)).toNat = 1) = (s (157 + c) = 1) := propext (by omega)
  have en2 : ((s (157 + c)).toNat = 2) = (s (157 + c) = 2) := propext (by omega)
  have en3 : ((s (157 + c)).toNat = 3) = (s (157 + c) = 3) := propext (by omega)
  have en4 : ((s (157 + c)).toNat = 4) = (s (157 + c) = 4) := propext (by omega)
  have en5 : ((s (157 + c)).toNat = 5) = (s (157 + c) = 5) := propext (by omega)
  have en6 : ((s (157 + c)).toNat = 6) = (s (157 + c) = 6) := propext (by omega)
  rw [dear c _ hc hl, dear _ _ ea3 hl, dear c _ hc (fun b hb => hl b (fg_sub hb)), dear c _ hc (fun b hb => hl b (ofl_sub hb))]
  have e5 : flC (fun q => σ (47 + 2 * c) q) (s (160 + c)).toNat (leftS s) = flC (fun q => s (163 + 8 * c + q)) (s (160 + c)).toNat (leftS s) := by
    have er : ∀ q : Nat, q < (s (160 + c)).toNat → σ (47 + 2 * c) q = s (163 + 8 * c + q) := fun q hq => by
      rw [show 47 + 2 * c = 20 + 27 + 2 * c by omega]
      exact (c6 c hc).2 q (by omega)
    unfold flC
    have e1 : amx (fun k : Nat => (leftS s).testBit (σ (47 + 2 * c) k).toNat) (fun _ => 0) (s (160 + c)).toNat = amx (fun k : Nat => (leftS s).testBit (s (163 + 8 * c + k)).toNat) (fun _ => 0) (s (160 + c)).toNat := amx_congr (fun i hi => by rw [er i hi]) (fun _ _ _ => rfl)
    have r := amx_r (fun k : Nat => (leftS s).testBit (s (163 + 8 * c + k)).toNat) (fun _ => 0) (s (160 + c)).toNat
    rw [e1]
    split
    · rfl
    · exact er _ (by omega)
  have e6 : oflC (fun b => (leftS s).testBit b) (tlC σ (s 3).toNat) 8 = oflC (fun b => (leftS s).testBit b) (tlS s) 8 := ofl_congr (fun i _ => tl_eq hw' c9)
  rw [e5, e6]
  simp only [en1, en2, en3, en4, en5, en6]
theorem r76' (h : HC N s cl σ) {c : Nat} (hc : c < 3) : ∃ σ1 : St, EN (N + 1) (nS s) σ1 ∧ Fr3 σ σ1 ∧ ∀ Q, R (d + 22) 76 0 [vR 142, vI c, vX 9] [] (WS L σ) Q = Q (some (vI (pkS s cl c))) (WS L σ1) := by
  obtain ⟨hw, hr, hE, hv⟩ := h
  have w0 := hw.1
  unfold W0 at w0
  have w5' := (hw.2.2.2.2.2.1 c hc).2
  have w6' := hw.2.2.2.2.2.2.1 c hc
  have c5' := hr.2.2.2.2.2.1 c hc
  have c6' := hr.2.2.2.2.2.2.1 c hc
  obtain ⟨σ1, a1, a2, a3⟩ := r76 (d := d) (L := L) (c := c) (way := (s (157 + c)).toNat) (z := (s (160 + c)).toNat) (CR_CW hw hr) (SU_of hw hr.1 hr.2.2.2.2.2.2.2.2.2) (by omega) hE hc (by rw [show σ 29 c = s (157 + c) from c5'.2.1]; omega) (by rw [show 46 + 2 * c = 20 + 26 + 2 * c by omega, c6'.1]; omega) (by omega) (fun i hi => by
    rw [show 47 + 2 * c = 20 + 27 + 2 * c by omega, c6'.2 i (by omega)]
    exact w6'.2 i (by omega))
  exact ⟨σ1, a1, a2, fun Q => by rw [a3, pkc_eq hw hr hc]⟩
def aPicks (s : Int → Int) (cl : Nat → List Cl) (c : Int) : Int := if 0 ≤ c ∧ c < s 2 then pkS s cl c.toNat else -1
theorem k75 {x : Int} (h : HC N s cl σ) : ∃ σ1 : St, CP N s cl σ σ1 ∧ ∀ Q, R (d + 30) 75 0 [vR 19, vI x] [] (WS L σ) Q = Q (some (vI (aPicks s cl x))) (WS L σ1) := by
  have h' := h
  obtain ⟨hw, hr, hE, hv⟩ := h
  have w0 := hw.1
  unfold W0 at w0
  have c0 := hr.1
  unfold C0 at c0
  unfold aPicks
  by_cases q : 0 ≤ x ∧ x < s 2
  · obtain ⟨c, rfl⟩ : ∃ c : Nat, x = (c : Int) := ⟨x.toNat, by omega⟩
    obtain ⟨σ1, a1, a2, a3⟩ := r76' (d := d + 7) (L := L) (c := c) h' (by omega)
    refine ⟨σ1, CP_rd h' (Fr3_rd a2) (EN_mono a1 (by omega)), fun Q => ?_⟩
    rw [b75_0, r13, c0.2.1]
    simp only [am_push_s]
    rw [b75_11]
    simp only [tI_0]
    rw [if_neg (by omega), b75_14, a3, if_pos q, Int.toNat_natCast]
    simp only [am_push_s]
    rw [b75_22, b75_26]
  · refine ⟨σ, CP_r h', fun Q => ?_⟩
    rw [b75_0, r13, c0.2.1]
    simp only [am_push_s]
    rw [b75_11]
    simp only [tI_0]
    rw [if_pos (by omega), if_neg q, b75_25, b75_26]
def aLast (s : Int → Int) (b : Int) : Int := if 0 ≤ b ∧ b < s 0 then (tlS s b.toNat : Int) else -1
theorem k127 {x : Int} (h : HC N s cl σ) : ∃ σ1 : St, CP N s cl σ σ1 ∧ ∀ Q, R (d + 30) 127 0 [vR 19, vI x] [] (WS L σ) Q = Q (some (vI (aLast s x))) (WS L σ1) := by
  refine ⟨σ, CP_r h, fun Q => ?_⟩
  obtain ⟨hw, hr, hE, hv⟩ := h
  have w0 := hw.1
  unfold W0 at w0
  have c0 := hr.1
  unfold C0 at c0
  unfold aLast
  rw [b127_0, r13, c0.1]
  simp only [am_push_s]
  rw [b127_11]
  simp only [tI_0]
  by_cases q : 0 ≤ x ∧ x < s 0
  · rw [if_neg (by omega), if_pos q, b127_14, show vI x = vI ((x.toNat : Nat) : Int) by rw [natI q.1], r94 (SU_of hw hr.1 hr.2.2.2.2.2.2.2.2.2) (by omega), tl_eq hw hr.2.2.2.2.2.2.2.2.2]
    simp only [am_push_s]
    rw [b127_22, b127_26]
  · rw [if_pos (by omega), if_neg q, b127_25, b127_26]
def aCount (s : Int → Int) (ran k : Int) : Int := if k = 0 then s 0 else if k = 1 then s 1 else if k = 2 then s 2 else if k = 3 then s 3 else if k = 4 then (cnt (fun b => (leftS s).testBit b) 8 : Int) else if k = 5 then s 7 else if k = 6 then ran else -1
theorem k142 {x : Int} (h : HC N s cl σ) : ∃ σ1 : St, CP N s cl σ σ1 ∧ ∀ Q, R (d + 30) 142 0 [vR 19, vI x] [] (WS L σ) Q = Q (some (vI (aCount s (σ 150 1) x))) (WS L σ1) := by
  refine ⟨σ, CP_r h, fun Q => ?_⟩
  obtain ⟨hw, hr, hE, hv⟩ := h
  have w0 := hw.1
  have n8 := nS_8 w0
  have p8 := pw8 n8.1
  unfold W0 at w0
  have c0 := hr.1
  unfold C0 at c0
  have c5 := hr.2.2.2.2.2.1
  have c1 := hr.2.1.1
  have hl : leftS s < 256 := Nat.lt_of_lt_of_le (bits_lt _ _) p8
  unfold aCount
  rw [b142_0]
  by_cases q0 : x = 0
  · rw [if_pos q0, if_pos q0, b142_44, c0.1]
  · rw [if_neg q0, if_neg q0]
    by_cases q1 : x = 1
    · rw [if_pos q1, if_pos q1, b142_52, c0.2.2.1]
    · rw [if_neg q1, if_neg q1]
      by_cases q2 : x = 2
      · rw [if_pos q2, if_pos q2, b142_60, c0.2.1]
      · rw [if_neg q2, if_neg q2]
        by_cases q3 : x = 3
        · rw [if_pos q3, if_pos q3, b142_68, c0.2.2.2.2]
        · rw [if_neg q3, if_neg q3]
          by_cases q4 : x = 4
          · rw [if_pos q4, if_pos q4, b142_76, r77 (sd := sdS s) (n := nS s) (by rw [c0.1]; exact n8.2) n8.1 (fun c hc => (c5 c hc).2.2) (fun c _ => Nat.lt_of_lt_of_le sdS_lt p8), left_eq hw.2.2.2.2.1 w0.2.2.1]
            simp only [am_push_s]
            rw [b142_83, r42 hl]
            simp only [am_push_s]
            rw [b142_86]
          · rw [if_neg q4, if_neg q4]
            by_cases q5 : x = 5
            · rw [if_pos q5, if_pos q5, b142_87, show σ 21 1 = s 7 from c1]
            · rw [if_neg q5, if_neg q5]
              by_cases q6 : x = 6
              · rw [if_pos q6, if_pos q6, b142_98]
              · rw [if_neg q6, if_neg q6, b142_106]
end OE
