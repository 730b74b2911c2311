/-! the calls of the class, by the array: sides made even, cutting, trades -/
def cpl (n x : Nat) : Nat := (2 ^ n - 1) ^^^ ((2 ^ n - 1) &&& x)
theorem cpl_all : ∀ n, n < 9 → ∀ x, x < 2 ^ n → cpl n x = 2 ^ n - 1 - x := by decide +kernel
theorem cpl_e {n x : Nat} (h8 : n ≤ 8) (hx : x < 2 ^ n) : cpl n x = 2 ^ n - 1 - x := cpl_all n (by omega) x hx
theorem cpl_top : ∀ n, n < 9 → cpl n (2 ^ n) = 2 ^ n - 1 := by decide +kernel
theorem cpl_m {n x : Nat} (h8 : n ≤ 8) (hx : x ≤ 256) : i_and ((2 ^ n - 1 : Nat) : Int) (i_xor x (-1)) = (cpl n x : Int) := by
  have p8 := pw8 h8
  exact i_andn_nat (by omega) (by omega)
def evG (s : Int → Int) (x : Nat) : Int := absI (strT (trS s) x (nS s) - strT (trS s) (cpl (nS s) x) (nS s))
def evK (s : Int → Int) (x : Nat) : Bool := decide (cnt (fun b => x.testBit b) 8 = nS s / 2)
def evE (s : Int → Int) : Int := amx (evK s) (fun x => -evG s x) (2 ^ nS s)
def aEven (s : Int → Int) (w : Int) : Int := if 0 ≤ w ∧ w < 2 then (if w = 0 then evE s else evG s (evE s).toNat) else -1
theorem half_all : ∀ n, n < 9 → 2 ^ (n / 2) - 1 < 2 ^ n ∧ cnt (fun b => (2 ^ (n / 2) - 1).testBit b) 8 = n / 2 := by decide +kernel
def ctO (s : Int → Int) (cl : Nat → List Cl) (b x : Nat) : Nat := if Wr s cl b x < Wr s cl b (cpl (nS s) x) then x else cpl (nS s) x
def ctK (s : Int → Int) (x : Nat) : Bool := decide (x < 2 ^ nS s ∧ x ≤ cpl (nS s) x)
def ctE (s : Int → Int) (cl : Nat → List Cl) (a b : Nat) : Int := amx (ctK s) (fun x => Wr s cl a (ctO s cl b x)) (2 ^ nS s)
def aCut (s : Int → Int) (cl : Nat → List Cl) (a b w : Int) : Int := if (0 ≤ a ∧ a < 3) ∧ (0 ≤ b ∧ b < 3) ∧ (0 ≤ w ∧ w < 2) then (if a = b then -2 else if w = 0 then ctE s cl a.toNat b.toNat else (ctO s cl b.toNat (ctE s cl a.toNat b.toNat).toNat : Int)) else -1
def wantS (s : Int → Int) (cl : Nat → List Cl) (c g m : Nat) : Bool := (sdS s c).testBit g && decide (Wr s cl c (sdS s c) < Wr s cl c (clr (sdS s c) g ||| 2 ^ m))
def trY (ok : Nat → Nat → Bool) (x y : Nat) (p : Int × Int) : Int × Int := if ok x y = true then (p.1 + 1, if p.1 = 0 then 10 * (x : Int) + y else p.2) else p
def trX (ok : Nat → Nat → Bool) (n x : Nat) (p : Int × Int) : Int × Int := itr (trY ok x) n p
def trF (ok : Nat → Nat → Bool) (n : Nat) : Int × Int := itr (trX ok n) n (0, -5)
def okS (s : Int → Int) (cl : Nat → List Cl) (a b x y : Nat) : Bool := wantS s cl a x y && wantS s cl b y x
def trdS (s : Int → Int) (cl : Nat → List Cl) (a b : Nat) : Int × Int := trF (okS s cl a b) (nS s)
def aTrades (s : Int → Int) (cl : Nat → List Cl) (a b w : Int) : Int := if (0 ≤ a ∧ a < s 2) ∧ (0 ≤ b ∧ b < s 2) ∧ (0 ≤ w ∧ w < 2) then (if a = b then -2 else if w = 0 then (trdS s cl a.toNat b.toNat).1 else (trdS s cl a.toNat b.toNat).2) else -1
def trP (n : Nat) (p : Int × Int) : Prop := 0 ≤ p.1 ∧ (p.1 = 0 → p.2 = -5) ∧ (p.1 ≠ 0 → ∃ x y : Nat, x < n ∧ y < n ∧ p.2 = 10 * (x : Int) + y)
theorem trY_P {ok : Nat → Nat → Bool} {n x y : Nat} {p : Int × Int} (hx : x < n) (hy : y < n) (h : trP n p) : trP n (trY ok x y p) ∧ p.1 ≤ (trY ok x y p).1 ∧ (trY ok x y p).1 ≤ p.1 + 1 := by
  unfold trY
  split
  · refine ⟨⟨by dsimp only; have := h.1; omega, fun e => ?_, fun _ => ?_⟩, by dsimp only; omega, by dsimp only; omega⟩
    · dsimp only at e
      have := h.1
      omega
    · dsimp only
      split
      · exact ⟨x, y, hx, hy, rfl⟩
      · rename_i q
        exact h.2.2 q
  · exact ⟨h, by omega, by omega⟩
theorem trX_P {ok : Nat → Nat → Bool} {n x : Nat} {p : Int × Int} (hx : x < n) (h : trP n p) : ∀ m, m ≤ n → trP n (itr (trY ok x) m p) ∧ (itr (trY ok x) m p).1 ≤ p.1 + m
  | 0, _ => ⟨h, by show p.1 ≤ _; omega⟩
  | m + 1, hm => by
    obtain ⟨h1, h2⟩ := trX_P (ok := ok) hx h m (by omega)
    obtain ⟨h3, h4, h5⟩ := trY_P (ok := ok) (y := m) hx (by omega) h1
    exact ⟨h3, by show (trY ok x m (itr (trY ok x) m p)).1 ≤ _; omega⟩
theorem trF_P {ok : Nat → Nat → Bool} {n : Nat} : ∀ m, m ≤ n → trP n (itr (trX ok n) m (0, -5)) ∧ (itr (trX ok n) m (0, -5)).1 ≤ ((m * n : Nat) : Int)
  | 0, _ => ⟨⟨Int.le_refl _, fun _ => rfl, fun h => absurd rfl h⟩, by show (0 : Int) ≤ _; omega⟩
  | m + 1, hm => by
    obtain ⟨h1, h2⟩ := trF_P (ok := ok) (n := n) m (by omega)
    obtain ⟨h3, h4⟩ := trX_P (ok := ok) (x := m) (by omega) h1 n (Nat.le_refl _)
    refine ⟨h3, ?_⟩
    show (itr (trY ok m) n (itr (trX ok n) m (0, -5))).1 ≤ _
    have e : (m + 1) * n = m * n + n := Nat.succ_mul m n
    rw [e]
    omega
section EV
variable {d L N : Nat} {s s' : Int → Int} {cl cl' : Nat → List Cl} {σ σ1 : St} {Q : Option AV → AW → Prop}
theorem CP_q (h : HC N s cl σ) (hf : ∀ a, a < 142 ∨ 150 ≤ a → σ1 a = σ a) : CP N s cl σ σ1 := by
  refine CP_rd h (fun a ha => hf a (by omega)) ?_
  exact EN_mono (EN_fr h.2.2.1 (hf 139 (by omega)) (hf 140 (by omega)) (hf 141 (by omega)) (by rw [hf 20 (by omega)]; omega) (fun _ c x _ _ => by unfold Wc; rw [hf 31 (by omega)]) (nS_8 h.1.1).1) (by omega)
theorem CP_of' (h : HC N s cl σ) (hf : ∀ a, a ≠ 146 → a ≠ 30 → σ1 a = σ a) (hC : CR 20 s' cl' σ1) (h0 : s' 0 = s 0) : CP N s' cl' σ σ1 := by
  have hn : nS s' = nS s := by unfold nS; rw [h0]
  refine ⟨fun a ha => hf a (by omega) (by omega), hC, ?_, by rw [hf 20 (by omega) (by omega)]; omega, by rw [hf 20 (by omega) (by omega)]; omega⟩
  rw [hn]
  exact EN_mono (EN_fr h.2.2.1 (hf 139 (by omega) (by omega)) (hf 140 (by omega) (by omega)) (hf 141 (by omega) (by omega)) (by rw [hf 20 (by omega) (by omega)]; omega) (fun _ c x _ _ => by unfold Wc; rw [hf 31 (by omega) (by omega)]) (nS_8 h.1.1).1) (by omega)
theorem strT_s (h4 : C4 20 s σ) {x : Nat} : strC σ x (nS s) = strT (trS s) x (nS s) := by
  unfold strC strT
  refine sumN_congr (fun b hb => ?_)
  rw [show tr σ 1 b = trS s 1 b from h4 b 1 (by unfold nS at hb; omega) (by omega)]
theorem tr_s (hw : W4 s) (h4 : C4 20 s σ) : ∀ b, b < nS s → 0 ≤ tr σ 1 b ∧ tr σ 1 b ≤ 20 := by
  intro b hb
  rw [show tr σ 1 b = trS s 1 b from h4 b 1 (by unfold nS at hb; omega) (by omega)]
  exact (hw b (by unfold nS at hb; omega)).2.1
theorem absI_r {x : Int} : 0 ≤ absI x ∧ (x = absI x ∨ x = -absI x) := by
  unfold absI
  split <;> omega
theorem r40' (hw : WF s cl) (hr : CR 20 s cl σ) {x : Nat} (hx : x < 256) : R (d + 1) 40 0 [vR 20, vI x, vX 9, vX 9] [] (WS L σ) Q = Q (some (vI (strT (trS s) x (nS s)))) (WS L σ) := by
  have n8 := nS_8 hw.1
  have c0 := hr.1
  unfold C0 at c0
  rw [r40 (n := nS s) (by rw [c0.1]; exact n8.2) n8.1 hx (tr_s hw.2.2.2.2.1 hr.2.2.2.2.1), strT_s hr.2.2.2.2.1]
theorem str_b (hw : WF s cl) {x : Nat} : 0 ≤ strT (trS s) x (nS s) ∧ strT (trS s) x (nS s) ≤ 160 := strT_b (nS_8 hw.1).1 (fun b hb => (hw.2.2.2.2.1 b (by unfold nS at hb; omega)).2.1)
theorem CR_146 (hw : WF s cl) (hr : CR 20 s cl σ) (hf : ∀ a, a ≠ 146 → σ1 a = σ a) : CR 20 s cl σ1 := by
  have w0 := hw.1
  unfold W0 at w0
  exact CR_fr hr (fun j _ => by rw [hf 20 (by omega)]) (fun a _ _ => hf a (by omega)) (by omega) (by omega)
def evV (s : Int → Int) (e : Int) : Int := if e < 0 then 1000000 else evG s e.toNat
theorem r110_l (hw : WF s cl) : ∀ (j x : Nat) (u3 : AV) (σ : St), x + j = 2 ^ nS s → CR 20 s cl σ → σ 146 2 = evV s (amx (evK s) (fun x => -evG s x) x) → (0 ≤ amx (evK s) (fun x => -evG s x) x → σ 146 1 = amx (evK s) (fun x => -evG s x) x) → ∃ σ' : St, (∀ a, a ≠ 146 → σ' a = σ a) ∧ σ' 146 2 = evV s (evE s) ∧ (0 ≤ evE s → σ' 146 1 = evE s) ∧ ∀ Q, R (d + 3) 110 16 [vR 146, vI ((2 ^ nS s - 1 : Nat) : Int), vI x, u3] [] (WS L σ) Q = Q none (WS L σ') := by
  have n8 := nS_8 hw.1
  have p8 := pw8 n8.1
  have p1 := pw1 (nS s)
  intro j
  induction j with
  | zero =>
    intro x u3 σ hx hr h1 h2
    obtain rfl : x = 2 ^ nS s := by omega
    refine ⟨σ, fun _ _ => rfl, h1, h2, fun Q => ?_⟩
    rw [b110_16, if_pos (by omega), b110_86]
  | succ j ih =>
    intro x u3 σ hx hr h1 h2
    have hxl : x < 2 ^ nS s := by omega
    have c0 := hr.1
    unfold C0 at c0
    have ed : i_div (s 0) 2 = ((nS s / 2 : Nat) : Int) := by
      rw [n8.2]
      exact i_div_nat (b := 2) (by omega) (by omega)
    have hc := cpl_e n8.1 hxl
    have hcm := cpl_m (x := x) n8.1 (by omega)
    have start : ∀ Q, R (d + 3) 110 16 [vR 146, vI ((2 ^ nS s - 1 : Nat) : Int), vI x, u3] [] (WS L σ) Q = if ¬ evK s x = true then R (d + 3) 110 80 [vR 146, vI ((2 ^ nS s - 1 : Nat) : Int), vI x, u3] [] (WS L σ) Q else R (d + 3) 110 37 [vR 146, vI ((2 ^ nS s - 1 : Nat) : Int), vI x, u3] [] (WS L σ) Q := by
      intro Q
      rw [b110_16, if_neg (by omega), b110_21, r42 (by omega)]
      simp only [am_push_s]
      rw [b110_25, c0.1, ed]
      unfold evK
      by_cases q : cnt (fun b => x.testBit b) 8 = nS s / 2
      · rw [if_neg (by omega), if_neg (by simp [q])]
      · rw [if_pos (by omega), if_pos (by simp [q])]
    have hb1 := str_b hw (x := x)
    have hb2 := str_b hw (x := cpl (nS s) x)
    have eg : i_abs (strT (trS s) x (nS s) - strT (trS s) (cpl (nS s) x) (nS s)) = evG s x := i_abs_id (by omega)
    have hg : 0 ≤ evG s x ∧ evG s x ≤ 160 := by
      have := absI_r (x := strT (trS s) x (nS s) - strT (trS s) (cpl (nS s) x) (nS s))
      unfold evG
      omega
    by_cases q : evK s x = true
    · have run : ∀ Q, R (d + 3) 110 37 [vR 146, vI ((2 ^ nS s - 1 : Nat) : Int), vI x, u3] [] (WS L σ) Q = if evV s (amx (evK s) (fun x => -evG s x) x) ≤ evG s x then R (d + 3) 110 80 [vR 146, vI ((2 ^ nS s - 1 : Nat) : Int), vI x, vI (evG s x)] [] (WS L σ) Q else R (d + 3) 110 70 [vR 146, vI ((2 ^ nS s - 1 : Nat) : Int), vI x, vI (evG s x)] [] (WS L σ) Q := by
        intro Q
        rw [b110_37, r40' hw hr (by omega)]
        simp only [am_push_s]
        rw [b110_45, hcm, r40' hw hr (by omega)]
        simp only [am_push_s]
        rw [b110_57 (by omega), eg, h1]
      by_cases q2 : evV s (amx (evK s) (fun x => -evG s x) x) ≤ evG s x
      · have ea : amx (evK s) (fun x => -evG s x) (x + 1) = amx (evK s) (fun x => -evG s x) x := by
          rw [amx, if_neg]
          intro h
          unfold evV at q2
          rcases h.2 with h3 | h3
          · rw [if_pos h3] at q2
            omega
          · split at q2 <;> omega
        obtain ⟨σ', f1, f2, f3, f4⟩ := ih (x + 1) (vI (evG s x)) σ (by omega) hr (by rw [ea]; exact h1) (by rw [ea]; exact h2)
        refine ⟨σ', f1, f2, f3, fun Q => ?_⟩
        rw [start, if_neg (by simp [q]), run, if_pos q2, b110_80 (by omega)]
        exact f4 Q
      · have ea : amx (evK s) (fun x => -evG s x) (x + 1) = (x : Int) := by
          rw [amx, if_pos]
          refine ⟨q, ?_⟩
          unfold evV at q2
          by_cases h3 : amx (evK s) (fun x => -evG s x) x < 0
          · exact Or.inl h3
          · rw [if_neg h3] at q2
            right
            omega
        have hf : ∀ a, a ≠ 146 → st2 (st2 σ 146 2 (evG s x)) 146 1 x a = σ a := by
          intro a ha
          funext j
          rw [st2_k ha, st2_k ha]
        obtain ⟨σ', f1, f2, f3, f4⟩ := ih (x + 1) (vI (evG s x)) (st2 (st2 σ 146 2 (evG s x)) 146 1 x) (by omega) (CR_146 hw hr hf) (by
          rw [ea, st2_i (by omega), st2_eq]
          unfold evV
          rw [if_neg (by omega), Int.toNat_natCast]) (by rw [ea]; intro _; exact st2_eq)
        refine ⟨σ', fun a ha => (f1 a ha).trans (hf a ha), f2, f3, fun Q => ?_⟩
        rw [start, if_neg (by simp [q]), run, if_neg q2, b110_70, b110_75, b110_80 (by omega)]
        exact f4 Q
    · have ea : amx (evK s) (fun x => -evG s x) (x + 1) = amx (evK s) (fun x => -evG s x) x := by
        rw [amx, if_neg (fun h => q h.1)]
      obtain ⟨σ', f1, f2, f3, f4⟩ := ih (x + 1) u3 σ (by omega) hr (by rw [ea]; exact h1) (by rw [ea]; exact h2)
      refine ⟨σ', f1, f2, f3, fun Q => ?_⟩
      rw [start, if_pos q, b110_80 (by omega)]
      exact f4 Q
theorem evE_r (hw : WF s cl) : 0 ≤ evE s ∧ evE s < ((2 ^ nS s : Nat) : Int) := by
  have n8 := nS_8 hw.1
  obtain ⟨h1, h2⟩ := half_all (nS s) (by omega)
  refine ⟨amx_pos h1 ?_, (amx_r _ _ _).2.1⟩
  unfold evK
  exact decide_eq_true h2
theorem k109 {x : Int} (h : HC N s cl σ) : ∃ σ1 : St, CP N s cl σ σ1 ∧ ∀ Q, R (d + 30) 109 0 [vR 19, vI x] [] (WS L σ) Q = Q (some (vI (aEven s x))) (WS L σ1) := by
  have h' := h
  obtain ⟨hw, hr, hE, hv⟩ := h
  have n8 := nS_8 hw.1
  have c0 := hr.1
  unfold C0 at c0
  have ee := (evE_r hw).1
  unfold aEven
  by_cases q : 0 ≤ x ∧ x < 2
  · have hf : ∀ a, a ≠ 146 → st2 σ 146 2 1000000 a = σ a := fun a ha => by funext j; exact st2_k ha
    obtain ⟨σ', f1, f2, f3, f4⟩ := r110_l (d := d + 26) (L := L) hw (2 ^ nS s) 0 (vX 9) (st2 σ 146 2 1000000) (by omega) (CR_146 hw hr hf) (by rw [st2_eq]; rfl) (fun h => by simp [amx] at h)
    refine ⟨σ', CP_q h' (fun a ha => (f1 a (by omega)).trans (hf a (by omega))), fun Q => ?_⟩
    rw [if_pos q, b109_0, r13]
    simp only [am_push_s]
    rw [b109_5]
    simp only [tI_0]
    rw [if_pos (by omega), b109_10, b110_0, r34 (by rw [c0.1]; exact n8.2) n8.1]
    simp only [am_push_s]
    rw [b110_7, b110_14]
    refine (f4 _).trans ?_
    simp only [am_push_n]
    rw [b109_17]
    unfold evV at f2
    rw [if_neg (by omega)] at f2
    by_cases q1 : x = 0
    · rw [if_neg (by omega), b109_21, b109_38, if_pos q1, f3 ee]
    · rw [if_pos q1, b109_31, b109_38, if_neg q1, f2]
  · refine ⟨σ, CP_r h', fun Q => ?_⟩
    rw [if_neg q, b109_0, r13]
    simp only [am_push_s]
    rw [b109_5]
    simp only [tI_0]
    rw [if_neg (by omega), b109_8]
theorem r57' (hr : CR 20 s cl σ) {c x : Nat} (hc : c < 3) (hx : x < 2 ^ nS s) (h8 : nS s ≤ 8) : R (d + 1) 57 0 [vR 20, vI c, vI x, vX 9] [] (WS L σ) Q = Q (some (vI (Wr s cl c x))) (WS L σ) := by
  have p8 := pw8 h8
  rw [r57 hc (by omega), show σ 31 ((c : Int) * 256 + x) = Wr s cl c x from hr.2.2.2.2.2.2.2.1 c x hc hx]
def ctV (s : Int → Int) (cl : Nat → List Cl) (a b : Nat) (e : Int) : Int := if e < 0 then -1000000 else Wr s cl a (ctO s cl b e.toNat)
theorem ctO_lt {b x : Nat} (h8 : nS s ≤ 8) (hx : x < 2 ^ nS s) : ctO s cl b x < 2 ^ nS s := by
  have := cpl_e h8 hx
  have p1 := pw1 (nS s)
  unfold ctO
  split <;> omega
theorem ctE_cut {a b x : Nat} (h8 : nS s ≤ 8) (hx : x ≤ 2 ^ nS s) (hc : cpl (nS s) x < x) : amx (ctK s) (fun x => Wr s cl a (ctO s cl b x)) x = ctE s cl a b := by
  have p1 := pw1 (nS s)
  have hf : ∀ i, x ≤ i → ctK s i = false := by
    intro i hi
    unfold ctK
    by_cases q : i < 2 ^ nS s
    · have h1 := cpl_e h8 q
      have h2 := cpl_e h8 (x := x) (by omega)
      simp
      intro _
      omega
    · simp
      omega
  have := amx_ext (v := fun x => Wr s cl a (ctO s cl b x)) (m := 2 ^ nS s - x) hf
  unfold ctE
  rw [← this, show x + (2 ^ nS s - x) = 2 ^ nS s by omega]
theorem r112_l (hw : WF s cl) {a b : Nat} (ha : a < 3) (hb : b < 3) : ∀ (j x : Nat) (u6 u7 u8 : AV) (σ : St), x + j = 2 ^ nS s → CR 20 s cl σ → (0 ≤ amx (ctK s) (fun x => Wr s cl a (ctO s cl b x)) x → σ 146 1 = amx (ctK s) (fun x => Wr s cl a (ctO s cl b x)) x ∧ σ 146 3 = (ctO s cl b (amx (ctK s) (fun x => Wr s cl a (ctO s cl b x)) x).toNat : Int)) → ∃ σ' : St, (∀ a, a ≠ 146 → σ' a = σ a) ∧ (0 ≤ ctE s cl a b → σ' 146 1 = ctE s cl a b ∧ σ' 146 3 = (ctO s cl b (ctE s cl a b).toNat : Int)) ∧ ∀ Q, R (d + 2) 112 15 [vR 146, vI a, vI b, vI ((2 ^ nS s - 1 : Nat) : Int), vI (ctV s cl a b (amx (ctK s) (fun x => Wr s cl a (ctO s cl b x)) x)), vI x, u6, u7, u8] [] (WS L σ) Q = Q none (WS L σ') := by
  have n8 := nS_8 hw.1
  have p8 := pw8 n8.1
  have p1 := pw1 (nS s)
  have hdv : i_div ((2 ^ nS s - 1 : Nat) : Int) 2 = (((2 ^ nS s - 1) / 2 : Nat) : Int) := i_div_nat (a := 2 ^ nS s - 1) (b := 2) (by omega) (by omega)
  intro j
  induction j with
  | zero =>
    intro x u6 u7 u8 σ hx hr h1
    obtain rfl : x = 2 ^ nS s := by omega
    have ht := cpl_top (nS s) (by omega)
    refine ⟨σ, fun _ _ => rfl, h1, fun Q => ?_⟩
    rw [b112_15, hdv, if_pos (by omega), b112_104]
  | succ j ih =>
    intro x u6 u7 u8 σ hx hr h1
    have hxl : x < 2 ^ nS s := by omega
    have hc := cpl_e n8.1 hxl
    have hcm := cpl_m (x := x) n8.1 (by omega)
    by_cases q : cpl (nS s) x < x
    · have e := ctE_cut (cl := cl) (a := a) (b := b) n8.1 (by omega) q
      rw [e] at h1
      refine ⟨σ, fun _ _ => rfl, h1, fun Q => ?_⟩
      rw [b112_15, hdv, if_pos (by omega), b112_104]
    · have hol := ctO_lt (cl := cl) (b := b) n8.1 hxl
      have hWb := Wr_b hw (c := a) (x := ctO s cl b x) ha
      have start : ∀ Q, R (d + 2) 112 15 [vR 146, vI a, vI b, vI ((2 ^ nS s - 1 : Nat) : Int), vI (ctV s cl a b (amx (ctK s) (fun x => Wr s cl a (ctO s cl b x)) x)), vI x, u6, u7, u8] [] (WS L σ) Q = if Wr s cl a (ctO s cl b x) ≤ ctV s cl a b (amx (ctK s) (fun x => Wr s cl a (ctO s cl b x)) x) then R (d + 2) 112 98 [vR 146, vI a, vI b, vI ((2 ^ nS s - 1 : Nat) : Int), vI (ctV s cl a b (amx (ctK s) (fun x => Wr s cl a (ctO s cl b x)) x)), vI x, vI (cpl (nS s) x : Int), vI (ctO s cl b x : Int), vI (Wr s cl a (ctO s cl b x))] [] (WS L σ) Q else R (d + 2) 112 82 [vR 146, vI a, vI b, vI ((2 ^ nS s - 1 : Nat) : Int), vI (ctV s cl a b (amx (ctK s) (fun x => Wr s cl a (ctO s cl b x)) x)), vI x, vI (cpl (nS s) x : Int), vI (ctO s cl b x : Int), vI (Wr s cl a (ctO s cl b x))] [] (WS L σ) Q := by
        intro Q
        rw [b112_15, hdv, if_neg (by omega), b112_23, r57' hr hb hxl n8.1]
        simp only [am_push_s]
        rw [hcm, b112_41, r57' hr hb (by omega) n8.1]
        simp only [am_push_s]
        have mid : ∀ Q, R (d + 2) 112 51 [vR 146, vI a, vI b, vI ((2 ^ nS s - 1 : Nat) : Int), vI (ctV s cl a b (amx (ctK s) (fun x => Wr s cl a (ctO s cl b x)) x)), vI x, vI (cpl (nS s) x : Int), u7, u8] [vI (Wr s cl b (cpl (nS s) x)), vI (Wr s cl b x)] (WS L σ) Q = R (d + 2) 112 61 [vR 146, vI a, vI b, vI ((2 ^ nS s - 1 : Nat) : Int), vI (ctV s cl a b (amx (ctK s) (fun x => Wr s cl a (ctO s cl b x)) x)), vI x, vI (cpl (nS s) x : Int), u7, u8] [vI (ctO s cl b x : Int)] (WS L σ) Q := by
          intro Q
          rw [b112_51]
          unfold ctO
          by_cases q2 : Wr s cl b x < Wr s cl b (cpl (nS s) x)
          · rw [if_pos q2, b112_59, if_pos q2]
          · rw [if_neg q2, b112_54, if_neg q2]
        rw [mid, b112_61, r57' hr ha hol n8.1]
        simp only [am_push_s]
        rw [b112_73]
      have hk : ctK s x = true := by
        unfold ctK
        simp
        omega
      by_cases q2 : Wr s cl a (ctO s cl b x) ≤ ctV s cl a b (amx (ctK s) (fun x => Wr s cl a (ctO s cl b x)) x)
      · have ea : amx (ctK s) (fun x => Wr s cl a (ctO s cl b x)) (x + 1) = amx (ctK s) (fun x => Wr s cl a (ctO s cl b x)) x := by
          rw [amx, if_neg]
          intro h
          unfold ctV at q2
          rcases h.2 with h3 | h3
          · rw [if_pos h3] at q2
            omega
          · split at q2 <;> omega
        obtain ⟨σ', f1, f2, f3⟩ := ih (x + 1) (vI (cpl (nS s) x : Int)) (vI (ctO s cl b x : Int)) (vI (Wr s cl a (ctO s cl b x))) σ (by omega) hr (by rw [ea]; exact h1)
        refine ⟨σ', f1, f2, fun Q => ?_⟩
        rw [ea] at f3
        rw [start, if_pos q2, b112_98 (by omega)]
        exact f3 Q
      · have ea : amx (ctK s) (fun x => Wr s cl a (ctO s cl b x)) (x + 1) = (x : Int) := by
          rw [amx, if_pos]
          refine ⟨hk, ?_⟩
          unfold ctV at q2
          by_cases h3 : amx (ctK s) (fun x => Wr s cl a (ctO s cl b x)) x < 0
          · exact Or.inl h3
          · rw [if_neg h3] at q2
            right
            omega
        have hf : ∀ a', a' ≠ 146 → st2 (st2 σ 146 1 x) 146 3 (ctO s cl b x : Int) a' = σ a' := by
          intro a ha
          funext j
          rw [st2_k ha, st2_k ha]
        obtain ⟨σ', f1, f2, f3⟩ := ih (x + 1) (vI (cpl (nS s) x : Int)) (vI (ctO s cl b x : Int)) (vI (Wr s cl a (ctO s cl b x))) (st2 (st2 σ 146 1 x) 146 3 (ctO s cl b x : Int)) (by omega) (CR_146 hw hr hf) (by
          rw [ea]
          intro _
          refine ⟨?_, ?_⟩
          · rw [st2_i (by omega), st2_eq]
          · rw [st2_eq, Int.toNat_natCast])
        refine ⟨σ', fun a ha => (f1 a ha).trans (hf a ha), f2, fun Q => ?_⟩
        have ev : ctV s cl a b (x : Int) = Wr s cl a (ctO s cl b x) := by
          unfold ctV
          rw [if_neg (by omega), Int.toNat_natCast]
        rw [ea, ev] at f3
        rw [start, if_neg q2, b112_82, b112_92, b112_98 (by omega)]
        exact f3 Q
theorem ctE_r (hw : WF s cl) {a b : Nat} : 0 ≤ ctE s cl a b ∧ ctE s cl a b < ((2 ^ nS s : Nat) : Int) := by
  have p1 := pw1 (nS s)
  refine ⟨amx_pos (b := 0) (by omega) ?_, (amx_r _ _ _).2.1⟩
  unfold ctK
  exact decide_eq_true ⟨by omega, Nat.zero_le _⟩
theorem k111 {x y z : Int} (h : HC N s cl σ) : ∃ σ1 : St, CP N s cl σ σ1 ∧ ∀ Q, R (d + 30) 111 0 [vR 19, vI x, vI y, vI z] [] (WS L σ) Q = Q (some (vI (aCut s cl x y z))) (WS L σ1) := by
  have h' := h
  obtain ⟨hw, hr, hE, hv⟩ := h
  have n8 := nS_8 hw.1
  have c0 := hr.1
  unfold C0 at c0
  unfold aCut
  by_cases q : (0 ≤ x ∧ x < 3) ∧ (0 ≤ y ∧ y < 3) ∧ (0 ≤ z ∧ z < 2)
  · have start : ∀ Q, R (d + 30) 111 0 [vR 19, vI x, vI y, vI z] [] (WS L σ) Q = R (d + 30) 111 26 [vR 19, vI x, vI y, vI z] [] (WS L σ) Q := by
      intro Q
      rw [b111_0, r13]
      simp only [am_push_s]
      rw [b111_5]
      simp only [tI_0]
      rw [if_neg (by omega), b111_8, r13]
      simp only [am_push_s]
      rw [b111_13]
      simp only [tI_0]
      rw [if_neg (by omega), b111_16, r13]
      simp only [am_push_s]
      rw [b111_21]
      simp only [tI_0]
      rw [if_pos (by omega)]
    rw [if_pos q]
    by_cases q1 : x = y
    · refine ⟨σ, CP_r h', fun Q => ?_⟩
      rw [start, b111_26, if_neg (by omega), b111_31, if_pos q1]
    · rw [if_neg q1]
      obtain ⟨a, rfl⟩ : ∃ a : Nat, x = (a : Int) := ⟨x.toNat, by omega⟩
      obtain ⟨b, rfl⟩ : ∃ b : Nat, y = (b : Int) := ⟨y.toNat, by omega⟩
      obtain ⟨σ', f1, f2, f3⟩ := r112_l (d := d + 27) (L := L) hw (a := a) (b := b) (by omega) (by omega) (2 ^ nS s) 0 (vX 9) (vX 9) (vX 9) σ (by omega) hr (fun h => by simp [amx] at h)
      have ee := (ctE_r hw (a := a) (b := b)).1
      refine ⟨σ', CP_q h' (fun a ha => f1 a (by omega)), fun Q => ?_⟩
      rw [start, b111_26, if_pos q1, b111_34, b112_0, r34 (by rw [c0.1]; exact n8.2) n8.1]
      simp only [am_push_s]
      rw [b112_7]
      refine (f3 _).trans ?_
      simp only [am_push_n]
      rw [b111_43, Int.toNat_natCast, Int.toNat_natCast]
      by_cases q2 : z = 0
      · rw [if_neg (by omega), b111_47, b111_64, if_pos q2, (f2 ee).1]
      · rw [if_pos q2, b111_57, b111_64, if_neg q2, (f2 ee).2]
  · refine ⟨σ, CP_r h', fun Q => ?_⟩
    rw [if_neg q, b111_0, r13]
    simp only [am_push_s]
    rw [b111_5]
    simp only [tI_0]
    by_cases q1 : 0 ≤ x ∧ x < 3
    · rw [if_neg (by omega), b111_8, r13]
      simp only [am_push_s]
      rw [b111_13]
      simp only [tI_0]
      by_cases q2 : 0 ≤ y ∧ y < 3
      · rw [if_neg (by omega), b111_16, r13]
        simp only [am_push_s]
        rw [b111_21]
        simp only [tI_0]
        rw [if_neg (by omega), b111_24]
      · rw [if_pos (by omega), b111_24]
    · rw [if_pos (by omega), b111_24]
theorem r115 (hw : WF s cl) (hr : CR 20 s cl σ) {c g m : Nat} (hc : c < 3) (hg : g < nS s) (hm : m < nS s) : R (d + 2) 115 0 [vR 146, vI c, vI g, vI m, vX 9, vX 9] [] (WS L σ) Q = Q (some (vI (if wantS s cl c g m = true then 1 else 0))) (WS L σ) := by
  have n8 := nS_8 hw.1
  have p8 := pw8 n8.1
  have hs : sdS s c < 2 ^ nS s := sdS_lt
  have e30 : σ 30 c = (sdS s c : Int) := (hr.2.2.2.2.2.1 c hc).2.2
  have hb : i_and (i_shr (sdS s c) g) 1 = if (sdS s c).testBit g then 1 else 0 := i_bit (by omega) (by omega)
  have hp : 2 ^ g < 2 ^ 8 := two_pow_lt (by omega)
  have hpm : 2 ^ m < 2 ^ 8 := two_pow_lt (by omega)
  have hpn : 2 ^ m < 2 ^ nS s := two_pow_lt hm
  have hcl : clr (sdS s c) g < 2 ^ nS s := by
    have h1 : sdS s c ^^^ (sdS s c &&& 2 ^ g) < 2 ^ nS s := Nat.xor_lt_two_pow hs (Nat.lt_of_le_of_lt Nat.and_le_left hs)
    exact h1
  have hor : clr (sdS s c) g ||| 2 ^ m < 2 ^ nS s := or_lt hcl hpn
  have et : i_or (i_and (sdS s c) (i_xor (i_shl 1 g) (-1))) (i_shl 1 m) = ((clr (sdS s c) g ||| 2 ^ m : Nat) : Int) := by
    rw [i_one_shl (by omega), i_one_shl (by omega), i_andn_nat (by omega) (by omega)]
    show i_or ((clr (sdS s c) g : Nat) : Int) _ = _
    rw [i_or_nat (by omega) (by omega)]
  unfold wantS
  rw [b115_0, r72 hc, e30]
  simp only [am_push_s]
  rw [b115_8, hb, et]
  by_cases q : (sdS s c).testBit g = true
  · rw [q, if_neg (by simp), b115_34, r57' hr hc hor n8.1]
    simp only [am_push_s]
    rw [b115_44, r57' hr hc hs n8.1]
    simp only [am_push_s]
    rw [b115_54]
    by_cases q2 : Wr s cl c (clr (sdS s c) g ||| 2 ^ m) ≤ Wr s cl c (sdS s c)
    · rw [if_pos q2, b115_61, b115_62 rfl]
      have : ¬ Wr s cl c (sdS s c) < Wr s cl c (clr (sdS s c) g ||| 2 ^ m) := by omega
      simp [this]
    · rw [if_neg q2, b115_57, b115_62 rfl]
      have : Wr s cl c (sdS s c) < Wr s cl c (clr (sdS s c) g ||| 2 ^ m) := by omega
      simp [this]
  · rw [if_pos (by simp [q]), b115_61, b115_62 rfl]
    simp [q]
/-- a pair of boys of the two -/
theorem r114_y (hw : WF s cl) {a b x : Nat} (ha : a < 3) (hb : b < 3) (hx : x < nS s) {p0 : Int × Int} (hp0 : trP (nS s) p0) (hl : p0.1 ≤ ((x * nS s : Nat) : Int)) : ∀ (j y : Nat) (σ : St), y + j = nS s → CR 20 s cl σ → σ 146 4 = (itr (trY (okS s cl a b) x) y p0).1 → σ 146 5 = (itr (trY (okS s cl a b) x) y p0).2 → ∃ σ' : St, (∀ a, a ≠ 146 → σ' a = σ a) ∧ σ' 146 4 = (trX (okS s cl a b) (nS s) x p0).1 ∧ σ' 146 5 = (trX (okS s cl a b) (nS s) x p0).2 ∧ ∀ Q, R (d + 3) 114 27 [vR 146, vI a, vI b, vI x, vI y] [] (WS L σ) Q = R (d + 3) 114 102 [vR 146, vI a, vI b, vI x, vI (nS s : Int)] [] (WS L σ') Q := by
  have n8 := nS_8 hw.1
  have hxn : x * nS s ≤ 8 * 8 := Nat.mul_le_mul (by omega) n8.1
  intro j
  induction j with
  | zero =>
    intro y σ hy hr h1 h2
    obtain rfl : y = nS s := by omega
    have c0 := hr.1
    unfold C0 at c0
    refine ⟨σ, fun _ _ => rfl, h1, h2, fun Q => ?_⟩
    rw [b114_27, c0.1, if_pos (by omega)]
  | succ j ih =>
    intro y σ hy hr h1 h2
    have c0 := hr.1
    unfold C0 at c0
    obtain ⟨hP, hP2⟩ := trX_P (ok := okS s cl a b) hx hp0 y (by omega)
    have es : itr (trY (okS s cl a b) x) (y + 1) p0 = trY (okS s cl a b) x y (itr (trY (okS s cl a b) x) y p0) := rfl
    have r1 : ∀ Q, R (d + 2) 115 0 [vR 146, vI a, vI x, vI y, vX 9, vX 9] [] (WS L σ) Q = Q (some (vI (if wantS s cl a x y = true then 1 else 0))) (WS L σ) := fun Q => r115 hw hr ha hx (by omega)
    have r2 : ∀ Q, R (d + 2) 115 0 [vR 146, vI b, vI y, vI x, vX 9, vX 9] [] (WS L σ) Q = Q (some (vI (if wantS s cl b y x = true then 1 else 0))) (WS L σ) := fun Q => r115 hw hr hb (by omega) hx
    by_cases q : okS s cl a b x y = true
    · have q12 : wantS s cl a x y = true ∧ wantS s cl b y x = true := by
        unfold okS at q
        simpa using q
      rw [trY, if_pos q] at es
      have hf : ∀ (z w : Int) (a' : Nat), a' ≠ 146 → st2 (st2 σ 146 5 z) 146 4 w a' = σ a' := by
        intro z w a' ha'
        funext j
        rw [st2_k ha', st2_k ha']
      have e4 : ∀ z, st2 σ 146 5 z 146 4 = (itr (trY (okS s cl a b) x) y p0).1 := fun z => by rw [st2_i (by omega)]; exact h1
      obtain ⟨σ', f1, f2, f3, f4⟩ := ih (y + 1) (st2 (st2 σ 146 5 (if (itr (trY (okS s cl a b) x) y p0).1 = 0 then 10 * (x : Int) + y else (itr (trY (okS s cl a b) x) y p0).2)) 146 4 ((itr (trY (okS s cl a b) x) y p0).1 + 1)) (by omega) (CR_146 hw hr (hf _ _)) (by rw [es]; exact st2_eq) (by rw [es, st2_i (by omega)]; exact st2_eq)
      refine ⟨σ', fun a ha => (f1 a ha).trans (hf _ _ a ha), f2, f3, fun Q => ?_⟩
      rw [b114_27, c0.1, if_neg (by omega), b114_39, r1, if_pos q12.1]
      simp only [am_push_s]
      rw [b114_47, if_neg (by omega), b114_50, r2, if_pos q12.2]
      simp only [am_push_s]
      rw [b114_58, if_neg (by omega), b114_61, h1]
      have hP1 := hP.1
      by_cases q3 : (itr (trY (okS s cl a b) x) y p0).1 = 0
      · rw [if_neg (by omega), b114_69 (by omega) (by omega), b114_83, b114_86 (by rw [e4]; omega), e4, b114_96 (by omega)]
        rw [if_pos q3] at f4
        exact f4 Q
      · rw [if_pos q3, b114_79, h2, b114_83, b114_86 (by rw [e4]; omega), e4, b114_96 (by omega)]
        rw [if_neg q3] at f4
        exact f4 Q
    · rw [trY, if_neg q] at es
      obtain ⟨σ', f1, f2, f3, f4⟩ := ih (y + 1) σ (by omega) hr (by rw [es]; exact h1) (by rw [es]; exact h2)
      refine ⟨σ', f1, f2, f3, fun Q => ?_⟩
      rw [b114_27, c0.1, if_neg (by omega), b114_39, r1]
      simp only [am_push_s]
      rw [b114_47]
      by_cases q1 : wantS s cl a x y = true
      · have q2 : ¬ wantS s cl b y x = true := by
          intro q2
          apply q
          unfold okS
          rw [q1, q2]
          rfl
        rw [if_pos q1, if_neg (by omega), b114_50, r2, if_neg q2]
        simp only [am_push_s]
        rw [b114_58, if_pos rfl, b114_96 (by omega)]
        exact f4 Q
      · rw [if_neg q1, if_pos rfl, b114_96 (by omega)]
        exact f4 Q
theorem r114_x (hw : WF s cl) {a b : Nat} (ha : a < 3) (hb : b < 3) : ∀ (j x : Nat) (u4 : AV) (σ : St), x + j = nS s → CR 20 s cl σ → σ 146 4 = (itr (trX (okS s cl a b) (nS s)) x (0, -5)).1 → σ 146 5 = (itr (trX (okS s cl a b) (nS s)) x (0, -5)).2 → ∃ σ' : St, (∀ a, a ≠ 146 → σ' a = σ a) ∧ σ' 146 4 = (trdS s cl a b).1 ∧ σ' 146 5 = (trdS s cl a b).2 ∧ ∀ Q, R (d + 3) 114 13 [vR 146, vI a, vI b, vI x, u4] [] (WS L σ) Q = Q none (WS L σ') := by
  have n8 := nS_8 hw.1
  intro j
  induction j with
  | zero =>
    intro x u4 σ hx hr h1 h2
    obtain rfl : x = nS s := by omega
    have c0 := hr.1
    unfold C0 at c0
    refine ⟨σ, fun _ _ => rfl, h1, h2, fun Q => ?_⟩
    rw [b114_13, c0.1, if_pos (by omega), b114_108]
  | succ j ih =>
    intro x u4 σ hx hr h1 h2
    have c0 := hr.1
    unfold C0 at c0
    obtain ⟨hP, hP2⟩ := trF_P (ok := okS s cl a b) (n := nS s) x (by omega)
    obtain ⟨σ1, f1, f2, f3, f4⟩ := r114_y (d := d) (L := L) hw ha hb (x := x) (by omega) hP hP2 (nS s) 0 σ (by omega) hr h1 h2
    obtain ⟨σ', g1, g2, g3, g4⟩ := ih (x + 1) (vI (nS s : Int)) σ1 (by omega) (CR_146 hw hr f1) f2 f3
    refine ⟨σ', fun a ha => (g1 a ha).trans (f1 a ha), g2, g3, fun Q => ?_⟩
    rw [b114_13, c0.1, if_neg (by omega), b114_24]
    refine (f4 Q).trans ?_
    rw [b114_102 (by omega)]
    exact g4 Q
theorem r114 (hw : WF s cl) (hr : CR 20 s cl σ) {a b : Nat} (ha : a < 3) (hb : b < 3) : ∃ σ' : St, (∀ a, a ≠ 146 → σ' a = σ a) ∧ σ' 146 4 = (trdS s cl a b).1 ∧ σ' 146 5 = (trdS s cl a b).2 ∧ ∀ Q, R (d + 3) 114 0 [vR 146, vI a, vI b, vX 9, vX 9] [] (WS L σ) Q = Q none (WS L σ') := by
  have hf : ∀ a', a' ≠ 146 → st2 (st2 σ 146 4 0) 146 5 (-5) a' = σ a' := by
    intro a' ha'
    funext j
    rw [st2_k ha', st2_k ha']
  obtain ⟨σ', g1, g2, g3, g4⟩ := r114_x (d := d) (L := L) hw ha hb (nS s) 0 (vX 9) (st2 (st2 σ 146 4 0) 146 5 (-5)) (by omega) (CR_146 hw hr hf) (by rw [st2_i (by omega), st2_eq]; rfl) (by rw [st2_eq]; rfl)
  refine ⟨σ', fun a ha => (g1 a ha).trans (hf a ha), g2, g3, fun Q => ?_⟩
  rw [b114_0, b114_5, b114_11]
  exact g4 Q
theorem k113 {x y z : Int} (h : HC N s cl σ) : ∃ σ1 : St, CP N s cl σ σ1 ∧ ∀ Q, R (d + 30) 113 0 [vR 19, vI x, vI y, vI z] [] (WS L σ) Q = Q (some (vI (aTrades s cl x y z))) (WS L σ1) := by
  have h' := h
  obtain ⟨hw, hr, hE, hv⟩ := h
  have w0 := hw.1
  unfold W0 at w0
  have c0 := hr.1
  unfold C0 at c0
  unfold aTrades
  by_cases q : (0 ≤ x ∧ x < s 2) ∧ (0 ≤ y ∧ y < s 2) ∧ (0 ≤ z ∧ z < 2)
  · have start : ∀ Q, R (d + 30) 113 0 [vR 19, vI x, vI y, vI z] [] (WS L σ) Q = R (d + 30) 113 38 [vR 19, vI x, vI y, vI z] [] (WS L σ) Q := by
      intro Q
      rw [b113_0, c0.2.1, r13]
      simp only [am_push_s]
      rw [b113_11]
      simp only [tI_0]
      rw [if_neg (by omega), b113_14, c0.2.1, r13]
      simp only [am_push_s]
      rw [b113_25]
      simp only [tI_0]
      rw [if_neg (by omega), b113_28, r13]
      simp only [am_push_s]
      rw [b113_33]
      simp only [tI_0]
      rw [if_pos (by omega)]
    rw [if_pos q]
    by_cases q1 : x = y
    · refine ⟨σ, CP_r h', fun Q => ?_⟩
      rw [start, b113_38, if_neg (by omega), b113_43, if_pos q1]
    · rw [if_neg q1]
      obtain ⟨a, rfl⟩ : ∃ a : Nat, x = (a : Int) := ⟨x.toNat, by omega⟩
      obtain ⟨b, rfl⟩ : ∃ b : Nat, y = (b : Int) := ⟨y.toNat, by omega⟩
      obtain ⟨σ', f1, f2, f3, f4⟩ := r114 (d := d + 26) (L := L) hw hr (a := a) (b := b) (by omega) (by omega)
      refine ⟨σ', CP_q h' (fun a ha => f1 a (by omega)), fun Q => ?_⟩
      rw [start, b113_38, if_pos q1, b113_46]
      refine (f4 _).trans ?_
      simp only [am_push_n]
      rw [b113_55, Int.toNat_natCast, Int.toNat_natCast]
      by_cases q2 : z = 0
      · rw [if_neg (by omega), b113_59, b113_76, if_pos q2, f2]
      · rw [if_pos q2, b113_69, b113_76, if_neg q2, f3]
  · refine ⟨σ, CP_r h', fun Q => ?_⟩
    rw [if_neg q, b113_0, c0.2.1, r13]
    simp only [am_push_s]
    rw [b113_11]
    simp only [tI_0]
    by_cases q1 : 0 ≤ x ∧ x < s 2
    · rw [if_neg (by omega), b113_14, c0.2.1, r13]
      simp only [am_push_s]
      rw [b113_25]
      simp only [tI_0]
      by_cases q2 : 0 ≤ y ∧ y < s 2
      · rw [if_neg (by omega), b113_28, r13]
        simp only [am_push_s]
        rw [b113_33]
        simp only [tI_0]
        rw [if_neg (by omega), b113_36]
      · rw [if_pos (by omega), b113_36]
    · rw [if_pos (by omega), b113_36]
/-- a boy is handed over -/
theorem r73' (hw : WF s cl) (hr : CR 20 s cl σ) {b : Nat} {c : Int} (hb : b < nS s) (hc : -1 ≤ c ∧ c < s 2) : ∃ σ' : St, (∀ a, a ≠ 30 → σ' a = σ a) ∧ CR 20 (up s (203 + b) c) cl σ' ∧ ∀ Q, R (d + 1) 73 0 [vR 20, vI b, vI c, vX 9] [] (WS L σ) Q = Q none (WS L σ') := by
  obtain ⟨w0, w1, w2, w3, w4, w5, w6, w8, w9⟩ := hw
  obtain ⟨c0, c1, c2, c3, c4, c5, c6, c7, c8, c9⟩ := hr
  have hn8 := nS_8 w0
  have p8 := pw8 hn8.1
  unfold W0 at w0
  have hsd : ∀ c : Nat, c < 3 → σ 30 c = (sdS s c : Int) := fun c hc => (c5 c hc).2.2
  have hsl : ∀ c : Nat, c < 3 → sdS s c < 256 := fun c _ => Nat.lt_of_lt_of_le sdS_lt p8
  have hσ : ∀ a, a ≠ 30 → setA σ 30 3 (fun q => (handS (sdS s) b c q : Int)) a = σ a := by
    intro a h1
    funext j
    rw [setA_k h1]
  have h20 : ∀ j : Int, (0 : Int) ≤ 0 → setA σ 30 3 (fun q => (handS (sdS s) b c q : Int)) 20 j = σ 20 j := fun j _ => by rw [hσ 20 (by omega)]
  have hs : ∀ j : Int, (j < 203 ∨ 211 ≤ j) → up s (203 + b) c j = s j := fun j hj => up_o (by omega)
  refine ⟨setA σ 30 3 (fun q => (handS (sdS s) b c q : Int)), hσ, ⟨(by unfold C0; rw [h20 0 (by omega), h20 1 (by omega), h20 2 (by omega), h20 3 (by omega), h20 4 (by omega), hs 0 (by omega), hs 1 (by omega), hs 2 (by omega), hs 3 (by omega), hs 4 (by omega)]; exact c0), (C1_fr c1 (hσ 21 (by omega)) (hσ 22 (by omega)) (hs 7 (by omega)) (fun j _ _ => hs j (by omega)) (by omega)), (C2_fr c2 (hσ 23 (by omega)) (hσ 24 (by omega)) (hs 5 (by omega)) (fun j _ _ => hs j (by omega)) (by omega)), (C3_fr c3 (hσ 25 (by omega)) (hσ 26 (by omega)) (hs 6 (by omega)) (fun j _ _ => hs j (by omega)) (by omega)), (C4_fr c4 (hσ 27 (by omega)) (hs 0 (by omega)) (by omega) (fun j _ _ => hs j (by omega))), ?_, (C6_fr c6 w6 (fun a _ _ => hσ a (by omega)) (fun j _ _ => hs j (by omega))), (C7_fr c7 (hσ 31 (by omega)) (hs 0 (by omega)) (by omega) (fun j _ _ => hs j (by omega))), (C8_fr c8 (fun a _ _ => hσ a (by omega)) (hs 1 (by omega)) (by omega)), (C9_fr c9 w9 (by omega) (fun a _ _ => hσ a (by omega)) (hs 3 (by omega)) (by omega) (fun j _ _ => hs j (by omega)))⟩, fun Q => r73 (by omega) hsd hsl (by omega)⟩
  intro c' hc'
  obtain ⟨g1, g2, g3⟩ := c5 c' hc'
  rw [hσ (20 + 8) (by omega), hσ (20 + 9) (by omega), hs (154 + c') (by omega), hs (157 + c') (by omega), setA_in (by omega) (by omega), Int.toNat_natCast, hand_sd (by omega) hb]
  exact ⟨g1, g2, rfl⟩
/-- trades till there is none -/
def tdS (cl : Nat → List Cl) (a b : Nat) : Nat → (Int → Int) → Int × (Int → Int)
  | 0, s => (0, s)
  | j + 1, s => if (trdS s cl a b).1 = 0 then (0, s) else ((tdS cl a b j (up (up s (203 + (trdS s cl a b).2 / 10) b) (203 + (trdS s cl a b).2 % 10) a)).1 + 1, (tdS cl a b j (up (up s (203 + (trdS s cl a b).2 / 10) b) (203 + (trdS s cl a b).2 % 10) a)).2)
theorem td_s (hw : WF s cl) {a b : Nat} (ha : (a : Int) < s 2) (hb : (b : Int) < s 2) (h : (trdS s cl a b).1 ≠ 0) : ∃ x y : Nat, x < nS s ∧ y < nS s ∧ (trdS s cl a b).2 = 10 * (x : Int) + y ∧ (trdS s cl a b).2 / 10 = (x : Int) ∧ (trdS s cl a b).2 % 10 = (y : Int) ∧ WF (up (up s (203 + (x : Int)) b) (203 + (y : Int)) a) cl ∧ nS (up (up s (203 + (x : Int)) b) (203 + (y : Int)) a) = nS s ∧ up (up s (203 + (x : Int)) b) (203 + (y : Int)) a 2 = s 2 ∧ WF (up s (203 + (x : Int)) b) cl ∧ nS (up s (203 + (x : Int)) b) = nS s ∧ up s (203 + (x : Int)) b 2 = s 2 := by
  have n8 := nS_8 hw.1
  obtain ⟨x, y, hx, hy, e⟩ := (trF_P (ok := okS s cl a b) (n := nS s) (nS s) (Nat.le_refl _)).1.2.2 h
  have e' : (trdS s cl a b).2 = 10 * (x : Int) + y := e
  have w1 := WF_own (b := x) (c := (b : Int)) hw hx (by omega)
  have n1 : nS (up s (203 + (x : Int)) b) = nS s := by unfold nS; rw [up_o (by omega)]
  have s1 : up s (203 + (x : Int)) b 2 = s 2 := up_o (by omega)
  have w2 := WF_own (b := y) (c := (a : Int)) w1 (by omega) (by omega)
  exact ⟨x, y, hx, hy, e', by omega, by omega, w2, by unfold nS; rw [up_o (by omega), up_o (by omega)], by rw [up_o (by omega), up_o (by omega)], w1, n1, s1⟩
theorem r117_l {a b : Nat} : ∀ (j z : Nat) (s : Int → Int) (σ : St), z + j = 20 → WF s cl → CR 20 s cl σ → (a : Int) < s 2 → (b : Int) < s 2 → ∃ σ' : St, (∀ a, a ≠ 146 → a ≠ 30 → σ' a = σ a) ∧ CR 20 (tdS cl a b j s).2 cl σ' ∧ (tdS cl a b j s).2 0 = s 0 ∧ ∀ Q, R (d + 4) 117 2 [vR 146, vI a, vI b, vI z] [] (WS L σ) Q = Q (some (vI ((z : Int) + (tdS cl a b j s).1))) (WS L σ') := by
  intro j
  induction j with
  | zero =>
    intro z s σ hz hw hr ha hb
    refine ⟨σ, fun _ _ _ => rfl, hr, rfl, fun Q => ?_⟩
    rw [b117_2, if_pos (by omega), b117_59]
    congr 3
    show (20 : Int) = z + 0
    omega
  | succ j ih =>
    intro z s σ hz hw hr ha hb
    have w0 := hw.1
    have n8 := nS_8 w0
    unfold W0 at w0
    obtain ⟨σ1, f1, f2, f3, f4⟩ := r114 (d := d) (L := L) hw hr (a := a) (b := b) (by omega) (by omega)
    by_cases q : (trdS s cl a b).1 = 0
    · rw [tdS, if_pos q]
      refine ⟨σ1, fun a h1 _ => f1 a h1, CR_146 hw hr f1, rfl, fun Q => ?_⟩
      rw [b117_2, if_neg (by omega), b117_8]
      refine (f4 _).trans ?_
      simp only [am_push_n]
      rw [b117_14, f2, if_neg (by omega), b117_21]
      simp
    · obtain ⟨x, y, hx, hy, e1, e2, e3, w2, n2, s2, w1, n1, s1⟩ := td_s hw ha hb q
      rw [tdS, if_neg q, e2, e3]
      have hr1 := CR_146 hw hr f1
      obtain ⟨σ2, g1, g2, g3⟩ := r73' (d := d + 2) (L := L) hw hr1 hx (c := (b : Int)) (by omega)
      obtain ⟨σ3, i1, i2, i3⟩ := r73' (d := d + 2) (L := L) w1 g2 (b := y) (by omega) (c := (a : Int)) (by omega)
      obtain ⟨σ4, k1, k2, k3, k4⟩ := ih (z + 1) _ σ3 (by omega) w2 i2 (by omega) (by omega)
      refine ⟨σ4, fun a h1 h2 => by rw [k1 a h1 h2, i1 a h2, g1 a h2, f1 a h1], k2, by rw [k3, up_o (by omega), up_o (by omega)], fun Q => ?_⟩
      have d1 : i_div (10 * (x : Int) + y) 10 = (x : Int) := by
        have := i_div_nat (a := 10 * x + y) (b := 10) (by omega) (by omega)
        rw [show 10 * (x : Int) + (y : Int) = ((10 * x + y : Nat) : Int) by omega]
        refine this.trans ?_
        omega
      have d2 : i_rem (10 * (x : Int) + y) 10 = (y : Int) := by
        have := i_rem_nat (a := 10 * x + y) (b := 10) (by omega) (by omega)
        rw [show 10 * (x : Int) + (y : Int) = ((10 * x + y : Nat) : Int) by omega]
        refine this.trans ?_
        omega
      rw [b117_2, if_neg (by omega), b117_8]
      refine (f4 _).trans ?_
      simp only [am_push_n]
      rw [b117_14, f2, if_pos q, b117_23, f3, e1, d1]
      refine (g3 _).trans ?_
      simp only [am_push_n]
      rw [b117_38, g1 146 (by omega), f3, e1, d2]
      refine (i3 _).trans ?_
      simp only [am_push_n]
      rw [b117_53 (by omega)]
      refine (k4 Q).trans ?_
      congr 3
      omega
def aTrade (s : Int → Int) (cl : Nat → List Cl) (a b : Int) : Int := if (0 ≤ a ∧ a < s 2) ∧ (0 ≤ b ∧ b < s 2) then (if a = b then -2 else (tdS cl a.toNat b.toNat 20 s).1) else -1
def uTrade (s : Int → Int) (cl : Nat → List Cl) (a b : Int) : Int → Int := if ((0 ≤ a ∧ a < s 2) ∧ (0 ≤ b ∧ b < s 2)) ∧ a ≠ b then (tdS cl a.toNat b.toNat 20 s).2 else s
theorem k116 {x y : Int} (h : HC N s cl σ) : ∃ σ1 : St, CP N (uTrade s cl x y) cl σ σ1 ∧ ∀ Q, R (d + 30) 116 0 [vR 19, vI x, vI y] [] (WS L σ) Q = Q (some (vI (aTrade s cl x y))) (WS L σ1) := by
  have h' := h
  obtain ⟨hw, hr, hE, hv⟩ := h
  have w0 := hw.1
  unfold W0 at w0
  have c0 := hr.1
  unfold C0 at c0
  unfold aTrade uTrade
  by_cases q : (0 ≤ x ∧ x < s 2) ∧ (0 ≤ y ∧ y < s 2)
  · have start : ∀ Q, R (d + 30) 116 0 [vR 19, vI x, vI y] [] (WS L σ) Q = R (d + 30) 116 30 [vR 19, vI x, vI y] [] (WS L σ) Q := by
      intro Q
      rw [b116_0, c0.2.1, r13]
      simp only [am_push_s]
      rw [b116_11]
      simp only [tI_0]
      rw [if_neg (by omega), b116_14, c0.2.1, r13]
      simp only [am_push_s]
      rw [b116_25]
      simp only [tI_0]
      rw [if_pos (by omega)]
    rw [if_pos q]
    by_cases q1 : x = y
    · rw [if_pos q1, if_neg (by omega)]
      refine ⟨σ, CP_r h', fun Q => ?_⟩
      rw [start, b116_30, if_neg (by omega), b116_35, b116_49]
    · rw [if_neg q1, if_pos ⟨q, q1⟩]
      obtain ⟨a, rfl⟩ : ∃ a : Nat, x = (a : Int) := ⟨x.toNat, by omega⟩
      obtain ⟨b, rfl⟩ : ∃ b : Nat, y = (b : Int) := ⟨y.toNat, by omega⟩
      rw [Int.toNat_natCast, Int.toNat_natCast]
      obtain ⟨σ', f1, f2, f3, f4⟩ := r117_l (d := d + 25) (L := L) (a := a) (b := b) 20 0 s σ (by omega) hw hr (by omega) (by omega)
      refine ⟨σ', CP_of' h' f1 f2 f3, fun Q => ?_⟩
      rw [start, b116_30, if_pos q1, b116_40, b117_0]
      refine (f4 _).trans ?_
      simp only [am_push_s]
      rw [b116_49]
      congr 3
      omega
  · rw [if_neg q, if_neg (by omega)]
    refine ⟨σ, CP_r h', fun Q => ?_⟩
    rw [b116_0, c0.2.1, r13]
    simp only [am_push_s]
    rw [b116_11]
    simp only [tI_0]
    by_cases q1 : 0 ≤ x ∧ x < s 2
    · rw [if_neg (by omega), b116_14, c0.2.1, r13]
      simp only [am_push_s]
      rw [b116_25]
      simp only [tI_0]
      rw [if_neg (by omega), b116_28]
    · rw [if_pos (by omega), b116_28]
end EV
