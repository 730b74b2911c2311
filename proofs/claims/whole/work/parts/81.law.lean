/-! the law: what holds between its steps -/
def IMs (σ : St) : Prop := σ 19 9 = 0 ∧ σ 153 3 = 0 ∨ σ 19 9 = 1 ∧ σ 153 3 = 1 ∧ ∃ cl' : Nat → List Cl, WF (σ 155) cl' ∧ CR 77 (σ 155) cl' σ
def TLs (l : List Int) (σ : St) : Prop := l.length ≤ 8 ∧ σ 150 1 = (l.length : Int) ∧ σ 151 1 = (l.length : Int) ∧ (∀ (i : Nat) (c : Int), l[i]? = some c → σ 152 i = c) ∧ σ 153 25 = (l.length : Int) ∧ ∀ (i : Nat) (c : Int), l[i]? = some c → σ 164 i = c
def LI (scr : Int → Int) (i : Nat) (σ : St) : Prop := ∃ (s : Int → Int) (cl : Nat → List Cl) (l : List Int), WF s cl ∧ CR 20 s cl σ ∧ EN (10 * i) (nS s) σ ∧ (0 ≤ σ 20 5 ∧ σ 20 5 ≤ 10 * (i : Int)) ∧ (0 ≤ σ 77 5 ∧ σ 77 5 ≤ 10 * (i : Int)) ∧ RQ (10 * (i : Int)) s σ ∧ IMs σ ∧ TLs l σ ∧ σ 0 = scr
section LW
variable {d L N i : Nat} {scr : Int → Int} {s s' : Int → Int} {cl cl' : Nat → List Cl} {σ σ1 σ2 : St} {l : List Int} {M : Int}
theorem CR_st {b : Nat} (hw : WF s cl) (h : CR b s cl σ) (hf : ∀ a, b ≤ a → a < b + 57 → σ1 a = σ a) : CR b s cl σ1 := by
  obtain ⟨w0, w1, w2, w3, w4, w5, w6, w8, w9⟩ := hw
  obtain ⟨c0, c1, c2, c3, c4, c5, c6, c7, c8, c9⟩ := h
  unfold W0 at w0
  refine ⟨by unfold C0; rw [hf b (by omega) (by omega)]; exact c0, C1_fr c1 (hf _ (by omega) (by omega)) (hf _ (by omega) (by omega)) rfl (fun _ _ _ => rfl) (by omega), C2_fr c2 (hf _ (by omega) (by omega)) (hf _ (by omega) (by omega)) rfl (fun _ _ _ => rfl) (by omega), C3_fr c3 (hf _ (by omega) (by omega)) (hf _ (by omega) (by omega)) rfl (fun _ _ _ => rfl) (by omega), C4_fr c4 (hf _ (by omega) (by omega)) rfl (by omega) (fun _ _ _ => rfl), C5_fr c5 (hf _ (by omega) (by omega)) (hf _ (by omega) (by omega)) (hf _ (by omega) (by omega)) rfl (by omega) (fun _ _ _ => rfl) (fun _ _ _ => rfl), C6_fr c6 w6 (fun a _ _ => hf a (by omega) (by omega)) (fun _ _ _ => rfl), C7_fr c7 (hf _ (by omega) (by omega)) rfl (by omega) (fun _ _ _ => rfl), C8_fr c8 (fun a _ _ => hf a (by omega) (by omega)) rfl (by omega), C9_fr c9 w9 (by omega) (fun a _ _ => hf a (by omega) (by omega)) rfl (by omega) (fun _ _ _ => rfl)⟩
theorem CP_RQ (h : CP N s' cl' σ σ1) (hq : RQ M s σ) : RQ M s σ1 := by
  obtain ⟨h1, -⟩ := h
  exact ⟨by rw [h1 154 (by omega)]; exact hq.1, by rw [h1 153 (by omega)]; exact hq.2.1, by rw [h1 153 (by omega)]; exact hq.2.2.1, fun x hx => by rw [h1 158 (by omega), h1 153 (by omega)]; exact hq.2.2.2 x hx⟩
theorem LI_s (_h : LI scr i σ) (hw : WF s cl) (hr : CR 20 s cl σ) (hE : EN (10 * i) (nS s) σ) (hv : 0 ≤ σ 20 5 ∧ σ 20 5 ≤ 10 * (i : Int)) (hv7 : 0 ≤ σ 77 5 ∧ σ 77 5 ≤ 10 * (i : Int)) (hq : RQ (10 * (i : Int)) s σ) (hI : IMs σ) (hT : TLs l σ) (h0 : σ 0 = scr) (hw' : WF s' cl') (h1 : CP (10 * i) s' cl' σ σ1) (h2 : RQ (10 * (i : Int) + 10) s' σ2) (h3 : FG σ1 σ2) : LI scr (i + 1) σ2 := by
  obtain ⟨p1, p2, p3, p4, p5⟩ := h1
  have lo : ∀ a, a < 153 → σ2 a = σ1 a := fun a ha => h3.1 a (by omega)
  have both : ∀ a, a < 20 ∨ 77 ≤ a ∧ a < 134 ∨ 150 ≤ a ∧ a < 153 ∨ a = 155 ∨ a = 164 → σ2 a = σ a := fun a ha => (h3.1 a (by omega)).trans (p1 a (by omega))
  have n8 := (nS_8 hw'.1).1
  have b153 : σ1 153 = σ 153 := p1 153 (by omega)
  have e10 : 10 * (i + 1) = 10 * i + 10 := by omega
  refine ⟨s', cl', l, hw', CR_st hw' p2 (fun a _ _ => lo a (by omega)), ?_, ?_, ?_, ?_, ?_, ?_, ?_⟩
  · rw [e10]
    exact EN_fr p3 (lo 139 (by omega)) (lo 140 (by omega)) (lo 141 (by omega)) (by rw [lo 20 (by omega)]; omega) (fun _ c x _ _ => by unfold Wc; rw [lo 31 (by omega)]) n8
  · rw [lo 20 (by omega)]
    omega
  · rw [both 77 (by omega)]
    omega
  · have : 10 * ((i + 1 : Nat) : Int) = 10 * (i : Int) + 10 := by omega
    rw [this]
    exact h2
  · unfold IMs
    rw [both 19 (by omega), h3.2.1, b153, both 155 (by omega)]
    rcases hI with hI | ⟨i1, i2, cl2, i3, i4⟩
    · exact Or.inl hI
    · exact Or.inr ⟨i1, i2, cl2, i3, CR_st i3 i4 (fun a _ _ => both a (by omega))⟩
  · obtain ⟨t1, t2, t3, t4, t5, t6⟩ := hT
    exact ⟨t1, by rw [both 150 (by omega)]; exact t2, by rw [both 151 (by omega)]; exact t3, fun i c hi => by rw [both 152 (by omega)]; exact t4 i c hi, by rw [h3.2.2, b153]; exact t5, fun i c hi => by rw [both 164 (by omega)]; exact t6 i c hi⟩
  · rw [both 0 (by omega)]
    exact h0
end LW
