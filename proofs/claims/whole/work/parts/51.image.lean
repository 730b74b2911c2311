/-! the calls of the class, by the array: the image -/
def LNw (k : Nat) : Nat := wsWallL.getD k 0
def Dk (bt bf k : Nat) (σ0 σ : St) : Prop := (KD (20 + k) = 5 → σ (bt + k) 1 = i_min (σ0 (bf + k) 1) (LNw (k + 1) : Int)) ∧ (KD (20 + k) = 100 → ∀ j : Int, 0 ≤ j → j < (LNw k : Int) → σ (bt + k) j = σ0 (bf + k) j)
def Km (bt bf m : Nat) (σ0 σ : St) : Prop := (∀ a, a < bt + 1 ∨ bt + m < a → σ a = σ0 a) ∧ ∀ k, 1 ≤ k → k ≤ m → Dk bt bf k σ0 σ
def BB (bt bf : Nat) : Prop := bt = 20 ∧ bf = 77 ∨ bt = 77 ∧ bf = 20
theorem ln_w : ∀ k, k < 57 → wsL.getD (20 + k) 0 = LNw k ∧ wsL.getD (77 + k) 0 = LNw k ∧ KD (77 + k) = KD (20 + k) := by decide +kernel
theorem ln_wb {L b k : Nat} (hb : b = 20 ∨ b = 77) (hk : k < 57) : LN L (b + k) = LNw k ∧ KD (b + k) = KD (20 + k) := by
  obtain ⟨h1, h2, h3⟩ := ln_w k hk
  rcases hb with rfl | rfl
  · refine ⟨?_, rfl⟩
    rw [← h1, show 20 + k = (19 + k) + 1 by omega]
    rfl
  · refine ⟨?_, h3⟩
    rw [← h2, show 77 + k = (76 + k) + 1 by omega]
    rfl
theorem kd_row : ∀ k, k < 56 → KD (20 + k) = 5 → KD (20 + (k + 1)) = 100 := by decide +kernel
section IM
variable {d L N bt bf m : Nat} {s s' : Int → Int} {cl cl' : Nat → List Cl} {σ σ0 σ1 : St} {Q : Option AV → AW → Prop}
theorem Km_0 : Km bt bf 0 σ0 σ0 := ⟨fun _ _ => rfl, fun k h1 h2 => by omega⟩
theorem Km_skip (h : Km bt bf m σ0 σ) (hk : KD (20 + (m + 1)) = 103) : Km bt bf (m + 1) σ0 σ := by
  refine ⟨fun a ha => h.1 a (by omega), fun k h1 h2 => ?_⟩
  by_cases q : k = m + 1
  · subst q
    exact ⟨fun h => by omega, fun h => by omega⟩
  · exact h.2 k h1 (by omega)
theorem cpA (hb : BB bt bf) (hm : m + 1 ≤ 56) (hk : KD (20 + (m + 1)) = 100) (h : Km bt bf m σ0 σ) : ∃ σ' : St, Km bt bf (m + 1) σ0 σ' ∧ ∀ d L Q, R d 52 0 [vR (bf + (m + 1)), vR (bt + (m + 1))] [] (WS L σ) Q = Q none (WS L σ') := by
  have hb1 : bt = 20 ∨ bt = 77 := by unfold BB at hb; omega
  have hb2 : bf = 20 ∨ bf = 77 := by unfold BB at hb; omega
  refine ⟨cp2 σ (bf + (m + 1)) (bt + (m + 1)) 0 0 (LNw (m + 1)), ⟨fun a ha => ?_, fun k h1 h2 => ?_⟩, fun d L Q => ?_⟩
  · rw [cp2_k (by omega)]
    exact h.1 a (by omega)
  · by_cases q : k = m + 1
    · subst q
      refine ⟨fun h => by omega, fun _ j h0 hj => ?_⟩
      rw [cp2_in h0 hj, h.1 (bf + (m + 1)) (by unfold BB at hb; omega)]
    · have e := h.2 k h1 (by omega)
      unfold Dk at *
      rw [cp2_k (by omega)]
      exact e
  · obtain ⟨t1, t2⟩ := ln_wb (L := L) (k := m + 1) hb1 (by omega)
    obtain ⟨f1, f2⟩ := ln_wb (L := L) (k := m + 1) hb2 (by omega)
    rw [r52 (by rw [f2]; exact hk) (by rw [t2]; exact hk) (by rw [t1, f1]), t1]
theorem cpR (hb : BB bt bf) (hm : m + 2 ≤ 56) (hk : KD (20 + (m + 1)) = 5) (h : Km bt bf m σ0 σ) : ∃ σ' : St, Km bt bf (m + 2) σ0 σ' ∧ ∀ d L Q, R (d + 1) 51 0 [vR (bt + (m + 1)), vR (bf + (m + 1))] [] (WS L σ) Q = Q none (WS L σ') := by
  have hb1 : bt = 20 ∨ bt = 77 := by unfold BB at hb; omega
  have hb2 : bf = 20 ∨ bf = 77 := by unfold BB at hb; omega
  have hk2 := kd_row (m + 1) (by omega) hk
  refine ⟨st2 (cp2 σ (bf + (m + 1) + 1) (bt + (m + 1) + 1) 0 0 (LNw (m + 2))) (bt + (m + 1)) 1 (i_min (σ0 (bf + (m + 1)) 1) (LNw (m + 2) : Int)), ⟨fun a ha => ?_, fun k h1 h2 => ?_⟩, fun d L Q => ?_⟩
  · funext j
    rw [st2_k (by omega), cp2_k (by omega), h.1 a (by omega)]
  · by_cases q : k = m + 1
    · subst q
      refine ⟨fun _ => st2_eq, fun h => by omega⟩
    · by_cases q2 : k = m + 2
      · subst q2
        refine ⟨fun h => ?_, fun _ j h0 hj => ?_⟩
        · rw [show m + 2 = m + 1 + 1 by omega] at h
          omega
        · rw [st2_k (by omega), show bt + (m + 2) = bt + (m + 1) + 1 by omega, cp2_in h0 hj, h.1 _ (by unfold BB at hb; omega), show bf + (m + 2) = bf + (m + 1) + 1 by omega]
      · have e := h.2 k h1 (by omega)
        unfold Dk at *
        refine ⟨fun x => ?_, fun x j h0 hj => ?_⟩
        · rw [st2_k (by omega), cp2_k (by omega)]
          exact e.1 x
        · rw [st2_k (by omega), cp2_k (by omega)]
          exact e.2 x j h0 hj
  · obtain ⟨t1, t2⟩ := ln_wb (L := L) (k := m + 1) hb1 (by omega)
    obtain ⟨f1, f2⟩ := ln_wb (L := L) (k := m + 1) hb2 (by omega)
    obtain ⟨t3, t4⟩ := ln_wb (L := L) (k := m + 2) hb1 (by omega)
    obtain ⟨f3, f4⟩ := ln_wb (L := L) (k := m + 2) hb2 (by omega)
    have g1 : LN L (bt + (m + 1) + 1) = LNw (m + 2) := t3
    have g2 : LN L (bf + (m + 1) + 1) = LNw (m + 2) := f3
    rw [r51 (by rw [t2]; exact hk) (by rw [f2]; exact hk) (by rw [g1, g2]), g1]
    have e : cp2 σ (bf + (m + 1) + 1) (bt + (m + 1) + 1) 0 0 (LNw (m + 2)) (bf + (m + 1)) 1 = σ0 (bf + (m + 1)) 1 := by rw [cp2_k (by unfold BB at hb; omega), h.1 _ (by unfold BB at hb; omega)]
    rw [e]
theorem cp140_a : ∀ (j i : Nat) (σ : St), i + j = 6 → Km 77 20 (12 + 2 * i) σ0 σ → ∃ σ' : St, Km 77 20 24 σ0 σ' ∧ ∀ d L Q, R (d + 2) 140 2 [vR 32, vR 89, vI i] [] (WS L σ) Q = Q none (WS L σ') := by
  intro j
  induction j with
  | zero =>
    intro i σ hi h
    obtain rfl : i = 6 := by omega
    refine ⟨σ, h, fun d L Q => ?_⟩
    rw [b140_2a, if_pos (by omega), b140_35a]
  | succ j ih =>
    intro i σ hi h
    have hk : KD (20 + (12 + 2 * i + 1)) = 5 := (by decide +kernel : ∀ i, i < 6 → KD (20 + (12 + 2 * i + 1)) = 5) i (by omega)
    obtain ⟨σ1, a1, a2⟩ := cpR (by unfold BB; omega) (by omega) hk h
    obtain ⟨σ2, b1, b2⟩ := ih (i + 1) σ1 (by omega) (by rw [show 12 + 2 * (i + 1) = 12 + 2 * i + 2 by omega]; exact a1)
    refine ⟨σ2, b1, fun d L Q => ?_⟩
    have hk2 : KD (90 + 2 * i) = 5 := (by decide +kernel : ∀ i, i < 6 → KD (90 + 2 * i) = 5) i (by omega)
    rw [b140_2a, if_neg (by omega), b140_8a, if_neg (by omega), b140_14a (by omega) (by omega), b140_20a (by omega) (by omega) (by rw [Int.toNat_natCast]; exact hk2), Int.toNat_natCast, show 90 + 2 * i = 77 + (12 + 2 * i + 1) by omega, show 33 + 2 * i = 20 + (12 + 2 * i + 1) by omega, a2]
    simp only [am_push_n]
    rw [b140_29a (by omega)]
    exact b2 d L Q
theorem cp140_b : ∀ (j i : Nat) (σ : St), i + j = 6 → Km 20 77 (12 + 2 * i) σ0 σ → ∃ σ' : St, Km 20 77 24 σ0 σ' ∧ ∀ d L Q, R (d + 2) 140 2 [vR 89, vR 32, vI i] [] (WS L σ) Q = Q none (WS L σ') := by
  intro j
  induction j with
  | zero =>
    intro i σ hi h
    obtain rfl : i = 6 := by omega
    refine ⟨σ, h, fun d L Q => ?_⟩
    rw [b140_2b, if_pos (by omega), b140_35b]
  | succ j ih =>
    intro i σ hi h
    have hk : KD (20 + (12 + 2 * i + 1)) = 5 := (by decide +kernel : ∀ i, i < 6 → KD (20 + (12 + 2 * i + 1)) = 5) i (by omega)
    obtain ⟨σ1, a1, a2⟩ := cpR (by unfold BB; omega) (by omega) hk h
    obtain ⟨σ2, b1, b2⟩ := ih (i + 1) σ1 (by omega) (by rw [show 12 + 2 * (i + 1) = 12 + 2 * i + 2 by omega]; exact a1)
    refine ⟨σ2, b1, fun d L Q => ?_⟩
    have hk2 : KD (33 + 2 * i) = 5 := (by decide +kernel : ∀ i, i < 6 → KD (33 + 2 * i) = 5) i (by omega)
    rw [b140_2b, if_neg (by omega), b140_8b, if_neg (by omega), b140_14b (by omega) (by omega), b140_20b (by omega) (by omega) (by rw [Int.toNat_natCast]; exact hk2), Int.toNat_natCast, show 33 + 2 * i = 20 + (12 + 2 * i + 1) by omega, show 90 + 2 * i = 77 + (12 + 2 * i + 1) by omega, a2]
    simp only [am_push_n]
    rw [b140_29b (by omega)]
    exact b2 d L Q
theorem cp140_c : ∀ (j i : Nat) (σ : St), i + j = 3 → Km 77 20 (25 + 2 * i) σ0 σ → ∃ σ' : St, Km 77 20 31 σ0 σ' ∧ ∀ d L Q, R (d + 2) 140 2 [vR 45, vR 102, vI i] [] (WS L σ) Q = Q none (WS L σ') := by
  intro j
  induction j with
  | zero =>
    intro i σ hi h
    obtain rfl : i = 3 := by omega
    refine ⟨σ, h, fun d L Q => ?_⟩
    rw [b140_2c, if_pos (by omega), b140_35c]
  | succ j ih =>
    intro i σ hi h
    have hk : KD (20 + (25 + 2 * i + 1)) = 5 := (by decide +kernel : ∀ i, i < 3 → KD (20 + (25 + 2 * i + 1)) = 5) i (by omega)
    obtain ⟨σ1, a1, a2⟩ := cpR (by unfold BB; omega) (by omega) hk h
    obtain ⟨σ2, b1, b2⟩ := ih (i + 1) σ1 (by omega) (by rw [show 25 + 2 * (i + 1) = 25 + 2 * i + 2 by omega]; exact a1)
    refine ⟨σ2, b1, fun d L Q => ?_⟩
    have hk2 : KD (103 + 2 * i) = 5 := (by decide +kernel : ∀ i, i < 3 → KD (103 + 2 * i) = 5) i (by omega)
    rw [b140_2c, if_neg (by omega), b140_8c, if_neg (by omega), b140_14c (by omega) (by omega), b140_20c (by omega) (by omega) (by rw [Int.toNat_natCast]; exact hk2), Int.toNat_natCast, show 103 + 2 * i = 77 + (25 + 2 * i + 1) by omega, show 46 + 2 * i = 20 + (25 + 2 * i + 1) by omega, a2]
    simp only [am_push_n]
    rw [b140_29c (by omega)]
    exact b2 d L Q
theorem cp140_e : ∀ (j i : Nat) (σ : St), i + j = 3 → Km 20 77 (25 + 2 * i) σ0 σ → ∃ σ' : St, Km 20 77 31 σ0 σ' ∧ ∀ d L Q, R (d + 2) 140 2 [vR 102, vR 45, vI i] [] (WS L σ) Q = Q none (WS L σ') := by
  intro j
  induction j with
  | zero =>
    intro i σ hi h
    obtain rfl : i = 3 := by omega
    refine ⟨σ, h, fun d L Q => ?_⟩
    rw [b140_2e, if_pos (by omega), b140_35e]
  | succ j ih =>
    intro i σ hi h
    have hk : KD (20 + (25 + 2 * i + 1)) = 5 := (by decide +kernel : ∀ i, i < 3 → KD (20 + (25 + 2 * i + 1)) = 5) i (by omega)
    obtain ⟨σ1, a1, a2⟩ := cpR (by unfold BB; omega) (by omega) hk h
    obtain ⟨σ2, b1, b2⟩ := ih (i + 1) σ1 (by omega) (by rw [show 25 + 2 * (i + 1) = 25 + 2 * i + 2 by omega]; exact a1)
    refine ⟨σ2, b1, fun d L Q => ?_⟩
    have hk2 : KD (46 + 2 * i) = 5 := (by decide +kernel : ∀ i, i < 3 → KD (46 + 2 * i) = 5) i (by omega)
    rw [b140_2e, if_neg (by omega), b140_8e, if_neg (by omega), b140_14e (by omega) (by omega), b140_20e (by omega) (by omega) (by rw [Int.toNat_natCast]; exact hk2), Int.toNat_natCast, show 46 + 2 * i = 20 + (25 + 2 * i + 1) by omega, show 103 + 2 * i = 77 + (25 + 2 * i + 1) by omega, a2]
    simp only [am_push_n]
    rw [b140_29e (by omega)]
    exact b2 d L Q
theorem cp140_f : ∀ (j i : Nat) (σ : St), i + j = 12 → Km 77 20 (32 + 2 * i) σ0 σ → ∃ σ' : St, Km 77 20 56 σ0 σ' ∧ ∀ d L Q, R (d + 2) 140 2 [vR 52, vR 109, vI i] [] (WS L σ) Q = Q none (WS L σ') := by
  intro j
  induction j with
  | zero =>
    intro i σ hi h
    obtain rfl : i = 12 := by omega
    refine ⟨σ, h, fun d L Q => ?_⟩
    rw [b140_2f, if_pos (by omega), b140_35f]
  | succ j ih =>
    intro i σ hi h
    have hk : KD (20 + (32 + 2 * i + 1)) = 5 := (by decide +kernel : ∀ i, i < 12 → KD (20 + (32 + 2 * i + 1)) = 5) i (by omega)
    obtain ⟨σ1, a1, a2⟩ := cpR (by unfold BB; omega) (by omega) hk h
    obtain ⟨σ2, b1, b2⟩ := ih (i + 1) σ1 (by omega) (by rw [show 32 + 2 * (i + 1) = 32 + 2 * i + 2 by omega]; exact a1)
    refine ⟨σ2, b1, fun d L Q => ?_⟩
    have hk2 : KD (110 + 2 * i) = 5 := (by decide +kernel : ∀ i, i < 12 → KD (110 + 2 * i) = 5) i (by omega)
    rw [b140_2f, if_neg (by omega), b140_8f, if_neg (by omega), b140_14f (by omega) (by omega), b140_20f (by omega) (by omega) (by rw [Int.toNat_natCast]; exact hk2), Int.toNat_natCast, show 110 + 2 * i = 77 + (32 + 2 * i + 1) by omega, show 53 + 2 * i = 20 + (32 + 2 * i + 1) by omega, a2]
    simp only [am_push_n]
    rw [b140_29f (by omega)]
    exact b2 d L Q
theorem cp140_g : ∀ (j i : Nat) (σ : St), i + j = 12 → Km 20 77 (32 + 2 * i) σ0 σ → ∃ σ' : St, Km 20 77 56 σ0 σ' ∧ ∀ d L Q, R (d + 2) 140 2 [vR 109, vR 52, vI i] [] (WS L σ) Q = Q none (WS L σ') := by
  intro j
  induction j with
  | zero =>
    intro i σ hi h
    obtain rfl : i = 12 := by omega
    refine ⟨σ, h, fun d L Q => ?_⟩
    rw [b140_2g, if_pos (by omega), b140_35g]
  | succ j ih =>
    intro i σ hi h
    have hk : KD (20 + (32 + 2 * i + 1)) = 5 := (by decide +kernel : ∀ i, i < 12 → KD (20 + (32 + 2 * i + 1)) = 5) i (by omega)
    obtain ⟨σ1, a1, a2⟩ := cpR (by unfold BB; omega) (by omega) hk h
    obtain ⟨σ2, b1, b2⟩ := ih (i + 1) σ1 (by omega) (by rw [show 32 + 2 * (i + 1) = 32 + 2 * i + 2 by omega]; exact a1)
    refine ⟨σ2, b1, fun d L Q => ?_⟩
    have hk2 : KD (53 + 2 * i) = 5 := (by decide +kernel : ∀ i, i < 12 → KD (53 + 2 * i) = 5) i (by omega)
    rw [b140_2g, if_neg (by omega), b140_8g, if_neg (by omega), b140_14g (by omega) (by omega), b140_20g (by omega) (by omega) (by rw [Int.toNat_natCast]; exact hk2), Int.toNat_natCast, show 53 + 2 * i = 20 + (32 + 2 * i + 1) by omega, show 110 + 2 * i = 77 + (32 + 2 * i + 1) by omega, a2]
    simp only [am_push_n]
    rw [b140_29g (by omega)]
    exact b2 d L Q
theorem r139a (hv : 0 ≤ σ 20 5 ∧ σ 20 5 < 1000000) : ∃ σ' : St, Km 20 77 56 (st2 (st2 (st2 (st2 (st2 (st2 σ 20 0 (σ 77 0)) 20 1 (σ 77 1)) 20 2 (σ 77 2)) 20 3 (σ 77 3)) 20 4 (σ 77 4)) 20 5 (σ 20 5 + 1)) σ' ∧ ∀ d L Q, R (d + 3) 139 0 [vR 20, vR 77] [] (WS L σ) Q = Q none (WS L σ') := by
  have hb : BB 20 77 := by unfold BB; omega
  obtain ⟨σ1, a1, a2⟩ := cpR hb (by omega) rfl (Km_0 (σ0 := st2 (st2 (st2 (st2 (st2 (st2 σ 20 0 (σ 77 0)) 20 1 (σ 77 1)) 20 2 (σ 77 2)) 20 3 (σ 77 3)) 20 4 (σ 77 4)) 20 5 (σ 20 5 + 1)))
  obtain ⟨σ2, b1, b2⟩ := cpR hb (by omega) rfl a1
  obtain ⟨σ3, c1, c2⟩ := cpR hb (by omega) rfl b1
  obtain ⟨σ4, d1, d2⟩ := cpA hb (by omega) rfl c1
  obtain ⟨σ5, e1, e2⟩ := cpA hb (by omega) rfl d1
  obtain ⟨σ6, f1, f2⟩ := cpA hb (by omega) rfl e1
  obtain ⟨σ7, g1, g2⟩ := cpA hb (by omega) rfl f1
  obtain ⟨σ8, h1, h2⟩ := cpA hb (by omega) rfl g1
  obtain ⟨σ9, i1, i2⟩ := cp140_b 6 0 σ8 (by omega) (Km_skip h1 rfl)
  obtain ⟨σ10, j1, j2⟩ := cp140_e 3 0 σ9 (by omega) (Km_skip i1 rfl)
  obtain ⟨σ11, k1, k2⟩ := cp140_g 12 0 σ10 (by omega) (Km_skip j1 rfl)
  refine ⟨σ11, k1, fun d L Q => ?_⟩
  rw [b139_0a]
  rw [b139_8a]
  rw [show ((st2 σ 20 0 (σ 77 0))) 77 1 = σ 77 1 from by rw [st2_k (by omega)]]
  rw [b139_16a]
  rw [show ((st2 (st2 σ 20 0 (σ 77 0)) 20 1 (σ 77 1))) 77 2 = σ 77 2 from by rw [st2_k (by omega), st2_k (by omega)]]
  rw [b139_24a]
  rw [show ((st2 (st2 (st2 σ 20 0 (σ 77 0)) 20 1 (σ 77 1)) 20 2 (σ 77 2))) 77 3 = σ 77 3 from by rw [st2_k (by omega), st2_k (by omega), st2_k (by omega)]]
  rw [b139_32a]
  rw [show ((st2 (st2 (st2 (st2 σ 20 0 (σ 77 0)) 20 1 (σ 77 1)) 20 2 (σ 77 2)) 20 3 (σ 77 3))) 77 4 = σ 77 4 from by rw [st2_k (by omega), st2_k (by omega), st2_k (by omega), st2_k (by omega)]]
  have e5 : ((st2 (st2 (st2 (st2 (st2 σ 20 0 (σ 77 0)) 20 1 (σ 77 1)) 20 2 (σ 77 2)) 20 3 (σ 77 3)) 20 4 (σ 77 4))) 20 5 = σ 20 5 := by rw [st2_i (by omega), st2_i (by omega), st2_i (by omega), st2_i (by omega), st2_i (by omega)]
  rw [b139_40a (by rw [e5]; omega), e5, b139_50a]
  refine (a2 (d + 1) L _).trans ?_
  simp only [am_push_n]
  rw [b139_61a]
  refine (b2 (d + 1) L _).trans ?_
  simp only [am_push_n]
  rw [b139_72a]
  refine (c2 (d + 1) L _).trans ?_
  simp only [am_push_n]
  rw [b139_83a]
  refine (d2 (d + 2) L _).trans ?_
  simp only [am_push_n]
  rw [b139_94a]
  refine (e2 (d + 2) L _).trans ?_
  simp only [am_push_n]
  rw [b139_105a]
  refine (f2 (d + 2) L _).trans ?_
  simp only [am_push_n]
  rw [b139_116a]
  refine (g2 (d + 2) L _).trans ?_
  simp only [am_push_n]
  rw [b139_127a]
  refine (h2 (d + 2) L _).trans ?_
  simp only [am_push_n]
  rw [b139_138a, b140_0b]
  refine (i2 d L _).trans ?_
  simp only [am_push_n]
  rw [b139_149a, b140_0e]
  refine (j2 d L _).trans ?_
  simp only [am_push_n]
  rw [b139_160a, b140_0g]
  refine (k2 d L _).trans ?_
  simp only [am_push_n]
  rw [b139_171a]
theorem r139b (hv : 0 ≤ σ 77 5 ∧ σ 77 5 < 1000000) : ∃ σ' : St, Km 77 20 56 (st2 (st2 (st2 (st2 (st2 (st2 σ 77 0 (σ 20 0)) 77 1 (σ 20 1)) 77 2 (σ 20 2)) 77 3 (σ 20 3)) 77 4 (σ 20 4)) 77 5 (σ 77 5 + 1)) σ' ∧ ∀ d L Q, R (d + 3) 139 0 [vR 77, vR 20] [] (WS L σ) Q = Q none (WS L σ') := by
  have hb : BB 77 20 := by unfold BB; omega
  obtain ⟨σ1, a1, a2⟩ := cpR hb (by omega) rfl (Km_0 (σ0 := st2 (st2 (st2 (st2 (st2 (st2 σ 77 0 (σ 20 0)) 77 1 (σ 20 1)) 77 2 (σ 20 2)) 77 3 (σ 20 3)) 77 4 (σ 20 4)) 77 5 (σ 77 5 + 1)))
  obtain ⟨σ2, b1, b2⟩ := cpR hb (by omega) rfl a1
  obtain ⟨σ3, c1, c2⟩ := cpR hb (by omega) rfl b1
  obtain ⟨σ4, d1, d2⟩ := cpA hb (by omega) rfl c1
  obtain ⟨σ5, e1, e2⟩ := cpA hb (by omega) rfl d1
  obtain ⟨σ6, f1, f2⟩ := cpA hb (by omega) rfl e1
  obtain ⟨σ7, g1, g2⟩ := cpA hb (by omega) rfl f1
  obtain ⟨σ8, h1, h2⟩ := cpA hb (by omega) rfl g1
  obtain ⟨σ9, i1, i2⟩ := cp140_a 6 0 σ8 (by omega) (Km_skip h1 rfl)
  obtain ⟨σ10, j1, j2⟩ := cp140_c 3 0 σ9 (by omega) (Km_skip i1 rfl)
  obtain ⟨σ11, k1, k2⟩ := cp140_f 12 0 σ10 (by omega) (Km_skip j1 rfl)
  refine ⟨σ11, k1, fun d L Q => ?_⟩
  rw [b139_0b]
  rw [b139_8b]
  rw [show ((st2 σ 77 0 (σ 20 0))) 20 1 = σ 20 1 from by rw [st2_k (by omega)]]
  rw [b139_16b]
  rw [show ((st2 (st2 σ 77 0 (σ 20 0)) 77 1 (σ 20 1))) 20 2 = σ 20 2 from by rw [st2_k (by omega), st2_k (by omega)]]
  rw [b139_24b]
  rw [show ((st2 (st2 (st2 σ 77 0 (σ 20 0)) 77 1 (σ 20 1)) 77 2 (σ 20 2))) 20 3 = σ 20 3 from by rw [st2_k (by omega), st2_k (by omega), st2_k (by omega)]]
  rw [b139_32b]
  rw [show ((st2 (st2 (st2 (st2 σ 77 0 (σ 20 0)) 77 1 (σ 20 1)) 77 2 (σ 20 2)) 77 3 (σ 20 3))) 20 4 = σ 20 4 from by rw [st2_k (by omega), st2_k (by omega), st2_k (by omega), st2_k (by omega)]]
  have e5 : ((st2 (st2 (st2 (st2 (st2 σ 77 0 (σ 20 0)) 77 1 (σ 20 1)) 77 2 (σ 20 2)) 77 3 (σ 20 3)) 77 4 (σ 20 4))) 77 5 = σ 77 5 := by rw [st2_i (by omega), st2_i (by omega), st2_i (by omega), st2_i (by omega), st2_i (by omega)]
  rw [b139_40b (by rw [e5]; omega), e5, b139_50b]
  refine (a2 (d + 1) L _).trans ?_
  simp only [am_push_n]
  rw [b139_61b]
  refine (b2 (d + 1) L _).trans ?_
  simp only [am_push_n]
  rw [b139_72b]
  refine (c2 (d + 1) L _).trans ?_
  simp only [am_push_n]
  rw [b139_83b]
  refine (d2 (d + 2) L _).trans ?_
  simp only [am_push_n]
  rw [b139_94b]
  refine (e2 (d + 2) L _).trans ?_
  simp only [am_push_n]
  rw [b139_105b]
  refine (f2 (d + 2) L _).trans ?_
  simp only [am_push_n]
  rw [b139_116b]
  refine (g2 (d + 2) L _).trans ?_
  simp only [am_push_n]
  rw [b139_127b]
  refine (h2 (d + 2) L _).trans ?_
  simp only [am_push_n]
  rw [b139_138b, b140_0a]
  refine (i2 d L _).trans ?_
  simp only [am_push_n]
  rw [b139_149b, b140_0c]
  refine (j2 d L _).trans ?_
  simp only [am_push_n]
  rw [b139_160b, b140_0f]
  refine (k2 d L _).trans ?_
  simp only [am_push_n]
  rw [b139_171b]
theorem Km_row {k : Nat} {z : Int} (h : Km bt bf 56 σ0 σ) (h1 : 1 ≤ k) (h2 : k ≤ 56) (hk : KD (20 + k) = 5) (hz : σ0 (bf + k) 1 = z) (hl : z ≤ (LNw (k + 1) : Int)) : σ (bt + k) 1 = z := by
  rw [(h.2 k h1 h2).1 hk, hz, i_min_s hl]
theorem Km_arr {k : Nat} {j : Int} (h : Km bt bf 56 σ0 σ) (h1 : 1 ≤ k) (h2 : k ≤ 56) (hk : KD (20 + k) = 100) (h0 : 0 ≤ j) (hl : j < (LNw k : Int)) : σ (bt + k) j = σ0 (bf + k) j := (h.2 k h1 h2).2 hk j h0 hl
/-- the whole wall, copied -/
theorem CR_cp (hw : WF s cl) (h : CR bf s cl σ0) (hf : ∀ j : Int, j = 0 ∨ j = 1 ∨ j = 2 ∨ j = 3 ∨ j = 4 → σ bt j = σ0 bf j) (hK : Km bt bf 56 σ1 σ) (hs : ∀ k, 1 ≤ k → k ≤ 56 → σ1 (bf + k) = σ0 (bf + k)) : CR bt s cl σ := by
  obtain ⟨w0, w1, w2, w3, w4, w5, w6, w8, w9⟩ := hw
  obtain ⟨c0, c1, c2, c3, c4, c5, c6, c7, c8, c9⟩ := h
  have hn8 := nS_8 w0
  unfold W0 at w0
  have row : ∀ (k : Nat) (z : Int), 1 ≤ k → k ≤ 56 → KD (20 + k) = 5 → σ0 (bf + k) 1 = z → z ≤ (LNw (k + 1) : Int) → σ (bt + k) 1 = z := fun k z h1 h2 hk hz hl => Km_row hK h1 h2 hk (by rw [hs k h1 h2]; exact hz) hl
  have arr : ∀ (k : Nat) (j : Int), 1 ≤ k → k ≤ 56 → KD (20 + k) = 100 → 0 ≤ j → j < (LNw k : Int) → σ (bt + k) j = σ0 (bf + k) j := fun k j h1 h2 hk h0 hl => by rw [Km_arr hK h1 h2 hk h0 hl, hs k h1 h2]
  have l2 : (LNw 2 : Int) = 120 := rfl
  have l4 : (LNw 4 : Int) = 8 := rfl
  have l6 : (LNw 6 : Int) = 8 := rfl
  have l7 : (LNw 7 : Int) = 32 := rfl
  have l8 : (LNw 8 : Int) = 3 := rfl
  have l9 : (LNw 9 : Int) = 3 := rfl
  have l10 : (LNw 10 : Int) = 3 := rfl
  have l11 : (LNw 11 : Int) = 768 := rfl
  refine ⟨?_, ?_, ?_, ?_, ?_, ?_, ?_, ?_, ?_, ?_⟩
  · unfold C0
    rw [hf 0 (by omega), hf 1 (by omega), hf 2 (by omega), hf 3 (by omega), hf 4 (by omega)]
    exact c0
  · refine ⟨row 1 _ (by omega) (by omega) rfl c1.1 (by rw [show LNw (1 + 1) = 120 from rfl]; omega), fun i hi => ?_⟩
    rw [arr 2 i (by omega) (by omega) rfl (by omega) (by omega)]
    exact c1.2 i hi
  · refine ⟨row 3 _ (by omega) (by omega) rfl c2.1 (by rw [show LNw (3 + 1) = 8 from rfl]; omega), fun i hi => ?_⟩
    rw [arr 4 i (by omega) (by omega) rfl (by omega) (by omega)]
    exact c2.2 i hi
  · refine ⟨row 5 _ (by omega) (by omega) rfl c3.1 (by rw [show LNw (5 + 1) = 8 from rfl]; omega), fun i hi => ?_⟩
    rw [arr 6 i (by omega) (by omega) rfl (by omega) (by omega)]
    exact c3.2 i hi
  · intro q k hq hk
    rw [arr 7 _ (by omega) (by omega) rfl (by omega) (by omega)]
    exact c4 q k hq hk
  · intro c hc
    rw [arr 8 c (by omega) (by omega) rfl (by omega) (by omega), arr 9 c (by omega) (by omega) rfl (by omega) (by omega), arr 10 c (by omega) (by omega) rfl (by omega) (by omega)]
    exact c5 c hc
  · intro c hc
    have hk : ∀ c, c < 3 → KD (20 + (26 + 2 * c)) = 5 ∧ KD (20 + (27 + 2 * c)) = 100 ∧ LNw (27 + 2 * c) = 8 := by decide +kernel
    obtain ⟨k1, k2, k3⟩ := hk c hc
    have hb := (w6 c hc).1
    have k4 : LNw (26 + 2 * c + 1) = 8 := by rw [show 26 + 2 * c + 1 = 27 + 2 * c by omega]; exact k3
    refine ⟨?_, fun i hi => ?_⟩
    · have := row (26 + 2 * c) (s (160 + c)) (by omega) (by omega) k1 (by rw [show bf + (26 + 2 * c) = bf + 26 + 2 * c by omega]; exact (c6 c hc).1) (by omega)
      rwa [show bt + (26 + 2 * c) = bt + 26 + 2 * c by omega] at this
    · have := arr (27 + 2 * c) i (by omega) (by omega) k2 (by omega) (by omega)
      rw [show bt + 27 + 2 * c = bt + (27 + 2 * c) by omega, this, show bf + (27 + 2 * c) = bf + 27 + 2 * c by omega]
      exact (c6 c hc).2 i hi
  · intro c x hc hx
    have p8 := pw8 hn8.1
    rw [arr 11 _ (by omega) (by omega) rfl (by omega) (by omega)]
    exact c7 c x hc hx
  · intro y hy
    have hk : ∀ c, c < 6 → KD (20 + (13 + 2 * c)) = 5 ∧ KD (20 + (14 + 2 * c)) = 100 ∧ LNw (14 + 2 * c) = 120 := by decide +kernel
    obtain ⟨k1, k2, k3⟩ := hk y (by omega)
    obtain ⟨e, t, h1, h2, h3, h4⟩ := c8 y hy
    have k4 : LNw (13 + 2 * y + 1) = 120 := by rw [show 13 + 2 * y + 1 = 14 + 2 * y by omega]; exact k3
    refine ⟨e, t, ?_, h2, fun i hi => ?_, h4⟩
    · have := row (13 + 2 * y) (e : Int) (by omega) (by omega) k1 (by rw [show bf + (13 + 2 * y) = bf + 13 + 2 * y by omega]; exact h1) (by omega)
      rwa [show bt + (13 + 2 * y) = bt + 13 + 2 * y by omega] at this
    · have := arr (14 + 2 * y) i (by omega) (by omega) k2 (by omega) (by omega)
      rw [show bt + 14 + 2 * y = bt + (14 + 2 * y) by omega, this, show bf + (14 + 2 * y) = bf + 14 + 2 * y by omega]
      exact h3 i hi
  · have hk : ∀ c, c < 12 → KD (20 + (33 + 2 * c)) = 5 ∧ KD (20 + (34 + 2 * c)) = 100 ∧ LNw (34 + 2 * c) = 8 := by decide +kernel
    refine ⟨fun k hk12 => ?_, fun k hk3 => ?_⟩
    · obtain ⟨k1, k2, k3⟩ := hk k hk12
      have k4 : LNw (33 + 2 * k + 1) = 8 := by rw [show 33 + 2 * k + 1 = 34 + 2 * k by omega]; exact k3
      have hb := c9.1 k hk12
      have := row (33 + 2 * k) (σ0 (bf + 33 + 2 * k) 1) (by omega) (by omega) k1 (by rw [show bf + (33 + 2 * k) = bf + 33 + 2 * k by omega]) (by omega)
      rw [show bt + (33 + 2 * k) = bt + 33 + 2 * k by omega] at this
      rw [this]
      exact hb
    obtain ⟨k1, k2, k3⟩ := hk k (by omega)
    have hb := (w9 k hk3).1
    have k4 : LNw (33 + 2 * k + 1) = 8 := by rw [show 33 + 2 * k + 1 = 34 + 2 * k by omega]; exact k3
    refine ⟨?_, fun i hi => ?_⟩
    · have := row (33 + 2 * k) (s (1369 + k)) (by omega) (by omega) k1 (by rw [show bf + (33 + 2 * k) = bf + 33 + 2 * k by omega]; exact (c9.2 k hk3).1) (by omega)
      rwa [show bt + (33 + 2 * k) = bt + 33 + 2 * k by omega] at this
    · have := arr (34 + 2 * k) i (by omega) (by omega) k2 (by omega) (by omega)
      rw [show bt + 34 + 2 * k = bt + (34 + 2 * k) by omega, this, show bf + (34 + 2 * k) = bf + 34 + 2 * k by omega]
      exact (c9.2 k hk3).2 i hi
theorem k138 (h : HC N s cl σ) (hv : 0 ≤ σ 77 5 ∧ σ 77 5 < 1000000) : ∃ σ1 : St, (∀ a, a ≠ 19 → a < 77 ∨ 134 ≤ a → σ1 a = σ a) ∧ (∀ j : Int, j ≠ 9 → σ1 19 j = σ 19 j) ∧ σ1 19 9 = 1 ∧ CR 77 s cl σ1 ∧ σ1 77 5 = σ 77 5 + 1 ∧ ∀ Q, R (d + 30) 138 0 [vR 19] [] (WS L σ) Q = Q (some (vI (s 0))) (WS L σ1) := by
  obtain ⟨σa, a1, a2⟩ := r139b hv
  have hf : ∀ a, a ≠ 77 → a < 78 ∨ 133 < a → σa a = σ a := by
    intro a h1 h2
    rw [a1.1 a (by omega)]
    funext j
    rw [st2_k h1, st2_k h1, st2_k h1, st2_k h1, st2_k h1, st2_k h1]
  have g : ∀ a, a ≠ 19 → st2 σa 19 9 1 a = σa a := fun a ha => by funext j; exact st2_k ha
  have a77 := a1.1 77 (by omega)
  refine ⟨st2 σa 19 9 1, fun a h1 h2 => by rw [g a h1, hf a (by omega) (by omega)], fun j hj => by rw [st2_i hj, hf 19 (by omega) (by omega)], st2_eq, ?_, ?_, fun Q => ?_⟩
  · have hC : CR 77 s cl σa := by
      refine CR_cp (σ0 := σ) (bf := 20) h.1 h.2.1 (fun j hj => ?_) a1 (fun k h1 h2 => ?_)
      · rw [a77, st2_i (by omega)]
        rcases hj with rfl | rfl | rfl | rfl | rfl
        · rw [st2_i (by omega), st2_i (by omega), st2_i (by omega), st2_i (by omega), st2_eq]
        · rw [st2_i (by omega), st2_i (by omega), st2_i (by omega), st2_eq]
        · rw [st2_i (by omega), st2_i (by omega), st2_eq]
        · rw [st2_i (by omega), st2_eq]
        · rw [st2_eq]
      · funext j
        rw [st2_k (by omega), st2_k (by omega), st2_k (by omega), st2_k (by omega), st2_k (by omega), st2_k (by omega)]
    have w0 := h.1.1
    unfold W0 at w0
    exact CR_fr hC (fun j _ => by rw [g 77 (by omega)]) (fun a _ _ => g a (by omega)) (by omega) (by omega)
  · rw [g 77 (by omega), a77, st2_eq]
  · have c0 := h.2.1.1
    unfold C0 at c0
    rw [b138_0]
    refine (a2 (d + 26) L _).trans ?_
    simp only [am_push_n]
    rw [b138_11, b138_16, g 20 (by omega), hf 20 (by omega) (by omega), c0.1]
theorem k141n (h : HC N s cl σ) (h0 : σ 19 9 = 0) : ∃ σ1 : St, CP N s cl σ σ1 ∧ ∀ Q, R (d + 30) 141 0 [vR 19] [] (WS L σ) Q = Q (some (vI (-3))) (WS L σ1) := by
  refine ⟨σ, CP_r h, fun Q => ?_⟩
  rw [b141_0, if_neg (by omega), b141_7]
theorem k141 (h : HC N s cl σ) (h0 : σ 19 9 = 1) (hw : WF s' cl') (hr : CR 77 s' cl' σ) : ∃ σ1 : St, CP N s' cl' σ σ1 ∧ ∀ Q, R (d + 30) 141 0 [vR 19] [] (WS L σ) Q = Q (some (vI (s' 0))) (WS L σ1) := by
  obtain ⟨-, -, hE, hv⟩ := h
  obtain ⟨σa, a1, a2⟩ := r139a (σ := σ) (by omega)
  have hf : ∀ a, a ≠ 20 → a < 21 ∨ 76 < a → σa a = σ a := by
    intro a h1 h2
    rw [a1.1 a (by omega)]
    funext j
    rw [st2_k h1, st2_k h1, st2_k h1, st2_k h1, st2_k h1, st2_k h1]
  have a20 := a1.1 20 (by omega)
  have e5 : σa 20 5 = σ 20 5 + 1 := by rw [a20, st2_eq]
  have hC : CR 20 s' cl' σa := by
    refine CR_cp (σ0 := σ) (bf := 77) hw hr (fun j hj => ?_) a1 (fun k h1 h2 => ?_)
    · rw [a20, st2_i (by omega)]
      rcases hj with rfl | rfl | rfl | rfl | rfl
      · rw [st2_i (by omega), st2_i (by omega), st2_i (by omega), st2_i (by omega), st2_eq]
      · rw [st2_i (by omega), st2_i (by omega), st2_i (by omega), st2_eq]
      · rw [st2_i (by omega), st2_i (by omega), st2_eq]
      · rw [st2_i (by omega), st2_eq]
      · rw [st2_eq]
    · funext j
      rw [st2_k (by omega), st2_k (by omega), st2_k (by omega), st2_k (by omega), st2_k (by omega), st2_k (by omega)]
  refine ⟨σa, ⟨fun a ha => hf a (by omega) (by omega), hC, EN_mono (EN_new hE (hf 139 (by omega) (by omega)) (hf 140 (by omega) (by omega)) (hf 141 (by omega) (by omega)) (by omega)) (by omega), by omega, by omega⟩, fun Q => ?_⟩
  have c0 := hC.1
  unfold C0 at c0
  rw [b141_0, if_pos (by omega), b141_10]
  refine (a2 (d + 26) L _).trans ?_
  simp only [am_push_n]
  rw [b141_21, c0.1]
end IM
