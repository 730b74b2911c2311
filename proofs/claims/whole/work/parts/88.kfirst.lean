/-! the first state: what holds ahead of the law's first step -/
theorem k_t_1 : k_t 20 0 = 0 ∧ k_t 20 1 = 2 ∧ k_t 20 2 = 0 ∧ k_t 20 3 = 0 ∧ k_t 20 4 = 0 ∧ k_t 20 5 = 0 ∧ k_t 77 5 = 0 ∧ k_t 19 9 = 0 ∧ k_t 153 3 = 0 ∧ k_t 153 14 = 0 ∧ k_t 153 25 = 0 ∧ k_t 150 1 = 0 ∧ k_t 151 1 = 0 ∧ k_t 139 3 = 0 ∧ k_t 139 4 = -1 ∧ k_t 21 1 = 0 ∧ k_t 23 1 = 0 ∧ k_t 25 1 = 0 := by decide +kernel
theorem k_t_154 : (k_t 154 0 = 0 ∧ k_t 154 1 = 0 ∧ k_t 154 2 = 2 ∧ k_t 154 3 = 0 ∧ k_t 154 4 = 0 ∧ k_t 154 5 = 0 ∧ k_t 154 6 = 0 ∧ k_t 154 7 = 0) ∧ ∀ c, c < 3 → k_t 154 (154 + c) = -1 ∧ k_t 154 (157 + c) = 0 ∧ k_t 154 (160 + c) = 0 ∧ k_t 28 c = -1 ∧ k_t 29 c = 0 ∧ k_t 30 c = 0 ∧ k_t (46 + 2 * c) 1 = 0 := by decide +kernel
theorem k_t_53 : ∀ k, k < 12 → k_t (53 + 2 * k) 1 = 0 := by decide +kernel
theorem k_nil {k j : Nat} (h : (k_cell k_c2 k).2.2 = []) : k_t k j = 0 := by
  unfold k_t k_at
  rw [h]
  rfl
theorem k_n31 : (k_cell k_c2 31).2.2 = [] ∧ (k_cell k_c2 140).2.2 = [] ∧ (k_cell k_c2 141).2.2 = [] ∧ (k_cell k_c2 158).2.2 = [] := by decide +kernel
section KF
variable {scr : Int → Int}
theorem k_s0_at {k : Nat} {j : Int} {q : Nat} (h : 19 ≤ k) (hj : j = (q : Int)) : k_s0 scr k j = k_t k q := by
  rw [hj]
  exact k_s0_hi h
theorem k_s154 : (k_s0 scr 154 0 = 0 ∧ k_s0 scr 154 1 = 0 ∧ k_s0 scr 154 2 = 2 ∧ k_s0 scr 154 3 = 0 ∧ k_s0 scr 154 4 = 0 ∧ k_s0 scr 154 5 = 0 ∧ k_s0 scr 154 6 = 0 ∧ k_s0 scr 154 7 = 0) ∧ ∀ c : Nat, c < 3 → k_s0 scr 154 (154 + (c : Int)) = -1 ∧ k_s0 scr 154 (157 + (c : Int)) = 0 ∧ k_s0 scr 154 (160 + (c : Int)) = 0 := by
  obtain ⟨⟨a0, a1, a2, a3, a4, a5, a6, a7⟩, b⟩ := k_t_154
  refine ⟨⟨(k_s0_at (q := 0) (by omega) rfl).trans a0, (k_s0_at (q := 1) (by omega) rfl).trans a1, (k_s0_at (q := 2) (by omega) rfl).trans a2, (k_s0_at (q := 3) (by omega) rfl).trans a3, (k_s0_at (q := 4) (by omega) rfl).trans a4, (k_s0_at (q := 5) (by omega) rfl).trans a5, (k_s0_at (q := 6) (by omega) rfl).trans a6, (k_s0_at (q := 7) (by omega) rfl).trans a7⟩, fun c hc => ?_⟩
  obtain ⟨c1, c2, c3, -⟩ := b c hc
  exact ⟨(k_s0_at (q := 154 + c) (by omega) (by omega)).trans c1, (k_s0_at (q := 157 + c) (by omega) (by omega)).trans c2, (k_s0_at (q := 160 + c) (by omega) (by omega)).trans c3⟩
theorem k_WF : WF (k_s0 scr 154) (fun _ => []) := by
  obtain ⟨⟨a0, a1, a2, a3, a4, a5, a6, a7⟩, b⟩ := k_s154 (scr := scr)
  refine ⟨?_, ?_, ?_, ?_, ?_, ?_, ?_, ?_, ?_⟩
  · unfold W0
    rw [a0, a1, a2, a3, a4, a5, a6, a7]
    omega
  · intro i hi
    rw [a7] at hi
    omega
  · intro i hi
    rw [a5] at hi
    omega
  · intro i hi
    rw [a6] at hi
    omega
  · intro i hi
    rw [a0] at hi
    omega
  · intro c hc
    obtain ⟨b1, b2, b3⟩ := b c hc
    rw [b1, b2, a1]
    omega
  · intro c hc
    obtain ⟨b1, b2, b3⟩ := b c hc
    rw [b3]
    exact ⟨by omega, fun k hk => by omega⟩
  · intro y hy
    rw [a1] at hy
    omega
  · intro k hk
    rw [a3] at hk
    omega
theorem k_nS : nS (k_s0 scr 154) = 0 := by
  unfold nS
  rw [(k_s154 (scr := scr)).1.1]
  rfl
theorem k_CR : CR 20 (k_s0 scr 154) (fun _ => []) (k_s0 scr) := by
  obtain ⟨⟨a0, a1, a2, a3, a4, a5, a6, a7⟩, b⟩ := k_s154 (scr := scr)
  obtain ⟨t0, t1, t2, t3, t4, t5, -, -, -, -, -, -, -, -, -, t21, t23, t25⟩ := k_t_1
  refine ⟨?_, ?_, ?_, ?_, ?_, ?_, ?_, ?_, ?_, ?_⟩
  · unfold C0
    rw [a0, a1, a2, a3, a4]
    exact ⟨(k_s0_at (q := 0) (by omega) rfl).trans t0, (k_s0_at (q := 1) (by omega) rfl).trans t1, (k_s0_at (q := 2) (by omega) rfl).trans t2, (k_s0_at (q := 3) (by omega) rfl).trans t3, (k_s0_at (q := 4) (by omega) rfl).trans t4⟩
  · refine ⟨?_, fun i hi => ?_⟩
    · rw [a7]
      exact (k_s0_at (q := 1) (by omega) rfl).trans t21
    · rw [a7] at hi
      omega
  · refine ⟨?_, fun i hi => ?_⟩
    · rw [a5]
      exact (k_s0_at (q := 1) (by omega) rfl).trans t23
    · rw [a5] at hi
      omega
  · refine ⟨?_, fun i hi => ?_⟩
    · rw [a6]
      exact (k_s0_at (q := 1) (by omega) rfl).trans t25
    · rw [a6] at hi
      omega
  · intro q k hq hk
    rw [a0] at hq
    omega
  · intro c hc
    obtain ⟨b1, b2, b3⟩ := b c hc
    obtain ⟨-, -, -, d1, d2, d3, -⟩ := k_t_154.2 c hc
    have e : sdS (k_s0 scr 154) c = 0 := by
      unfold sdS
      rw [k_nS]
      rfl
    rw [b1, b2, e]
    exact ⟨(k_s0_at (q := c) (by omega) rfl).trans d1, (k_s0_at (q := c) (by omega) rfl).trans d2, (k_s0_at (q := c) (by omega) rfl).trans d3⟩
  · intro c hc
    obtain ⟨b1, b2, b3⟩ := b c hc
    obtain ⟨-, -, -, -, -, -, d4⟩ := k_t_154.2 c hc
    rw [b3]
    exact ⟨(k_s0_at (q := 1) (by omega) rfl).trans d4, fun k hk => by omega⟩
  · intro c x hc hx
    rw [k_nS] at hx
    have hx0 : x = 0 := by
      have : (2 : Nat) ^ 0 = 1 := rfl
      omega
    subst hx0
    obtain ⟨b1, b2, b3⟩ := b c hc
    have e : Wr (k_s0 scr 154) (fun _ => []) c 0 = 0 := by
      unfold Wr clS
      rw [b1, k_nS, if_pos (by omega)]
      rfl
    rw [e]
    exact (k_s0_at (q := c * 256 + 0) (by omega) (by omega)).trans (k_nil k_n31.1)
  · intro y hy
    rw [a1] at hy
    omega
  · refine ⟨fun k hk => ?_, fun k hk => ?_⟩
    · have e : k_s0 scr (20 + 33 + 2 * k) 1 = 0 := by
        exact (k_s0_at (q := 1) (by omega) rfl).trans (k_t_53 k hk)
      rw [e]
      omega
    · rw [a3] at hk
      omega
theorem k_LI : LI scr 0 (k_s0 scr) := by
  obtain ⟨t0, t1, t2, t3, t4, t5, t77, t19, t153, t14, t25, t150, t151, t139, t1394, -, -, -⟩ := k_t_1
  have z : ∀ {k : Nat} {j : Int} {q : Nat} {v : Int}, 19 ≤ k → j = (q : Int) → k_t k q = v → k_s0 scr k j = v := fun h h2 h3 => (k_s0_at h h2).trans h3
  have u4 : k_s0 scr 139 4 = -1 := z (q := 4) (by omega) rfl t1394
  have u5 : k_s0 scr 20 5 = 0 := z (q := 5) (by omega) rfl t5
  have u7 : k_s0 scr 77 5 = 0 := z (q := 5) (by omega) rfl t77
  have u14 : k_s0 scr 153 14 = 0 := z (q := 14) (by omega) rfl t14
  have v140 : ∀ t : Nat, k_s0 scr 140 (t : Int) = 0 := fun t => z (q := t) (k := 140) (by omega) rfl (k_nil k_n31.2.1)
  have v158 : ∀ t : Nat, k_s0 scr 158 (t : Int) = 0 := fun t => z (q := t) (k := 158) (by omega) rfl (k_nil k_n31.2.2.2)
  refine ⟨k_s0 scr 154, fun _ => [], [], k_WF, k_CR, ?_, ?_, ?_, ?_, Or.inl ⟨z (q := 9) (by omega) rfl t19, z (q := 3) (by omega) rfl t153⟩, ?_, ?_⟩
  · refine ⟨0, z (q := 3) (by omega) rfl t139, Nat.le_refl _, ?_, fun t _ => ?_, fun x _ => ⟨0, ?_, ?_, ?_⟩⟩
    · rw [u4, u5]
      omega
    · rw [v140]
      omega
    · exact z (q := x) (by omega) rfl (k_nil k_n31.2.2.1)
    · omega
    · intro h
      rw [u4, u5] at h
      omega
  · rw [u5]
    omega
  · rw [u7]
    omega
  · refine ⟨rfl, ?_, ?_, fun x _ => ?_⟩
    · rw [u14]
      omega
    · rw [u14]
      omega
    · rw [u14, v158]
      omega
  · refine ⟨Nat.zero_le _, z (q := 1) (by omega) rfl t150, z (q := 1) (by omega) rfl t151, fun i c h => ?_, z (q := 25) (by omega) rfl t25, fun i c h => ?_⟩
    · simp at h
    · simp at h
  · funext j
    exact if_pos rfl
end KF
/-- the law's answer, over the abstract machine -/
theorem k_whole {L : Nat} {scr : Int → Int} (hS : ∀ j, RG (scr j)) (hL : (L : Int) < 6800) : ∃ (f : Nat) (σ : St), am_exec f 60 232 0 (am_loc [vR 0] 4) [] (k_den (k_b0 L scr) []) = some (some (vI 1), WS L σ) := by
  obtain ⟨σ, h⟩ := law_loop (d := 0) hS hL L 0 (k_s0 scr) (by omega) k_LI (by omega)
  have h1 : R 60 232 0 (am_loc [vR 0] 4) [] (k_den (k_b0 L scr) []) (fun a b => a = some (vI 1) ∧ b = WS L σ) := by
    rw [k_start]
    rw [show (vI 0 : AV) = vI (4 * ((0 : Nat) : Int)) from rfl]
    exact (h _).mpr ⟨rfl, rfl⟩
  obtain ⟨f, r, w, h2, h3, h4⟩ := h1
  exact ⟨f, σ, by rw [h2, h3, h4]⟩
