/-! the world behind the constructors is WS of the first state -/
def k_i : AV → Int
  | .inl z => z
  | .inr (.inl q) => (q : Int)
  | _ => 0
def k_t (k j : Nat) : Int := k_i (k_at (k_cell k_c2 k) j)
def k_s0 (scr : Int → Int) : St := fun k j => if k = 0 then scr j else if k < 19 then 0 else if j < 0 then 0 else k_t k j.toNat
def k_b0 (L : Nat) (scr : Int → Int) : AW := (19, 18772, KD, LN L, mk (fun k j => if k = 0 then scr j else 0))
def k_ok (v : AV) : Nat → Bool
  | 0 => (match v with | .inl _ => true | _ => false)
  | 1 => k_veq v (vI 0)
  | 2 => (match v with | .inr (.inl _) => true | _ => false)
  | q + 3 => k_veq v (vR q)
def k_chk (c : CC) (p : List Nat) : Bool := (List.range (max c.2.2.length p.length)).all (fun j => k_ok (k_at c j) (p.getD j 0))
theorem k_chk_at {c : CC} {p : List Nat} (h : k_chk c p = true) (j : Nat) : k_ok (k_at c j) (p.getD j 0) = true := by
  rcases Nat.lt_or_ge j (max c.2.2.length p.length) with q | q
  · exact List.all_eq_true.mp h j (List.mem_range.mpr q)
  · have h1 : c.2.2.length ≤ j := by omega
    have h2 : p.length ≤ j := by omega
    unfold k_at
    rw [List.getD_eq_getElem?_getD, List.getD_eq_getElem?_getD, List.getElem?_eq_none h1, List.getElem?_eq_none h2]
    rfl
def k_dv (v : AV) (q : Nat) : AV := match q with
  | 0 => vI (k_i v)
  | 1 => vI 0
  | 2 => vR (k_i v).toNat
  | q + 3 => vR q
theorem k_ok_v {v : AV} {q : Nat} (h : k_ok v q = true) : k_dv v q = v := by
  match q, h with
  | 0, h =>
    rcases v with z | k | x | t
    · rfl
    · cases h
    · cases h
    · cases h
  | 1, h => exact (k_veq_ok h).symm
  | 2, h =>
    rcases v with z | k | x | t
    · cases h
    · rfl
    · cases h
    · cases h
  | q + 3, h => exact (k_veq_ok h).symm
theorem k_all : ((List.range 146).all fun i => k_chk (k_c2.getD i k_z) (wsP.getD (19 + i) []) && decide ((k_c2.getD i k_z).1 = wsK.getD (19 + i) 999) && decide ((k_c2.getD i k_z).2.1 = wsL.getD (19 + i) 0)) = true := by decide +kernel
theorem k_len : k_c2.length = 146 := by decide +kernel
theorem k_slots : k_sum k_c2 = 270228 := by decide +kernel
theorem k_cell_hi {k : Nat} (h : 165 ≤ k) : k_cell k_c2 k = k_z := by
  unfold k_cell
  rw [List.getD_eq_getElem?_getD, List.getElem?_eq_none (by rw [k_len]; omega)]
  rfl
theorem k_facts {k : Nat} (h : 19 ≤ k) : (k_cell k_c2 k).1 = KD k ∧ (∀ L, (k_cell k_c2 k).2.1 = LN L k) ∧ ∀ j, k_ok (k_at (k_cell k_c2 k) j) (PC k j) = true := by
  rcases Nat.lt_or_ge k 165 with q | q
  · have h1 := List.all_eq_true.mp k_all (k - 19) (List.mem_range.mpr (by omega))
    simp only [Bool.and_eq_true, decide_eq_true_eq] at h1
    rw [show 19 + (k - 19) = k by omega] at h1
    obtain ⟨⟨h2, h3⟩, h4⟩ := h1
    refine ⟨h3, fun L => ?_, fun j => k_chk_at h2 j⟩
    obtain ⟨m, rfl⟩ : ∃ m, k = m + 1 := ⟨k - 1, by omega⟩
    exact h4
  · rw [k_cell_hi q]
    refine ⟨?_, fun L => ?_, fun j => ?_⟩
    · unfold KD
      rw [List.getD_eq_getElem?_getD, List.getElem?_eq_none (by rw [ws_lens.1]; exact q)]
      rfl
    · obtain ⟨m, rfl⟩ : ∃ m, k = m + 1 := ⟨k - 1, by omega⟩
      show 0 = wsL.getD (m + 1) 0
      rw [List.getD_eq_getElem?_getD, List.getElem?_eq_none (by rw [ws_lens.2.1]; exact q)]
      rfl
    · have e : PC k j = 0 := by
        unfold PC
        rw [List.getD_eq_getElem?_getD (l := wsP), List.getElem?_eq_none (by rw [ws_lens.2.2]; exact q)]
        rfl
      rw [e]
      rfl
theorem wsC_hi {k : Nat} (h : 19 ≤ k) : wsC k = none := by
  obtain ⟨m, rfl⟩ : ∃ m, k = m + 19 := ⟨k - 19, by omega⟩
  rfl
theorem k_s0_hi {scr : Int → Int} {k : Nat} {j : Nat} (h : 19 ≤ k) : k_s0 scr k (j : Int) = k_t k j := by
  unfold k_s0
  rw [if_neg (by omega), if_neg (by omega), if_neg (by omega)]
  rfl
theorem k_world (L : Nat) (scr : Int → Int) : k_den (k_b0 L scr) k_c2 = WS L (k_s0 scr) := by
  have e1 : (k_den (k_b0 L scr) k_c2).2.2.1 = KD := by
    funext k
    show (if k < 19 then KD k else _) = _
    by_cases h : k < 19
    · rw [if_pos h]
    · rw [if_neg h]
      exact (k_facts (by omega)).1
  have e2 : (k_den (k_b0 L scr) k_c2).2.2.2.1 = LN L := by
    funext k
    show (if k < 19 then LN L k else _) = _
    by_cases h : k < 19
    · rw [if_pos h]
    · rw [if_neg h]
      exact (k_facts (by omega)).2.1 L
  have e3 : (k_den (k_b0 L scr) k_c2).2.2.2.2 = mk (k_s0 scr) := by
    funext k j
    show (if k < 19 then mk (fun k j => if k = 0 then scr j else 0) k j else _) = _
    by_cases h : k < 19
    · rw [if_pos h]
      have e : (fun j : Int => if k = 0 then scr j else 0) = k_s0 scr k := by
        funext j
        unfold k_s0
        by_cases h0 : k = 0
        · rw [if_pos h0, if_pos h0]
        · rw [if_neg h0, if_neg h0, if_pos h]
      unfold mk
      cases wsC k with
      | some l => rfl
      | none =>
        show wsVal _ k j = wsVal _ k j
        unfold wsVal
        dsimp only
        rw [← e]
    · rw [if_neg h]
      unfold mk
      rw [wsC_hi (by omega)]
      show _ = wsVal (k_s0 scr) k j
      unfold wsVal
      rw [k_s0_hi (by omega)]
      exact (k_ok_v ((k_facts (k := k) (by omega)).2.2 j)).symm
  have e4 : (k_den (k_b0 L scr) k_c2).1 = 165 := by
    show 19 + k_c2.length = 165
    rw [k_len]
  have e5 : (k_den (k_b0 L scr) k_c2).2.1 = 289000 := by
    show 18772 + k_sum k_c2 = 289000
    rw [k_slots]
  have pe : ∀ (w : AW), w = (w.1, w.2.1, w.2.2.1, w.2.2.2.1, w.2.2.2.2) := fun _ => rfl
  rw [pe (k_den (k_b0 L scr) k_c2), e1, e2, e3, e4, e5]
  rfl
/-- the law from its start to its loop -/
theorem k_start {L : Nat} {scr : Int → Int} {Q : Option AV → AW → Prop} : R 60 232 0 (am_loc [vR 0] 4) [] (k_den (k_b0 L scr) []) Q = R 60 232 18 [vR 0, vR 19, vR 153, vI 0] [] (WS L (k_s0 scr)) Q := by
  have hn : ∀ (cs : List CC) (a : Nat), a < 11 → am_new (k_den (k_b0 L scr) cs) a (am_nf a) (am_dflt a) = k_den (k_b0 L scr) (cs ++ [k_oc a]) := by
    intro cs a ha
    refine k_news (l := (List.range (am_nf a)).map (am_dflt a)) (fun j => ?_)
    rw [List.getD_eq_getElem?_getD, List.getElem?_map]
    rcases Nat.lt_or_ge j (am_nf a) with y | y
    · rw [List.getElem?_range y]
      rfl
    · rw [List.getElem?_eq_none (by rw [List.length_range]; exact y)]
      exact am_dflt_o ha y
  have c1 : E 59 0 (am_loc [vR 19] 1) (k_den (k_b0 L scr) [k_oc 9]) none (k_den (k_b0 L scr) k_c1) := ⟨3000, k_exec_ok _ _ _ _ _ _ _ _ _ k_run1⟩
  have c2 : E 59 143 (am_loc [vR 153] 2) (k_den (k_b0 L scr) (k_c1 ++ [k_oc 10])) none (k_den (k_b0 L scr) k_c2) := ⟨3000, k_exec_ok _ _ _ _ _ _ _ _ _ k_run2⟩
  have s0 : R 60 232 0 (am_loc [vR 0] 4) [] (k_den (k_b0 L scr) []) Q = R 60 232 3 (am_loc [vR 0] 4) [vR 19] (k_den (k_b0 L scr) [k_oc 9]) Q := by
    rw [R_next (w' := am_new (k_den (k_b0 L scr) []) 9 (am_nf 9) (am_dflt 9)) (st' := [vR 19]) fi_232_0 rfl, hn [] 9 (by omega)]
    rfl
  have s1 : R 60 232 3 (am_loc [vR 0] 4) [vR 19] (k_den (k_b0 L scr) [k_oc 9]) Q = R 60 232 4 (am_loc [vR 0] 4) [vR 19, vR 19] (k_den (k_b0 L scr) [k_oc 9]) Q := R_dupr fi_232_3
  have s2 : R 60 232 4 (am_loc [vR 0] 4) [vR 19, vR 19] (k_den (k_b0 L scr) [k_oc 9]) Q = R 60 232 7 (am_loc [vR 0] 4) [vR 19] (k_den (k_b0 L scr) k_c1) Q := by
    rw [R_call (d := 59) (N := 0) (ls' := am_loc [vR 19] 1) (pc' := 7) (st' := [vR 19]) fi_232_4 rfl, R_E c1]
    rfl
  have s3 : R 60 232 7 (am_loc [vR 0] 4) [vR 19] (k_den (k_b0 L scr) k_c1) Q = R 60 232 8 [vR 0, vR 19, vX 9, vX 9] [] (k_den (k_b0 L scr) k_c1) Q := R_next fi_232_7 rfl
  have e153 : 19 + k_c1.length = 153 := by decide +kernel
  have s4 : R 60 232 8 [vR 0, vR 19, vX 9, vX 9] [] (k_den (k_b0 L scr) k_c1) Q = R 60 232 11 [vR 0, vR 19, vX 9, vX 9] [vR 153] (k_den (k_b0 L scr) (k_c1 ++ [k_oc 10])) Q := by
    have e : (k_den (k_b0 L scr) k_c1).1 = 153 := e153
    have h := R_next (d := 60) (ls := [vR 0, vR 19, vX 9, vX 9]) (st := []) (w := k_den (k_b0 L scr) k_c1) (Q := Q) (w' := am_new (k_den (k_b0 L scr) k_c1) 10 (am_nf 10) (am_dflt 10)) (st' := [vR (k_den (k_b0 L scr) k_c1).1]) fi_232_8 rfl
    rw [e, hn k_c1 10 (by omega)] at h
    exact h
  have s5 : R 60 232 11 [vR 0, vR 19, vX 9, vX 9] [vR 153] (k_den (k_b0 L scr) (k_c1 ++ [k_oc 10])) Q = R 60 232 12 [vR 0, vR 19, vX 9, vX 9] [vR 153, vR 153] (k_den (k_b0 L scr) (k_c1 ++ [k_oc 10])) Q := R_dupr fi_232_11
  have hkd : am_kd (k_den (k_b0 L scr) (k_c1 ++ [k_oc 10])) 153 = 10 := by
    rw [k_kd (by omega)]
    decide +kernel
  have s6 : R 60 232 12 [vR 0, vR 19, vX 9, vX 9] [vR 153, vR 153] (k_den (k_b0 L scr) (k_c1 ++ [k_oc 10])) Q = R 60 232 15 [vR 0, vR 19, vX 9, vX 9] [vR 153] (k_den (k_b0 L scr) k_c2) Q := by
    rw [R_call (d := 59) (N := 143) (ls' := am_loc [vR 153] 2) (pc' := 15) (st' := [vR 153]) fi_232_12 ?_, R_E c2]
    · rfl
    · show am_inv false 143 0 12 [vR 153, vR 153] (k_den (k_b0 L scr) (k_c1 ++ [k_oc 10])) = _
      unfold am_inv
      show (if am_kd (k_den (k_b0 L scr) (k_c1 ++ [k_oc 10])) 153 = am_rk (am_own 143) ∧ _ then _ else _) = _
      rw [hkd, if_pos (by decide +kernel)]
      rfl
  have s7 : R 60 232 15 [vR 0, vR 19, vX 9, vX 9] [vR 153] (k_den (k_b0 L scr) k_c2) Q = R 60 232 16 [vR 0, vR 19, vR 153, vX 9] [] (k_den (k_b0 L scr) k_c2) Q := R_next fi_232_15 rfl
  rw [s0, s1, s2, s3, s4, s5, s6, s7, k_world, b232_16]
