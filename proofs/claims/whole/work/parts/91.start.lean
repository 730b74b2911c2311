/-! the law's start: what the Statement gives, as the abstract machine's data -/
def k_flat : List Jvm.Cond := flatC (Jvm.Cond.and given_1 narrow_1)
def k_tm (i : Nat) : Jvm.Term := .string (am_str i).1 (am_str i).2.1
def k_slen : List Nat := [4, 4, 4, 5, 4, 3, 5, 5]
def k_sbyt : List (List Int32) := [[97, 114, 107, 32], [111, 116, 104, 32], [97, 99, 107, 32], [109, 97, 114, 107, 32], [112, 115, 102, 110], [60, 61, 62], [98, 111, 116, 104, 32], [108, 97, 99, 107, 32]]
def k_bod : List Int32 := [1, 2, 3, 11, 0, 0, 0, 21, 0, 0, 0, 41, 51, 0, 0, 0, 0, 31, 0, 61, 0]
def k_abo : List Int32 := [-1, 0, 0, 1, 2, 0, 1]
def k_scr (L : Nat) (xs : Nat → Int32) : Int → Int := fun j => (xs j.toNat).toInt
def k_ad (b tB tA : Nat) (adK adV : Nat → Nat) : Nat → Nat := fun k => if k = 0 then b else if k = 1 then tB else if k = 2 then tA else if k < 11 then adK (k - 3) else adV (k - 11)
def k_G (dC : Nat → ClassId) (dI : Nat → Nat → Nat) (cI cZ cR : ClassId) (hs : Nat) (fm : Value) (ad : Nat → Nat) (L : Nat) (scr : Int → Int) : AG := ((dC, dI), cI, cZ, cR, hs, fm, ad, KD, LN L, mk (fun k j => if k = 0 then scr j else 0))
theorem k_f1 : Cond.eq (.static "java/lang/String" "COMPACT_STRINGS" "Z") (.int 1) ∈ k_flat ∧ Cond.isRef (.static "jdk/internal/util/Preconditions" "SIOOBE_FORMATTER" "Ljava/util/function/BiFunction;") ∈ k_flat ∧ Cond.arrayOf (.static "WallPicks" "BODIES" "[I") .int ∈ k_flat ∧ Cond.eq (.length (.static "WallPicks" "BODIES" "[I")) (.int 21) ∈ k_flat ∧ Cond.arrayOf (.static "WallPicks" "ABOVE" "[I") .int ∈ k_flat ∧ Cond.eq (.length (.static "WallPicks" "ABOVE" "[I")) (.int 7) ∈ k_flat := by decide +kernel
theorem k_f2 : ∀ j, j < 21 → Cond.eq (.elem (.static "WallPicks" "BODIES" "[I") (.int (Int32.ofNat j))) (.int (k_bod.getD j 0)) ∈ k_flat := by decide +kernel
theorem k_f3 : ∀ j, j < 7 → Cond.eq (.elem (.static "WallPicks" "ABOVE" "[I") (.int (Int32.ofNat j))) (.int (k_abo.getD j 0)) ∈ k_flat := by decide +kernel
theorem k_f4 : ∀ i, i < 8 → Cond.exactly (k_tm i) "java/lang/String" ∈ k_flat ∧ Cond.eq (.field (k_tm i) "java/lang/String" "coder" "B") (.int 0) ∈ k_flat ∧ Cond.arrayOf (.field (k_tm i) "java/lang/String" "value" "[B") .byte ∈ k_flat ∧ Cond.eq (.length (.field (k_tm i) "java/lang/String" "value" "[B")) (.int (Int32.ofNat (k_slen.getD i 0))) ∈ k_flat := by decide +kernel
theorem k_f5 : ∀ i, i < 8 → ∀ j, j < k_slen.getD i 0 → Cond.eq (.elem (.field (k_tm i) "java/lang/String" "value" "[B") (.int (Int32.ofNat j))) (.int ((k_sbyt.getD i []).getD j 0)) ∈ k_flat := by decide +kernel
theorem k_f6 : ∀ i, i < 8 → ∀ j, j < 8 → i ≠ j → Cond.not (Cond.eq (k_tm i) (k_tm j)) ∈ k_flat ∨ Cond.not (Cond.eq (k_tm j) (k_tm i)) ∈ k_flat := by decide +kernel
theorem k_w1 : am_at 71 (.initialized "WallPicks") = true ∧ am_at 84 (.initialized "java/lang/String") = true ∧ am_at 86 (.initialized "jdk/internal/util/Preconditions") = true ∧ am_at 127 (.arrayClass .int) = true ∧ am_at 1134 (.arrayClass .boolean) = true ∧ am_at 132 (.arrayOver (.object "WallPicks$Row")) = true ∧ am_at 465 (.laysStatic "java/lang/String" "COMPACT_STRINGS" "Z") = true ∧ am_at 481 (.laysStatic "jdk/internal/util/Preconditions" "SIOOBE_FORMATTER" "Ljava/util/function/BiFunction;") = true ∧ am_at 999 (.laysStatic "WallPicks" "BODIES" "[I") = true ∧ am_at 1004 (.laysStatic "WallPicks" "ABOVE" "[I") = true := by decide +kernel
def k_si : List Nat := [449, 450, 451, 1179, 1210, 1215, 1220, 1229]
theorem k_w2 : ∀ i, i < 8 → am_at (k_si.getD i 0) (.stringRef (am_str i).1 (am_str i).2.1 (am_str i).2.2) = true := by decide +kernel
/-- the constant cells hold what the Statement says -/
theorem k_c_bod : ∀ j, j < 21 → mk (fun _ _ => 0) 1 j = vI (k_bod.getD j 0).toInt := by decide +kernel
theorem k_c_abo : ∀ j, j < 7 → mk (fun _ _ => 0) 2 j = vI (k_abo.getD j 0).toInt := by decide +kernel
theorem k_c_s1 : ∀ i, i < 8 → mk (fun _ _ => 0) (3 + i) 0 = vR (11 + i) := by decide +kernel
theorem k_c_s2 : ∀ i, i < 8 → mk (fun _ _ => 0) (3 + i) 1 = vI 0 := by decide +kernel
theorem k_c_s3 : ∀ i, i < 8 → KD (3 + i) = 120 ∧ KD (11 + i) = 112 ∧ wsL.getD (11 + i) 0 = k_slen.getD i 0 := by decide +kernel
theorem k_c_s4 : ∀ i, i < 8 → ∀ j, j < k_slen.getD i 0 → mk (fun _ _ => 0) (11 + i) j = vI ((k_sbyt.getD i []).getD j 0).toInt := by decide +kernel
theorem k_mk {scr : Int → Int} {k : Nat} (h : ¬ k = 0) (j : Nat) : mk (fun k j => if k = 0 then scr j else 0) k j = mk (fun _ _ => 0) k j := by
  unfold mk
  cases wsC k with
  | some l => rfl
  | none =>
    show wsVal _ k j = wsVal _ k j
    unfold wsVal
    dsimp only
    rw [if_neg h]
theorem k_mk0 {scr : Int → Int} (j : Nat) : mk (fun k j => if k = 0 then scr j else 0) 0 j = vI (scr (j : Int)) := by
  unfold mk
  rw [show wsC 0 = none from rfl]
  show wsVal _ 0 j = _
  unfold wsVal
  rw [show PC 0 j = 0 from rfl]
  rfl
def k_wfc (v : AV) : Bool := match v with
  | .inl z => decide (-2147483648 ≤ z) && decide (z ≤ 2147483647)
  | .inr (.inl k) => decide (k < 19)
  | _ => true
theorem k_wfc_ok {v : AV} (h : k_wfc v = true) : wfv 19 v := by
  rcases v with z | k | x | t
  · have h2 : (decide (-2147483648 ≤ z) && decide (z ≤ 2147483647)) = true := h
    simp only [Bool.and_eq_true, decide_eq_true_eq] at h2
    exact h2
  · exact of_decide_eq_true (p := k < 19) h
  · trivial
  · trivial
/-- what stands in the cells that nobody writes, at any place -/
theorem k_base_at : ∀ k, k < 19 → (∀ j, j < 21 → k_wfc (mk (fun _ _ => 0) k j) = true) ∧ (wsC k).elim True (fun l => l.length ≤ 21) ∧ (wsP.getD k []).length ≤ 21 := by
  have h : ∀ k, k < 19 → (∀ j, j < 21 → k_wfc (mk (fun _ _ => 0) k j) = true) ∧ ((wsC k).getD []).length ≤ 21 ∧ (wsP.getD k []).length ≤ 21 := by decide +kernel
  intro k hk
  obtain ⟨h1, h2, h3⟩ := h k hk
  refine ⟨h1, ?_, h3⟩
  cases hc : wsC k with
  | none => trivial
  | some l =>
    rw [hc] at h2
    exact h2
theorem k_base_wf {k : Nat} (hk : k < 19) (j : Nat) : wfv 19 (mk (fun _ _ => 0) k j) := by
  obtain ⟨h1, h2, h3⟩ := k_base_at k hk
  rcases Nat.lt_or_ge j 21 with q | q
  · exact k_wfc_ok (h1 j q)
  · have e : mk (fun _ _ => 0) k j = vI 0 := by
      unfold mk
      cases hc : wsC k with
      | some l =>
        rw [hc] at h2
        have h2 : l.length ≤ 21 := h2
        show vI (l.getD j 0) = _
        rw [List.getD_eq_getElem?_getD, List.getElem?_eq_none (by omega)]
        rfl
      | none =>
        show wsVal _ k j = _
        have e : PC k j = 0 := by
          unfold PC
          rw [List.getD_eq_getElem?_getD (l := wsP.getD k []), List.getElem?_eq_none (by omega)]
          rfl
        unfold wsVal
        rw [e]
    rw [e]
    exact rng_0
section KG
variable {L : Nat} {scr : Int → Int}
theorem k_Gc {dC : Nat → ClassId} {dI : Nat → Nat → Nat} {cI cZ cR : ClassId} {hs : Nat} {fm : Value} {ad : Nat → Nat} (hS : ∀ j, RG (scr j)) (hf : fm.category = 1) : am_Gd (k_G dC dI cI cZ cR hs fm ad L scr) := by
  refine ⟨hf, fun k hk i => ?_⟩
  show wfv 19 (mk _ k i)
  by_cases h : k = 0
  · subst h
    rw [k_mk0]
    exact hS i
  · rw [k_mk h]
    exact k_base_wf hk i
theorem k_base_k : ∀ k, k < 19 → 110 ≤ KD k ∧ (am_intk (KD k) ∨ KD k = 120 ∧ wsL.getD k 0 = 2) ∧ ¬ KD k = 103 ∧ wsL.getD k 0 < 1000000 := by
  have h : ∀ k, k < 19 → 110 ≤ KD k ∧ ((KD k = 100 ∨ KD k = 101 ∨ KD k = 110 ∨ KD k = 112) ∨ KD k = 120 ∧ wsL.getD k 0 = 2) ∧ ¬ KD k = 103 ∧ wsL.getD k 0 < 1000000 := by decide +kernel
  exact h
theorem k_base_i : ∀ k, k < 19 → am_intk (KD k) → k = 0 ∨ ∃ l, wsC k = some l := by
  have h : ∀ k, k < 19 → (KD k = 100 ∨ KD k = 101 ∨ KD k = 110 ∨ KD k = 112) → k = 0 ∨ (wsC k).isSome = true := by decide +kernel
  intro k hk hi
  rcases h k hk hi with h | h
  · exact Or.inl h
  · exact Or.inr (Option.isSome_iff_exists.mp h)
theorem k_wfw (hS : ∀ j, RG (scr j)) (hL : L < 1000000) : wfw (k_den (k_b0 L scr) []) := by
  refine ⟨Nat.le_refl _, fun k hk => ?_⟩
  have hk : k < 19 := hk
  have e1 : am_kd (k_den (k_b0 L scr) []) k = KD k := if_pos hk
  have e2 : am_ln (k_den (k_b0 L scr) []) k = LN L k := if_pos hk
  have e3 : ∀ i, am_ct (k_den (k_b0 L scr) []) k i = mk (fun k j => if k = 0 then scr j else 0) k i := fun i => if_pos hk
  have e4 : (k_den (k_b0 L scr) []).1 = 19 := rfl
  obtain ⟨b1, b2, b3, b4⟩ := k_base_k k hk
  have hln : LN L k = if k = 0 then L else wsL.getD k 0 := by
    cases k with
    | zero => rfl
    | succ k => rfl
  unfold wfk
  rw [e1, e2, e4]
  refine ⟨?_, fun i _ => ?_, fun h => by omega, fun h i _ => ?_, fun h => absurd h b3, fun h => ?_, ⟨fun _ => b1, fun _ => hk⟩, ?_⟩
  · rw [hln]
    split
    · exact hL
    · exact b4
  · rw [e3]
    by_cases h : k = 0
    · subst h
      rw [k_mk0]
      exact hS i
    · rw [k_mk h]
      exact k_base_wf hk i
  · rw [e3]
    rcases k_base_i k hk h with rfl | ⟨l, hl⟩
    · exact ⟨_, k_mk0 i⟩
    · unfold mk
      rw [hl]
      exact ⟨_, rfl⟩
  · rcases b2 with q | q
    · unfold am_intk at q
      omega
    · rw [hln, if_neg (fun x => by subst x; exact absurd h (by decide +kernel)), q.2]
  · rcases b2 with q | q
    · exact Or.inr (Or.inl q)
    · exact Or.inr (Or.inr (Or.inr q.1))
end KG
