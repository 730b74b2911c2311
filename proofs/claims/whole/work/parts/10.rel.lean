/-! how the abstract machine's values and worlds lie in the real heap -/
def cv (ad : Nat → Nat) (fm : Value) : AV → Value
  | .inl z => .int (Int32.ofInt z)
  | .inr (.inl k) => .ref (ad k)
  | .inr (.inr (.inl w)) => .long w
  | .inr (.inr (.inr 0)) => .null
  | .inr (.inr (.inr _)) => fm
def am_set : AV → Bool
  | .inr (.inr (.inr (_ + 2))) => false
  | _ => true
def am_i32 : AV → Int32
  | .inl z => Int32.ofInt z
  | _ => 0
def am_rfo (ad : Nat → Nat) : AV → Option Nat
  | .inr (.inl k) => some (ad k)
  | _ => none
theorem cv_congr {n : Nat} {ad ad' : Nat → Nat} {fm : Value} (h : ∀ k, k < n → ad' k = ad k) {v : AV} (hv : wfv n v) : cv ad' fm v = cv ad fm v := by
  rcases v with z | k | u | t
  · rfl
  · show Value.ref (ad' k) = Value.ref (ad k)
    rw [h k hv]
  · rfl
  · cases t <;> rfl
theorem am_rfo_congr {n : Nat} {ad ad' : Nat → Nat} (h : ∀ k, k < n → ad' k = ad k) {v : AV} (hv : wfv n v) : am_rfo ad' v = am_rfo ad v := by
  rcases v with z | k | u | t
  · rfl
  · show some (ad' k) = some (ad k)
    rw [h k hv]
  · rfl
  · rfl
theorem cvs_congr {n : Nat} {ad ad' : Nat → Nat} {fm : Value} (h : ∀ k, k < n → ad' k = ad k) : ∀ {l : List AV}, wfs n l → l.map (cv ad' fm) = l.map (cv ad fm)
  | [], _ => rfl
  | v :: l, hl => by
    rw [List.map_cons, List.map_cons, cv_congr h hl.hd, cvs_congr h hl.tl]
theorem cv_cat {ad : Nat → Nat} {fm : Value} (hf : fm.category = 1) {v : AV} (h : am_long v = false) : (cv ad fm v).category = 1 := by
  rcases v with z | k | u | t
  · rfl
  · rfl
  · cases h
  · cases t
    · rfl
    · exact hf
theorem cv_cat2 {ad : Nat → Nat} {fm : Value} {v : AV} (h : am_long v = true) : (cv ad fm v).category = 2 := by
  rcases v with z | k | u | t
  · cases h
  · cases h
  · rfl
  · cases h
theorem cv_catle {ad : Nat → Nat} {fm : Value} (hf : fm.category = 1) (v : AV) : (cv ad fm v).category ≤ 2 := by
  cases h : am_long v
  · rw [cv_cat hf h]; decide
  · rw [cv_cat2 h]; exact Nat.le_refl _
theorem cv_sum {ad : Nat → Nat} {fm : Value} (hf : fm.category = 1) : ∀ l : List AV, ((l.map (cv ad fm)).map fun v => v.category).sum ≤ 2 * l.length
  | [] => Nat.le_refl _
  | v :: l => by
    have h1 := cv_sum (ad := ad) hf l
    have h2 := cv_catle (ad := ad) hf v
    simp only [List.map_cons, List.sum_cons, List.length_cons]
    omega
/-- the locals -/
def am_L (ad : Nat → Nat) (fm : Value) (ls : Array Slot) (al : List AV) : Prop := ls.size = al.length ∧ lv_wf ls ∧ (∀ (i : Nat) (u : AV), al[i]? = some u → am_set u = true → ls[i]? = some (Slot.val (cv ad fm u))) ∧ ∀ (i : Nat) (u : AV), al[i]? = some u → am_long u = true → i = 1
theorem am_L.congr {n : Nat} {ad ad' : Nat → Nat} {fm : Value} {ls : Array Slot} {al : List AV} (h : am_L ad fm ls al) (ha : ∀ k, k < n → ad' k = ad k) (hl : wfs n al) : am_L ad' fm ls al :=
  ⟨h.1, h.2.1, fun i u hi hu => by rw [cv_congr ha (hl u (List.mem_of_getElem? hi))]; exact h.2.2.1 i u hi hu, h.2.2.2⟩
def am_lv (ad : Nat → Nat) (fm : Value) (al : List AV) : List (Nat × Value) := (List.range al.length).filterMap (fun i => match al[i]? with
  | some u => if am_set u = true then some (i, cv ad fm u) else none
  | none => none)
theorem am_lv_mem {ad : Nat → Nat} {fm : Value} {al : List AV} {q : Nat × Value} : q ∈ am_lv ad fm al ↔ ∃ u, al[q.1]? = some u ∧ am_set u = true ∧ q.2 = cv ad fm u := by
  unfold am_lv
  rw [List.mem_filterMap]
  constructor
  · rintro ⟨i, -, hi⟩
    cases he : al[i]? with
    | none => rw [he] at hi; cases hi
    | some u =>
      rw [he] at hi
      dsimp only at hi
      split at hi
      · rename_i hu
        cases hi
        exact ⟨u, he, hu, rfl⟩
      · cases hi
  · rintro ⟨u, h1, h2, h3⟩
    refine ⟨q.1, List.mem_range.mpr (List.getElem?_eq_some_iff.mp h1).1, ?_⟩
    rw [h1]
    dsimp only
    rw [if_pos h2, ← h3]
theorem am_L.has {ad : Nat → Nat} {fm : Value} {ls : Array Slot} {al : List AV} (h : am_L ad fm ls al) : lv_has ls al.length (am_lv ad fm al) :=
  ⟨h.1, h.2.1, fun q hq => by
    obtain ⟨u, h1, h2, h3⟩ := am_lv_mem.mp hq
    rw [h3]
    exact h.2.2.1 _ u h1 h2⟩
theorem am_nl_at {al : List AV} {i j : Nat} {u : AV} (hlg : ∀ (i : Nat) (u : AV), al[i]? = some u → am_long u = true → i = 1) (h : am_nl al i = true) (hj : j + 1 = i) (hu : al[j]? = some u) : am_long u = false := by
  cases hl : am_long u with
  | false => rfl
  | true =>
    have h1 := hlg j u hu hl
    subst h1
    subst hj
    have e : lget al 1 = u := by unfold lget; rw [List.getD_eq_getElem?_getD, hu]; rfl
    have h2 : (!(am_long (lget al 1))) = true := h
    rw [e, hl] at h2
    cases h2
theorem am_L.stored {ad : Nat → Nat} {fm : Value} {ls' : Array Slot} {al : List AV} {i : Nat} {v : AV} (hlg : ∀ (i : Nat) (u : AV), al[i]? = some u → am_long u = true → i = 1) (hv : am_long v = false) (hi : i < al.length) (hn : am_nl al i = true) (hf : fm.category = 1)
    (h : lv_has ls' al.length ((i, cv ad fm v) :: (am_lv ad fm al).filter (fun q => !(q.1 == i) && !(q.1 + 1 == i && q.2.category == 2)))) : am_L ad fm ls' (al.set i v) := by
  refine ⟨by rw [List.length_set]; exact h.1, h.2.1, fun j u hj hu => ?_, fun j u hj hu => ?_⟩
  · by_cases hji : j = i
    · subst hji
      rw [List.getElem?_set_self hi] at hj
      cases hj
      exact h.2.2 (j, cv ad fm v) List.mem_cons_self
    · rw [List.getElem?_set_ne (Ne.symm hji)] at hj
      refine h.2.2 (j, cv ad fm u) (List.mem_cons_of_mem _ (List.mem_filter.mpr ⟨am_lv_mem.mpr ⟨u, hj, hu, rfl⟩, ?_⟩))
      dsimp only
      by_cases hj1 : j + 1 = i
      · rw [cv_cat hf (am_nl_at hlg hn hj1 hj)]
        simp [hji]
      · simp [hji, hj1]
  · by_cases hji : j = i
    · subst hji
      rw [List.getElem?_set_self hi] at hj
      cases hj
      rw [hv] at hu
      cases hu
    · rw [List.getElem?_set_ne (Ne.symm hji)] at hj
      exact hlg j u hj hu
theorem lget_some {al : List AV} {k : Nat} {v : AV} (h : lget al k = v) (hv : ∀ t, v ≠ .inr (.inr (.inr (t + 2)))) : al[k]? = some v := by
  unfold lget at h
  rw [List.getD_eq_getElem?_getD] at h
  cases e : al[k]? with
  | none => rw [e] at h; exact absurd h.symm (hv 7)
  | some u => rw [e] at h; rw [show u = v from h]
theorem am_exp_len {al : List AV} {ad : Nat → Nat} {fm : Value} (hf : fm.category = 1) : (lg_sl (al.map (cv ad fm))).length = (am_exp al).length := by
  induction al with
  | nil => rfl
  | cons v l ih =>
    have e : lg_sl ((v :: l).map (cv ad fm)) = (if (cv ad fm v).category = 2 then [Slot.val (cv ad fm v), .second] else [.val (cv ad fm v)]) ++ lg_sl (l.map (cv ad fm)) := rfl
    rw [e, List.length_append, ih]
    rcases v with z | k | u | t
    · show _ + _ = (am_exp l).length + 1
      rw [if_neg (by rw [cv_cat hf rfl]; decide)]
      exact Nat.add_comm _ _
    · show _ + _ = (am_exp l).length + 1
      rw [if_neg (by rw [cv_cat hf rfl]; decide)]
      exact Nat.add_comm _ _
    · show _ + _ = (am_exp l).length + 1 + 1
      rw [if_pos (cv_cat2 rfl)]
      exact Nat.add_comm _ _
    · show _ + _ = (am_exp l).length + 1
      rw [if_neg (by rw [cv_cat hf rfl]; decide)]
      exact Nat.add_comm _ _
theorem am_exp_at {ad : Nat → Nat} {fm : Value} (hf : fm.category = 1) : ∀ (al : List AV) (n i : Nat) (u : AV), (am_exp al)[i]? = some u → am_set u = true → (n + i, cv ad fm u) ∈ lv_args n (al.map (cv ad fm))
  | [], n, i, u, h, _ => by simp [am_exp] at h
  | v :: l, n, i, u, h, hu => by
    have one : am_long v = false → am_exp (v :: l) = v :: am_exp l → (n + i, cv ad fm u) ∈ lv_args n ((v :: l).map (cv ad fm)) := by
      intro hl e
      rw [e] at h
      have e2 : lv_args n ((v :: l).map (cv ad fm)) = (n, cv ad fm v) :: lv_args (n + 1) (l.map (cv ad fm)) := by
        show (n, cv ad fm v) :: lv_args (if (cv ad fm v).category = 2 then n + 2 else n + 1) (l.map (cv ad fm)) = _
        rw [if_neg (by rw [cv_cat hf hl]; decide)]
      rw [e2]
      cases i with
      | zero =>
        rw [List.getElem?_cons_zero] at h
        cases h
        exact List.mem_cons_self
      | succ i =>
        rw [List.getElem?_cons_succ] at h
        have := am_exp_at (ad := ad) (fm := fm) hf l (n + 1) i u h hu
        rw [Nat.add_assoc, Nat.add_comm 1 i] at this
        exact List.mem_cons_of_mem _ this
    rcases v with z | k | x | t
    · exact one rfl rfl
    · exact one rfl rfl
    · have e : am_exp (.inr (.inr (.inl x)) :: l) = vL x :: vX 9 :: am_exp l := rfl
      rw [e] at h
      have e2 : lv_args n ((.inr (.inr (.inl x)) :: l : List AV).map (cv ad fm)) = (n, cv ad fm (vL x)) :: lv_args (n + 2) (l.map (cv ad fm)) := rfl
      rw [e2]
      match i, h with
      | 0, h =>
        rw [List.getElem?_cons_zero] at h
        cases h
        exact List.mem_cons_self
      | 1, h =>
        rw [List.getElem?_cons_succ, List.getElem?_cons_zero] at h
        cases h
        cases hu
      | i + 2, h =>
        rw [List.getElem?_cons_succ, List.getElem?_cons_succ] at h
        have := am_exp_at (ad := ad) (fm := fm) hf l (n + 2) i u h hu
        rw [Nat.add_assoc, Nat.add_comm 2 i] at this
        exact List.mem_cons_of_mem _ this
    · exact one rfl rfl
theorem am_lok_at : ∀ {l : List AV}, am_lok l = true → ∀ (i : Nat) (u : AV), l[i]? = some u → am_long u = true → i = 1
  | [], _, i, u, h, _ => by simp at h
  | [v], hk, i, u, h, hu => by
    cases i with
    | zero =>
      rw [List.getElem?_cons_zero] at h
      cases h
      simp [am_lok, hu] at hk
    | succ i => simp at h
  | v :: x :: l, hk, i, u, h, hu => by
    simp only [am_lok, Bool.and_eq_true, Bool.not_eq_true'] at hk
    match i, h with
    | 0, h =>
      rw [List.getElem?_cons_zero] at h
      cases h
      rw [hk.1] at hu
      cases hu
    | 1, _ => rfl
    | i + 2, h =>
      rw [List.getElem?_cons_succ, List.getElem?_cons_succ] at h
      have := List.all_eq_true.mp hk.2 u (List.mem_of_getElem? h)
      rw [hu] at this
      cases this
theorem am_L.entry {ad : Nat → Nat} {fm : Value} (hf : fm.category = 1) {al : List AV} {n : Nat} (hn : (am_exp al).length ≤ n) (hlk : am_lok (am_exp al) = true) : am_L ad fm ((lg_sl (al.map (cv ad fm)) ++ List.replicate (n - (lg_sl (al.map (cv ad fm))).length) Slot.unset).toArray) (am_loc al n) := by
  have h := lv_entry (al.map (cv ad fm)) (n := n) (by rw [am_exp_len hf]; exact hn)
  have hlen : (am_loc al n).length = n := by
    unfold am_loc
    rw [List.length_append, List.length_replicate]
    omega
  refine ⟨by rw [hlen]; exact h.1, h.2.1, fun i u hi hu => ?_, fun i u hi hu => ?_⟩
  · unfold am_loc at hi
    by_cases hil : i < (am_exp al).length
    · rw [List.getElem?_append_left hil] at hi
      have := am_exp_at (ad := ad) (fm := fm) hf al 0 i u hi hu
      rw [Nat.zero_add] at this
      exact h.2.2 _ this
    · rw [List.getElem?_append_right (by omega)] at hi
      have := List.eq_of_mem_replicate (List.mem_of_getElem? hi)
      subst this
      cases hu
  · unfold am_loc at hi
    by_cases hil : i < (am_exp al).length
    · rw [List.getElem?_append_left hil] at hi
      exact am_lok_at hlk i u hi hu
    · rw [List.getElem?_append_right (by omega)] at hi
      have := List.eq_of_mem_replicate (List.mem_of_getElem? hi)
      subst this
      cases hu
/-! the world's cells -/
section WS
variable {cI cZ cR : ClassId} {fm : Value}
def am_ent (cI cZ cR : ClassId) (fm : Value) (w : AW) (ad : Nat → Nat) (k : Nat) : va_E :=
  if am_kd w k < 11 then .inr (am_kd w k, (List.range (am_ln w k)).map (fun j => cv ad fm (am_ct w k j)))
  else if am_kd w k = 100 then .inl (cI, am_ln w k, .inl (fun j => am_i32 (am_ct w k j)))
  else if am_kd w k = 101 then .inl (cZ, am_ln w k, .inl (fun j => am_i32 (am_ct w k j)))
  else .inl (cR, am_ln w k, .inr (.inr (.inr (.inr (fun j => if j < am_ln w k then am_rfo ad (am_ct w k j) else none)))))
def am_ws (cI cZ cR : ClassId) (fm : Value) (w : AW) (ad : Nat → Nat) : va_W := (List.range (w.1 - 19)).map (fun i => (ad (19 + i), am_ent cI cZ cR fm w ad (19 + i)))
theorem am_ws_get {w : AW} {ad : Nat → Nat} {k : Nat} (h : 19 ≤ k) (hk : k < w.1) : (am_ws cI cZ cR fm w ad)[k - 19]? = some (ad k, am_ent cI cZ cR fm w ad k) := by
  unfold am_ws
  rw [List.getElem?_map, List.getElem?_range (by omega)]
  show some (ad (19 + (k - 19)), am_ent cI cZ cR fm w ad (19 + (k - 19))) = some (ad k, am_ent cI cZ cR fm w ad k)
  rw [show 19 + (k - 19) = k by omega]
theorem am_ws_set {w w' : AW} {ad : Nat → Nat} {k : Nat} {e : va_E} (h : 19 ≤ k) (hk : k < w.1) (hn : w'.1 = w.1) (he : am_ent cI cZ cR fm w' ad k = e) (ho : ∀ q, q ≠ k → am_ent cI cZ cR fm w' ad q = am_ent cI cZ cR fm w ad q) : (am_ws cI cZ cR fm w ad).set (k - 19) (ad k, e) = am_ws cI cZ cR fm w' ad := by
  apply List.ext_getElem?
  intro i
  have hlen : (am_ws cI cZ cR fm w ad).length = w.1 - 19 := by unfold am_ws; rw [List.length_map, List.length_range]
  by_cases hi : i < w.1 - 19
  · have g1 : (am_ws cI cZ cR fm w ad)[i]? = some (ad (19 + i), am_ent cI cZ cR fm w ad (19 + i)) := by
      have := am_ws_get (cI := cI) (cZ := cZ) (cR := cR) (fm := fm) (w := w) (ad := ad) (k := 19 + i) (by omega) (by omega)
      rwa [show 19 + i - 19 = i by omega] at this
    have g2 : (am_ws cI cZ cR fm w' ad)[i]? = some (ad (19 + i), am_ent cI cZ cR fm w' ad (19 + i)) := by
      have := am_ws_get (cI := cI) (cZ := cZ) (cR := cR) (fm := fm) (w := w') (ad := ad) (k := 19 + i) (by omega) (by omega)
      rwa [show 19 + i - 19 = i by omega] at this
    by_cases hik : i = k - 19
    · subst hik
      rw [List.getElem?_set_self (by omega), g2, show 19 + (k - 19) = k by omega, he]
    · rw [List.getElem?_set_ne (Ne.symm hik), g1, g2, ho _ (by omega)]
  · rw [List.getElem?_eq_none (by rw [List.length_set, hlen]; omega), List.getElem?_eq_none (by unfold am_ws; rw [List.length_map, List.length_range]; omega)]
theorem am_ws_push {w w' : AW} {ad : Nat → Nat} {q : Nat} {e : va_E} (h : 19 ≤ w.1) (hn : w'.1 = w.1 + 1) (he : am_ent cI cZ cR fm w' (fun k => if k = w.1 then q else ad k) w.1 = e) (ho : ∀ k, k < w.1 → am_ent cI cZ cR fm w' (fun k => if k = w.1 then q else ad k) k = am_ent cI cZ cR fm w ad k) : am_ws cI cZ cR fm w ad ++ [(q, e)] = am_ws cI cZ cR fm w' (fun k => if k = w.1 then q else ad k) := by
  unfold am_ws
  rw [hn, show w.1 + 1 - 19 = (w.1 - 19) + 1 by omega, List.range_succ, List.map_append]
  congr 1
  · apply List.map_congr_left
    intro i hi
    have hi' := List.mem_range.mp hi
    dsimp only
    rw [ho _ (by omega), if_neg (by omega)]
  · show [(q, e)] = [_]
    dsimp only
    rw [show 19 + (w.1 - 19) = w.1 by omega, if_pos rfl, he]
theorem am_ent_put_ne {w : AW} {ad : Nat → Nat} {k j q : Nat} {v : AV} (h : q ≠ k) : am_ent cI cZ cR fm (am_put w k j v) ad q = am_ent cI cZ cR fm w ad q := by
  have e : ∀ i, am_ct (am_put w k j v) q i = am_ct w q i := by
    intro i
    unfold am_ct am_put
    dsimp only
    rw [if_neg h]
  unfold am_ent
  rw [show am_kd (am_put w k j v) q = am_kd w q from rfl, show am_ln (am_put w k j v) q = am_ln w q from rfl]
  simp only [e]
theorem am_put_ct {w : AW} {k j : Nat} {v : AV} (i : Nat) : am_ct (am_put w k j v) k i = if i = j then v else am_ct w k i := by
  unfold am_ct am_put
  dsimp only
  rw [if_pos rfl]
theorem am_ent_obj {w : AW} {ad : Nat → Nat} {k : Nat} (h : am_kd w k < 11) : am_ent cI cZ cR fm w ad k = .inr (am_kd w k, (List.range (am_ln w k)).map (fun j => cv ad fm (am_ct w k j))) := by
  unfold am_ent
  rw [if_pos h]
theorem am_ent_int {w : AW} {ad : Nat → Nat} {k : Nat} (h : am_kd w k = 100) : am_ent cI cZ cR fm w ad k = .inl (cI, am_ln w k, .inl (fun j => am_i32 (am_ct w k j))) := by
  unfold am_ent
  rw [if_neg (by omega), if_pos h]
theorem am_ent_boo {w : AW} {ad : Nat → Nat} {k : Nat} (h : am_kd w k = 101) : am_ent cI cZ cR fm w ad k = .inl (cZ, am_ln w k, .inl (fun j => am_i32 (am_ct w k j))) := by
  unfold am_ent
  rw [if_neg (by omega), if_neg (by omega), if_pos h]
theorem am_ent_row {w : AW} {ad : Nat → Nat} {k : Nat} (h : am_kd w k = 103) : am_ent cI cZ cR fm w ad k = .inl (cR, am_ln w k, .inr (.inr (.inr (.inr (fun j => if j < am_ln w k then am_rfo ad (am_ct w k j) else none))))) := by
  unfold am_ent
  rw [if_neg (by omega), if_neg (by omega), if_neg (by omega)]
theorem am_ent_new {w w' : AW} {ad ad' : Nat → Nat} {k : Nat} (hw : wfw w) (hk : k < w.1) (ha : ∀ q, q < w.1 → ad' q = ad q) (h1 : am_kd w' k = am_kd w k) (h2 : am_ln w' k = am_ln w k) (h3 : ∀ j, am_ct w' k j = am_ct w k j) (h19 : 19 ≤ k) : am_ent cI cZ cR fm w' ad' k = am_ent cI cZ cR fm w ad k := by
  obtain ⟨g1, g2, g3, g4, g5, g6, g7, g8⟩ := hw.2 k hk
  unfold am_ent
  simp only [h1, h2, h3]
  split
  · congr 2
    apply List.map_congr_left
    intro j hj
    exact cv_congr ha (g2 j (List.mem_range.mp hj))
  · split
    · rfl
    · split
      · rfl
      · have e : (fun j => if j < am_ln w k then am_rfo ad' (am_ct w k j) else none) = (fun j => if j < am_ln w k then am_rfo ad (am_ct w k j) else none) := by
          funext j
          split
          · rename_i hj
            exact am_rfo_congr ha (g2 j hj)
          · rfl
        rw [e]
end WS
