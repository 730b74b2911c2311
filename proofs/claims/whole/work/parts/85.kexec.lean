/-! the constructors: a machine over a list of cells, that the kernel runs -/
/-- a new cell: its kind, its length, its first places (0 behind them) -/
abbrev CC := Nat × Nat × List AV
abbrev KS := (Nat × List AV × List AV × List CC) ⊕ (Option AV ⊕ (Nat × List AV × Nat × List AV))
def k_z : CC := (999, 0, [])
def k_cell (cs : List CC) (k : Nat) : CC := cs.getD (k - 19) k_z
def k_at (c : CC) (j : Nat) : AV := c.2.2.getD j (vI 0)
def k_sum : List CC → Nat
  | [] => 0
  | c :: l => c.2.1 + k_sum l
def k_up : List AV → Nat → AV → List AV
  | [], 0, v => [v]
  | [], n + 1, v => vI 0 :: k_up [] n v
  | _ :: l, 0, v => v :: l
  | a :: l, n + 1, v => a :: k_up l n v
def k_set : List CC → Nat → Nat → AV → List CC
  | [], _, _, _ => []
  | c :: l, 0, j, v => (c.1, c.2.1, k_up c.2.2 j v) :: l
  | c :: l, n + 1, j, v => c :: k_set l n j v
/-- the world that a list of cells stands for, above the 19 first ones of a base -/
def k_den (b : AW) (cs : List CC) : AW := (19 + cs.length, b.2.1 + k_sum cs, (fun k => if k < 19 then am_kd b k else (k_cell cs k).1), (fun k => if k < 19 then am_ln b k else (k_cell cs k).2.1), fun k j => if k < 19 then am_ct b k j else k_at (k_cell cs k) j)
def k_wz : AW := (0, 0, fun _ => 999, fun _ => 0, fun _ _ => vI 0)
def k_lift (cs : List CC) : Option AS → Option KS
  | some (.inl (p, l, s, _)) => some (.inl (p, l, s, cs))
  | some (.inr y) => some (.inr y)
  | none => none
def k_out (b : AW) : KS → AS
  | .inl (p, l, s, cs) => .inl (p, l, s, k_den b cs)
  | .inr y => .inr y
def k_pure : Instr → Bool
  | .iconst _ => true
  | .bipush _ => true
  | .sipush _ => true
  | .ldc _ => true
  | .aload_n _ => true
  | .iload_n _ => true
  | .istore_n _ => true
  | .astore_n _ => true
  | .iinc _ _ => true
  | .iadd => true
  | .dup => true
  | .goto _ => true
  | .if_icmp _ _ => true
  | .areturn => true
  | .return_ => true
  | _ => false
def k_new (cs : List CC) (kd ln : Nat) (l : List AV) : List CC := cs ++ [(kd, ln, l)]
def k_inv (a n pc : Nat) (st : List AV) (cs : List CC) : Option KS := match st.drop n with
  | .inr (.inl k) :: r => if 19 ≤ k ∧ (k_cell cs k).1 = am_rk (am_own a) ∧ r.length ≤ 4 ∧ (am_exp (vR k :: (st.take n).reverse)).length ≤ am_maxl a ∧ am_lok (am_exp (vR k :: (st.take n).reverse)) = true then some (.inr (.inr (a, am_loc (vR k :: (st.take n).reverse) (am_maxl a), pc + 3, r))) else none
  | _ => none
def k_step (e : AE) (pc : Nat) (ls st : List AV) (cs : List CC) : Option KS := match e with
  | (ins, n, a, b, q) => match k_pure ins with
    | true => k_lift cs (am_step (ins, n, a, b, q) pc ls st k_wz)
    | false => match ins with
      | .new _ => if a < 11 then some (.inl (pc + 3, ls, vR (19 + cs.length) :: st, k_new cs a (am_nf a) ((List.range (am_nf a)).map (am_dflt a)))) else none
      | .newarray _ => (match st with
        | .inl z :: r => if 0 ≤ z ∧ z ≤ 100000 then some (.inl (pc + 2, ls, vR (19 + cs.length) :: r, k_new cs a z.toNat [])) else none
        | _ => none)
      | .anewarray _ => (match st with
        | .inl z :: r => if 0 ≤ z ∧ z ≤ 100000 then some (.inl (pc + 3, ls, vR (19 + cs.length) :: r, k_new cs 103 z.toNat (List.replicate z.toNat (vX 0)))) else none
        | _ => none)
      | .getfield _ => (match st with
        | .inr (.inl k) :: r => if 19 ≤ k ∧ (k_cell cs k).1 = a then some (.inl (pc + 3, ls, k_at (k_cell cs k) b.toNat :: r, cs)) else none
        | _ => none)
      | .putfield _ => (match st with
        | v :: .inr (.inl k) :: r => if 19 ≤ k ∧ a < 11 ∧ (k_cell cs k).1 = a ∧ am_fit (am_tyn a b.toNat) v = true then some (.inl (pc + 3, ls, r, k_set cs (k - 19) b.toNat v)) else none
        | _ => none)
      | .iastore => (match st with
        | .inl x :: .inl i :: .inr (.inl k) :: r => if 19 ≤ k ∧ (k_cell cs k).1 = 100 ∧ am_in i (k_cell cs k).2.1 = true then some (.inl (pc + 1, ls, r, k_set cs (k - 19) i.toNat (vI x))) else none
        | _ => none)
      | .aastore => (match st with
        | .inr (.inl v) :: .inl i :: .inr (.inl k) :: r => if 19 ≤ k ∧ 19 ≤ v ∧ (k_cell cs k).1 = 103 ∧ am_in i (k_cell cs k).2.1 = true ∧ (k_cell cs v).1 = 5 then some (.inl (pc + 1, ls, r, k_set cs (k - 19) i.toNat (vR v))) else none
        | _ => none)
      | .arraylength => (match st with
        | .inr (.inl k) :: r => if 19 ≤ k ∧ ((k_cell cs k).1 = 100 ∨ (k_cell cs k).1 = 103) then some (.inl (pc + 1, ls, vI ((k_cell cs k).2.1 : Int) :: r, cs)) else none
        | _ => none)
      | .invokespecial _ => if a = 9999 then k_lift cs (am_objinit pc ls st k_wz) else k_inv a b.toNat pc st cs
      | .invokestatic _ => if a = 9998 ∨ a = 9991 ∨ a = 9992 then none else if a = 9990 then k_lift cs (am_m2 i_max pc ls st k_wz) else k_lift cs (am_inv true a b.toNat pc st k_wz)
      | _ => none
def k_exec : Nat → Nat → Nat → Nat → List AV → List AV → List CC → Option (Option AV × List CC)
  | 0, _, _, _, _, _, _ => none
  | f + 1, d, M, pc, ls, st, cs => match am_find M pc with
    | none => none
    | some e => match k_step e pc ls st cs with
      | none => none
      | some (.inl (pc', ls', st', cs')) => k_exec f d M pc' ls' st' cs'
      | some (.inr (.inl r)) => some (r, cs)
      | some (.inr (.inr (N, ls', pc', st'))) => match d with
        | 0 => none
        | d' + 1 => match k_exec f d' N 0 ls' [] cs with
          | none => none
          | some (r, cs') => k_exec f (d' + 1) M pc' ls (r.toList ++ st') cs'
theorem aw_ext {w w' : AW} (h1 : w.1 = w'.1) (h2 : w.2.1 = w'.2.1) (h3 : ∀ k, am_kd w k = am_kd w' k) (h4 : ∀ k, am_ln w k = am_ln w' k) (h5 : ∀ k j, am_ct w k j = am_ct w' k j) : w = w' := by
  obtain ⟨a1, a2, a3, a4, a5⟩ := w
  obtain ⟨b1, b2, b3, b4, b5⟩ := w'
  have e1 : a1 = b1 := h1
  have e2 : a2 = b2 := h2
  have e3 : a3 = b3 := funext h3
  have e4 : a4 = b4 := funext h4
  have e5 : a5 = b5 := funext (fun k => funext (h5 k))
  rw [e1, e2, e3, e4, e5]
section KE
variable {b : AW} {cs cs' : List CC}
theorem k_up_at : ∀ (l : List AV) (j : Nat) (v : AV) (i : Nat), (k_up l j v).getD i (vI 0) = if i = j then v else l.getD i (vI 0)
  | [], 0, v, 0 => rfl
  | [], 0, v, i + 1 => by rw [if_neg (by omega)]; rfl
  | [], n + 1, v, 0 => by rw [if_neg (by omega)]; rfl
  | [], n + 1, v, i + 1 => by
    have h := k_up_at [] n v i
    show (k_up [] n v).getD i (vI 0) = _
    rw [h]
    by_cases q : i = n
    · rw [if_pos q, if_pos (by omega)]
    · rw [if_neg q, if_neg (by omega)]
      rfl
  | a :: l, 0, v, 0 => rfl
  | a :: l, 0, v, i + 1 => by rw [if_neg (by omega)]; rfl
  | a :: l, n + 1, v, 0 => by rw [if_neg (by omega)]; rfl
  | a :: l, n + 1, v, i + 1 => by
    have h := k_up_at l n v i
    show (k_up l n v).getD i (vI 0) = _
    rw [h]
    by_cases q : i = n
    · rw [if_pos q, if_pos (by omega)]
    · rw [if_neg q, if_neg (by omega)]
      rfl
theorem k_set_len : ∀ (cs : List CC) (n j : Nat) (v : AV), (k_set cs n j v).length = cs.length
  | [], _, _, _ => rfl
  | _ :: _, 0, _, _ => rfl
  | _ :: l, n + 1, j, v => congrArg Nat.succ (k_set_len l n j v)
theorem k_set_sum : ∀ (cs : List CC) (n j : Nat) (v : AV), k_sum (k_set cs n j v) = k_sum cs
  | [], _, _, _ => rfl
  | _ :: _, 0, _, _ => rfl
  | c :: l, n + 1, j, v => congrArg (fun x => c.2.1 + x) (k_set_sum l n j v)
theorem k_set_get : ∀ (cs : List CC) (n j : Nat) (v : AV) (i : Nat), n < cs.length → (k_set cs n j v).getD i k_z = if i = n then ((cs.getD i k_z).1, (cs.getD i k_z).2.1, k_up (cs.getD i k_z).2.2 j v) else cs.getD i k_z
  | [], _, _, _, _, h => absurd h (Nat.not_lt_zero _)
  | c :: l, 0, j, v, 0, _ => rfl
  | c :: l, 0, j, v, i + 1, _ => by rw [if_neg (by omega)]; rfl
  | c :: l, n + 1, j, v, 0, _ => by rw [if_neg (by omega)]; rfl
  | c :: l, n + 1, j, v, i + 1, h => by
    have g := k_set_get l n j v i (Nat.lt_of_succ_lt_succ h)
    show (k_set l n j v).getD i k_z = _
    rw [g]
    by_cases q : i = n
    · rw [if_pos q, if_pos (by omega)]
      rfl
    · rw [if_neg q, if_neg (by omega)]
      rfl
theorem k_lt {k : Nat} (h : ¬ (k_cell cs k).1 = 999) : k - 19 < cs.length := by
  rcases Nat.lt_or_ge (k - 19) cs.length with q | q
  · exact q
  · exact absurd (by unfold k_cell; rw [List.getD_eq_getElem?_getD, List.getElem?_eq_none q]; rfl) h
theorem k_put {k j : Nat} {v : AV} (h : 19 ≤ k) (hk : ¬ (k_cell cs k).1 = 999) : am_put (k_den b cs) k j v = k_den b (k_set cs (k - 19) j v) := by
  have hl := k_lt hk
  have g := fun i => k_set_get cs (k - 19) j v i hl
  have e : ∀ q, 19 ≤ q → k_cell (k_set cs (k - 19) j v) q = if q = k then ((k_cell cs q).1, (k_cell cs q).2.1, k_up (k_cell cs q).2.2 j v) else k_cell cs q := by
    intro q hq
    unfold k_cell
    rw [g]
    by_cases x : q = k
    · rw [if_pos x, if_pos (by omega)]
    · rw [if_neg x, if_neg (by omega)]
  refine aw_ext ?_ ?_ (fun q => ?_) (fun q => ?_) (fun q i => ?_)
  · show 19 + cs.length = 19 + (k_set cs (k - 19) j v).length
    rw [k_set_len]
  · show _ + k_sum cs = _ + k_sum (k_set cs (k - 19) j v)
    rw [k_set_sum]
  · show (if q < 19 then am_kd b q else (k_cell cs q).1) = if q < 19 then am_kd b q else (k_cell (k_set cs (k - 19) j v) q).1
    by_cases hq : q < 19
    · rw [if_pos hq, if_pos hq]
    · rw [if_neg hq, if_neg hq, e q (by omega)]
      split <;> rfl
  · show (if q < 19 then am_ln b q else (k_cell cs q).2.1) = if q < 19 then am_ln b q else (k_cell (k_set cs (k - 19) j v) q).2.1
    by_cases hq : q < 19
    · rw [if_pos hq, if_pos hq]
    · rw [if_neg hq, if_neg hq, e q (by omega)]
      split <;> rfl
  · show (if q = k then (fun i => if i = j then v else if q < 19 then am_ct b q i else k_at (k_cell cs q) i) else fun i => if q < 19 then am_ct b q i else k_at (k_cell cs q) i) i = if q < 19 then am_ct b q i else k_at (k_cell (k_set cs (k - 19) j v) q) i
    by_cases hq : q < 19
    · rw [if_neg (by omega), if_pos hq, if_pos hq]
    · rw [if_neg hq, e q (by omega)]
      by_cases x : q = k
      · subst x
        rw [if_pos rfl, if_pos rfl]
        unfold k_at
        dsimp only
        rw [k_up_at, if_neg hq]
      · rw [if_neg x, if_neg x]
        exact if_neg hq
theorem k_sum_app : ∀ (l : List CC) (c : CC), k_sum (l ++ [c]) = k_sum l + c.2.1
  | [], c => by show c.2.1 + 0 = 0 + c.2.1; omega
  | a :: l, c => by
    show a.2.1 + k_sum (l ++ [c]) = a.2.1 + k_sum l + c.2.1
    rw [k_sum_app l c]
    omega
theorem k_news {kd ln : Nat} {l : List AV} {f : Nat → AV} (hf : ∀ j, f j = l.getD j (vI 0)) : am_new (k_den b cs) kd ln f = k_den b (k_new cs kd ln l) := by
  have e : ∀ q, 19 ≤ q → k_cell (k_new cs kd ln l) q = if q = 19 + cs.length then (kd, ln, l) else k_cell cs q := by
    intro q hq
    unfold k_cell k_new
    by_cases x : q = 19 + cs.length
    · rw [if_pos x, x, Nat.add_sub_cancel_left, List.getD_eq_getElem?_getD, List.getElem?_append_right (Nat.le_refl _), Nat.sub_self]
      rfl
    · rw [if_neg x, List.getD_eq_getElem?_getD, List.getD_eq_getElem?_getD]
      rcases Nat.lt_or_ge (q - 19) cs.length with y | y
      · rw [List.getElem?_append_left y]
      · rw [List.getElem?_eq_none (by rw [List.length_append]; show cs.length + 1 ≤ _; omega), List.getElem?_eq_none y]
  have e1 : (k_new cs kd ln l).length = cs.length + 1 := by unfold k_new; rw [List.length_append]; rfl
  have e2 : k_sum (k_new cs kd ln l) = k_sum cs + ln := k_sum_app cs _
  refine aw_ext ?_ ?_ (fun q => ?_) (fun q => ?_) (fun q i => ?_)
  · show 19 + cs.length + 1 = 19 + (k_new cs kd ln l).length
    rw [e1]
    omega
  · show b.2.1 + k_sum cs + ln = b.2.1 + k_sum (k_new cs kd ln l)
    rw [e2]
    omega
  · show (if q = 19 + cs.length then kd else if q < 19 then am_kd b q else (k_cell cs q).1) = if q < 19 then am_kd b q else (k_cell (k_new cs kd ln l) q).1
    by_cases hq : q < 19
    · rw [if_neg (by omega), if_pos hq, if_pos hq]
    · rw [if_neg hq, if_neg hq, e q (by omega)]
      split <;> rfl
  · show (if q = 19 + cs.length then ln else if q < 19 then am_ln b q else (k_cell cs q).2.1) = if q < 19 then am_ln b q else (k_cell (k_new cs kd ln l) q).2.1
    by_cases hq : q < 19
    · rw [if_neg (by omega), if_pos hq, if_pos hq]
    · rw [if_neg hq, if_neg hq, e q (by omega)]
      split <;> rfl
  · show (if q = 19 + cs.length then f else fun i => if q < 19 then am_ct b q i else k_at (k_cell cs q) i) i = if q < 19 then am_ct b q i else k_at (k_cell (k_new cs kd ln l) q) i
    by_cases hq : q < 19
    · rw [if_neg (by omega), if_pos hq, if_pos hq]
    · rw [if_neg hq, e q (by omega)]
      by_cases x : q = 19 + cs.length
      · rw [if_pos x, if_pos x]
        exact hf i
      · rw [if_neg x, if_neg x]
        exact if_neg hq
theorem k_kd {k : Nat} (h : 19 ≤ k) : am_kd (k_den b cs) k = (k_cell cs k).1 := if_neg (Nat.not_lt.mpr h)
theorem k_ln {k : Nat} (h : 19 ≤ k) : am_ln (k_den b cs) k = (k_cell cs k).2.1 := if_neg (Nat.not_lt.mpr h)
theorem k_ct {k j : Nat} (h : 19 ≤ k) : am_ct (k_den b cs) k j = k_at (k_cell cs k) j := if_neg (Nat.not_lt.mpr h)
theorem am_tyl_len : ∀ c, c < 11 → (am_tyl.getD c []).length = am_nf c := by decide +kernel
theorem am_dflt_o {a j : Nat} (ha : a < 11) (h : am_nf a ≤ j) : am_dflt a j = vI 0 := by
  have e : am_tyn a j = 0 := by
    unfold am_tyn
    rw [List.getD_eq_getElem?_getD (l := am_tyl.getD a []), List.getElem?_eq_none (by rw [am_tyl_len a ha]; exact h)]
    rfl
  unfold am_dflt
  rw [e]
  rfl
/-- a step that looks at no cell -/
def k_re (w : AW) : AS → AS
  | .inl (p, l, s, _) => .inl (p, l, s, w)
  | .inr y => .inr y
theorem k_lift_of {o o' : Option AS} {x : KS} (he : o' = o.map (k_re (k_den b cs))) (h : k_lift cs o = some x) : o' = some (k_out b x) := by
  rw [he]
  match o, h with
  | some (.inl (p, l, s, _)), h => cases h; rfl
  | some (.inr y), h => cases h; rfl
section KR
variable {k n pc : Nat} {ls st : List AV} {w : AW}
theorem k_ald : am_ald k n pc ls st w = (am_ald k n pc ls st k_wz).map (k_re w) := by
  unfold am_ald
  generalize lget ls k = v
  rcases v with z | q | x | _ | t <;> rfl
theorem k_ild : am_ild k n pc ls st w = (am_ild k n pc ls st k_wz).map (k_re w) := by
  unfold am_ild
  generalize lget ls k = v
  rcases v with z | q | x | _ | t <;> rfl
theorem k_ast : am_ast k n pc ls st w = (am_ast k n pc ls st k_wz).map (k_re w) := by
  unfold am_ast
  rcases st with _ | ⟨z | q | x | _ | t, r⟩ <;> first | rfl | (show (if _ then _ else _) = Option.map _ (if _ then _ else _); split <;> rfl)
theorem k_ist : am_ist k n pc ls st w = (am_ist k n pc ls st k_wz).map (k_re w) := by
  unfold am_ist
  rcases st with _ | ⟨z | q | x | _ | t, r⟩ <;> first | rfl | (show (if _ then _ else _) = Option.map _ (if _ then _ else _); split <;> rfl)
theorem k_inc {c : Int} : am_iinc k c pc ls st w = (am_iinc k c pc ls st k_wz).map (k_re w) := by
  unfold am_iinc
  generalize lget ls k = v
  rcases v with z | q | x | _ | t <;> first | rfl | (show (if _ then _ else _) = Option.map _ (if _ then _ else _); split <;> rfl)
theorem k_dup : am_dup pc ls st w = (am_dup pc ls st k_wz).map (k_re w) := by
  unfold am_dup
  rcases st with _ | ⟨v, r⟩
  · rfl
  · dsimp only
    split <;> rfl
theorem k_b2 {f : Int → Int → Int} : am_b2 f pc ls st w = (am_b2 f pc ls st k_wz).map (k_re w) := by
  unfold am_b2
  rcases st with _ | ⟨z | q | x | t, _ | ⟨z2 | q2 | x2 | t2, r⟩⟩ <;> rfl
theorem k_br2 {f : Int → Int → Bool} {off : Int} : am_br2 f off pc ls st w = (am_br2 f off pc ls st k_wz).map (k_re w) := by
  unfold am_br2
  rcases st with _ | ⟨z | q | x | t, _ | ⟨z2 | q2 | x2 | t2, r⟩⟩ <;> rfl
end KR
theorem k_rw {ins : Instr} {n a q pc : Nat} {z : Int} {ls st : List AV} {w : AW} (hp : k_pure ins = true) : am_step (ins, n, a, z, q) pc ls st w = (am_step (ins, n, a, z, q) pc ls st k_wz).map (k_re w) := by
  cases ins <;> first
    | (exact absurd (show false = true from hp) (by decide))
    | rfl
    | exact k_ald
    | exact k_ild
    | exact k_ast
    | exact k_ist
    | exact k_inc
    | exact k_dup
    | exact k_b2
    | exact k_br2
    | (rcases st with _ | ⟨v, _ | ⟨u, r⟩⟩
       · rfl
       · show (if am_isref v = true then _ else _) = Option.map (k_re w) (if am_isref v = true then _ else _)
         split <;> rfl
       · rfl)
    | (rcases st with _ | ⟨v, r⟩ <;> rfl)
theorem k_obj {pc : Nat} {ls st : List AV} {w : AW} : am_objinit pc ls st w = (am_objinit pc ls st k_wz).map (k_re w) := by
  unfold am_objinit
  split
  · split <;> rfl
  · rfl
theorem k_m2 {f : Int → Int → Int} {pc : Nat} {ls st : List AV} {w : AW} : am_m2 f pc ls st w = (am_m2 f pc ls st k_wz).map (k_re w) := by
  unfold am_m2
  split
  · split <;> rfl
  · rfl
theorem k_invt {a n pc : Nat} {st : List AV} {w : AW} : am_inv true a n pc st w = (am_inv true a n pc st k_wz).map (k_re w) := by
  unfold am_inv
  dsimp only
  split <;> rfl
theorem am_rk_9 {a : Nat} (h : am_rk (am_own a) = 999) : am_own a = 999 := by
  unfold am_rk at h
  split at h
  · exact absurd h (by decide)
  · exact h
theorem k_step_ok {e : AE} {pc : Nat} {ls st : List AV} {x : KS} (h : k_step e pc ls st cs = some x) : am_step e pc ls st (k_den b cs) = some (k_out b x) := by
  obtain ⟨ins, n, a, z, q⟩ := e
  unfold k_step at h
  dsimp only at h
  split at h
  · rename_i hp
    exact k_lift_of (k_rw hp) h
  · split at h
    · split at h
      · rename_i ha
        cases h
        show some (Sum.inl (pc + 3, ls, vR (19 + cs.length) :: st, am_new (k_den b cs) a (am_nf a) (am_dflt a))) = _
        rw [k_news (l := (List.range (am_nf a)).map (am_dflt a)) ?_]
        · rfl
        · intro j
          rw [List.getD_eq_getElem?_getD, List.getElem?_map]
          rcases Nat.lt_or_ge j (am_nf a) with y | y
          · rw [List.getElem?_range y]
            rfl
          · rw [List.getElem?_eq_none (by rw [List.length_range]; exact y)]
            exact am_dflt_o ha y
      · cases h
    · split at h
      · split at h
        · rename_i z r hz
          cases h
          show am_newa a pc 2 (fun _ _ => vI 0) ls (vI z :: r) (k_den b cs) = _
          unfold am_newa vI
          dsimp only
          rw [if_pos hz, show am_new (k_den b cs) a z.toNat (fun _ => .inl 0) = _ from k_news (l := []) (fun _ => rfl)]
          rfl
        · cases h
      · cases h
    · split at h
      · split at h
        · rename_i z r hz
          cases h
          show am_newa 103 pc 3 (fun z j => if j < z then vX 0 else vI 0) ls (vI z :: r) (k_den b cs) = _
          unfold am_newa
          show (if 0 ≤ z ∧ z ≤ 100000 then some (Sum.inl (pc + 3, ls, vR (k_den b cs).1 :: r, am_new (k_den b cs) 103 z.toNat (fun j => if j < z.toNat then vX 0 else vI 0))) else none) = _
          rw [if_pos hz, k_news (l := List.replicate z.toNat (vX 0)) ?_]
          · rfl
          · intro j
            rw [List.getD_eq_getElem?_getD, List.getElem?_replicate]
            split <;> rfl
        · cases h
      · cases h
    · split at h
      · split at h
        · rename_i k r hk
          cases h
          show am_getf a z.toNat pc ls (vR k :: r) (k_den b cs) = _
          unfold am_getf vR
          dsimp only
          rw [if_pos (by rw [k_kd hk.1]; exact hk.2), k_ct hk.1]
          rfl
        · cases h
      · cases h
    · split at h
      · split at h
        · rename_i v k r hk
          cases h
          show am_putf a z.toNat pc ls (v :: vR k :: r) (k_den b cs) = _
          unfold am_putf vR
          dsimp only
          rw [if_pos ⟨by rw [k_kd hk.1]; exact hk.2.2.1, hk.2.2.2⟩, k_put hk.1 (by omega)]
          rfl
        · cases h
      · cases h
    · split at h
      · split at h
        · rename_i x i k r hk
          cases h
          show am_istore pc ls (vI x :: vI i :: vR k :: r) (k_den b cs) = _
          unfold am_istore vR vI
          dsimp only
          rw [if_pos ⟨by rw [k_kd hk.1]; exact hk.2.1, by rw [k_ln hk.1]; exact hk.2.2⟩, show am_put (k_den b cs) k i.toNat (.inl x) = _ from k_put hk.1 (by rw [hk.2.1]; decide)]
          rfl
        · cases h
      · cases h
    · split at h
      · split at h
        · rename_i v i k r hk
          cases h
          show am_astore pc ls (vR v :: vI i :: vR k :: r) (k_den b cs) = _
          unfold am_astore vR vI
          dsimp only
          rw [if_pos ⟨by rw [k_kd hk.1]; exact hk.2.2.1, by rw [k_ln hk.1]; exact hk.2.2.2.1, by rw [k_kd hk.2.1]; exact hk.2.2.2.2⟩, show am_put (k_den b cs) k i.toNat (.inr (.inl v)) = _ from k_put hk.1 (by rw [hk.2.2.1]; decide)]
          rfl
        · cases h
      · cases h
    · split at h
      · split at h
        · rename_i k r hk
          cases h
          show am_alen pc ls (vR k :: r) (k_den b cs) = _
          unfold am_alen vR
          dsimp only
          rw [if_pos (by rw [k_kd hk.1]; omega), k_ln hk.1]
          rfl
        · cases h
      · cases h
    · show (if a = 9999 then am_objinit pc ls st (k_den b cs) else am_inv false a z.toNat pc st (k_den b cs)) = _
      split at h
      · rename_i h9
        rw [if_pos h9]
        exact k_lift_of k_obj h
      · rename_i h9
        rw [if_neg h9]
        unfold k_inv at h
        unfold am_inv
        dsimp only
        split at h
        · rename_i k r hd
          rw [hd]
          dsimp only
          split at h
          · rename_i hk
            cases h
            rw [if_pos ⟨by rw [k_kd hk.1]; exact hk.2.1, hk.2.2⟩]
            rfl
          · cases h
        · cases h
    · show (if a = 9998 then am_acopy pc ls st (k_den b cs) else if a = 9990 then am_m2 i_max pc ls st (k_den b cs) else if a = 9991 then am_m2 i_min pc ls st (k_den b cs) else if a = 9992 then am_m1 i_abs pc ls st (k_den b cs) else am_inv true a z.toNat pc st (k_den b cs)) = _
      split at h
      · cases h
      · rename_i h9
        rw [if_neg (by omega)]
        split at h
        · rename_i h0
          rw [if_pos h0]
          exact k_lift_of k_m2 h
        · rename_i h0
          rw [if_neg h0, if_neg (by omega), if_neg (by omega)]
          exact k_lift_of k_invt h
    · cases h
theorem k_exec_ok : ∀ (f d M pc : Nat) (ls st : List AV) (cs : List CC) (r : Option AV) (cs' : List CC), k_exec f d M pc ls st cs = some (r, cs') → am_exec f d M pc ls st (k_den b cs) = some (r, k_den b cs') := by
  intro f
  induction f with
  | zero => intro d M pc ls st cs r cs' h; cases h
  | succ f ih =>
    intro d M pc ls st cs r cs' h
    rw [k_exec] at h
    rw [am_exec]
    cases hf : am_find M pc with
    | none => rw [hf] at h; cases h
    | some e =>
      rw [hf] at h
      dsimp only at h ⊢
      cases hs : k_step e pc ls st cs with
      | none => rw [hs] at h; cases h
      | some a =>
        rw [hs] at h
        rw [k_step_ok (b := b) hs]
        rcases a with ⟨pc1, ls1, st1, cs1⟩ | r1 | ⟨N, ls1, pc1, st1⟩
        · exact ih _ _ _ _ _ _ _ _ h
        · cases h
          rfl
        · dsimp only [k_out] at h ⊢
          cases d with
          | zero => cases h
          | succ d =>
            dsimp only at h ⊢
            cases hc : k_exec f d N 0 ls1 [] cs with
            | none => rw [hc] at h; cases h
            | some y =>
              obtain ⟨r2, cs2⟩ := y
              rw [hc] at h
              rw [ih _ _ _ _ _ _ _ _ hc]
              exact ih _ _ _ _ _ _ _ _ h
end KE
