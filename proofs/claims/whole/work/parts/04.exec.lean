/-! the machine runs: am_exec; R: it comes to an end with Q -/
def am_look : List (Nat × AE) → Nat → Option AE
  | [], _ => none
  | (k, e) :: l, pc => match Nat.beq k pc with
    | true => some e
    | false => am_look l pc
def am_find (M pc : Nat) : Option AE := am_look (am_tab M) pc
def am_y (M : Nat) : MethodName := (am_m M).1
def am_own (M : Nat) : Nat := (am_m M).2.1
def am_code (M : Nat) : ByteArray := (am_m M).2.2.1
def am_maxl (M : Nat) : Nat := (am_m M).2.2.2.1
def am_ret (M : Nat) : Option FieldType := (am_m M).2.2.2.2.1
def am_stat (M : Nat) : Bool := (am_m M).2.2.2.2.2.1
def am_np (M : Nat) : Nat := (am_m M).2.2.2.2.2.2
/-- the kind of the objects of a class -/
def am_rk (c : Nat) : Nat := match c with
  | 15 => 120
  | _ => c
def am_dflt (c j : Nat) : AV := match am_tyn c j with
  | 0 => vI 0
  | 1 => vI 0
  | _ => vX 0
def am_sta (a : Nat) : AV := match a with
  | 0 => vI 1
  | 1 => vR 1
  | 2 => vR 2
  | _ => vX 1
def am_inv (stat : Bool) (a n pc : Nat) (st : List AV) (w : AW) : Option AS := match stat with
  | true => if n ≤ st.length ∧ (st.drop n).length ≤ 4 ∧ (am_exp (st.take n).reverse).length ≤ am_maxl a ∧ am_lok (am_exp (st.take n).reverse) = true then some (.inr (.inr (a, am_loc (st.take n).reverse (am_maxl a), pc + 3, st.drop n))) else none
  | false => match st.drop n with
    | .inr (.inl k) :: r => if am_kd w k = am_rk (am_own a) ∧ r.length ≤ 4 ∧ (am_exp (vR k :: (st.take n).reverse)).length ≤ am_maxl a ∧ am_lok (am_exp (vR k :: (st.take n).reverse)) = true then some (.inr (.inr (a, am_loc (vR k :: (st.take n).reverse) (am_maxl a), pc + 3, r))) else none
    | _ => none
def am_objinit (pc : Nat) (ls st : List AV) (w : AW) : Option AS := match st with
  | .inr (.inl _) :: r => if r.length ≤ 4 then some (.inl (pc + 3, ls, r, w)) else none
  | _ => none
def am_acopy (pc : Nat) (ls st : List AV) (w : AW) : Option AS := match st with
  | .inl n :: .inl dp :: .inr (.inl q) :: .inl sp :: .inr (.inl k) :: r =>
    if am_kd w k = 100 ∧ am_kd w q = 100 ∧ 0 ≤ sp ∧ 0 ≤ dp ∧ 0 ≤ n ∧ sp + n ≤ (am_ln w k : Int) ∧ dp + n ≤ (am_ln w q : Int) ∧ r.length ≤ 4 then some (.inl (pc + 3, ls, r, am_cpy w k q sp.toNat dp.toNat n.toNat)) else none
  | _ => none
def am_getf (a j pc : Nat) (ls st : List AV) (w : AW) : Option AS := match st with
  | .inr (.inl k) :: r => if am_kd w k = a then some (.inl (pc + 3, ls, am_ct w k j :: r, w)) else none
  | _ => none
def am_putf (a j pc : Nat) (ls st : List AV) (w : AW) : Option AS := match st with
  | v :: .inr (.inl k) :: r => if am_kd w k = a ∧ am_fit (am_tyn a j) v = true then some (.inl (pc + 3, ls, r, am_put w k j v)) else none
  | _ => none
def am_newa (a pc n : Nat) (v : Nat → Nat → AV) (ls st : List AV) (w : AW) : Option AS := match st with
  | .inl z :: r => if 0 ≤ z ∧ z ≤ 100000 then some (.inl (pc + n, ls, vR w.1 :: r, am_new w a z.toNat (v z.toNat))) else none
  | _ => none
def am_iinc (k : Nat) (c : Int) (pc : Nat) (ls st : List AV) (w : AW) : Option AS := match lget ls k with
  | .inl z => if k < ls.length ∧ am_nl ls k = true then some (.inl (pc + 3, ls.set k (vI (wr (z + c))), st, w)) else none
  | _ => none
def am_un (f : Int → Int) (pc : Nat) (ls st : List AV) (w : AW) : Option AS := match st with
  | .inl x :: r => some (.inl (pc + 1, ls, vI (f x) :: r, w))
  | _ => none
def am_dup (pc : Nat) (ls st : List AV) (w : AW) : Option AS := match st with
  | v :: r => if am_long v = true then none else some (.inl (pc + 1, ls, v :: v :: r, w))
  | _ => none
def am_dup2 (pc : Nat) (ls st : List AV) (w : AW) : Option AS := match st with
  | v :: u :: r => if am_long v = true ∨ am_long u = true then none else some (.inl (pc + 1, ls, v :: u :: v :: u :: r, w))
  | _ => none
def am_pop (pc : Nat) (ls st : List AV) (w : AW) : Option AS := match st with
  | v :: r => if am_long v = true then none else some (.inl (pc + 1, ls, r, w))
  | _ => none
def am_m2 (f : Int → Int → Int) (pc : Nat) (ls st : List AV) (w : AW) : Option AS := match st with
  | .inl y :: .inl x :: r => if r.length ≤ 4 then some (.inl (pc + 3, ls, vI (f x y) :: r, w)) else none
  | _ => none
def am_m1 (f : Int → Int) (pc : Nat) (ls st : List AV) (w : AW) : Option AS := match st with
  | .inl x :: r => if r.length ≤ 4 then some (.inl (pc + 3, ls, vI (f x) :: r, w)) else none
  | _ => none
def i_max (x y : Int) : Int := if x < y then y else x
def i_min (x y : Int) : Int := if y < x then y else x
def i_abs (x : Int) : Int := if 0 ≤ x then x else wr (0 - x)
def am_step (e : AE) (pc : Nat) (ls st : List AV) (w : AW) : Option AS := match e with
  | (ins, n, a, b, _) => match ins with
    | .aconst_null => some (.inl (pc + 1, ls, vX 0 :: st, w))
    | .iconst _ => some (.inl (pc + 1, ls, vI b :: st, w))
    | .bipush _ => some (.inl (pc + 2, ls, vI b :: st, w))
    | .sipush _ => some (.inl (pc + 3, ls, vI b :: st, w))
    | .ldc _ => some (.inl (pc + 2, ls, (match a with | 0 => vI b | _ => vR b.toNat) :: st, w))
    | .ldc_w _ => some (.inl (pc + 3, ls, vI b :: st, w))
    | .ldc2_w _ => some (.inl (pc + 3, ls, vL (Int64.ofInt b) :: st, w))
    | .iload k => am_ild k 2 pc ls st w
    | .iload_n k => am_ild k.val 1 pc ls st w
    | .lload_n k => am_lld k.val 1 pc ls st w
    | .aload k => am_ald k 2 pc ls st w
    | .aload_n k => am_ald k.val 1 pc ls st w
    | .istore k => am_ist k 2 pc ls st w
    | .istore_n k => am_ist k.val 1 pc ls st w
    | .astore k => am_ast k 2 pc ls st w
    | .astore_n k => am_ast k.val 1 pc ls st w
    | .iinc k c => am_iinc k c pc ls st w
    | .iaload => am_iload pc ls st w
    | .baload => am_bload pc ls st w
    | .aaload => am_aload pc ls st w
    | .iastore => am_istore pc ls st w
    | .bastore => am_bstore pc ls st w
    | .aastore => am_astore pc ls st w
    | .arraylength => am_alen pc ls st w
    | .pop => am_pop pc ls st w
    | .dup => am_dup pc ls st w
    | .dup2 => am_dup2 pc ls st w
    | .iadd => am_b2 (fun x y => wr (x + y)) pc ls st w
    | .isub => am_b2 (fun x y => wr (x - y)) pc ls st w
    | .imul => am_b2 (fun x y => wr (x * y)) pc ls st w
    | .idiv => am_d2 i_div pc ls st w
    | .irem => am_d2 i_rem pc ls st w
    | .ineg => am_un (fun x => wr (-x)) pc ls st w
    | .iand => am_b2 i_and pc ls st w
    | .ior => am_b2 i_or pc ls st w
    | .ixor => am_b2 i_xor pc ls st w
    | .ishl => am_b2 i_shl pc ls st w
    | .ishr => am_b2 i_shr pc ls st w
    | .iushr => am_b2 i_ushr pc ls st w
    | .i2c => am_un i_ch pc ls st w
    | .land => am_l2 (fun x y => x &&& y) pc ls st w
    | .lor => am_l2 (fun x y => x ||| y) pc ls st w
    | .lshl => am_ls l_shl pc ls st w
    | .lshr => am_ls l_shr pc ls st w
    | .lushr => am_ls l_ushr pc ls st w
    | .i2l => (match st with | .inl x :: r => some (.inl (pc + 1, ls, vL (i_l x) :: r, w)) | _ => none)
    | .l2i => (match st with | .inr (.inr (.inl x)) :: r => some (.inl (pc + 1, ls, vI (l_i x) :: r, w)) | _ => none)
    | .ifCond c off => am_br1 (fun x => am_cmp c x 0) off pc ls st w
    | .if_icmp c off => am_br2 (am_cmp c) off pc ls st w
    | .goto off => some (.inl (am_go pc off, ls, st, w))
    | .ifnull off => am_null true off pc ls st w
    | .ifnonnull off => am_null false off pc ls st w
    | .tableswitch dflt lo hi offs => am_tsw dflt lo hi offs pc ls st w
    | .lookupswitch dflt ps => am_lsw dflt ps pc ls st w
    | .ireturn => (match st with | .inl x :: [] => if am_rfit a x = true then some (.inr (.inl (some (vI x)))) else none | _ => none)
    | .areturn => (match st with | v :: [] => if am_isref v = true then some (.inr (.inl (some v))) else none | _ => none)
    | .return_ => (match st with | [] => some (.inr (.inl none)) | _ => none)
    | .getstatic _ => some (.inl (pc + 3, ls, am_sta a :: st, w))
    | .getfield _ => am_getf a b.toNat pc ls st w
    | .putfield _ => am_putf a b.toNat pc ls st w
    | .new _ => some (.inl (pc + 3, ls, vR w.1 :: st, am_new w a (am_nf a) (am_dflt a)))
    | .newarray _ => am_newa a pc 2 (fun _ _ => vI 0) ls st w
    | .anewarray _ => am_newa 103 pc 3 (fun z j => if j < z then vX 0 else vI 0) ls st w
    | .invokespecial _ => if a = 9999 then am_objinit pc ls st w else am_inv false a b.toNat pc st w
    | .invokevirtual _ => am_inv false a b.toNat pc st w
    | .invokestatic _ => if a = 9998 then am_acopy pc ls st w else if a = 9990 then am_m2 i_max pc ls st w else if a = 9991 then am_m2 i_min pc ls st w else if a = 9992 then am_m1 i_abs pc ls st w else am_inv true a b.toNat pc st w
    | _ => none
def am_exec : Nat → Nat → Nat → Nat → List AV → List AV → AW → Option (Option AV × AW)
  | 0, _, _, _, _, _, _ => none
  | f + 1, d, M, pc, ls, st, w => match am_find M pc with
    | none => none
    | some e => match am_step e pc ls st w with
      | none => none
      | some (.inl (pc', ls', st', w')) => am_exec f d M pc' ls' st' w'
      | some (.inr (.inl r)) => some (r, w)
      | some (.inr (.inr (N, ls', pc', st'))) => match d with
        | 0 => none
        | d' + 1 => match am_exec f d' N 0 ls' [] w with
          | none => none
          | some (r, w') => am_exec f (d' + 1) M pc' ls (r.toList ++ st') w'
theorem am_mono : ∀ (f d M pc : Nat) (ls st : List AV) (w : AW) (x : Option AV × AW), am_exec f d M pc ls st w = some x → am_exec (f + 1) d M pc ls st w = some x := by
  intro f
  induction f with
  | zero => intro d M pc ls st w x h; cases h
  | succ f ih =>
    intro d M pc ls st w x h
    rw [am_exec] at h ⊢
    cases hf : am_find M pc with
    | none => rw [hf] at h; cases h
    | some e =>
      rw [hf] at h
      dsimp only at h ⊢
      cases hs : am_step e pc ls st w with
      | none => rw [hs] at h; cases h
      | some a =>
        rw [hs] at h
        rcases a with ⟨pc', ls', st', w'⟩ | r | ⟨N, ls', pc', st'⟩
        · exact ih _ _ _ _ _ _ _ h
        · exact h
        · dsimp only at h ⊢
          cases d with
          | zero => cases h
          | succ d =>
            dsimp only at h ⊢
            cases hc : am_exec f d N 0 ls' [] w with
            | none => rw [hc] at h; cases h
            | some y =>
              rw [hc] at h
              rw [ih _ _ _ _ _ _ _ hc]
              exact ih _ _ _ _ _ _ _ h
theorem am_monoN {f d M pc : Nat} {ls st : List AV} {w : AW} {x : Option AV × AW} (h : am_exec f d M pc ls st w = some x) : ∀ k, am_exec (f + k) d M pc ls st w = some x
  | 0 => h
  | k + 1 => am_mono _ _ _ _ _ _ _ _ (am_monoN h k)
theorem am_det {f g d M pc : Nat} {ls st : List AV} {w : AW} {x y : Option AV × AW} (h : am_exec f d M pc ls st w = some x) (h2 : am_exec g d M pc ls st w = some y) : x = y := by
  have a := am_monoN h g
  have b := am_monoN h2 f
  rw [Nat.add_comm] at b
  rw [a] at b
  exact Option.some.inj b
/-- from here the machine comes to an end, and Q holds of the answer and the world then -/
def R (d M pc : Nat) (ls st : List AV) (w : AW) (Q : Option AV → AW → Prop) : Prop := ∃ (f : Nat) (r : Option AV) (w' : AW), am_exec f d M pc ls st w = some (r, w') ∧ Q r w'
/-- a call's value -/
def E (d M : Nat) (ls : List AV) (w : AW) (r : Option AV) (w' : AW) : Prop := ∃ f : Nat, am_exec f d M 0 ls [] w = some (r, w')
def am_push (r : Option AV) (st : List AV) : List AV := r.toList ++ st
theorem am_push_s (v : AV) (st : List AV) : am_push (some v) st = v :: st := rfl
theorem am_push_n (st : List AV) : am_push none st = st := rfl
theorem R_E {d M : Nat} {ls : List AV} {w : AW} {r : Option AV} {w' : AW} {Q : Option AV → AW → Prop} (h : E d M ls w r w') : R d M 0 ls [] w Q = Q r w' := by
  obtain ⟨f, hf⟩ := h
  refine propext ⟨fun ⟨g, r1, w1, h1, q⟩ => ?_, fun q => ⟨f, r, w', hf, q⟩⟩
  have e := am_det h1 hf
  cases e
  exact q
theorem E_of {d M : Nat} {ls : List AV} {w : AW} {r : Option AV} {w' : AW} (h : ∀ Q : Option AV → AW → Prop, Q r w' → R d M 0 ls [] w Q) : E d M ls w r w' := by
  obtain ⟨f, r1, w1, h1, h2, h3⟩ := h (fun a b => a = r ∧ b = w') ⟨rfl, rfl⟩
  exact ⟨f, by rw [h1, h2, h3]⟩
theorem R_next {d M pc : Nat} {ls st : List AV} {w : AW} {Q : Option AV → AW → Prop} {e : AE} {pc' : Nat} {ls' st' : List AV} {w' : AW} (hf : am_find M pc = some e) (hs : am_step e pc ls st w = some (.inl (pc', ls', st', w'))) : R d M pc ls st w Q = R d M pc' ls' st' w' Q := by
  refine propext ⟨fun ⟨f, r, w1, h, q⟩ => ?_, fun ⟨f, r, w1, h, q⟩ => ⟨f + 1, r, w1, ?_, q⟩⟩
  · cases f with
    | zero => cases h
    | succ f =>
      rw [am_exec, hf] at h
      dsimp only at h
      rw [hs] at h
      exact ⟨f, r, w1, h, q⟩
  · rw [am_exec, hf]
    dsimp only
    rw [hs]
    exact h
theorem R_ret {d M pc : Nat} {ls st : List AV} {w : AW} {Q : Option AV → AW → Prop} {e : AE} {r : Option AV} (hf : am_find M pc = some e) (hs : am_step e pc ls st w = some (.inr (.inl r))) : R d M pc ls st w Q = Q r w := by
  refine propext ⟨fun ⟨f, r1, w1, h, q⟩ => ?_, fun q => ⟨1, r, w, ?_, q⟩⟩
  · cases f with
    | zero => cases h
    | succ f =>
      rw [am_exec, hf] at h
      dsimp only at h
      rw [hs] at h
      cases h
      exact q
  · rw [am_exec, hf]
    dsimp only
    rw [hs]
theorem R_call {d M pc : Nat} {ls st : List AV} {w : AW} {Q : Option AV → AW → Prop} {e : AE} {N : Nat} {ls' : List AV} {pc' : Nat} {st' : List AV} (hf : am_find M pc = some e) (hs : am_step e pc ls st w = some (.inr (.inr (N, ls', pc', st')))) : R (d + 1) M pc ls st w Q = R d N 0 ls' [] w (fun r w' => R (d + 1) M pc' ls (am_push r st') w' Q) := by
  refine propext ⟨fun ⟨f, r1, w1, h, q⟩ => ?_, fun ⟨f, r, w', h, g, r2, w2, h2, q⟩ => ⟨f + g + 1, r2, w2, ?_, q⟩⟩
  · cases f with
    | zero => cases h
    | succ f =>
      rw [am_exec, hf] at h
      dsimp only at h
      rw [hs] at h
      dsimp only at h
      cases hc : am_exec f d N 0 ls' [] w with
      | none => rw [hc] at h; cases h
      | some y =>
        obtain ⟨r, w'⟩ := y
        rw [hc] at h
        exact ⟨f, r, w', hc, f, r1, w1, h, q⟩
  · rw [am_exec, hf]
    dsimp only
    rw [hs]
    dsimp only
    rw [am_monoN h g]
    dsimp only
    rw [Nat.add_comm f g]
    exact am_monoN h2 f
