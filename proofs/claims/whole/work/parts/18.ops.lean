/-! the machine's laws, an instruction each, as equations of R (printed by wip/whole/gen_ops.py) -/
section RO
variable {d M pc n a k L : Nat} {b : Int} {ls st : List AV} {w : AW} {σ : St} {Q : Option AV → AW → Prop}
theorem R_iconst {i : Int} (hf : am_find M pc = some (.iconst i, n, a, b, k)) : R d M pc ls st w Q = R d M (pc + 1) ls (vI b :: st) w Q := R_next hf rfl
theorem R_bipush {i : Int} (hf : am_find M pc = some (.bipush i, n, a, b, k)) : R d M pc ls st w Q = R d M (pc + 2) ls (vI b :: st) w Q := R_next hf rfl
theorem R_sipush {i : Int} (hf : am_find M pc = some (.sipush i, n, a, b, k)) : R d M pc ls st w Q = R d M (pc + 3) ls (vI b :: st) w Q := R_next hf rfl
theorem R_ldc_w {q : Nat} (hf : am_find M pc = some (.ldc_w q, n, a, b, k)) : R d M pc ls st w Q = R d M (pc + 3) ls (vI b :: st) w Q := R_next hf rfl
theorem R_ldci {q : Nat} (hf : am_find M pc = some (.ldc q, n, 0, b, k)) : R d M pc ls st w Q = R d M (pc + 2) ls (vI b :: st) w Q := R_next hf rfl
theorem R_ldcs {q : Nat} (hf : am_find M pc = some (.ldc q, n, 1, b, k)) : R d M pc ls st w Q = R d M (pc + 2) ls (vR b.toNat :: st) w Q := R_next hf rfl
theorem R_ldc2 {q : Nat} (hf : am_find M pc = some (.ldc2_w q, n, a, b, k)) : R d M pc ls st w Q = R d M (pc + 3) ls (vL (Int64.ofInt b) :: st) w Q := R_next hf rfl
theorem R_aconst (hf : am_find M pc = some (.aconst_null, n, a, b, k)) : R d M pc ls st w Q = R d M (pc + 1) ls (vX 0 :: st) w Q := R_next hf rfl
theorem R_iload {q : Nat} {z : Int} (hf : am_find M pc = some (.iload q, n, a, b, k)) (h : lget ls q = vI z) : R d M pc ls st w Q = R d M (pc + 2) ls (vI z :: st) w Q := R_next hf (by simp only [am_step, am_ild, h, vI])
theorem R_iload_n {q : Fin 4} {z : Int} (hf : am_find M pc = some (.iload_n q, n, a, b, k)) (h : lget ls q.val = vI z) : R d M pc ls st w Q = R d M (pc + 1) ls (vI z :: st) w Q := R_next hf (by simp only [am_step, am_ild, h, vI])
theorem R_lload_n {q : Fin 4} {z : Int64} (hf : am_find M pc = some (.lload_n q, n, a, b, k)) (h : lget ls q.val = vL z) : R d M pc ls st w Q = R d M (pc + 1) ls (vL z :: st) w Q := R_next hf (by simp only [am_step, am_lld, h, vL])
theorem R_aload {q z : Nat} (hf : am_find M pc = some (.aload q, n, a, b, k)) (h : lget ls q = vR z) : R d M pc ls st w Q = R d M (pc + 2) ls (vR z :: st) w Q := R_next hf (by simp only [am_step, am_ald, h, vR])
theorem R_aload_n {q : Fin 4} {z : Nat} (hf : am_find M pc = some (.aload_n q, n, a, b, k)) (h : lget ls q.val = vR z) : R d M pc ls st w Q = R d M (pc + 1) ls (vR z :: st) w Q := R_next hf (by simp only [am_step, am_ald, h, vR])
theorem R_aloadN {q : Nat} (hf : am_find M pc = some (.aload q, n, a, b, k)) (h : lget ls q = vX 0) : R d M pc ls st w Q = R d M (pc + 2) ls (vX 0 :: st) w Q := R_next hf (by simp only [am_step, am_ald, h, vX])
theorem R_aload_nN {q : Fin 4} (hf : am_find M pc = some (.aload_n q, n, a, b, k)) (h : lget ls q.val = vX 0) : R d M pc ls st w Q = R d M (pc + 1) ls (vX 0 :: st) w Q := R_next hf (by simp only [am_step, am_ald, h, vX])
theorem R_istore {q : Nat} {z : Int} {ls' : List AV} (hf : am_find M pc = some (.istore q, n, a, b, k)) (h : q < ls.length) (h2 : am_nl ls q = true) (e : ls.set q (vI z) = ls') : R d M pc ls (vI z :: st) w Q = R d M (pc + 2) ls' st w Q := R_next hf (by simp only [am_step, am_ist, vI, if_pos (And.intro h h2)]; rw [← e]; rfl)
theorem R_istore_n {q : Fin 4} {z : Int} {ls' : List AV} (hf : am_find M pc = some (.istore_n q, n, a, b, k)) (h : q.val < ls.length) (h2 : am_nl ls q.val = true) (e : ls.set q.val (vI z) = ls') : R d M pc ls (vI z :: st) w Q = R d M (pc + 1) ls' st w Q := R_next hf (by simp only [am_step, am_ist, vI, if_pos (And.intro h h2)]; rw [← e]; rfl)
theorem R_astore {q : Nat} {z : Nat} {ls' : List AV} (hf : am_find M pc = some (.astore q, n, a, b, k)) (h : q < ls.length) (h2 : am_nl ls q = true) (e : ls.set q (vR z) = ls') : R d M pc ls (vR z :: st) w Q = R d M (pc + 2) ls' st w Q := R_next hf (by simp only [am_step, am_ast, vR, if_pos (And.intro h h2)]; rw [← e]; rfl)
theorem R_astoreN {q : Nat} {ls' : List AV} (hf : am_find M pc = some (.astore q, n, a, b, k)) (h : q < ls.length) (h2 : am_nl ls q = true) (e : ls.set q (vX 0) = ls') : R d M pc ls (vX 0 :: st) w Q = R d M (pc + 2) ls' st w Q := R_next hf (by simp only [am_step, am_ast, vX, if_pos (And.intro h h2)]; rw [← e]; rfl)
theorem R_astore_n {q : Fin 4} {z : Nat} {ls' : List AV} (hf : am_find M pc = some (.astore_n q, n, a, b, k)) (h : q.val < ls.length) (h2 : am_nl ls q.val = true) (e : ls.set q.val (vR z) = ls') : R d M pc ls (vR z :: st) w Q = R d M (pc + 1) ls' st w Q := R_next hf (by simp only [am_step, am_ast, vR, if_pos (And.intro h h2)]; rw [← e]; rfl)
theorem R_astore_nN {q : Fin 4} {ls' : List AV} (hf : am_find M pc = some (.astore_n q, n, a, b, k)) (h : q.val < ls.length) (h2 : am_nl ls q.val = true) (e : ls.set q.val (vX 0) = ls') : R d M pc ls (vX 0 :: st) w Q = R d M (pc + 1) ls' st w Q := R_next hf (by simp only [am_step, am_ast, vX, if_pos (And.intro h h2)]; rw [← e]; rfl)
theorem R_iinc {q : Nat} {c z : Int} {ls' : List AV} (hf : am_find M pc = some (.iinc q c, n, a, b, k)) (h0 : lget ls q = vI z) (h : q < ls.length) (h2 : am_nl ls q = true) (e : ls.set q (vI (wr (z + c))) = ls') : R d M pc ls st w Q = R d M (pc + 3) ls' st w Q := R_next hf (by simp only [am_step, am_iinc, h0, vI, if_pos (And.intro h h2)]; rw [← e]; rfl)
theorem R_iadd {x y : Int} (hf : am_find M pc = some (.iadd, n, a, b, k)) : R d M pc ls (vI y :: vI x :: st) w Q = R d M (pc + 1) ls (vI (wr (x + y)) :: st) w Q := R_next hf rfl
theorem R_isub {x y : Int} (hf : am_find M pc = some (.isub, n, a, b, k)) : R d M pc ls (vI y :: vI x :: st) w Q = R d M (pc + 1) ls (vI (wr (x - y)) :: st) w Q := R_next hf rfl
theorem R_imul {x y : Int} (hf : am_find M pc = some (.imul, n, a, b, k)) : R d M pc ls (vI y :: vI x :: st) w Q = R d M (pc + 1) ls (vI (wr (x * y)) :: st) w Q := R_next hf rfl
theorem R_iand {x y : Int} (hf : am_find M pc = some (.iand, n, a, b, k)) : R d M pc ls (vI y :: vI x :: st) w Q = R d M (pc + 1) ls (vI (i_and x y) :: st) w Q := R_next hf rfl
theorem R_ior {x y : Int} (hf : am_find M pc = some (.ior, n, a, b, k)) : R d M pc ls (vI y :: vI x :: st) w Q = R d M (pc + 1) ls (vI (i_or x y) :: st) w Q := R_next hf rfl
theorem R_ixor {x y : Int} (hf : am_find M pc = some (.ixor, n, a, b, k)) : R d M pc ls (vI y :: vI x :: st) w Q = R d M (pc + 1) ls (vI (i_xor x y) :: st) w Q := R_next hf rfl
theorem R_ishl {x y : Int} (hf : am_find M pc = some (.ishl, n, a, b, k)) : R d M pc ls (vI y :: vI x :: st) w Q = R d M (pc + 1) ls (vI (i_shl x y) :: st) w Q := R_next hf rfl
theorem R_ishr {x y : Int} (hf : am_find M pc = some (.ishr, n, a, b, k)) : R d M pc ls (vI y :: vI x :: st) w Q = R d M (pc + 1) ls (vI (i_shr x y) :: st) w Q := R_next hf rfl
theorem R_iushr {x y : Int} (hf : am_find M pc = some (.iushr, n, a, b, k)) : R d M pc ls (vI y :: vI x :: st) w Q = R d M (pc + 1) ls (vI (i_ushr x y) :: st) w Q := R_next hf rfl
theorem R_iaddx {x y : Int} (hf : am_find M pc = some (.iadd, n, a, b, k)) (hr : -2147483648 ≤ x + y ∧ x + y ≤ 2147483647) : R d M pc ls (vI y :: vI x :: st) w Q = R d M (pc + 1) ls (vI (x + y) :: st) w Q := by rw [R_iadd hf, wr_id hr.1 hr.2]
theorem R_isubx {x y : Int} (hf : am_find M pc = some (.isub, n, a, b, k)) (hr : -2147483648 ≤ x - y ∧ x - y ≤ 2147483647) : R d M pc ls (vI y :: vI x :: st) w Q = R d M (pc + 1) ls (vI (x - y) :: st) w Q := by rw [R_isub hf, wr_id hr.1 hr.2]
theorem R_imulx {x y : Int} (hf : am_find M pc = some (.imul, n, a, b, k)) (hr : -2147483648 ≤ x * y ∧ x * y ≤ 2147483647) : R d M pc ls (vI y :: vI x :: st) w Q = R d M (pc + 1) ls (vI (x * y) :: st) w Q := by rw [R_imul hf, wr_id hr.1 hr.2]
theorem R_iincx {q : Nat} {c z : Int} {ls' : List AV} (hf : am_find M pc = some (.iinc q c, n, a, b, k)) (h0 : lget ls q = vI z) (h : q < ls.length) (h2 : am_nl ls q = true) (hr : -2147483648 ≤ z + c ∧ z + c ≤ 2147483647) (e : ls.set q (vI (z + c)) = ls') : R d M pc ls st w Q = R d M (pc + 3) ls' st w Q := by rw [R_iinc hf h0 h h2 rfl, wr_id hr.1 hr.2, e]
theorem R_inegx {x : Int} (hf : am_find M pc = some (.ineg, n, a, b, k)) (hr : -2147483648 ≤ -x ∧ -x ≤ 2147483647) : R d M pc ls (vI x :: st) w Q = R d M (pc + 1) ls (vI (-x) :: st) w Q := by rw [show R d M pc ls (vI x :: st) w Q = R d M (pc + 1) ls (vI (wr (-x)) :: st) w Q from R_next hf rfl, wr_id hr.1 hr.2]
theorem R_idiv {x y : Int} (hf : am_find M pc = some (.idiv, n, a, b, k)) (h : ¬ y = 0) : R d M pc ls (vI y :: vI x :: st) w Q = R d M (pc + 1) ls (vI (i_div x y) :: st) w Q := R_next hf (by simp only [am_step, am_d2, vI, if_neg h])
theorem R_irem {x y : Int} (hf : am_find M pc = some (.irem, n, a, b, k)) (h : ¬ y = 0) : R d M pc ls (vI y :: vI x :: st) w Q = R d M (pc + 1) ls (vI (i_rem x y) :: st) w Q := R_next hf (by simp only [am_step, am_d2, vI, if_neg h])
theorem R_ineg {x : Int} (hf : am_find M pc = some (.ineg, n, a, b, k)) : R d M pc ls (vI x :: st) w Q = R d M (pc + 1) ls (vI (wr (-x)) :: st) w Q := R_next hf rfl
theorem R_i2c {x : Int} (hf : am_find M pc = some (.i2c, n, a, b, k)) : R d M pc ls (vI x :: st) w Q = R d M (pc + 1) ls (vI (i_ch x) :: st) w Q := R_next hf rfl
theorem R_i2l {x : Int} (hf : am_find M pc = some (.i2l, n, a, b, k)) : R d M pc ls (vI x :: st) w Q = R d M (pc + 1) ls (vL (i_l x) :: st) w Q := R_next hf rfl
theorem R_l2i {x : Int64} (hf : am_find M pc = some (.l2i, n, a, b, k)) : R d M pc ls (vL x :: st) w Q = R d M (pc + 1) ls (vI (l_i x) :: st) w Q := R_next hf rfl
theorem R_land {x y : Int64} (hf : am_find M pc = some (.land, n, a, b, k)) : R d M pc ls (vL y :: vL x :: st) w Q = R d M (pc + 1) ls (vL (x &&& y) :: st) w Q := R_next hf rfl
theorem R_lor {x y : Int64} (hf : am_find M pc = some (.lor, n, a, b, k)) : R d M pc ls (vL y :: vL x :: st) w Q = R d M (pc + 1) ls (vL (x ||| y) :: st) w Q := R_next hf rfl
theorem R_lshl {x : Int64} {y : Int} (hf : am_find M pc = some (.lshl, n, a, b, k)) : R d M pc ls (vI y :: vL x :: st) w Q = R d M (pc + 1) ls (vL (l_shl x y) :: st) w Q := R_next hf rfl
theorem R_lshr {x : Int64} {y : Int} (hf : am_find M pc = some (.lshr, n, a, b, k)) : R d M pc ls (vI y :: vL x :: st) w Q = R d M (pc + 1) ls (vL (l_shr x y) :: st) w Q := R_next hf rfl
theorem R_lushr {x : Int64} {y : Int} (hf : am_find M pc = some (.lushr, n, a, b, k)) : R d M pc ls (vI y :: vL x :: st) w Q = R d M (pc + 1) ls (vL (l_ushr x y) :: st) w Q := R_next hf rfl
theorem R_dupi {z : Int} (hf : am_find M pc = some (.dup, n, a, b, k)) : R d M pc ls (vI z :: st) w Q = R d M (pc + 1) ls (vI z :: vI z :: st) w Q := R_next hf rfl
theorem R_dupr {z : Nat} (hf : am_find M pc = some (.dup, n, a, b, k)) : R d M pc ls (vR z :: st) w Q = R d M (pc + 1) ls (vR z :: vR z :: st) w Q := R_next hf rfl
theorem R_dupx (hf : am_find M pc = some (.dup, n, a, b, k)) : R d M pc ls (vX 0 :: st) w Q = R d M (pc + 1) ls (vX 0 :: vX 0 :: st) w Q := R_next hf rfl
theorem R_dup2 {z : Int} {q : Nat} (hf : am_find M pc = some (.dup2, n, a, b, k)) : R d M pc ls (vI z :: vR q :: st) w Q = R d M (pc + 1) ls (vI z :: vR q :: vI z :: vR q :: st) w Q := R_next hf rfl
theorem R_popi {z : Int} (hf : am_find M pc = some (.pop, n, a, b, k)) : R d M pc ls (vI z :: st) w Q = R d M (pc + 1) ls st w Q := R_next hf rfl
theorem R_icmp_eq {x y off : Int} {t : Nat} (hf : am_find M pc = some (.if_icmp .eq off, n, a, b, k)) (ht : am_go pc off = t) : R d M pc ls (vI y :: vI x :: st) w Q = if x = y then R d M t ls st w Q else R d M (pc + 3) ls st w Q := by
  rw [R_next hf rfl, ← ht]
  show R d M (if am_cmp .eq x y = true then _ else _) _ _ _ _ = _
  by_cases h : x = y
  · rw [if_pos h, if_pos (show am_cmp .eq x y = true from decide_eq_true (p := x = y) h)]
  · rw [if_neg h, if_neg (show ¬ am_cmp .eq x y = true from fun q => h (of_decide_eq_true (p := x = y) q))]
theorem R_if_eq {x off : Int} {t : Nat} (hf : am_find M pc = some (.ifCond .eq off, n, a, b, k)) (ht : am_go pc off = t) : R d M pc ls (vI x :: st) w Q = if x = 0 then R d M t ls st w Q else R d M (pc + 3) ls st w Q := by
  rw [R_next hf rfl, ← ht]
  show R d M (if am_cmp .eq x 0 = true then _ else _) _ _ _ _ = _
  by_cases h : x = 0
  · rw [if_pos h, if_pos (show am_cmp .eq x 0 = true from decide_eq_true (p := x = 0) h)]
  · rw [if_neg h, if_neg (show ¬ am_cmp .eq x 0 = true from fun q => h (of_decide_eq_true (p := x = 0) q))]
theorem R_icmp_ne {x y off : Int} {t : Nat} (hf : am_find M pc = some (.if_icmp .ne off, n, a, b, k)) (ht : am_go pc off = t) : R d M pc ls (vI y :: vI x :: st) w Q = if ¬ x = y then R d M t ls st w Q else R d M (pc + 3) ls st w Q := by
  rw [R_next hf rfl, ← ht]
  show R d M (if am_cmp .ne x y = true then _ else _) _ _ _ _ = _
  by_cases h : ¬ x = y
  · rw [if_pos h, if_pos (show am_cmp .ne x y = true from decide_eq_true (p := ¬ x = y) h)]
  · rw [if_neg h, if_neg (show ¬ am_cmp .ne x y = true from fun q => h (of_decide_eq_true (p := ¬ x = y) q))]
theorem R_if_ne {x off : Int} {t : Nat} (hf : am_find M pc = some (.ifCond .ne off, n, a, b, k)) (ht : am_go pc off = t) : R d M pc ls (vI x :: st) w Q = if ¬ x = 0 then R d M t ls st w Q else R d M (pc + 3) ls st w Q := by
  rw [R_next hf rfl, ← ht]
  show R d M (if am_cmp .ne x 0 = true then _ else _) _ _ _ _ = _
  by_cases h : ¬ x = 0
  · rw [if_pos h, if_pos (show am_cmp .ne x 0 = true from decide_eq_true (p := ¬ x = 0) h)]
  · rw [if_neg h, if_neg (show ¬ am_cmp .ne x 0 = true from fun q => h (of_decide_eq_true (p := ¬ x = 0) q))]
theorem R_icmp_lt {x y off : Int} {t : Nat} (hf : am_find M pc = some (.if_icmp .lt off, n, a, b, k)) (ht : am_go pc off = t) : R d M pc ls (vI y :: vI x :: st) w Q = if x < y then R d M t ls st w Q else R d M (pc + 3) ls st w Q := by
  rw [R_next hf rfl, ← ht]
  show R d M (if am_cmp .lt x y = true then _ else _) _ _ _ _ = _
  by_cases h : x < y
  · rw [if_pos h, if_pos (show am_cmp .lt x y = true from decide_eq_true (p := x < y) h)]
  · rw [if_neg h, if_neg (show ¬ am_cmp .lt x y = true from fun q => h (of_decide_eq_true (p := x < y) q))]
theorem R_if_lt {x off : Int} {t : Nat} (hf : am_find M pc = some (.ifCond .lt off, n, a, b, k)) (ht : am_go pc off = t) : R d M pc ls (vI x :: st) w Q = if x < 0 then R d M t ls st w Q else R d M (pc + 3) ls st w Q := by
  rw [R_next hf rfl, ← ht]
  show R d M (if am_cmp .lt x 0 = true then _ else _) _ _ _ _ = _
  by_cases h : x < 0
  · rw [if_pos h, if_pos (show am_cmp .lt x 0 = true from decide_eq_true (p := x < 0) h)]
  · rw [if_neg h, if_neg (show ¬ am_cmp .lt x 0 = true from fun q => h (of_decide_eq_true (p := x < 0) q))]
theorem R_icmp_ge {x y off : Int} {t : Nat} (hf : am_find M pc = some (.if_icmp .ge off, n, a, b, k)) (ht : am_go pc off = t) : R d M pc ls (vI y :: vI x :: st) w Q = if y ≤ x then R d M t ls st w Q else R d M (pc + 3) ls st w Q := by
  rw [R_next hf rfl, ← ht]
  show R d M (if am_cmp .ge x y = true then _ else _) _ _ _ _ = _
  by_cases h : y ≤ x
  · rw [if_pos h, if_pos (show am_cmp .ge x y = true from decide_eq_true (p := y ≤ x) h)]
  · rw [if_neg h, if_neg (show ¬ am_cmp .ge x y = true from fun q => h (of_decide_eq_true (p := y ≤ x) q))]
theorem R_if_ge {x off : Int} {t : Nat} (hf : am_find M pc = some (.ifCond .ge off, n, a, b, k)) (ht : am_go pc off = t) : R d M pc ls (vI x :: st) w Q = if 0 ≤ x then R d M t ls st w Q else R d M (pc + 3) ls st w Q := by
  rw [R_next hf rfl, ← ht]
  show R d M (if am_cmp .ge x 0 = true then _ else _) _ _ _ _ = _
  by_cases h : 0 ≤ x
  · rw [if_pos h, if_pos (show am_cmp .ge x 0 = true from decide_eq_true (p := 0 ≤ x) h)]
  · rw [if_neg h, if_neg (show ¬ am_cmp .ge x 0 = true from fun q => h (of_decide_eq_true (p := 0 ≤ x) q))]
theorem R_icmp_gt {x y off : Int} {t : Nat} (hf : am_find M pc = some (.if_icmp .gt off, n, a, b, k)) (ht : am_go pc off = t) : R d M pc ls (vI y :: vI x :: st) w Q = if y < x then R d M t ls st w Q else R d M (pc + 3) ls st w Q := by
  rw [R_next hf rfl, ← ht]
  show R d M (if am_cmp .gt x y = true then _ else _) _ _ _ _ = _
  by_cases h : y < x
  · rw [if_pos h, if_pos (show am_cmp .gt x y = true from decide_eq_true (p := y < x) h)]
  · rw [if_neg h, if_neg (show ¬ am_cmp .gt x y = true from fun q => h (of_decide_eq_true (p := y < x) q))]
theorem R_if_gt {x off : Int} {t : Nat} (hf : am_find M pc = some (.ifCond .gt off, n, a, b, k)) (ht : am_go pc off = t) : R d M pc ls (vI x :: st) w Q = if 0 < x then R d M t ls st w Q else R d M (pc + 3) ls st w Q := by
  rw [R_next hf rfl, ← ht]
  show R d M (if am_cmp .gt x 0 = true then _ else _) _ _ _ _ = _
  by_cases h : 0 < x
  · rw [if_pos h, if_pos (show am_cmp .gt x 0 = true from decide_eq_true (p := 0 < x) h)]
  · rw [if_neg h, if_neg (show ¬ am_cmp .gt x 0 = true from fun q => h (of_decide_eq_true (p := 0 < x) q))]
theorem R_icmp_le {x y off : Int} {t : Nat} (hf : am_find M pc = some (.if_icmp .le off, n, a, b, k)) (ht : am_go pc off = t) : R d M pc ls (vI y :: vI x :: st) w Q = if x ≤ y then R d M t ls st w Q else R d M (pc + 3) ls st w Q := by
  rw [R_next hf rfl, ← ht]
  show R d M (if am_cmp .le x y = true then _ else _) _ _ _ _ = _
  by_cases h : x ≤ y
  · rw [if_pos h, if_pos (show am_cmp .le x y = true from decide_eq_true (p := x ≤ y) h)]
  · rw [if_neg h, if_neg (show ¬ am_cmp .le x y = true from fun q => h (of_decide_eq_true (p := x ≤ y) q))]
theorem R_if_le {x off : Int} {t : Nat} (hf : am_find M pc = some (.ifCond .le off, n, a, b, k)) (ht : am_go pc off = t) : R d M pc ls (vI x :: st) w Q = if x ≤ 0 then R d M t ls st w Q else R d M (pc + 3) ls st w Q := by
  rw [R_next hf rfl, ← ht]
  show R d M (if am_cmp .le x 0 = true then _ else _) _ _ _ _ = _
  by_cases h : x ≤ 0
  · rw [if_pos h, if_pos (show am_cmp .le x 0 = true from decide_eq_true (p := x ≤ 0) h)]
  · rw [if_neg h, if_neg (show ¬ am_cmp .le x 0 = true from fun q => h (of_decide_eq_true (p := x ≤ 0) q))]
theorem R_goto {off : Int} {t : Nat} (hf : am_find M pc = some (.goto off, n, a, b, k)) (ht : am_go pc off = t) : R d M pc ls st w Q = R d M t ls st w Q := by rw [R_next hf rfl, ← ht]
theorem R_ifnull {off : Int} {q : Nat} (hf : am_find M pc = some (.ifnull off, n, a, b, k)) : R d M pc ls (vR q :: st) w Q = R d M (pc + 3) ls st w Q := R_next hf rfl
theorem R_ifnullN {off : Int} {t : Nat} (hf : am_find M pc = some (.ifnull off, n, a, b, k)) (ht : am_go pc off = t) : R d M pc ls (vX 0 :: st) w Q = R d M t ls st w Q := by rw [R_next hf rfl, ← ht]; rfl
theorem R_ifnonnull {off : Int} {q t : Nat} (hf : am_find M pc = some (.ifnonnull off, n, a, b, k)) (ht : am_go pc off = t) : R d M pc ls (vR q :: st) w Q = R d M t ls st w Q := by rw [R_next hf rfl, ← ht]; rfl
theorem R_ifnonnullN {off : Int} (hf : am_find M pc = some (.ifnonnull off, n, a, b, k)) : R d M pc ls (vX 0 :: st) w Q = R d M (pc + 3) ls st w Q := R_next hf rfl
theorem R_tsw {dflt lo hi : Int} {offs : Array Int} {x : Int} {t : Nat} (hf : am_find M pc = some (.tableswitch dflt lo hi offs, n, a, b, k)) (ht : am_tsw dflt lo hi offs pc ls (vI x :: st) w = some (.inl (t, ls, st, w))) : R d M pc ls (vI x :: st) w Q = R d M t ls st w Q := R_next hf ht
theorem R_lsw {dflt : Int} {ps : Array (Int × Int)} {x : Int} (hf : am_find M pc = some (.lookupswitch dflt ps, n, a, b, k)) : R d M pc ls (vI x :: st) w Q = R d M (am_go pc (Op.lookupswitch.offset ps.toList dflt x)) ls st w Q := R_next hf rfl
theorem R_ireti {z : Int} (hf : am_find M pc = some (.ireturn, n, a, b, k)) (h : am_rfit a z = true) : R d M pc ls [vI z] w Q = Q (some (vI z)) w := R_ret hf (by simp only [am_step, vI, if_pos h])
theorem R_aret {q : Nat} (hf : am_find M pc = some (.areturn, n, a, b, k)) : R d M pc ls [vR q] w Q = Q (some (vR q)) w := R_ret hf rfl
theorem R_aretN (hf : am_find M pc = some (.areturn, n, a, b, k)) : R d M pc ls [vX 0] w Q = Q (some (vX 0)) w := R_ret hf rfl
theorem R_return (hf : am_find M pc = some (.return_, n, a, b, k)) : R d M pc ls [] w Q = Q none w := R_ret hf rfl
theorem R_getstatic {q : Nat} (hf : am_find M pc = some (.getstatic q, n, a, b, k)) : R d M pc ls st w Q = R d M (pc + 3) ls (am_sta a :: st) w Q := R_next hf rfl
theorem R_gf {q i : Nat} {v : AV} (hf : am_find M pc = some (.getfield q, n, a, b, k)) (hk : KD i = a) (hv : mk σ i b.toNat = v) : R d M pc ls (vR i :: st) (WS L σ) Q = R d M (pc + 3) ls (v :: st) (WS L σ) Q := R_next hf (by simp only [am_step, am_getf, vR]; rw [WS_kd, if_pos hk, WS_ct, hv])
theorem R_pf {q i : Nat} {z j : Int} (hf : am_find M pc = some (.putfield q, n, a, b, k)) (hk : KD i = a) (hj : (b.toNat : Int) = j) (ht : am_tyn a b.toNat = 0) (hc : wsC i = none) (hp : PC i b.toNat = 0) : R d M pc ls (vI z :: vR i :: st) (WS L σ) Q = R d M (pc + 3) ls st (WS L (st2 σ i j z)) Q := R_next hf (by simp only [am_step, am_putf, vR]; rw [WS_kd, ht, if_pos ⟨hk, rfl⟩, WS_put hc hp, hj])
theorem R_pfz {q i : Nat} {z j : Int} (hf : am_find M pc = some (.putfield q, n, a, b, k)) (hk : KD i = a) (hj : (b.toNat : Int) = j) (ht : am_tyn a b.toNat = 1) (hz : am_bit z = true) (hc : wsC i = none) (hp : PC i b.toNat = 0) : R d M pc ls (vI z :: vR i :: st) (WS L σ) Q = R d M (pc + 3) ls st (WS L (st2 σ i j z)) Q := R_next hf (by simp only [am_step, am_putf, vR]; rw [WS_kd, ht, if_pos ⟨hk, hz⟩, WS_put hc hp, hj])
theorem R_pfr {q i g : Nat} {j : Int} (hf : am_find M pc = some (.putfield q, n, a, b, k)) (hk : KD i = a) (hj : (b.toNat : Int) = j) (ht : am_tyn a b.toNat = 2) (hc : wsC i = none) (hp : PC i b.toNat = 2) : R d M pc ls (vR g :: vR i :: st) (WS L σ) Q = R d M (pc + 3) ls st (WS L (st2 σ i j (g : Int))) Q := R_next hf (by simp only [am_step, am_putf, vR]; rw [WS_kd, ht, if_pos ⟨hk, rfl⟩, ← hj]; exact congrArg (fun x => some (Sum.inl (pc + 3, ls, st, x))) (WS_putr (q := g) hc hp))
theorem am_in_of {i : Int} {m : Nat} (h0 : 0 ≤ i) (h1 : i < (m : Int)) : am_in i m = true := by unfold am_in; simp only [Bool.and_eq_true, decide_eq_true_eq]; exact ⟨h0, h1⟩
theorem R_ia {i : Int} {q : Nat} (hf : am_find M pc = some (.iaload, n, a, b, k)) (hk : KD q = 100) (h0 : 0 ≤ i) (h1 : i < (LN L q : Int)) : R d M pc ls (vI i :: vR q :: st) (WS L σ) Q = R d M (pc + 1) ls (vI (σ q i) :: st) (WS L σ) Q := R_next hf (by simp only [am_step, am_iload, vI, vR]; rw [WS_kd, WS_ln, if_pos ⟨Or.inl hk, am_in_of h0 h1⟩, WS_ai (Or.inl hk) h0]; rfl)
theorem R_iac {i : Int} {q : Nat} {l : List Int} (hf : am_find M pc = some (.iaload, n, a, b, k)) (hk : KD q = 110) (hc : wsC q = some l) (h0 : 0 ≤ i) (h1 : i < (LN L q : Int)) : R d M pc ls (vI i :: vR q :: st) (WS L σ) Q = R d M (pc + 1) ls (vI (l.getD i.toNat 0) :: st) (WS L σ) Q := R_next hf (by simp only [am_step, am_iload, vI, vR]; rw [WS_kd, WS_ln, if_pos ⟨Or.inr hk, am_in_of h0 h1⟩, WS_ct]; unfold mk; rw [hc]; rfl)
theorem R_iascr {i : Int} (hf : am_find M pc = some (.iaload, n, a, b, k)) (h0 : 0 ≤ i) (h1 : i < (L : Int)) : R d M pc ls (vI i :: vR 0 :: st) (WS L σ) Q = R d M (pc + 1) ls (vI (σ 0 i) :: st) (WS L σ) Q := R_next hf (by simp only [am_step, am_iload, vI, vR]; rw [WS_kd, WS_ln, if_pos ⟨Or.inr rfl, am_in_of h0 h1⟩, WS_ct]; show some (Sum.inl (pc + 1, ls, vI (σ 0 ((i.toNat : Nat) : Int)) :: st, WS L σ)) = _; rw [show ((i.toNat : Nat) : Int) = i by omega]; rfl)
theorem R_za {i : Int} {q : Nat} (hf : am_find M pc = some (.baload, n, a, b, k)) (hk : KD q = 101) (h0 : 0 ≤ i) (h1 : i < (LN L q : Int)) : R d M pc ls (vI i :: vR q :: st) (WS L σ) Q = R d M (pc + 1) ls (vI (σ q i) :: st) (WS L σ) Q := R_next hf (by simp only [am_step, am_bload, vI, vR]; rw [WS_kd, WS_ln, if_pos ⟨Or.inl hk, am_in_of h0 h1⟩, WS_ai (Or.inr hk) h0]; rfl)
theorem R_bac {i : Int} {q : Nat} {l : List Int} (hf : am_find M pc = some (.baload, n, a, b, k)) (hk : KD q = 112) (hc : wsC q = some l) (h0 : 0 ≤ i) (h1 : i < (LN L q : Int)) : R d M pc ls (vI i :: vR q :: st) (WS L σ) Q = R d M (pc + 1) ls (vI (l.getD i.toNat 0) :: st) (WS L σ) Q := R_next hf (by simp only [am_step, am_bload, vI, vR]; rw [WS_kd, WS_ln, if_pos ⟨Or.inr hk, am_in_of h0 h1⟩, WS_ct]; unfold mk; rw [hc]; rfl)
theorem R_aa {i : Int} {q j : Nat} (hf : am_find M pc = some (.aaload, n, a, b, k)) (hk : KD q = 103) (h0 : 0 ≤ i) (h1 : i < (LN L q : Int)) (hv : mk σ q i.toNat = vR j) : R d M pc ls (vI i :: vR q :: st) (WS L σ) Q = R d M (pc + 1) ls (vR j :: st) (WS L σ) Q := R_next hf (by simp only [am_step, am_aload, vI, vR]; rw [WS_kd, WS_ln, if_pos ⟨hk, am_in_of h0 h1⟩, WS_ct, hv]; rfl)
theorem R_is {i z : Int} {q : Nat} (hf : am_find M pc = some (.iastore, n, a, b, k)) (hk : KD q = 100) (h0 : 0 ≤ i) (h1 : i < (LN L q : Int)) : R d M pc ls (vI z :: vI i :: vR q :: st) (WS L σ) Q = R d M (pc + 1) ls st (WS L (st2 σ q i z)) Q := R_next hf (by simp only [am_step, am_istore, vI, vR]; rw [WS_kd, WS_ln, if_pos ⟨hk, am_in_of h0 h1⟩]; exact congrArg (fun x => some (Sum.inl (pc + 1, ls, st, x))) (WS_puti (Or.inl hk) h0))
theorem R_zs {i z : Int} {q : Nat} (hf : am_find M pc = some (.bastore, n, a, b, k)) (hk : KD q = 101) (h0 : 0 ≤ i) (h1 : i < (LN L q : Int)) (hz : am_bit z = true) : R d M pc ls (vI z :: vI i :: vR q :: st) (WS L σ) Q = R d M (pc + 1) ls st (WS L (st2 σ q i z)) Q := R_next hf (by simp only [am_step, am_bstore, vI, vR]; rw [WS_kd, WS_ln, if_pos ⟨hk, am_in_of h0 h1, hz⟩]; exact congrArg (fun x => some (Sum.inl (pc + 1, ls, st, x))) (WS_puti (Or.inr hk) h0))
theorem R_alen {q : Nat} (hf : am_find M pc = some (.arraylength, n, a, b, k)) (hk : KD q = 100 ∨ KD q = 101 ∨ KD q = 103 ∨ KD q = 110 ∨ KD q = 112) : R d M pc ls (vR q :: st) (WS L σ) Q = R d M (pc + 1) ls (vI (LN L q : Int) :: st) (WS L σ) Q := R_next hf (by simp only [am_step, am_alen, vR]; rw [WS_kd, if_pos hk, WS_ln])
theorem R_alenx {q : Nat} {z : Int} (hf : am_find M pc = some (.arraylength, n, a, b, k)) (hk : KD q = 100 ∨ KD q = 101 ∨ KD q = 103 ∨ KD q = 110 ∨ KD q = 112) (hz : (LN L q : Int) = z) : R d M pc ls (vR q :: st) (WS L σ) Q = R d M (pc + 1) ls (vI z :: st) (WS L σ) Q := by rw [← hz]; exact R_next hf (by simp only [am_step, am_alen, vR]; rw [WS_kd, if_pos hk, WS_ln])
theorem R_cpy {z dp sp : Int} {q i g : Nat} (hf : am_find M pc = some (.invokestatic g, n, 9998, b, k)) (hk : KD i = 100) (hq : KD q = 100) (h1 : 0 ≤ sp) (h2 : 0 ≤ dp) (h3 : 0 ≤ z) (h4 : sp + z ≤ (LN L i : Int)) (h5 : dp + z ≤ (LN L q : Int)) (hl : st.length ≤ 4) : R d M pc ls (vI z :: vI dp :: vR q :: vI sp :: vR i :: st) (WS L σ) Q = R d M (pc + 3) ls st (WS L (cp2 σ i q sp dp z)) Q := R_next hf (by
  have e : am_step (.invokestatic g, n, 9998, b, k) pc ls (vI z :: vI dp :: vR q :: vI sp :: vR i :: st) (WS L σ) = am_acopy pc ls (vI z :: vI dp :: vR q :: vI sp :: vR i :: st) (WS L σ) := rfl
  rw [e]
  simp only [am_acopy, vI, vR]
  rw [WS_kd, WS_kd, WS_ln, WS_ln, if_pos ⟨hk, hq, h1, h2, h3, h4, h5, hl⟩, WS_cpy hk hq h1 h2 h3])
theorem R_max {x y : Int} {g : Nat} (hf : am_find M pc = some (.invokestatic g, n, 9990, b, k)) (hl : st.length ≤ 4) : R d M pc ls (vI y :: vI x :: st) w Q = R d M (pc + 3) ls (vI (i_max x y) :: st) w Q := R_next hf (by
  have e : am_step (.invokestatic g, n, 9990, b, k) pc ls (vI y :: vI x :: st) w = am_m2 i_max pc ls (vI y :: vI x :: st) w := rfl
  rw [e]
  simp only [am_m2, vI, if_pos hl])
theorem R_min {x y : Int} {g : Nat} (hf : am_find M pc = some (.invokestatic g, n, 9991, b, k)) (hl : st.length ≤ 4) : R d M pc ls (vI y :: vI x :: st) w Q = R d M (pc + 3) ls (vI (i_min x y) :: st) w Q := R_next hf (by
  have e : am_step (.invokestatic g, n, 9991, b, k) pc ls (vI y :: vI x :: st) w = am_m2 i_min pc ls (vI y :: vI x :: st) w := rfl
  rw [e]
  simp only [am_m2, vI, if_pos hl])
theorem R_abs {x : Int} {g : Nat} (hf : am_find M pc = some (.invokestatic g, n, 9992, b, k)) (hl : st.length ≤ 4) : R d M pc ls (vI x :: st) w Q = R d M (pc + 3) ls (vI (i_abs x) :: st) w Q := R_next hf (by
  have e : am_step (.invokestatic g, n, 9992, b, k) pc ls (vI x :: st) w = am_m1 i_abs pc ls (vI x :: st) w := rfl
  rw [e]
  simp only [am_m1, vI, if_pos hl])
theorem R_invS {st0 ls' : List AV} {g : Nat} (hf : am_find M pc = some (.invokestatic g, n, a, b, k)) (ha : ¬ (a = 9998 ∨ a = 9990 ∨ a = 9991 ∨ a = 9992)) (hi : am_inv true a b.toNat pc st0 w = some (.inr (.inr (a, ls', pc + 3, st)))) : R (d + 1) M pc ls st0 w Q = R d a 0 ls' [] w (fun r w' => R (d + 1) M (pc + 3) ls (am_push r st) w' Q) := R_call hf (by
  simp only [am_step]
  rw [if_neg (fun h => ha (Or.inl h)), if_neg (fun h => ha (Or.inr (Or.inl h))), if_neg (fun h => ha (Or.inr (Or.inr (Or.inl h)))), if_neg (fun h => ha (Or.inr (Or.inr (Or.inr h))))]
  exact hi)
theorem R_invV {st0 ls' : List AV} {g : Nat} (hf : am_find M pc = some (.invokevirtual g, n, a, b, k)) (hi : am_inv false a b.toNat pc st0 w = some (.inr (.inr (a, ls', pc + 3, st)))) : R (d + 1) M pc ls st0 w Q = R d a 0 ls' [] w (fun r w' => R (d + 1) M (pc + 3) ls (am_push r st) w' Q) := R_call hf hi
theorem am_invV_of {q m : Nat} {st0 st1 ls' : List AV} (hd : st0.drop m = vR q :: st1) (hk : KD q = am_rk (am_own a)) (hl : st1.length ≤ 4) (h2 : (am_exp (vR q :: (st0.take m).reverse)).length ≤ am_maxl a) (h3 : am_lok (am_exp (vR q :: (st0.take m).reverse)) = true) (hls : am_loc (vR q :: (st0.take m).reverse) (am_maxl a) = ls') : am_inv false a m pc st0 (WS L σ) = some (.inr (.inr (a, ls', pc + 3, st1))) := by
  unfold am_inv
  dsimp only
  rw [hd]
  show (if am_kd (WS L σ) q = am_rk (am_own a) ∧ st1.length ≤ 4 ∧ (am_exp (vR q :: (st0.take m).reverse)).length ≤ am_maxl a ∧ am_lok (am_exp (vR q :: (st0.take m).reverse)) = true then some (Sum.inr (Sum.inr (a, am_loc (vR q :: (st0.take m).reverse) (am_maxl a), pc + 3, st1))) else none) = _
  rw [if_pos ⟨hk, hl, h2, h3⟩, hls]
theorem am_invS_of {m : Nat} {st0 st1 ls' : List AV} (hm : m ≤ st0.length) (hd : st0.drop m = st1) (hl : st1.length ≤ 4) (h2 : (am_exp (st0.take m).reverse).length ≤ am_maxl a) (h3 : am_lok (am_exp (st0.take m).reverse) = true) (hls : am_loc (st0.take m).reverse (am_maxl a) = ls') : am_inv true a m pc st0 w = some (.inr (.inr (a, ls', pc + 3, st1))) := by
  unfold am_inv
  dsimp only
  rw [hd, if_pos ⟨hm, hl, h2, h3⟩, hls]
theorem R_ite {c : Prop} [Decidable c] {x y : Int} : (if c then R d M pc ls (vI x :: st) w Q else R d M pc ls (vI y :: st) w Q) = R d M pc ls (vI (if c then x else y) :: st) w Q := by split <;> rfl
theorem R_ite_same {c : Prop} [Decidable c] {X : Prop} : (if c then X else X) = X := by split <;> rfl
theorem K_iconst {i : Int} (hf : am_find M pc = some (.iconst i, n, a, b, k)) {X : Prop} (kk : R d M (pc + 1) ls (vI b :: st) w Q = X) : R d M pc ls st w Q = X := (R_iconst hf).trans kk
theorem K_bipush {i : Int} (hf : am_find M pc = some (.bipush i, n, a, b, k)) {X : Prop} (kk : R d M (pc + 2) ls (vI b :: st) w Q = X) : R d M pc ls st w Q = X := (R_bipush hf).trans kk
theorem K_sipush {i : Int} (hf : am_find M pc = some (.sipush i, n, a, b, k)) {X : Prop} (kk : R d M (pc + 3) ls (vI b :: st) w Q = X) : R d M pc ls st w Q = X := (R_sipush hf).trans kk
theorem K_ldc_w {q : Nat} (hf : am_find M pc = some (.ldc_w q, n, a, b, k)) {X : Prop} (kk : R d M (pc + 3) ls (vI b :: st) w Q = X) : R d M pc ls st w Q = X := (R_ldc_w hf).trans kk
theorem K_ldci {q : Nat} (hf : am_find M pc = some (.ldc q, n, 0, b, k)) {X : Prop} (kk : R d M (pc + 2) ls (vI b :: st) w Q = X) : R d M pc ls st w Q = X := (R_ldci hf).trans kk
theorem K_ldcs {q : Nat} (hf : am_find M pc = some (.ldc q, n, 1, b, k)) {X : Prop} (kk : R d M (pc + 2) ls (vR b.toNat :: st) w Q = X) : R d M pc ls st w Q = X := (R_ldcs hf).trans kk
theorem K_ldc2 {q : Nat} (hf : am_find M pc = some (.ldc2_w q, n, a, b, k)) {X : Prop} (kk : R d M (pc + 3) ls (vL (Int64.ofInt b) :: st) w Q = X) : R d M pc ls st w Q = X := (R_ldc2 hf).trans kk
theorem K_aconst (hf : am_find M pc = some (.aconst_null, n, a, b, k)) {X : Prop} (kk : R d M (pc + 1) ls (vX 0 :: st) w Q = X) : R d M pc ls st w Q = X := (R_aconst hf).trans kk
theorem K_iload {q : Nat} {z : Int} (hf : am_find M pc = some (.iload q, n, a, b, k)) (h : lget ls q = vI z) {X : Prop} (kk : R d M (pc + 2) ls (vI z :: st) w Q = X) : R d M pc ls st w Q = X := (R_iload hf h).trans kk
theorem K_iload_n {q : Fin 4} {z : Int} (hf : am_find M pc = some (.iload_n q, n, a, b, k)) (h : lget ls q.val = vI z) {X : Prop} (kk : R d M (pc + 1) ls (vI z :: st) w Q = X) : R d M pc ls st w Q = X := (R_iload_n hf h).trans kk
theorem K_lload_n {q : Fin 4} {z : Int64} (hf : am_find M pc = some (.lload_n q, n, a, b, k)) (h : lget ls q.val = vL z) {X : Prop} (kk : R d M (pc + 1) ls (vL z :: st) w Q = X) : R d M pc ls st w Q = X := (R_lload_n hf h).trans kk
theorem K_aload {q z : Nat} (hf : am_find M pc = some (.aload q, n, a, b, k)) (h : lget ls q = vR z) {X : Prop} (kk : R d M (pc + 2) ls (vR z :: st) w Q = X) : R d M pc ls st w Q = X := (R_aload hf h).trans kk
theorem K_aload_n {q : Fin 4} {z : Nat} (hf : am_find M pc = some (.aload_n q, n, a, b, k)) (h : lget ls q.val = vR z) {X : Prop} (kk : R d M (pc + 1) ls (vR z :: st) w Q = X) : R d M pc ls st w Q = X := (R_aload_n hf h).trans kk
theorem K_aloadN {q : Nat} (hf : am_find M pc = some (.aload q, n, a, b, k)) (h : lget ls q = vX 0) {X : Prop} (kk : R d M (pc + 2) ls (vX 0 :: st) w Q = X) : R d M pc ls st w Q = X := (R_aloadN hf h).trans kk
theorem K_aload_nN {q : Fin 4} (hf : am_find M pc = some (.aload_n q, n, a, b, k)) (h : lget ls q.val = vX 0) {X : Prop} (kk : R d M (pc + 1) ls (vX 0 :: st) w Q = X) : R d M pc ls st w Q = X := (R_aload_nN hf h).trans kk
theorem K_istore {q : Nat} {z : Int} {ls' : List AV} (hf : am_find M pc = some (.istore q, n, a, b, k)) (h : q < ls.length) (h2 : am_nl ls q = true) (e : ls.set q (vI z) = ls') {X : Prop} (kk : R d M (pc + 2) ls' st w Q = X) : R d M pc ls (vI z :: st) w Q = X := (R_istore hf h h2 e).trans kk
theorem K_istore_n {q : Fin 4} {z : Int} {ls' : List AV} (hf : am_find M pc = some (.istore_n q, n, a, b, k)) (h : q.val < ls.length) (h2 : am_nl ls q.val = true) (e : ls.set q.val (vI z) = ls') {X : Prop} (kk : R d M (pc + 1) ls' st w Q = X) : R d M pc ls (vI z :: st) w Q = X := (R_istore_n hf h h2 e).trans kk
theorem K_astore {q : Nat} {z : Nat} {ls' : List AV} (hf : am_find M pc = some (.astore q, n, a, b, k)) (h : q < ls.length) (h2 : am_nl ls q = true) (e : ls.set q (vR z) = ls') {X : Prop} (kk : R d M (pc + 2) ls' st w Q = X) : R d M pc ls (vR z :: st) w Q = X := (R_astore hf h h2 e).trans kk
theorem K_astoreN {q : Nat} {ls' : List AV} (hf : am_find M pc = some (.astore q, n, a, b, k)) (h : q < ls.length) (h2 : am_nl ls q = true) (e : ls.set q (vX 0) = ls') {X : Prop} (kk : R d M (pc + 2) ls' st w Q = X) : R d M pc ls (vX 0 :: st) w Q = X := (R_astoreN hf h h2 e).trans kk
theorem K_astore_n {q : Fin 4} {z : Nat} {ls' : List AV} (hf : am_find M pc = some (.astore_n q, n, a, b, k)) (h : q.val < ls.length) (h2 : am_nl ls q.val = true) (e : ls.set q.val (vR z) = ls') {X : Prop} (kk : R d M (pc + 1) ls' st w Q = X) : R d M pc ls (vR z :: st) w Q = X := (R_astore_n hf h h2 e).trans kk
theorem K_astore_nN {q : Fin 4} {ls' : List AV} (hf : am_find M pc = some (.astore_n q, n, a, b, k)) (h : q.val < ls.length) (h2 : am_nl ls q.val = true) (e : ls.set q.val (vX 0) = ls') {X : Prop} (kk : R d M (pc + 1) ls' st w Q = X) : R d M pc ls (vX 0 :: st) w Q = X := (R_astore_nN hf h h2 e).trans kk
theorem K_iinc {q : Nat} {c z : Int} {ls' : List AV} (hf : am_find M pc = some (.iinc q c, n, a, b, k)) (h0 : lget ls q = vI z) (h : q < ls.length) (h2 : am_nl ls q = true) (e : ls.set q (vI (wr (z + c))) = ls') {X : Prop} (kk : R d M (pc + 3) ls' st w Q = X) : R d M pc ls st w Q = X := (R_iinc hf h0 h h2 e).trans kk
theorem K_iadd {x y : Int} (hf : am_find M pc = some (.iadd, n, a, b, k)) {X : Prop} (kk : R d M (pc + 1) ls (vI (wr (x + y)) :: st) w Q = X) : R d M pc ls (vI y :: vI x :: st) w Q = X := (R_iadd hf).trans kk
theorem K_isub {x y : Int} (hf : am_find M pc = some (.isub, n, a, b, k)) {X : Prop} (kk : R d M (pc + 1) ls (vI (wr (x - y)) :: st) w Q = X) : R d M pc ls (vI y :: vI x :: st) w Q = X := (R_isub hf).trans kk
theorem K_imul {x y : Int} (hf : am_find M pc = some (.imul, n, a, b, k)) {X : Prop} (kk : R d M (pc + 1) ls (vI (wr (x * y)) :: st) w Q = X) : R d M pc ls (vI y :: vI x :: st) w Q = X := (R_imul hf).trans kk
theorem K_iand {x y : Int} (hf : am_find M pc = some (.iand, n, a, b, k)) {X : Prop} (kk : R d M (pc + 1) ls (vI (i_and x y) :: st) w Q = X) : R d M pc ls (vI y :: vI x :: st) w Q = X := (R_iand hf).trans kk
theorem K_ior {x y : Int} (hf : am_find M pc = some (.ior, n, a, b, k)) {X : Prop} (kk : R d M (pc + 1) ls (vI (i_or x y) :: st) w Q = X) : R d M pc ls (vI y :: vI x :: st) w Q = X := (R_ior hf).trans kk
theorem K_ixor {x y : Int} (hf : am_find M pc = some (.ixor, n, a, b, k)) {X : Prop} (kk : R d M (pc + 1) ls (vI (i_xor x y) :: st) w Q = X) : R d M pc ls (vI y :: vI x :: st) w Q = X := (R_ixor hf).trans kk
theorem K_ishl {x y : Int} (hf : am_find M pc = some (.ishl, n, a, b, k)) {X : Prop} (kk : R d M (pc + 1) ls (vI (i_shl x y) :: st) w Q = X) : R d M pc ls (vI y :: vI x :: st) w Q = X := (R_ishl hf).trans kk
theorem K_ishr {x y : Int} (hf : am_find M pc = some (.ishr, n, a, b, k)) {X : Prop} (kk : R d M (pc + 1) ls (vI (i_shr x y) :: st) w Q = X) : R d M pc ls (vI y :: vI x :: st) w Q = X := (R_ishr hf).trans kk
theorem K_iushr {x y : Int} (hf : am_find M pc = some (.iushr, n, a, b, k)) {X : Prop} (kk : R d M (pc + 1) ls (vI (i_ushr x y) :: st) w Q = X) : R d M pc ls (vI y :: vI x :: st) w Q = X := (R_iushr hf).trans kk
theorem K_iaddx {x y : Int} (hf : am_find M pc = some (.iadd, n, a, b, k)) (hr : -2147483648 ≤ x + y ∧ x + y ≤ 2147483647) {X : Prop} (kk : R d M (pc + 1) ls (vI (x + y) :: st) w Q = X) : R d M pc ls (vI y :: vI x :: st) w Q = X := (R_iaddx hf hr).trans kk
theorem K_isubx {x y : Int} (hf : am_find M pc = some (.isub, n, a, b, k)) (hr : -2147483648 ≤ x - y ∧ x - y ≤ 2147483647) {X : Prop} (kk : R d M (pc + 1) ls (vI (x - y) :: st) w Q = X) : R d M pc ls (vI y :: vI x :: st) w Q = X := (R_isubx hf hr).trans kk
theorem K_imulx {x y : Int} (hf : am_find M pc = some (.imul, n, a, b, k)) (hr : -2147483648 ≤ x * y ∧ x * y ≤ 2147483647) {X : Prop} (kk : R d M (pc + 1) ls (vI (x * y) :: st) w Q = X) : R d M pc ls (vI y :: vI x :: st) w Q = X := (R_imulx hf hr).trans kk
theorem K_iincx {q : Nat} {c z : Int} {ls' : List AV} (hf : am_find M pc = some (.iinc q c, n, a, b, k)) (h0 : lget ls q = vI z) (h : q < ls.length) (h2 : am_nl ls q = true) (hr : -2147483648 ≤ z + c ∧ z + c ≤ 2147483647) (e : ls.set q (vI (z + c)) = ls') {X : Prop} (kk : R d M (pc + 3) ls' st w Q = X) : R d M pc ls st w Q = X := (R_iincx hf h0 h h2 hr e).trans kk
theorem K_inegx {x : Int} (hf : am_find M pc = some (.ineg, n, a, b, k)) (hr : -2147483648 ≤ -x ∧ -x ≤ 2147483647) {X : Prop} (kk : R d M (pc + 1) ls (vI (-x) :: st) w Q = X) : R d M pc ls (vI x :: st) w Q = X := (R_inegx hf hr).trans kk
theorem K_idiv {x y : Int} (hf : am_find M pc = some (.idiv, n, a, b, k)) (h : ¬ y = 0) {X : Prop} (kk : R d M (pc + 1) ls (vI (i_div x y) :: st) w Q = X) : R d M pc ls (vI y :: vI x :: st) w Q = X := (R_idiv hf h).trans kk
theorem K_irem {x y : Int} (hf : am_find M pc = some (.irem, n, a, b, k)) (h : ¬ y = 0) {X : Prop} (kk : R d M (pc + 1) ls (vI (i_rem x y) :: st) w Q = X) : R d M pc ls (vI y :: vI x :: st) w Q = X := (R_irem hf h).trans kk
theorem K_ineg {x : Int} (hf : am_find M pc = some (.ineg, n, a, b, k)) {X : Prop} (kk : R d M (pc + 1) ls (vI (wr (-x)) :: st) w Q = X) : R d M pc ls (vI x :: st) w Q = X := (R_ineg hf).trans kk
theorem K_i2c {x : Int} (hf : am_find M pc = some (.i2c, n, a, b, k)) {X : Prop} (kk : R d M (pc + 1) ls (vI (i_ch x) :: st) w Q = X) : R d M pc ls (vI x :: st) w Q = X := (R_i2c hf).trans kk
theorem K_i2l {x : Int} (hf : am_find M pc = some (.i2l, n, a, b, k)) {X : Prop} (kk : R d M (pc + 1) ls (vL (i_l x) :: st) w Q = X) : R d M pc ls (vI x :: st) w Q = X := (R_i2l hf).trans kk
theorem K_l2i {x : Int64} (hf : am_find M pc = some (.l2i, n, a, b, k)) {X : Prop} (kk : R d M (pc + 1) ls (vI (l_i x) :: st) w Q = X) : R d M pc ls (vL x :: st) w Q = X := (R_l2i hf).trans kk
theorem K_land {x y : Int64} (hf : am_find M pc = some (.land, n, a, b, k)) {X : Prop} (kk : R d M (pc + 1) ls (vL (x &&& y) :: st) w Q = X) : R d M pc ls (vL y :: vL x :: st) w Q = X := (R_land hf).trans kk
theorem K_lor {x y : Int64} (hf : am_find M pc = some (.lor, n, a, b, k)) {X : Prop} (kk : R d M (pc + 1) ls (vL (x ||| y) :: st) w Q = X) : R d M pc ls (vL y :: vL x :: st) w Q = X := (R_lor hf).trans kk
theorem K_lshl {x : Int64} {y : Int} (hf : am_find M pc = some (.lshl, n, a, b, k)) {X : Prop} (kk : R d M (pc + 1) ls (vL (l_shl x y) :: st) w Q = X) : R d M pc ls (vI y :: vL x :: st) w Q = X := (R_lshl hf).trans kk
theorem K_lshr {x : Int64} {y : Int} (hf : am_find M pc = some (.lshr, n, a, b, k)) {X : Prop} (kk : R d M (pc + 1) ls (vL (l_shr x y) :: st) w Q = X) : R d M pc ls (vI y :: vL x :: st) w Q = X := (R_lshr hf).trans kk
theorem K_lushr {x : Int64} {y : Int} (hf : am_find M pc = some (.lushr, n, a, b, k)) {X : Prop} (kk : R d M (pc + 1) ls (vL (l_ushr x y) :: st) w Q = X) : R d M pc ls (vI y :: vL x :: st) w Q = X := (R_lushr hf).trans kk
theorem K_dupi {z : Int} (hf : am_find M pc = some (.dup, n, a, b, k)) {X : Prop} (kk : R d M (pc + 1) ls (vI z :: vI z :: st) w Q = X) : R d M pc ls (vI z :: st) w Q = X := (R_dupi hf).trans kk
theorem K_dupr {z : Nat} (hf : am_find M pc = some (.dup, n, a, b, k)) {X : Prop} (kk : R d M (pc + 1) ls (vR z :: vR z :: st) w Q = X) : R d M pc ls (vR z :: st) w Q = X := (R_dupr hf).trans kk
theorem K_dupx (hf : am_find M pc = some (.dup, n, a, b, k)) {X : Prop} (kk : R d M (pc + 1) ls (vX 0 :: vX 0 :: st) w Q = X) : R d M pc ls (vX 0 :: st) w Q = X := (R_dupx hf).trans kk
theorem K_dup2 {z : Int} {q : Nat} (hf : am_find M pc = some (.dup2, n, a, b, k)) {X : Prop} (kk : R d M (pc + 1) ls (vI z :: vR q :: vI z :: vR q :: st) w Q = X) : R d M pc ls (vI z :: vR q :: st) w Q = X := (R_dup2 hf).trans kk
theorem K_popi {z : Int} (hf : am_find M pc = some (.pop, n, a, b, k)) {X : Prop} (kk : R d M (pc + 1) ls st w Q = X) : R d M pc ls (vI z :: st) w Q = X := (R_popi hf).trans kk
theorem K_goto {off : Int} {t : Nat} (hf : am_find M pc = some (.goto off, n, a, b, k)) (ht : am_go pc off = t) {X : Prop} (kk : R d M t ls st w Q = X) : R d M pc ls st w Q = X := (R_goto hf ht).trans kk
theorem K_ifnull {off : Int} {q : Nat} (hf : am_find M pc = some (.ifnull off, n, a, b, k)) {X : Prop} (kk : R d M (pc + 3) ls st w Q = X) : R d M pc ls (vR q :: st) w Q = X := (R_ifnull hf).trans kk
theorem K_ifnullN {off : Int} {t : Nat} (hf : am_find M pc = some (.ifnull off, n, a, b, k)) (ht : am_go pc off = t) {X : Prop} (kk : R d M t ls st w Q = X) : R d M pc ls (vX 0 :: st) w Q = X := (R_ifnullN hf ht).trans kk
theorem K_ifnonnull {off : Int} {q t : Nat} (hf : am_find M pc = some (.ifnonnull off, n, a, b, k)) (ht : am_go pc off = t) {X : Prop} (kk : R d M t ls st w Q = X) : R d M pc ls (vR q :: st) w Q = X := (R_ifnonnull hf ht).trans kk
theorem K_ifnonnullN {off : Int} (hf : am_find M pc = some (.ifnonnull off, n, a, b, k)) {X : Prop} (kk : R d M (pc + 3) ls st w Q = X) : R d M pc ls (vX 0 :: st) w Q = X := (R_ifnonnullN hf).trans kk
theorem K_tsw {dflt lo hi : Int} {offs : Array Int} {x : Int} {t : Nat} (hf : am_find M pc = some (.tableswitch dflt lo hi offs, n, a, b, k)) (ht : am_tsw dflt lo hi offs pc ls (vI x :: st) w = some (.inl (t, ls, st, w))) {X : Prop} (kk : R d M t ls st w Q = X) : R d M pc ls (vI x :: st) w Q = X := (R_tsw hf ht).trans kk
theorem K_lsw {dflt : Int} {ps : Array (Int × Int)} {x : Int} (hf : am_find M pc = some (.lookupswitch dflt ps, n, a, b, k)) {X : Prop} (kk : R d M (am_go pc (Op.lookupswitch.offset ps.toList dflt x)) ls st w Q = X) : R d M pc ls (vI x :: st) w Q = X := (R_lsw hf).trans kk
theorem K_getstatic {q : Nat} (hf : am_find M pc = some (.getstatic q, n, a, b, k)) {X : Prop} (kk : R d M (pc + 3) ls (am_sta a :: st) w Q = X) : R d M pc ls st w Q = X := (R_getstatic hf).trans kk
theorem K_gf {q i : Nat} {v : AV} (hf : am_find M pc = some (.getfield q, n, a, b, k)) (hk : KD i = a) (hv : mk σ i b.toNat = v) {X : Prop} (kk : R d M (pc + 3) ls (v :: st) (WS L σ) Q = X) : R d M pc ls (vR i :: st) (WS L σ) Q = X := (R_gf hf hk hv).trans kk
theorem K_pf {q i : Nat} {z j : Int} (hf : am_find M pc = some (.putfield q, n, a, b, k)) (hk : KD i = a) (hj : (b.toNat : Int) = j) (ht : am_tyn a b.toNat = 0) (hc : wsC i = none) (hp : PC i b.toNat = 0) {X : Prop} (kk : R d M (pc + 3) ls st (WS L (st2 σ i j z)) Q = X) : R d M pc ls (vI z :: vR i :: st) (WS L σ) Q = X := (R_pf hf hk hj ht hc hp).trans kk
theorem K_pfz {q i : Nat} {z j : Int} (hf : am_find M pc = some (.putfield q, n, a, b, k)) (hk : KD i = a) (hj : (b.toNat : Int) = j) (ht : am_tyn a b.toNat = 1) (hz : am_bit z = true) (hc : wsC i = none) (hp : PC i b.toNat = 0) {X : Prop} (kk : R d M (pc + 3) ls st (WS L (st2 σ i j z)) Q = X) : R d M pc ls (vI z :: vR i :: st) (WS L σ) Q = X := (R_pfz hf hk hj ht hz hc hp).trans kk
theorem K_pfr {q i g : Nat} {j : Int} (hf : am_find M pc = some (.putfield q, n, a, b, k)) (hk : KD i = a) (hj : (b.toNat : Int) = j) (ht : am_tyn a b.toNat = 2) (hc : wsC i = none) (hp : PC i b.toNat = 2) {X : Prop} (kk : R d M (pc + 3) ls st (WS L (st2 σ i j (g : Int))) Q = X) : R d M pc ls (vR g :: vR i :: st) (WS L σ) Q = X := (R_pfr hf hk hj ht hc hp).trans kk
theorem K_ia {i : Int} {q : Nat} (hf : am_find M pc = some (.iaload, n, a, b, k)) (hk : KD q = 100) (h0 : 0 ≤ i) (h1 : i < (LN L q : Int)) {X : Prop} (kk : R d M (pc + 1) ls (vI (σ q i) :: st) (WS L σ) Q = X) : R d M pc ls (vI i :: vR q :: st) (WS L σ) Q = X := (R_ia hf hk h0 h1).trans kk
theorem K_iac {i : Int} {q : Nat} {l : List Int} (hf : am_find M pc = some (.iaload, n, a, b, k)) (hk : KD q = 110) (hc : wsC q = some l) (h0 : 0 ≤ i) (h1 : i < (LN L q : Int)) {X : Prop} (kk : R d M (pc + 1) ls (vI (l.getD i.toNat 0) :: st) (WS L σ) Q = X) : R d M pc ls (vI i :: vR q :: st) (WS L σ) Q = X := (R_iac hf hk hc h0 h1).trans kk
theorem K_iascr {i : Int} (hf : am_find M pc = some (.iaload, n, a, b, k)) (h0 : 0 ≤ i) (h1 : i < (L : Int)) {X : Prop} (kk : R d M (pc + 1) ls (vI (σ 0 i) :: st) (WS L σ) Q = X) : R d M pc ls (vI i :: vR 0 :: st) (WS L σ) Q = X := (R_iascr hf h0 h1).trans kk
theorem K_za {i : Int} {q : Nat} (hf : am_find M pc = some (.baload, n, a, b, k)) (hk : KD q = 101) (h0 : 0 ≤ i) (h1 : i < (LN L q : Int)) {X : Prop} (kk : R d M (pc + 1) ls (vI (σ q i) :: st) (WS L σ) Q = X) : R d M pc ls (vI i :: vR q :: st) (WS L σ) Q = X := (R_za hf hk h0 h1).trans kk
theorem K_bac {i : Int} {q : Nat} {l : List Int} (hf : am_find M pc = some (.baload, n, a, b, k)) (hk : KD q = 112) (hc : wsC q = some l) (h0 : 0 ≤ i) (h1 : i < (LN L q : Int)) {X : Prop} (kk : R d M (pc + 1) ls (vI (l.getD i.toNat 0) :: st) (WS L σ) Q = X) : R d M pc ls (vI i :: vR q :: st) (WS L σ) Q = X := (R_bac hf hk hc h0 h1).trans kk
theorem K_aa {i : Int} {q j : Nat} (hf : am_find M pc = some (.aaload, n, a, b, k)) (hk : KD q = 103) (h0 : 0 ≤ i) (h1 : i < (LN L q : Int)) (hv : mk σ q i.toNat = vR j) {X : Prop} (kk : R d M (pc + 1) ls (vR j :: st) (WS L σ) Q = X) : R d M pc ls (vI i :: vR q :: st) (WS L σ) Q = X := (R_aa hf hk h0 h1 hv).trans kk
theorem K_is {i z : Int} {q : Nat} (hf : am_find M pc = some (.iastore, n, a, b, k)) (hk : KD q = 100) (h0 : 0 ≤ i) (h1 : i < (LN L q : Int)) {X : Prop} (kk : R d M (pc + 1) ls st (WS L (st2 σ q i z)) Q = X) : R d M pc ls (vI z :: vI i :: vR q :: st) (WS L σ) Q = X := (R_is hf hk h0 h1).trans kk
theorem K_zs {i z : Int} {q : Nat} (hf : am_find M pc = some (.bastore, n, a, b, k)) (hk : KD q = 101) (h0 : 0 ≤ i) (h1 : i < (LN L q : Int)) (hz : am_bit z = true) {X : Prop} (kk : R d M (pc + 1) ls st (WS L (st2 σ q i z)) Q = X) : R d M pc ls (vI z :: vI i :: vR q :: st) (WS L σ) Q = X := (R_zs hf hk h0 h1 hz).trans kk
theorem K_alen {q : Nat} (hf : am_find M pc = some (.arraylength, n, a, b, k)) (hk : KD q = 100 ∨ KD q = 101 ∨ KD q = 103 ∨ KD q = 110 ∨ KD q = 112) {X : Prop} (kk : R d M (pc + 1) ls (vI (LN L q : Int) :: st) (WS L σ) Q = X) : R d M pc ls (vR q :: st) (WS L σ) Q = X := (R_alen hf hk).trans kk
theorem K_alenx {q : Nat} {z : Int} (hf : am_find M pc = some (.arraylength, n, a, b, k)) (hk : KD q = 100 ∨ KD q = 101 ∨ KD q = 103 ∨ KD q = 110 ∨ KD q = 112) (hz : (LN L q : Int) = z) {X : Prop} (kk : R d M (pc + 1) ls (vI z :: st) (WS L σ) Q = X) : R d M pc ls (vR q :: st) (WS L σ) Q = X := (R_alenx hf hk hz).trans kk
theorem K_cpy {z dp sp : Int} {q i g : Nat} (hf : am_find M pc = some (.invokestatic g, n, 9998, b, k)) (hk : KD i = 100) (hq : KD q = 100) (h1 : 0 ≤ sp) (h2 : 0 ≤ dp) (h3 : 0 ≤ z) (h4 : sp + z ≤ (LN L i : Int)) (h5 : dp + z ≤ (LN L q : Int)) (hl : st.length ≤ 4) {X : Prop} (kk : R d M (pc + 3) ls st (WS L (cp2 σ i q sp dp z)) Q = X) : R d M pc ls (vI z :: vI dp :: vR q :: vI sp :: vR i :: st) (WS L σ) Q = X := (R_cpy hf hk hq h1 h2 h3 h4 h5 hl).trans kk
theorem K_max {x y : Int} {g : Nat} (hf : am_find M pc = some (.invokestatic g, n, 9990, b, k)) (hl : st.length ≤ 4) {X : Prop} (kk : R d M (pc + 3) ls (vI (i_max x y) :: st) w Q = X) : R d M pc ls (vI y :: vI x :: st) w Q = X := (R_max hf hl).trans kk
theorem K_min {x y : Int} {g : Nat} (hf : am_find M pc = some (.invokestatic g, n, 9991, b, k)) (hl : st.length ≤ 4) {X : Prop} (kk : R d M (pc + 3) ls (vI (i_min x y) :: st) w Q = X) : R d M pc ls (vI y :: vI x :: st) w Q = X := (R_min hf hl).trans kk
theorem K_abs {x : Int} {g : Nat} (hf : am_find M pc = some (.invokestatic g, n, 9992, b, k)) (hl : st.length ≤ 4) {X : Prop} (kk : R d M (pc + 3) ls (vI (i_abs x) :: st) w Q = X) : R d M pc ls (vI x :: st) w Q = X := (R_abs hf hl).trans kk
end RO
