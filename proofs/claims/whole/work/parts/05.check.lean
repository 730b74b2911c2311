/-! the tables are the Statement's: each instruction as its bytes say, each link among the tables' words -/
def am_at (i : Nat) (w : Jvm.Cond) : Bool := decide (lw_tbl[i]? = some w)
theorem am_at_mem {i : Nat} {w : Jvm.Cond} (h : am_at i w = true) : w ∈ lw_tbl := List.mem_of_getElem? (of_decide_eq_true h)
def am_rng (z : Int) : Bool := decide (-2147483648 ≤ z) && decide (z ≤ 2147483647)
def am_tgt (pc : Nat) (off : Int) : Bool := decide (0 ≤ (pc : Int) + off)
def am_flw (q : Nat × Nat × Nat × Nat) : Jvm.Cond := .fieldLink (am_cn q.1) q.2.1 (am_T q.2.2.1 q.2.2.2).1 (am_T q.2.2.1 q.2.2.2).2.1 (am_T q.2.2.1 q.2.2.2).2.2.1
def am_mlw (q : Nat × Nat × Nat × Nat) : Jvm.Cond := match q.2.2.2 with
  | 0 => .methodLink (am_cn q.1) q.2.1 (am_y q.2.2.1)
  | _ => .methodLinkNest (am_cn q.1) q.2.1 (am_y q.2.2.1) "WallPicks"
def am_flc (k : Nat) (own idx a b : Nat) : Bool := match am_fl[k]? with
  | some (o, i, c, j) => Nat.beq o own && Nat.beq i idx && Nat.beq c a && Nat.beq j b && Nat.blt c 11 && Nat.blt j (am_nf c)
  | none => false
def am_mlc (k : Nat) (own idx a : Nat) (nest : Bool) : Bool := match am_ml[k]? with
  | some (o, i, c, j) => Nat.beq o own && Nat.beq i idx && Nat.beq c a && Nat.blt c 232 && (Nat.beq j 0 || nest)
  | none => false
def am_retc (a : Nat) (ty : Option FieldType) : Bool := match a with
  | 0 => decide (ty = some .int)
  | 1 => decide (ty = some .boolean)
  | 2 => decide (ty = some .byte)
  | 3 => decide (ty = some .char)
  | _ => false
def am_reta (ty : Option FieldType) : Bool := match ty with
  | some (.object _) => true
  | some (.array _) => true
  | _ => false
def am_okb (M pc : Nat) (e : AE) : Bool := match e with
  | (ins, n, a, b, k) => match ins with
    | .iconst i => Nat.beq n 1 && decide (b = i) && decide (-1 ≤ i) && decide (i ≤ 5)
    | .bipush i => Nat.beq n 2 && decide (b = i) && decide (-128 ≤ i) && decide (i ≤ 127)
    | .sipush i => Nat.beq n 3 && decide (b = i) && decide (-32768 ≤ i) && decide (i ≤ 32767)
    | .ldc i => Nat.beq n 2 && (match a with
      | 0 => am_rng b && am_at k (.constant (am_cn (am_own M)) i (Int32.ofInt b))
      | _ => decide (3 ≤ b) && decide (b ≤ 10) && (match am_sts[(b - 3).toNat]? with
        | some q => decide (am_cn (am_own M) = q.1) && Nat.beq i q.2.1
        | none => false))
    | .ldc_w i => Nat.beq n 3 && am_rng b && am_at k (.constant (am_cn (am_own M)) i (Int32.ofInt b))
    | .ldc2_w i => Nat.beq n 3 && am_at k (.constantLong (am_cn (am_own M)) i (Int64.ofInt b))
    | .iload _ => Nat.beq n 2
    | .aload _ => Nat.beq n 2
    | .istore _ => Nat.beq n 2
    | .astore _ => Nat.beq n 2
    | .iinc _ c => Nat.beq n 3 && decide (-128 ≤ c) && decide (c ≤ 127)
    | .ifCond _ off => Nat.beq n 3 && am_tgt pc off
    | .if_icmp _ off => Nat.beq n 3 && am_tgt pc off
    | .goto off => Nat.beq n 3 && am_tgt pc off
    | .ifnull off => Nat.beq n 3 && am_tgt pc off
    | .ifnonnull off => Nat.beq n 3 && am_tgt pc off
    | .tableswitch d _ _ offs => am_tgt pc d && offs.toList.all (am_tgt pc)
    | .lookupswitch d ps => am_tgt pc d && ps.toList.all (fun q => am_tgt pc q.2) && (ps.toList.zip (ps.toList.drop 1)).all (fun (q, r) => q.1 < r.1)
    | .ireturn => Nat.beq n 1 && am_retc a (am_ret M)
    | .areturn => Nat.beq n 1 && am_reta (am_ret M)
    | .return_ => Nat.beq n 1 && decide (am_ret M = none)
    | .getstatic i => Nat.beq n 3 && (match a with
      | 0 => am_at k (.fieldLink (am_cn (am_own M)) i "java/lang/String" "COMPACT_STRINGS" "Z")
      | 1 => am_at k (.fieldLinkNest (am_cn (am_own M)) i "WallPicks" "BODIES" "[I" "WallPicks")
      | 2 => am_at k (.fieldLinkNest (am_cn (am_own M)) i "WallPicks" "ABOVE" "[I" "WallPicks")
      | 3 => am_at k (.fieldLink (am_cn (am_own M)) i "jdk/internal/util/Preconditions" "SIOOBE_FORMATTER" "Ljava/util/function/BiFunction;")
      | _ => false)
    | .getfield i => Nat.beq n 3 && (match a with
      | 120 => (match b with
        | 0 => am_at k (.fieldLink (am_cn (am_own M)) i "java/lang/String" "value" "[B")
        | 1 => am_at k (.fieldLink (am_cn (am_own M)) i "java/lang/String" "coder" "B")
        | _ => false)
      | _ => am_flc k (am_own M) i a b.toNat)
    | .putfield i => Nat.beq n 3 && am_flc k (am_own M) i a b.toNat && (!(am_T a b.toNat).2.2.2 || (decide ((am_y M).name = "<init>") && Nat.beq a (am_own M)))
    | .new i => Nat.beq n 3 && Nat.blt a 11 && am_at k (.classLink (am_cn (am_own M)) i (am_cn a))
    | .newarray ty => Nat.beq n 2 && (match ty with
      | .int => Nat.beq a 100 && am_at k (.arrayClass .int)
      | .boolean => Nat.beq a 101 && am_at k (.arrayClass .boolean)
      | _ => false)
    | .anewarray i => Nat.beq n 3 && am_at k (.classLink (am_cn (am_own M)) i "WallPicks$Row")
    | .invokespecial i => Nat.beq n 3 && (if a = 9999 then am_at k (.methodLink (am_cn (am_own M)) i Lib.objectInit) else am_mlc k (am_own M) i a true && decide (b = (am_np a : Int)) && !(am_stat a) && decide ((am_y a).name = "<init>") && decide (am_ret a = none))
    | .invokevirtual i => Nat.beq n 3 && am_mlc k (am_own M) i a false && decide (b = (am_np a : Int)) && !(am_stat a) && !(decide ((am_y a).name = "<init>"))
    | .invokestatic i => Nat.beq n 3 && (if a = 9998 then am_at k (.methodLink (am_cn (am_own M)) i arraycopyName) else if a = 9990 then am_at k (.methodLink (am_cn (am_own M)) i Lib.Math.max.name) else if a = 9991 then am_at k (.methodLink (am_cn (am_own M)) i Lib.Math.min.name) else if a = 9992 then am_at k (.methodLink (am_cn (am_own M)) i Lib.Math.abs.name) else am_mlc k (am_own M) i a true && decide (b = (am_np a : Int)) && am_stat a)
    | _ => Nat.beq n 1
def am_dec (M pc : Nat) (e : AE) : Bool := decide (decode (am_code M) pc = .ok (e.1, e.2.1))
def am_okt (M : Nat) : Bool := (am_tab M).all (fun q => am_dec M q.1 q.2 && am_okb M q.1 q.2)
theorem am_fl_ok : ((am_fl.zip am_fli).all fun q => am_at q.2 (am_flw q.1)) = true := by decide +kernel
theorem am_ml_ok : ((am_ml.zip am_mli).all fun q => am_at q.2 (am_mlw q.1)) = true := by decide +kernel
def am_mw (M : Nat) (q : Nat × Nat × Nat × Nat) : Bool := am_at q.1 (.code (am_y M) (am_code M) (am_maxl M) (am_ret M)) && (match am_stat M with
  | true => am_at q.2.1 (.static (am_y M))
  | false => am_at q.2.1 (.instanceMethod (am_y M)) && (decide ((am_y M).name = "<init>") || am_at q.2.2.1 (.selects (am_y M).cls (am_y M) (am_y M)))) && am_at q.2.2.2 (.initialized (am_y M).cls) && decide (am_cn (am_own M) = (am_y M).cls) && plainName (am_y M).cls && decide ((am_y M).cls ≠ "java/lang/invoke/MethodHandle" ∧ (am_y M).cls ≠ "java/lang/invoke/VarHandle" ∧ (parseMethodDescriptor (am_y M).desc).map (fun d => d.parameters.length) = some (am_np M)) && Nat.ble (am_maxl M) 30 && Nat.blt (am_own M) 20
def am_cw (c : Nat) (q : Nat × Nat) (l : List Nat) : Bool := am_at q.1 (.instantiable (am_cn c) (am_nf c)) && am_at q.2 (.initialized (am_cn c)) && decide (l.length = am_nf c) && ((List.range (am_nf c)).zip l).all (fun x => am_at x.2 (u_lay (am_cn c) (am_T c) x.1)) && (List.range (am_nf c)).all (fun k => Nat.beq (am_ty c k) (am_tyn c k) && decide (parseFieldDescriptor (am_T c k).2.2.1 = some .int ∧ am_tyn c k = 0 ∨ parseFieldDescriptor (am_T c k).2.2.1 = some .boolean ∧ am_tyn c k = 1 ∨ am_tyn c k = 2 ∧ am_reta (parseFieldDescriptor (am_T c k).2.2.1) = true)) && (List.range (am_nf c)).all (fun a => (List.range (am_nf c)).all (fun b => Nat.beq a b || decide ((am_T c a).2.1 ≠ (am_T c b).2.1)))
/-- words that stand alone -/
theorem am_xw_1 : am_at 611 (.native arraycopyName) = true := by decide +kernel
theorem am_xw_2 : am_at 610 (.static arraycopyName) = true := by decide +kernel
theorem am_xw_3 : am_at 89 (.initialized "java/lang/System") = true := by decide +kernel
theorem am_xw_4 : am_at 74 (.initialized "java/lang/Math") = true := by decide +kernel
theorem am_xw_5 : am_at 96 (.instanceMethod Lib.objectInit) = true := by decide +kernel
theorem am_xw_6 : am_at 97 (.code Lib.objectInit ⟨#[0xb1]⟩ 1 none) = true := by decide +kernel
theorem am_xw_7 : am_at 111 (.static Lib.Math.max.name) = true := by decide +kernel
theorem am_xw_8 : am_at 112 (.code Lib.Math.max.name Lib.Math.max.code 2 (some .int)) = true := by decide +kernel
theorem am_xw_9 : am_at 607 (.static Lib.Math.min.name) = true := by decide +kernel
theorem am_xw_10 : am_at 608 (.code Lib.Math.min.name Lib.Math.min.code 2 (some .int)) = true := by decide +kernel
theorem am_xw_11 : am_at 877 (.static Lib.Math.abs.name) = true := by decide +kernel
theorem am_xw_12 : am_at 878 (.code Lib.Math.abs.name Lib.Math.abs.code 1 (some .int)) = true := by decide +kernel
theorem am_fl_len : am_fl.length ≤ am_fli.length := by decide +kernel
theorem am_ml_len : am_ml.length ≤ am_mli.length := by decide +kernel
theorem am_zip_mem {α β : Type} : ∀ (l : List α) (r : List β), l.length ≤ r.length → ∀ q ∈ l, ∃ i, (q, i) ∈ l.zip r
  | [], _, _, q, h => by cases h
  | a :: l, [], hl, q, _ => absurd hl (by simp)
  | a :: l, b :: r, hl, q, h => by
    rcases List.mem_cons.mp h with rfl | h
    · exact ⟨b, List.mem_cons_self⟩
    · obtain ⟨i, hi⟩ := am_zip_mem l r (by simpa using hl) q h
      exact ⟨i, List.mem_cons_of_mem _ hi⟩
theorem am_fl_in {k : Nat} {q : Nat × Nat × Nat × Nat} (h : am_fl[k]? = some q) : am_flw q ∈ lw_tbl := by
  obtain ⟨i, hi⟩ := am_zip_mem _ _ am_fl_len q (List.mem_of_getElem? h)
  exact am_at_mem (List.all_eq_true.mp am_fl_ok _ hi)
theorem am_ml_in {k : Nat} {q : Nat × Nat × Nat × Nat} (h : am_ml[k]? = some q) : am_mlw q ∈ lw_tbl := by
  obtain ⟨i, hi⟩ := am_zip_mem _ _ am_ml_len q (List.mem_of_getElem? h)
  exact am_at_mem (List.all_eq_true.mp am_ml_ok _ hi)
