/-! the tables are the Statement's: each instruction as its bytes say, each link among the tables' words -/
def am_at (i : Nat) (w : Jvm.Cond) : Bool := decide (lw_tbl[i]? = some w)
theorem am_at_mem {i : Nat} {w : Jvm.Cond} (h : am_at i w = true) : w ∈ lw_tbl := List.mem_of_getElem? (of_decide_eq_true h)
def am_rng (z : Int) : Bool := decide (-2147483648 ≤ z) && decide (z ≤ 2147483647)
def am_tgt (pc : Nat) (off : Int) : Bool := decide (0 ≤ (pc : Int) + off)
def am_flw (q : Nat × Nat × Nat × Nat) : Jvm.Cond := .fieldLink (am_cn q.1) q.2.1 (am_T q.2.2.1 q.2.2.2).1 (am_T q.2.2.1 q.2.2.2).2.1 (am_T q.2.2.1 q.2.2.2).2.2.1
def am_mlw (q : Nat × Nat × Nat × Nat) : Jvm.Cond := match q.2.2.2 with
  | 0 => .methodLink (am_cn q.1) q.2.1 (am_y q.2.2.1)
  | _ => .methodLinkNest (am_cn q.1) q.2.1 (am_y q.2.2.1) "WallPicks"
def am_flc (k : Nat) (own idx a b : Nat) : Bool := match am_fl[k]? with
  | some (o, i, c, j) => Nat.beq o own && Nat.beq i idx && Nat.beq c a && Nat.beq j b && Nat.blt c 11 && Nat.blt j (am_nf c)
  | none => false
def am_mlc (k : Nat) (own idx a : Nat) (nest : Bool) : Bool := match am_ml[k]? with
  | some (o, i, c, j) => Nat.beq o own && Nat.beq i idx && Nat.beq c a && Nat.blt c 231 && (Nat.beq j 0 || nest)
  | none => false
def am_retc (a : Nat) (ty : Option FieldType) : Bool := match a with
  | 0 => decide (ty = some .int)
  | 1 => decide (ty = some .boolean)
  | 2 => decide (ty = some .byte)
  | 3 => decide (ty = some .char)
  | _ => false
def am_reta (ty : Option FieldType) : Bool := match ty with
  | some (.object _) => true
  | some (.array _) => true
  | _ => false
def am_okb (M pc : Nat) (e : AE) : Bool := match e with
  | (ins, n, a, b, k) => match ins with
    | .iconst i => Nat.beq n 1 && decide (b = i) && decide (-1 ≤ i) && decide (i ≤ 5)
    | .bipush i => Nat.beq n 2 && decide (b = i) && decide (-128 ≤ i) && decide (i ≤ 127)
    | .sipush i => Nat.beq n 3 && decide (b = i) && decide (-32768 ≤ i) && decide (i ≤ 32767)
    | .ldc i => Nat.beq n 2 && (match a with
      | 0 => am_rng b && am_at k (.constant (am_cn (am_own M)) i (Int32.ofInt b))
      | _ => decide (3 ≤ b) && decide (b ≤ 10) && (match am_sts[(b - 3).toNat]? with
        | some q => decide (am_cn (am_own M) = q.1) && Nat.beq i q.2.1
        | none => false))
    | .ldc_w i => Nat.beq n 3 && am_rng b && am_at k (.constant (am_cn (am_own M)) i (Int32.ofInt b))
    | .ldc2_w i => Nat.beq n 3 && am_at k (.constantLong (am_cn (am_own M)) i (Int64.ofInt b))
    | .iload _ => Nat.beq n 2
    | .aload _ => Nat.beq n 2
    | .istore _ => Nat.beq n 2
    | .astore _ => Nat.beq n 2
    | .iinc _ c => Nat.beq n 3 && decide (-128 ≤ c) && decide (c ≤ 127)
    | .ifCond _ off => Nat.beq n 3 && am_tgt pc off
    | .if_icmp _ off => Nat.beq n 3 && am_tgt pc off
    | .goto off => Nat.beq n 3 && am_tgt pc off
    | .ifnull off => Nat.beq n 3 && am_tgt pc off
    | .ifnonnull off => Nat.beq n 3 && am_tgt pc off
    | .tableswitch d _ _ offs => am_tgt pc d && offs.toList.all (am_tgt pc)
    | .lookupswitch d ps => am_tgt pc d && ps.toList.all (fun q => am_tgt pc q.2) && (ps.toList.zip (ps.toList.drop 1)).all (fun (q, r) => q.1 < r.1)
    | .ireturn => Nat.beq n 1 && am_retc a (am_ret M)
    | .areturn => Nat.beq n 1 && am_reta (am_ret M)
    | .return_ => Nat.beq n 1 && decide (am_ret M = none)
    | .getstatic i => Nat.beq n 3 && (match a with
      | 0 => am_at k (.fieldLink (am_cn (am_own M)) i "java/lang/String" "COMPACT_STRINGS" "Z")
      | 1 => am_at k (.fieldLinkNest (am_cn (am_own M)) i "WallPicks" "BODIES" "[I" "WallPicks")
      | 2 => am_at k (.fieldLinkNest (am_cn (am_own M)) i "WallPicks" "ABOVE" "[I" "WallPicks")
      | 3 => am_at k (.fieldLink (am_cn (am_own M)) i "jdk/internal/util/Preconditions" "SIOOBE_FORMATTER" "Ljava/util/function/BiFunction;")
      | _ => false)
    | .getfield i => Nat.beq n 3 && (match a with
      | 120 => (match b with
        | 0 => am_at k (.fieldLink (am_cn (am_own M)) i "java/lang/String" "value" "[B")
        | 1 => am_at k (.fieldLink (am_cn (am_own M)) i "java/lang/String" "coder" "B")
        | _ => false)
      | _ => am_flc k (am_own M) i a b.toNat)
    | .putfield i => Nat.beq n 3 && am_flc k (am_own M) i a b.toNat && (!(am_T a b.toNat).2.2.2 || (decide ((am_y M).name = "<init>") && Nat.beq a (am_own M)))
    | .new i => Nat.beq n 3 && Nat.blt a 11 && am_at k (.classLink (am_cn (am_own M)) i (am_cn a))
    | .newarray ty => Nat.beq n 2 && (match ty with
      | .int => Nat.beq a 100 && am_at k (.arrayClass .int)
      | .boolean => Nat.beq a 101 && am_at k (.arrayClass .boolean)
      | _ => false)
    | .anewarray i => Nat.beq n 3 && am_at k (.classLink (am_cn (am_own M)) i "WallPicks$Row")
    | .invokespecial i => Nat.beq n 3 && (if a = 9999 then am_at k (.methodLink (am_cn (am_own M)) i Lib.objectInit) else am_mlc k (am_own M) i a true && decide (b = (am_np a : Int)) && !(am_stat a) && decide ((am_y a).name = "<init>") && decide (am_ret a = none))
    | .invokevirtual i => Nat.beq n 3 && am_mlc k (am_own M) i a false && decide (b = (am_np a : Int)) && !(am_stat a) && !(decide ((am_y a).name = "<init>"))
    | .invokestatic i => Nat.beq n 3 && (if a = 9998 then am_at k (.methodLink (am_cn (am_own M)) i arraycopyName) else if a = 9990 then am_at k (.methodLink (am_cn (am_own M)) i Lib.Math.max.name) else if a = 9991 then am_at k (.methodLink (am_cn (am_own M)) i Lib.Math.min.name) else if a = 9992 then am_at k (.methodLink (am_cn (am_own M)) i Lib.Math.abs.name) else am_mlc k (am_own M) i a true && decide (b = (am_np a : Int)) && am_stat a)
    | _ => Nat.beq n 1
def am_dec (M pc : Nat) (e : AE) : Bool := decide (decode (am_code M) pc = .ok (e.1, e.2.1))
def am_okt (M : Nat) : Bool := (am_tab M).all (fun q => am_dec M q.1 q.2 && am_okb M q.1 q.2)
theorem am_fl_ok : ((am_fl.zip am_fli).all fun q => am_at q.2 (am_flw q.1)) = true := by decide +kernel
theorem am_ml_ok : ((am_ml.zip am_mli).all fun q => am_at q.2 (am_mlw q.1)) = true := by decide +kernel
