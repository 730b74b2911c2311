/-! an abstract machine: values (an int, a cell by its number, a long; 0 null, 1 some reference that is only carried, else nothing), cells by their numbers -/
abbrev AV := Int ⊕ (Nat ⊕ (Int64 ⊕ Nat))
def vI (z : Int) : AV := .inl z
def vR (k : Nat) : AV := .inr (.inl k)
def vL (w : Int64) : AV := .inr (.inr (.inl w))
def vX (t : Nat) : AV := .inr (.inr (.inr t))
/-- how many cells, slots; the kinds, the lengths, the contents -/
abbrev AW := Nat × Nat × (Nat → Nat) × (Nat → Nat) × (Nat → Nat → AV)
/-- an instruction, its length, two operands, the number of its link -/
abbrev AE := Instr × Nat × Nat × Int × Nat
/-- a step: the next state; an answer; a call: the method, its locals, where it goes on, the rest of the stack -/
abbrev AS := (Nat × List AV × List AV × AW) ⊕ (Option AV ⊕ (Nat × List AV × Nat × List AV))
def wr (z : Int) : Int := (Int32.ofInt z).toInt
def i_and (x y : Int) : Int := (Int32.ofInt x &&& Int32.ofInt y).toInt
def i_or (x y : Int) : Int := (Int32.ofInt x ||| Int32.ofInt y).toInt
def i_xor (x y : Int) : Int := (Int32.ofInt x ^^^ Int32.ofInt y).toInt
def i_shl (x y : Int) : Int := (Int32.ofInt x <<< (Int32.ofInt y &&& 31)).toInt
def i_shr (x y : Int) : Int := (Int32.ofInt x >>> (Int32.ofInt y &&& 31)).toInt
def i_ushr (x y : Int) : Int := ((Int32.ofInt x).toUInt32 >>> ((Int32.ofInt y).toUInt32 &&& Int32.toUInt32 31)).toInt32.toInt
def i_div (x y : Int) : Int := (Int32.ofInt x / Int32.ofInt y).toInt
def i_rem (x y : Int) : Int := (Int32.ofInt x - Int32.ofInt x / Int32.ofInt y * Int32.ofInt y).toInt
def i_ch (x : Int) : Int := ((Int32.ofInt x).toUInt32 % 65536).toInt32.toInt
def l_shl (x : Int64) (y : Int) : Int64 := x <<< ((Int32.ofInt y).toInt64 &&& 63)
def l_shr (x : Int64) (y : Int) : Int64 := x >>> ((Int32.ofInt y).toInt64 &&& 63)
def l_ushr (x : Int64) (y : Int) : Int64 := (x.toUInt64 >>> ((Int32.ofInt y).toInt64.toUInt64 &&& Int64.toUInt64 63)).toInt64
def l_i (x : Int64) : Int := x.toInt32.toInt
def i_l (x : Int) : Int64 := (Int32.ofInt x).toInt64
def lget (ls : List AV) (k : Nat) : AV := ls.getD k (vX 9)
def am_ct (w : AW) (k i : Nat) : AV := w.2.2.2.2 k i
def am_kd (w : AW) (k : Nat) : Nat := w.2.2.1 k
def am_ln (w : AW) (k : Nat) : Nat := w.2.2.2.1 k
def am_put (w : AW) (k i : Nat) (v : AV) : AW := (w.1, w.2.1, w.2.2.1, w.2.2.2.1, fun a => if a = k then (fun j => if j = i then v else w.2.2.2.2 a j) else w.2.2.2.2 a)
def am_cpy (w : AW) (k q sp dp n : Nat) : AW := (w.1, w.2.1, w.2.2.1, w.2.2.2.1, fun a => if a = q then (fun j => if dp ≤ j ∧ j < dp + n then w.2.2.2.2 k (sp + (j - dp)) else w.2.2.2.2 a j) else w.2.2.2.2 a)
def am_new (w : AW) (kind len : Nat) (f : Nat → AV) : AW := (w.1 + 1, w.2.1 + len, (fun a => if a = w.1 then kind else w.2.2.1 a), (fun a => if a = w.1 then len else w.2.2.2.1 a), fun a => if a = w.1 then f else w.2.2.2.2 a)
def am_isref : AV → Bool
  | .inr (.inl _) => true
  | .inr (.inr (.inr 0)) => true
  | _ => false
def am_bit : Int → Bool
  | 0 => true
  | 1 => true
  | _ => false
/-- may a field of a type (0 int, 1 boolean, else a reference) hold it -/
def am_fit (ty : Nat) (v : AV) : Bool := match ty with
  | 0 => (match v with | .inl _ => true | _ => false)
  | 1 => (match v with | .inl z => am_bit z | _ => false)
  | _ => am_isref v
/-- may an answer be of a type (0 int, 1 boolean, 2 byte (0 and 1 alone), 3 char) -/
def am_rfit (ty : Nat) (z : Int) : Bool := match ty with
  | 0 => true
  | 1 => am_bit z
  | 2 => am_bit z
  | 3 => decide (0 ≤ z) && decide (z ≤ 65535)
  | _ => false
def am_exp : List AV → List AV
  | [] => []
  | .inr (.inr (.inl w)) :: l => vL w :: vX 9 :: am_exp l
  | v :: l => v :: am_exp l
def am_loc (args : List AV) (maxl : Nat) : List AV := am_exp args ++ List.replicate (maxl - (am_exp args).length) (vX 9)
def am_b2 (f : Int → Int → Int) (pc : Nat) (ls st : List AV) (w : AW) : Option AS := match st with
  | .inl y :: .inl x :: r => some (.inl (pc + 1, ls, vI (f x y) :: r, w))
  | _ => none
def am_d2 (f : Int → Int → Int) (pc : Nat) (ls st : List AV) (w : AW) : Option AS := match st with
  | .inl y :: .inl x :: r => if y = 0 then none else some (.inl (pc + 1, ls, vI (f x y) :: r, w))
  | _ => none
def am_go (pc : Nat) (off : Int) : Nat := ((pc : Int) + off).toNat
def am_br1 (p : Int → Bool) (off : Int) (pc : Nat) (ls st : List AV) (w : AW) : Option AS := match st with
  | .inl x :: r => some (.inl (if p x then am_go pc off else pc + 3, ls, r, w))
  | _ => none
def am_br2 (p : Int → Int → Bool) (off : Int) (pc : Nat) (ls st : List AV) (w : AW) : Option AS := match st with
  | .inl y :: .inl x :: r => some (.inl (if p x y then am_go pc off else pc + 3, ls, r, w))
  | _ => none
def am_cmp (c : ClassFile.Cond) (x y : Int) : Bool := match c with
  | .eq => decide (x = y)
  | .ne => decide (¬ x = y)
  | .lt => decide (x < y)
  | .ge => decide (y ≤ x)
  | .gt => decide (y < x)
  | .le => decide (x ≤ y)
def am_ild (k n pc : Nat) (ls st : List AV) (w : AW) : Option AS := match lget ls k with
  | .inl z => some (.inl (pc + n, ls, vI z :: st, w))
  | _ => none
def am_lld (k n pc : Nat) (ls st : List AV) (w : AW) : Option AS := match lget ls k with
  | .inr (.inr (.inl z)) => some (.inl (pc + n, ls, vL z :: st, w))
  | _ => none
def am_ald (k n pc : Nat) (ls st : List AV) (w : AW) : Option AS := match lget ls k with
  | .inr (.inl z) => some (.inl (pc + n, ls, vR z :: st, w))
  | .inr (.inr (.inr 0)) => some (.inl (pc + n, ls, vX 0 :: st, w))
  | _ => none
def am_long : AV → Bool
  | .inr (.inr (.inl _)) => true
  | _ => false
/-- a long stands at place 1 alone: no store into its second half -/
def am_nl (ls : List AV) (k : Nat) : Bool := match k with
  | 2 => !(am_long (lget ls 1))
  | _ => true
def am_lok : List AV → Bool
  | [] => true
  | v :: [] => !(am_long v)
  | v :: _ :: l => !(am_long v) && l.all (fun u => !(am_long u))
def am_ist (k n pc : Nat) (ls st : List AV) (w : AW) : Option AS := match st with
  | .inl z :: r => if k < ls.length ∧ am_nl ls k = true then some (.inl (pc + n, ls.set k (vI z), r, w)) else none
  | _ => none
def am_ast (k n pc : Nat) (ls st : List AV) (w : AW) : Option AS := match st with
  | .inr (.inl z) :: r => if k < ls.length ∧ am_nl ls k = true then some (.inl (pc + n, ls.set k (vR z), r, w)) else none
  | .inr (.inr (.inr 0)) :: r => if k < ls.length ∧ am_nl ls k = true then some (.inl (pc + n, ls.set k (vX 0), r, w)) else none
  | _ => none
def am_in (i : Int) (n : Nat) : Bool := decide (0 ≤ i) && decide (i < (n : Int))
def am_iload (pc : Nat) (ls st : List AV) (w : AW) : Option AS := match st with
  | .inl i :: .inr (.inl k) :: r => if (am_kd w k = 100 ∨ am_kd w k = 110) ∧ am_in i (am_ln w k) = true then some (.inl (pc + 1, ls, am_ct w k i.toNat :: r, w)) else none
  | _ => none
def am_bload (pc : Nat) (ls st : List AV) (w : AW) : Option AS := match st with
  | .inl i :: .inr (.inl k) :: r => if (am_kd w k = 101 ∨ am_kd w k = 112) ∧ am_in i (am_ln w k) = true then some (.inl (pc + 1, ls, am_ct w k i.toNat :: r, w)) else none
  | _ => none
def am_aload (pc : Nat) (ls st : List AV) (w : AW) : Option AS := match st with
  | .inl i :: .inr (.inl k) :: r => if am_kd w k = 103 ∧ am_in i (am_ln w k) = true then some (.inl (pc + 1, ls, am_ct w k i.toNat :: r, w)) else none
  | _ => none
def am_istore (pc : Nat) (ls st : List AV) (w : AW) : Option AS := match st with
  | .inl x :: .inl i :: .inr (.inl k) :: r => if am_kd w k = 100 ∧ am_in i (am_ln w k) = true then some (.inl (pc + 1, ls, r, am_put w k i.toNat (vI x))) else none
  | _ => none
def am_bstore (pc : Nat) (ls st : List AV) (w : AW) : Option AS := match st with
  | .inl x :: .inl i :: .inr (.inl k) :: r => if am_kd w k = 101 ∧ am_in i (am_ln w k) = true ∧ am_bit x = true then some (.inl (pc + 1, ls, r, am_put w k i.toNat (vI x))) else none
  | _ => none
def am_astore (pc : Nat) (ls st : List AV) (w : AW) : Option AS := match st with
  | .inr (.inl v) :: .inl i :: .inr (.inl k) :: r => if am_kd w k = 103 ∧ am_in i (am_ln w k) = true ∧ am_kd w v = 5 then some (.inl (pc + 1, ls, r, am_put w k i.toNat (vR v))) else none
  | _ => none
def am_alen (pc : Nat) (ls st : List AV) (w : AW) : Option AS := match st with
  | .inr (.inl k) :: r => if am_kd w k = 100 ∨ am_kd w k = 101 ∨ am_kd w k = 103 ∨ am_kd w k = 110 ∨ am_kd w k = 112 then some (.inl (pc + 1, ls, vI (am_ln w k : Int) :: r, w)) else none
  | _ => none
def am_null (p : Bool) (off : Int) (pc : Nat) (ls st : List AV) (w : AW) : Option AS := match st with
  | .inr (.inl _) :: r => some (.inl (if p then pc + 3 else am_go pc off, ls, r, w))
  | .inr (.inr (.inr 0)) :: r => some (.inl (if p then am_go pc off else pc + 3, ls, r, w))
  | _ => none
def am_tsw (dflt lo hi : Int) (offs : Array Int) (pc : Nat) (ls st : List AV) (w : AW) : Option AS := match st with
  | .inl x :: r => if x < lo ∨ hi < x then some (.inl (am_go pc dflt, ls, r, w)) else match offs[(x - lo).toNat]? with
    | some off => some (.inl (am_go pc off, ls, r, w))
    | none => none
  | _ => none
def am_lsw (dflt : Int) (ps : Array (Int × Int)) (pc : Nat) (ls st : List AV) (w : AW) : Option AS := match st with
  | .inl x :: r => some (.inl (am_go pc (Op.lookupswitch.offset ps.toList dflt x), ls, r, w))
  | _ => none
def am_l2 (f : Int64 → Int64 → Int64) (pc : Nat) (ls st : List AV) (w : AW) : Option AS := match st with
  | .inr (.inr (.inl y)) :: .inr (.inr (.inl x)) :: r => some (.inl (pc + 1, ls, vL (f x y) :: r, w))
  | _ => none
def am_ls (f : Int64 → Int → Int64) (pc : Nat) (ls st : List AV) (w : AW) : Option AS := match st with
  | .inl y :: .inr (.inr (.inl x)) :: r => some (.inl (pc + 1, ls, vL (f x y) :: r, w))
  | _ => none
