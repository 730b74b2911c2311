/-! a yard's text, read: mathematics common to class and reference -/
abbrev Cl := Nat × Nat × List Int
def pb {α β : Type} (r : Nat × Option α) (f : Nat → α → Nat × Option β) : Nat × Option β := match r.2 with
  | some a => f r.1 a
  | none => (r.1, none)
theorem pb_s {α β : Type} {r : Nat × Option α} {f : Nat → α → Nat × Option β} {q : Nat} {a : α} (h : r = (q, some a)) : pb r f = f q a := by rw [h]; rfl
theorem pb_n {α β : Type} {r : Nat × Option α} {f : Nat → α → Nat × Option β} {q : Nat} (h : r = (q, none)) : pb r f = (q, none) := by rw [h]; rfl
section PT
variable (t : Nat → Int) (e : Nat)
def hh (p : Nat) : Int := if p < e then t p else -1
def pW : List Int → Nat → Nat × Option Unit
  | [], p => (p, some ())
  | c :: l, p => if hh t e p = c then pW l (p + 1) else (p, none)
/-- a number: 1 or 2 digits, no 0 ahead of another -/
def pNum (p : Nat) : Nat × Option Nat :=
  if 48 ≤ hh t e p ∧ hh t e p ≤ 57 then
    if hh t e p ≠ 48 ∧ 48 ≤ hh t e (p + 1) ∧ hh t e (p + 1) ≤ 57 then (p + 2, some (10 * (hh t e p - 48) + (hh t e (p + 1) - 48)).toNat)
    else (p + 1, some (hh t e p - 48).toNat)
  else (p, none)
def pDig (lim : Nat) (p : Nat) : Nat × Option Nat := if 48 ≤ hh t e p ∧ hh t e p < 48 + (lim : Int) then (p + 1, some (hh t e p - 48).toNat) else (p, none)
def whC (c : Int) : Option Nat := if c = 112 then some 0 else if c = 115 then some 1 else if c = 102 then some 2 else if c = 110 then some 3 else none
def stp (w h v : Nat) : Int := ((w + 4 * h + 16 * v : Nat) : Int)
def pTest (p : Nat) : Nat × Option (List Int) := match whC (hh t e p) with
  | none => (p, none)
  | some w => if 60 ≤ hh t e (p + 1) ∧ hh t e (p + 1) ≤ 62 then pb (pNum t e (p + 2)) (fun q v => (q, some [stp w (hh t e (p + 1) - 60).toNat v])) else (p + 1, none)
def jn (any all : List Int) : List Int := if any = [] then all else any ++ all ++ [-3]
def pL (f : Nat → Nat × Option (List Int)) : Nat → List Int → List Int → Nat → Nat × Option (List Int)
  | 0, any, all, p => (p, some (jn any all))
  | g + 1, any, all, p =>
    if hh t e p = 124 then pb (f (p + 1)) (fun q st => pL f g (jn any all) st q)
    else if hh t e p = 38 then pb (f (p + 1)) (fun q st => pL f g any (all ++ st ++ [-2]) q)
    else (p, some (jn any all))
def pE (f : Nat → Nat × Option (List Int)) (p : Nat) : Nat × Option (List Int) := pb (f p) (fun q st => pL t e f 120 [] st q)
def pF : Nat → Nat → Nat × Option (List Int)
  | 0, p => if hh t e p = 33 ∨ hh t e p = 40 then (p, none) else pTest t e p
  | k + 1, p => if hh t e p = 33 then pb (pF k (p + 1)) (fun q st => (q, some (st ++ [-1])))
    else if hh t e p = 40 then pb (pE t e (pF k) (p + 1)) (fun q st => pb (pW t e [41] q) (fun q _ => (q, some st)))
    else pTest t e p
def pM (p : Nat) : Nat × Option Cl := pb (pW t e [97, 114, 107, 32] p) (fun p _ => pb (pNum t e p) (fun p v => pb (pW t e [32] p) (fun p _ => pb (pE t e (pF t e 5) p) (fun p st => (p, some (0, v, st))))))
def pB (p : Nat) : Nat × Option Cl := pb (pW t e [111, 116, 104, 32] p) (fun p _ => pb (pNum t e p) (fun p v => pb (pW t e [32] p) (fun p _ => pb (pDig t e 8 p) (fun p a => pb (pW t e [32] p) (fun p _ => pb (pDig t e 8 p) (fun p b => (p, some (1, v, [(a : Int), (b : Int)]))))))))
def pK (p : Nat) : Nat × Option Cl := pb (pW t e [97, 99, 107, 32] p) (fun p _ => pb (pNum t e p) (fun p v => pb (pW t e [32] p) (fun p _ => pb (pDig t e 4 p) (fun p k => (p, some (2, v, [(k : Int)]))))))
def pC (p : Nat) : Nat × Option Cl := if hh t e p = 109 then pM t e (p + 1) else if hh t e p = 98 then pB t e (p + 1) else if hh t e p = 108 then pK t e (p + 1) else (p, none)
def pCs : Nat → List Cl → Nat → Nat × Option (List Cl)
  | 0, acc, p => (p, some acc)
  | g + 1, acc, p => if hh t e p = 59 then pb (pC t e (p + 1)) (fun q c => pCs g (acc ++ [c]) q) else (p, some acc)
def pY : Nat × Option (List Cl) := pb (pb (pC t e 0) (fun q c => pCs t e 9 [c] q)) (fun q l => if q < e then (q, none) else (q, some l))
end PT
section PP
variable {t : Nat → Int} {e : Nat}
theorem hh_lt {p : Nat} {c : Int} (h : hh t e p = c) (hc : 0 ≤ c) : p < e := by
  unfold hh at h
  split at h
  · assumption
  · omega
/-- a position that is no further than the end, and no nearer than it was -/
def Ok {α : Type} (e p : Nat) (r : Nat × Option α) : Prop := p ≤ r.1 ∧ r.1 ≤ e
theorem Ok_pb {α β : Type} {e p : Nat} {r : Nat × Option α} {f : Nat → α → Nat × Option β} (h : Ok e p r) (hf : ∀ q a, p ≤ q → q ≤ e → r = (q, some a) → Ok e q (f q a)) : Ok e p (pb r f) := by
  obtain ⟨q, o⟩ := r
  cases o with
  | none => exact h
  | some a =>
    have := hf q a h.1 h.2 rfl
    exact ⟨Nat.le_trans h.1 this.1, this.2⟩
theorem Ok_le {α : Type} {e p p' : Nat} {r : Nat × Option α} (h : Ok e p r) (hp : p' ≤ p) : Ok e p' r := ⟨Nat.le_trans hp h.1, h.2⟩
theorem Ok_self {α : Type} {e p : Nat} {o : Option α} (h : p ≤ e) : Ok e p (p, o) := ⟨Nat.le_refl _, h⟩
theorem Ok_1 {α : Type} {e p q : Nat} {o : Option α} (h : p ≤ q) (h2 : q ≤ e) : Ok e p (q, o) := ⟨h, h2⟩
theorem pW_ok : ∀ (l : List Int) (p : Nat), (∀ c, c ∈ l → 0 ≤ c) → p ≤ e → Ok e p (pW t e l p)
  | [], p, _, h => Ok_self h
  | c :: l, p, hl, h => by
    rw [pW]
    split
    · rename_i h2
      have := hh_lt h2 (hl c (List.mem_cons_self ..))
      exact Ok_le (pW_ok l (p + 1) (fun c hc => hl c (List.mem_cons_of_mem _ hc)) (by omega)) (by omega)
    · exact Ok_self h
theorem pNum_ok {p : Nat} (h : p ≤ e) : Ok e p (pNum t e p) := by
  unfold pNum
  split
  · rename_i h2
    have := hh_lt (c := hh t e p) rfl (by omega)
    split
    · rename_i h3
      have := hh_lt (c := hh t e (p + 1)) rfl (by omega)
      exact Ok_1 (by omega) (by omega)
    · exact Ok_1 (by omega) (by omega)
  · exact Ok_self h
theorem pNum_v {p q v : Nat} (h : pNum t e p = (q, some v)) : v ≤ 99 ∧ p < q := by
  unfold pNum at h
  split at h
  · split at h
    · simp only [Prod.mk.injEq, Option.some.injEq] at h
      omega
    · simp only [Prod.mk.injEq, Option.some.injEq] at h
      omega
  · simp at h
theorem pDig_ok {lim p : Nat} (h : p ≤ e) : Ok e p (pDig t e lim p) := by
  unfold pDig
  split
  · rename_i h2
    have := hh_lt (c := hh t e p) rfl (by omega)
    exact Ok_1 (by omega) (by omega)
  · exact Ok_self h
theorem pDig_v {lim p q v : Nat} (h : pDig t e lim p = (q, some v)) : v < lim := by
  unfold pDig at h
  split at h
  · simp only [Prod.mk.injEq, Option.some.injEq] at h
    omega
  · simp at h
theorem whC_r {c : Int} {w : Nat} (h : whC c = some w) : w ≤ 3 ∧ 0 ≤ c := by
  unfold whC at h
  repeat' split at h
  all_goals first | (simp only [Option.some.injEq] at h; omega) | simp at h
theorem pTest_ok {p : Nat} (h : p ≤ e) : Ok e p (pTest t e p) := by
  unfold pTest
  split
  · exact Ok_self h
  · rename_i w hw
    have h1 := hh_lt (c := hh t e p) rfl (whC_r hw).2
    split
    · rename_i h2
      have := hh_lt (c := hh t e (p + 1)) rfl (by omega)
      refine Ok_le (Ok_pb (pNum_ok (p := p + 2) (by omega)) ?_) (by omega)
      intro q a _ hq _
      exact Ok_self hq
    · exact Ok_1 (by omega) (by omega)
theorem pL_ok {f : Nat → Nat × Option (List Int)} (hf : ∀ p, p ≤ e → Ok e p (f p)) : ∀ (g : Nat) (any all : List Int) (p : Nat), p ≤ e → Ok e p (pL t e f g any all p)
  | 0, _, _, _, h => Ok_self h
  | g + 1, any, all, p, h => by
    rw [pL]
    split
    · rename_i h2
      have := hh_lt h2 (by omega)
      exact Ok_le (Ok_pb (hf (p + 1) (by omega)) (fun q a _ hq _ => pL_ok hf g _ _ q hq)) (by omega)
    · split
      · rename_i h2
        have := hh_lt h2 (by omega)
        exact Ok_le (Ok_pb (hf (p + 1) (by omega)) (fun q a _ hq _ => pL_ok hf g _ _ q hq)) (by omega)
      · exact Ok_self h
theorem pE_ok {f : Nat → Nat × Option (List Int)} (hf : ∀ p, p ≤ e → Ok e p (f p)) {p : Nat} (h : p ≤ e) : Ok e p (pE t e f p) := Ok_pb (hf p h) (fun q _ _ hq _ => pL_ok hf 120 _ _ q hq)
theorem pF_ok : ∀ (k p : Nat), p ≤ e → Ok e p (pF t e k p)
  | 0, p, h => by
    rw [pF]
    split
    · exact Ok_self h
    · exact pTest_ok h
  | k + 1, p, h => by
    rw [pF]
    split
    · rename_i h2
      have := hh_lt h2 (by omega)
      exact Ok_le (Ok_pb (pF_ok k (p + 1) (by omega)) (fun q a _ hq _ => Ok_self hq)) (by omega)
    · split
      · rename_i h2
        have := hh_lt h2 (by omega)
        refine Ok_le (Ok_pb (pE_ok (fun p h => pF_ok k p h) (p := p + 1) (by omega)) ?_) (by omega)
        intro q a _ hq _
        exact Ok_pb (pW_ok [41] q (by simp) hq) (fun q _ _ hq _ => Ok_self hq)
      · exact pTest_ok h
theorem pC_ok {p : Nat} (h : p ≤ e) : Ok e p (pC t e p) := by
  unfold pC
  split
  · rename_i h2
    have := hh_lt h2 (by omega)
    unfold pM
    refine Ok_le (Ok_pb (pW_ok [97, 114, 107, 32] (p + 1) (by simp) (by omega)) (fun q _ _ hq _ => ?_)) (by omega)
    refine Ok_pb (pNum_ok hq) (fun q _ _ hq _ => ?_)
    refine Ok_pb (pW_ok [32] q (by simp) hq) (fun q _ _ hq _ => ?_)
    exact Ok_pb (pE_ok (fun p h => pF_ok 5 p h) hq) (fun q _ _ hq _ => Ok_self hq)
  · split
    · rename_i h2
      have := hh_lt h2 (by omega)
      unfold pB
      refine Ok_le (Ok_pb (pW_ok [111, 116, 104, 32] (p + 1) (by simp) (by omega)) (fun q _ _ hq _ => ?_)) (by omega)
      refine Ok_pb (pNum_ok hq) (fun q _ _ hq _ => ?_)
      refine Ok_pb (pW_ok [32] q (by simp) hq) (fun q _ _ hq _ => ?_)
      refine Ok_pb (pDig_ok hq) (fun q _ _ hq _ => ?_)
      refine Ok_pb (pW_ok [32] q (by simp) hq) (fun q _ _ hq _ => ?_)
      exact Ok_pb (pDig_ok hq) (fun q _ _ hq _ => Ok_self hq)
    · split
      · rename_i h2
        have := hh_lt h2 (by omega)
        unfold pK
        refine Ok_le (Ok_pb (pW_ok [97, 99, 107, 32] (p + 1) (by simp) (by omega)) (fun q _ _ hq _ => ?_)) (by omega)
        refine Ok_pb (pNum_ok hq) (fun q _ _ hq _ => ?_)
        refine Ok_pb (pW_ok [32] q (by simp) hq) (fun q _ _ hq _ => ?_)
        exact Ok_pb (pDig_ok hq) (fun q _ _ hq _ => Ok_self hq)
      · exact Ok_self h
theorem pCs_ok : ∀ (g : Nat) (acc : List Cl) (p : Nat), p ≤ e → Ok e p (pCs t e g acc p)
  | 0, _, _, h => Ok_self h
  | g + 1, acc, p, h => by
    rw [pCs]
    split
    · rename_i h2
      have := hh_lt h2 (by omega)
      exact Ok_le (Ok_pb (pC_ok (p := p + 1) (by omega)) (fun q c _ hq _ => pCs_ok g _ q hq)) (by omega)
    · exact Ok_self h
end PP
/-! steps, evaluated -/
def ev1 (tst : Int → Bool) (x : Int) (s : List Bool) : List Bool :=
  if 0 ≤ x then tst x :: s
  else if x = -1 then match s with
    | a :: s => (!a) :: s
    | [] => []
  else match s with
    | b :: a :: s => (if x = -2 then a && b else a || b) :: s
    | s => s
def evS (tst : Int → Bool) : List Int → List Bool → List Bool
  | [], s => s
  | x :: l, s => evS tst l (ev1 tst x s)
theorem evS_app {tst : Int → Bool} : ∀ (l l' : List Int) (s : List Bool), evS tst (l ++ l') s = evS tst l' (evS tst l s)
  | [], _, _ => rfl
  | x :: l, l', s => by
    show evS tst (l ++ l') _ = _
    rw [evS_app l l']
    rfl
/-- how high the steps stand, from h on; none: they fall -/
def htS : List Int → Nat → Option Nat
  | [], h => some h
  | x :: l, h => if 0 ≤ x then htS l (h + 1) else if x = -1 then (if 1 ≤ h then htS l h else none) else (if 2 ≤ h then htS l (h - 1) else none)
theorem htS_app : ∀ (l l' : List Int) (h : Nat), htS (l ++ l') h = (htS l h).bind (htS l')
  | [], _, _ => rfl
  | x :: l, l', h => by
    show htS (x :: (l ++ l')) h = _
    rw [htS, htS]
    by_cases c1 : 0 ≤ x
    · rw [if_pos c1, if_pos c1]
      exact htS_app l l' _
    · rw [if_neg c1, if_neg c1]
      by_cases c2 : x = -1
      · rw [if_pos c2, if_pos c2]
        by_cases c3 : 1 ≤ h
        · rw [if_pos c3, if_pos c3]
          exact htS_app l l' _
        · rw [if_neg c3, if_neg c3]
          rfl
      · rw [if_neg c2, if_neg c2]
        by_cases c3 : 2 ≤ h
        · rw [if_pos c3, if_pos c3]
          exact htS_app l l' _
        · rw [if_neg c3, if_neg c3]
          rfl
def nT : List Int → Nat
  | [] => 0
  | x :: l => (if 0 ≤ x then 1 else 0) + nT l
theorem nT_app : ∀ (l l' : List Int), nT (l ++ l') = nT l + nT l'
  | [], l' => by simp [nT]
  | x :: l, l' => by
    show nT (x :: (l ++ l')) = _
    rw [nT, nT, nT_app l l']
    omega
/-- steps that push one truth, read from m bytes -/
def GS (l : List Int) (m : Nat) : Prop := (∀ x, x ∈ l → -10 < x ∧ x < 10000) ∧ (∀ tst : Int → Bool, ∃ v : Bool, ∀ s, evS tst l s = v :: s) ∧ (∀ h, htS l h = some (h + 1)) ∧ l.length ≤ m ∧ 3 * nT l ≤ m
def evT (tst : Int → Bool) (l : List Int) : Bool := (evS tst l []).headD false
theorem GS_ev {l : List Int} {m : Nat} (h : GS l m) (tst : Int → Bool) (s : List Bool) : evS tst l s = evT tst l :: s := by
  obtain ⟨v, hv⟩ := h.2.1 tst
  unfold evT
  rw [hv s, hv []]
  rfl
theorem GS_le {l : List Int} {m m' : Nat} (h : GS l m) (hm : m ≤ m') : GS l m' := ⟨h.1, h.2.1, h.2.2.1, Nat.le_trans h.2.2.2.1 hm, Nat.le_trans h.2.2.2.2 hm⟩
theorem GS_1 {x : Int} (h : 0 ≤ x) (h2 : x < 10000) : GS [x] 3 := by
  refine ⟨?_, ?_, ?_, by simp, by simp [nT, h]⟩
  · intro y hy
    rw [List.mem_singleton] at hy
    omega
  · intro tst
    refine ⟨tst x, fun s => ?_⟩
    simp [evS, ev1, h]
  · intro k
    simp [htS, h]
theorem evT_1 {tst : Int → Bool} {x : Int} (h : 0 ≤ x) : evT tst [x] = tst x := by
  simp [evT, evS, ev1, h]
theorem GS_not {l : List Int} {m : Nat} (h : GS l m) : GS (l ++ [-1]) (m + 1) := by
  refine ⟨?_, ?_, ?_, ?_, ?_⟩
  · intro x hx
    rw [List.mem_append, List.mem_singleton] at hx
    rcases hx with hx | hx
    · exact h.1 x hx
    · omega
  · intro tst
    refine ⟨!(evT tst l), fun s => ?_⟩
    rw [evS_app, GS_ev h]
    rfl
  · intro k
    rw [htS_app, h.2.2.1]
    simp [htS]
  · have := h.2.2.2.1
    simp
    omega
  · have := h.2.2.2.2
    rw [nT_app]
    simp [nT]
    omega
theorem evT_not {l : List Int} {m : Nat} (h : GS l m) (tst : Int → Bool) : evT tst (l ++ [-1]) = !(evT tst l) := by
  show (evS tst (l ++ [-1]) []).headD false = _
  rw [evS_app, GS_ev h]
  rfl
theorem GS_2 {l l' : List Int} {m m' : Nat} {x : Int} (hx : x = -2 ∨ x = -3) (h : GS l m) (h' : GS l' m') : GS (l ++ l' ++ [x]) (m + m' + 1) := by
  refine ⟨?_, ?_, ?_, ?_, ?_⟩
  · intro y hy
    rw [List.mem_append, List.mem_append, List.mem_singleton] at hy
    rcases hy with (hy | hy) | hy
    · exact h.1 y hy
    · exact h'.1 y hy
    · omega
  · intro tst
    refine ⟨if x = -2 then evT tst l && evT tst l' else evT tst l || evT tst l', fun s => ?_⟩
    rw [evS_app, evS_app, GS_ev h, GS_ev h']
    rcases hx with rfl | rfl <;> rfl
  · intro k
    rw [htS_app, htS_app, h.2.2.1, Option.bind_some, h'.2.2.1, Option.bind_some]
    rcases hx with rfl | rfl <;> simp [htS]
  · have := h.2.2.2.1
    have := h'.2.2.2.1
    simp
    omega
  · have := h.2.2.2.2
    have := h'.2.2.2.2
    rw [nT_app, nT_app]
    rcases hx with rfl | rfl <;> simp [nT] <;> omega
theorem evT_and {l l' : List Int} {m m' : Nat} (h : GS l m) (h' : GS l' m') (tst : Int → Bool) : evT tst (l ++ l' ++ [-2]) = (evT tst l && evT tst l') := by
  show (evS tst (l ++ l' ++ [-2]) []).headD false = _
  rw [evS_app, evS_app, GS_ev h, GS_ev h']
  rfl
theorem evT_or {l l' : List Int} {m m' : Nat} (h : GS l m) (h' : GS l' m') (tst : Int → Bool) : evT tst (l ++ l' ++ [-3]) = (evT tst l || evT tst l') := by
  show (evS tst (l ++ l' ++ [-3]) []).headD false = _
  rw [evS_app, evS_app, GS_ev h, GS_ev h']
  rfl
/-- what stands ahead of a |, and what comes behind it -/
def JG (any all : List Int) (m : Nat) : Prop := (any = [] ∧ GS all m) ∨ (any ≠ [] ∧ ∃ m1 m2, GS any m1 ∧ GS all m2 ∧ m1 + m2 + 1 ≤ m)
theorem JG_jn {any all : List Int} {m : Nat} (h : JG any all m) : GS (jn any all) m := by
  unfold jn
  rcases h with ⟨h1, h2⟩ | ⟨h1, m1, m2, h2, h3, h4⟩
  · rw [if_pos h1]
    exact h2
  · rw [if_neg h1]
    exact GS_le (GS_2 (Or.inr rfl) h2 h3) h4
theorem GS_ne {l : List Int} {m : Nat} (h : GS l m) : l ≠ [] := by
  rintro rfl
  have := h.2.2.1 0
  simp [htS] at this
theorem JG_or {any all st : List Int} {m m' : Nat} (h : JG any all m) (h2 : GS st m') : JG (jn any all) st (m + m' + 1) := Or.inr ⟨GS_ne (JG_jn h), m, m', JG_jn h, h2, Nat.le_refl _⟩
theorem JG_and {any all st : List Int} {m m' : Nat} (h : JG any all m) (h2 : GS st m') : JG any (all ++ st ++ [-2]) (m + m' + 1) := by
  rcases h with ⟨h1, h3⟩ | ⟨h1, m1, m2, h3, h4, h5⟩
  · exact Or.inl ⟨h1, GS_2 (Or.inl rfl) h3 h2⟩
  · exact Or.inr ⟨h1, m1, m2 + m' + 1, h3, GS_2 (Or.inl rfl) h4 h2, by omega⟩
theorem JG_le {any all : List Int} {m m' : Nat} (h : JG any all m) (hm : m ≤ m') : JG any all m' := by
  rcases h with ⟨h1, h3⟩ | ⟨h1, m1, m2, h3, h4, h5⟩
  · exact Or.inl ⟨h1, GS_le h3 hm⟩
  · exact Or.inr ⟨h1, m1, m2, h3, h4, by omega⟩
section PG
variable {t : Nat → Int} {e : Nat}
theorem pb_some {α β : Type} {r : Nat × Option α} {f : Nat → α → Nat × Option β} {q : Nat} {b : β} (h : pb r f = (q, some b)) : ∃ q' a, r = (q', some a) ∧ f q' a = (q, some b) := by
  obtain ⟨q', o⟩ := r
  cases o with
  | none => simp [pb] at h
  | some a => exact ⟨q', a, rfl, h⟩
theorem pTest_G {p q : Nat} {st : List Int} (h : pTest t e p = (q, some st)) : p ≤ q ∧ GS st (q - p) := by
  unfold pTest at h
  split at h
  · simp at h
  · rename_i w hw
    have hwr := whC_r hw
    split at h
    · rename_i h2
      obtain ⟨q', v, h3, h4⟩ := pb_some h
      have hv := pNum_v h3
      simp only [Prod.mk.injEq, Option.some.injEq] at h4
      obtain ⟨rfl, rfl⟩ := h4
      refine ⟨by omega, GS_le (GS_1 ?_ ?_) (by omega)⟩
      · unfold stp
        omega
      · unfold stp
        omega
    · simp at h
theorem pL_G {f : Nat → Nat × Option (List Int)} (hf : ∀ p q st, f p = (q, some st) → p ≤ q ∧ GS st (q - p)) : ∀ (g : Nat) (any all : List Int) (p q m : Nat) (st : List Int), JG any all m → pL t e f g any all p = (q, some st) → p ≤ q ∧ GS st (m + (q - p))
  | 0, any, all, p, q, m, st, hj, h => by
    simp only [pL, Prod.mk.injEq, Option.some.injEq] at h
    obtain ⟨rfl, rfl⟩ := h
    exact ⟨Nat.le_refl _, GS_le (JG_jn hj) (by omega)⟩
  | g + 1, any, all, p, q, m, st, hj, h => by
    rw [pL] at h
    split at h
    · obtain ⟨q', st', h3, h4⟩ := pb_some h
      obtain ⟨g1, g2⟩ := hf _ _ _ h3
      obtain ⟨k1, k2⟩ := pL_G hf g _ _ _ _ _ _ (JG_or hj g2) h4
      exact ⟨by omega, GS_le k2 (by omega)⟩
    · split at h
      · obtain ⟨q', st', h3, h4⟩ := pb_some h
        obtain ⟨g1, g2⟩ := hf _ _ _ h3
        obtain ⟨k1, k2⟩ := pL_G hf g _ _ _ _ _ _ (JG_and hj g2) h4
        exact ⟨by omega, GS_le k2 (by omega)⟩
      · simp only [Prod.mk.injEq, Option.some.injEq] at h
        obtain ⟨rfl, rfl⟩ := h
        exact ⟨Nat.le_refl _, GS_le (JG_jn hj) (by omega)⟩
theorem pE_G {f : Nat → Nat × Option (List Int)} (hf : ∀ p q st, f p = (q, some st) → p ≤ q ∧ GS st (q - p)) {p q : Nat} {st : List Int} (h : pE t e f p = (q, some st)) : p ≤ q ∧ GS st (q - p) := by
  obtain ⟨q', st', h3, h4⟩ := pb_some h
  obtain ⟨g1, g2⟩ := hf _ _ _ h3
  obtain ⟨k1, k2⟩ := pL_G hf 120 [] st' q' q (q' - p) st (Or.inl ⟨rfl, g2⟩) h4
  exact ⟨by omega, GS_le k2 (by omega)⟩
theorem pF_G : ∀ (k p q : Nat) (st : List Int), pF t e k p = (q, some st) → p ≤ q ∧ GS st (q - p)
  | 0, p, q, st, h => by
    rw [pF] at h
    split at h
    · simp at h
    · exact pTest_G h
  | k + 1, p, q, st, h => by
    rw [pF] at h
    split at h
    · obtain ⟨q', st', h3, h4⟩ := pb_some h
      obtain ⟨g1, g2⟩ := pF_G k _ _ _ h3
      simp only [Prod.mk.injEq, Option.some.injEq] at h4
      obtain ⟨rfl, rfl⟩ := h4
      exact ⟨by omega, GS_le (GS_not g2) (by omega)⟩
    · split at h
      · obtain ⟨q', st', h3, h4⟩ := pb_some h
        obtain ⟨g1, g2⟩ := pE_G (fun p q st => pF_G k p q st) h3
        obtain ⟨q2, u, h5, h6⟩ := pb_some h4
        simp only [Prod.mk.injEq, Option.some.injEq] at h6
        obtain ⟨rfl, rfl⟩ := h6
        have : q2 = q' + 1 := by
          rw [pW] at h5
          split at h5
          · rw [pW] at h5
            simp only [Prod.mk.injEq] at h5
            omega
          · simp at h5
        exact ⟨by omega, GS_le g2 (by omega)⟩
      · exact pTest_G h
end PG
