/-! the cells behind the constructors, and the run to them (printed by wip/whole/gen_con.py) -/
def k_c1 : List CC := [(9, 10, [vR 20, vR 77, vR 134, vR 139, vR 142, vR 145, vR 146, vR 147, vR 150, vI 0]), (8, 17, [vI 0, vI 2, vI 0, vI 0, vI 0, vI 0, vR 21, vR 23, vR 25, vR 27, vR 28, vR 29, vR 30, vR 31, vR 32, vR 45, vR 52]), (5, 2, [vR 22, vI 0]), (100, 120, []), (5, 2, [vR 24, vI 0]), (100, 8, []), (5, 2, [vR 26, vI 0]), (100, 8, []), (100, 32, []), (100, 3, [vI (-1), vI (-1), vI (-1)]), (100, 3, []), (100, 3, []), (100, 768, []), (103, 6, [vR 33, vR 35, vR 37, vR 39, vR 41, vR 43]), (5, 2, [vR 34, vI 0]), (100, 120, []), (5, 2, [vR 36, vI 0]), (100, 120, []), (5, 2, [vR 38, vI 0]), (100, 120, []), (5, 2, [vR 40, vI 0]), (100, 120, []), (5, 2, [vR 42, vI 0]), (100, 120, []), (5, 2, [vR 44, vI 0]), (100, 120, []), (103, 3, [vR 46, vR 48, vR 50]), (5, 2, [vR 47, vI 0]), (100, 8, []), (5, 2, [vR 49, vI 0]), (100, 8, []), (5, 2, [vR 51, vI 0]), (100, 8, []), (103, 12, [vR 53, vR 55, vR 57, vR 59, vR 61, vR 63, vR 65, vR 67, vR 69, vR 71, vR 73, vR 75]), (5, 2, [vR 54, vI 0]), (100, 8, []), (5, 2, [vR 56, vI 0]), (100, 8, []), (5, 2, [vR 58, vI 0]), (100, 8, []), (5, 2, [vR 60, vI 0]), (100, 8, []), (5, 2, [vR 62, vI 0]), (100, 8, []), (5, 2, [vR 64, vI 0]), (100, 8, []), (5, 2, [vR 66, vI 0]), (100, 8, []), (5, 2, [vR 68, vI 0]), (100, 8, []), (5, 2, [vR 70, vI 0]), (100, 8, []), (5, 2, [vR 72, vI 0]), (100, 8, []), (5, 2, [vR 74, vI 0]), (100, 8, []), (5, 2, [vR 76, vI 0]), (100, 8, []), (8, 17, [vI 0, vI 2, vI 0, vI 0, vI 0, vI 0, vR 78, vR 80, vR 82, vR 84, vR 85, vR 86, vR 87, vR 88, vR 89, vR 102, vR 109]), (5, 2, [vR 79, vI 0]), (100, 120, []), (5, 2, [vR 81, vI 0]), (100, 8, []), (5, 2, [vR 83, vI 0]), (100, 8, []), (100, 32, []), (100, 3, [vI (-1), vI (-1), vI (-1)]), (100, 3, []), (100, 3, []), (100, 768, []), (103, 6, [vR 90, vR 92, vR 94, vR 96, vR 98, vR 100]), (5, 2, [vR 91, vI 0]), (100, 120, []), (5, 2, [vR 93, vI 0]), (100, 120, []), (5, 2, [vR 95, vI 0]), (100, 120, []), (5, 2, [vR 97, vI 0]), (100, 120, []), (5, 2, [vR 99, vI 0]), (100, 120, []), (5, 2, [vR 101, vI 0]), (100, 120, []), (103, 3, [vR 103, vR 105, vR 107]), (5, 2, [vR 104, vI 0]), (100, 8, []), (5, 2, [vR 106, vI 0]), (100, 8, []), (5, 2, [vR 108, vI 0]), (100, 8, []), (103, 12, [vR 110, vR 112, vR 114, vR 116, vR 118, vR 120, vR 122, vR 124, vR 126, vR 128, vR 130, vR 132]), (5, 2, [vR 111, vI 0]), (100, 8, []), (5, 2, [vR 113, vI 0]), (100, 8, []), (5, 2, [vR 115, vI 0]), (100, 8, []), (5, 2, [vR 117, vI 0]), (100, 8, []), (5, 2, [vR 119, vI 0]), (100, 8, []), (5, 2, [vR 121, vI 0]), (100, 8, []), (5, 2, [vR 123, vI 0]), (100, 8, []), (5, 2, [vR 125, vI 0]), (100, 8, []), (5, 2, [vR 127, vI 0]), (100, 8, []), (5, 2, [vR 129, vI 0]), (100, 8, []), (5, 2, [vR 131, vI 0]), (100, 8, []), (5, 2, [vR 133, vI 0]), (100, 8, []), (4, 10, [vR 20, vR 135, vR 136, vR 137, vI 0, vR 138, vI 0, vI 0, vI 0, vI 0]), (100, 10, []), (100, 10, []), (100, 10, []), (100, 0, []), (1, 5, [vR 20, vR 140, vR 141, vI 0, vI (-1)]), (100, 8, []), (100, 65536, []), (3, 3, [vR 20, vR 139, vR 143]), (5, 2, [vR 144, vI 0]), (100, 8, []), (2, 5, [vR 20, vR 139, vI 0, vI 0, vI 0]), (6, 6, [vR 20, vI 0, vI 0, vI 0, vI 0, vI 0]), (7, 3, [vR 20, vR 148, vR 149]), (100, 96, []), (100, 64, []), (0, 5, [vR 151, vI 0, vI 0, vI 0, vI 0]), (5, 2, [vR 152, vI 0]), (100, 20, [])]
def k_d2 : List CC := [(10, 29, [vI 0, vR 154, vR 155, vI 0, vI 0, vI 0, vI 0, vI 0, vI 0, vR 156, vR 157, vR 158, vR 159, vR 160, vI 0, vI 0, vI 0, vI 0, vI 0, vI 0, vR 161, vR 162, vR 163, vI 0, vR 164, vI 0, vI 0, vI 0, vI 0]), (100, 1580, [vI 0, vI 0, vI 2, vI 0, vI 0, vI 0, vI 0, vI 0, vI 0, vI 0, vI 0, vI 0, vI 0, vI 0, vI 0, vI 0, vI 0, vI 0, vI 0, vI 0, vI 0, vI 0, vI 0, vI 0, vI 0, vI 0, vI 0, vI 0, vI 0, vI 0, vI 0, vI 0, vI 0, vI 0, vI 0, vI 0, vI 0, vI 0, vI 0, vI 0, vI 0, vI 0, vI 0, vI 0, vI 0, vI 0, vI 0, vI 0, vI 0, vI 0, vI 0, vI 0, vI 0, vI 0, vI 0, vI 0, vI 0, vI 0, vI 0, vI 0, vI 0, vI 0, vI 0, vI 0, vI 0, vI 0, vI 0, vI 0, vI 0, vI 0, vI 0, vI 0, vI 0, vI 0, vI 0, vI 0, vI 0, vI 0, vI 0, vI 0, vI 0, vI 0, vI 0, vI 0, vI 0, vI 0, vI 0, vI 0, vI 0, vI 0, vI 0, vI 0, vI 0, vI 0, vI 0, vI 0, vI 0, vI 0, vI 0, vI 0, vI 0, vI 0, vI 0, vI 0, vI 0, vI 0, vI 0, vI 0, vI 0, vI 0, vI 0, vI 0, vI 0, vI 0, vI 0, vI 0, vI 0, vI 0, vI 0, vI 0, vI 0, vI 0, vI 0, vI 0, vI 0, vI 0, vI 0, vI 0, vI 0, vI 0, vI 0, vI 0, vI 0, vI 0, vI 0, vI 0, vI 0, vI 0, vI 0, vI 0, vI 0, vI 0, vI 0, vI 0, vI 0, vI 0, vI 0, vI 0, vI 0, vI 0, vI 0, vI 0, vI 0, vI 0, vI (-1), vI (-1), vI (-1)]), (100, 1580, []), (101, 64, []), (100, 768, []), (100, 65536, []), (100, 65536, []), (100, 65536, []), (100, 8, []), (100, 8, []), (100, 8, []), (100, 20, [])]
def k_c2 : List CC := k_c1 ++ k_d2
def k_oc (a : Nat) : CC := (a, am_nf a, (List.range (am_nf a)).map (am_dflt a))
def k_veq : AV → AV → Bool
  | .inl a, .inl b => decide (a = b)
  | .inr (.inl a), .inr (.inl b) => decide (a = b)
  | .inr (.inr (.inr a)), .inr (.inr (.inr b)) => decide (a = b)
  | _, _ => false
theorem k_veq_ok : ∀ {u v : AV}, k_veq u v = true → u = v
  | .inl a, .inl b, h => congrArg Sum.inl (of_decide_eq_true h)
  | .inr (.inl a), .inr (.inl b), h => congrArg (fun x => Sum.inr (Sum.inl x)) (of_decide_eq_true h)
  | .inr (.inr (.inr a)), .inr (.inr (.inr b)), h => congrArg (fun x => Sum.inr (Sum.inr (Sum.inr x))) (of_decide_eq_true h)
  | .inl _, .inr _, h => by cases h
  | .inr (.inl _), .inl _, h => by cases h
  | .inr (.inr (.inl _)), .inl _, h => by cases h
  | .inr (.inr (.inr _)), .inl _, h => by cases h
  | .inr (.inl _), .inr (.inr _), h => by cases h
  | .inr (.inr (.inl _)), .inr (.inl _), h => by cases h
  | .inr (.inr (.inr _)), .inr (.inl _), h => by cases h
  | .inr (.inr (.inl _)), .inr (.inr (.inl _)), h => by cases h
  | .inr (.inr (.inl _)), .inr (.inr (.inr _)), h => by cases h
  | .inr (.inr (.inr _)), .inr (.inr (.inl _)), h => by cases h
def k_leq : List AV → List AV → Bool
  | [], [] => true
  | a :: l, b :: r => k_veq a b && k_leq l r
  | _, _ => false
theorem k_leq_ok : ∀ {l r : List AV}, k_leq l r = true → l = r
  | [], [], _ => rfl
  | a :: l, b :: r, h => by
    rw [k_leq, Bool.and_eq_true] at h
    rw [k_veq_ok h.1, k_leq_ok h.2]
  | [], _ :: _, h => by cases h
  | _ :: _, [], h => by cases h
def k_ceq : List CC → List CC → Bool
  | [], [] => true
  | a :: l, b :: r => Nat.beq a.1 b.1 && Nat.beq a.2.1 b.2.1 && k_leq a.2.2 b.2.2 && k_ceq l r
  | _, _ => false
theorem k_ceq_ok : ∀ {l r : List CC}, k_ceq l r = true → l = r
  | [], [], _ => rfl
  | (a1, a2, a3) :: l, (b1, b2, b3) :: r, h => by
    rw [k_ceq, Bool.and_eq_true, Bool.and_eq_true, Bool.and_eq_true] at h
    obtain ⟨⟨⟨h1, h2⟩, h3⟩, h4⟩ := h
    have e1 : a1 = b1 := Nat.eq_of_beq_eq_true h1
    have e2 : a2 = b2 := Nat.eq_of_beq_eq_true h2
    have e3 : a3 = b3 := k_leq_ok h3
    rw [e1, e2, e3, k_ceq_ok h4]
  | [], _ :: _, h => by cases h
  | _ :: _, [], h => by cases h
def k_req (o : Option (Option AV × List CC)) (cs : List CC) : Bool := match o with
  | some (none, c) => k_ceq c cs
  | _ => false
theorem k_req_ok : ∀ {o : Option (Option AV × List CC)} {cs : List CC}, k_req o cs = true → o = some (none, cs)
  | some (none, c), cs, h => by rw [k_ceq_ok (show k_ceq c cs = true from h)]
  | some (some _, _), _, h => by cases h
  | none, _, h => by cases h
theorem k_run1 : k_exec 3000 59 0 0 (am_loc [vR 19] 1) [] [k_oc 9] = some (none, k_c1) := k_req_ok (by decide +kernel)
theorem k_run2 : k_exec 3000 59 143 0 (am_loc [vR 153] 2) [] (k_c1 ++ [k_oc 10]) = some (none, k_c2) := k_req_ok (by decide +kernel)
