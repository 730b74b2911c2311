/-! what stays well formed: ints in their range, cells that are there, kinds -/
theorem i_lo (a : Int32) : -2147483648 ≤ a.toInt := by have := a.le_toInt; omega
theorem i_hi (a : Int32) : a.toInt ≤ 2147483647 := by have := a.toInt_lt; omega
def rng (z : Int) : Prop := -2147483648 ≤ z ∧ z ≤ 2147483647
theorem i_rng (a : Int32) : rng a.toInt := ⟨i_lo a, i_hi a⟩
theorem wr_rng (z : Int) : rng (wr z) := i_rng _
theorem wr_id {z : Int} (h : -2147483648 ≤ z) (h2 : z ≤ 2147483647) : wr z = z := Int32.toInt_ofInt_of_le (by omega) (by omega)
theorem wr_of (z : Int) : Int32.ofInt (wr z) = Int32.ofInt z := Int32.ofInt_toInt _
theorem i_tI {z : Int} (h : rng z) : (Int32.ofInt z).toInt = z := Int32.toInt_ofInt_of_le (by have := h.1; omega) (by have := h.2; omega)
theorem i_lt {x y : Int} (hx : rng x) (hy : rng y) : Int32.ofInt x < Int32.ofInt y ↔ x < y := by
  rw [Int32.lt_iff_toInt_lt, i_tI hx, i_tI hy]
theorem i_le {x y : Int} (hx : rng x) (hy : rng y) : Int32.ofInt x ≤ Int32.ofInt y ↔ x ≤ y := by
  rw [Int32.le_iff_toInt_le, i_tI hx, i_tI hy]
theorem i_eq {x y : Int} (hx : rng x) (hy : rng y) : Int32.ofInt x = Int32.ofInt y ↔ x = y := by
  rw [← Int32.toInt_inj, i_tI hx, i_tI hy]
theorem rng_0 : rng 0 := ⟨by decide, by decide⟩
theorem i_max_rng {x y : Int} (hx : rng x) (hy : rng y) : rng (i_max x y) := by
  unfold i_max; split <;> assumption
theorem i_min_rng {x y : Int} (hx : rng x) (hy : rng y) : rng (i_min x y) := by
  unfold i_min; split <;> assumption
theorem i_abs_rng {x : Int} (hx : rng x) : rng (i_abs x) := by
  unfold i_abs; split
  · exact hx
  · exact wr_rng _
def wfv (n : Nat) : AV → Prop
  | .inl z => rng z
  | .inr (.inl k) => k < n
  | _ => True
def wfs (n : Nat) (l : List AV) : Prop := ∀ v ∈ l, wfv n v
def am_intk (k : Nat) : Prop := k = 100 ∨ k = 101 ∨ k = 110 ∨ k = 112
def wfk (w : AW) (k : Nat) : Prop := am_ln w k < 1000000 ∧ (∀ i, i < am_ln w k → wfv w.1 (am_ct w k i)) ∧ (am_kd w k < 11 → am_ln w k = am_nf (am_kd w k)) ∧ (am_intk (am_kd w k) → ∀ i, i < am_ln w k → ∃ z, am_ct w k i = vI z) ∧ (am_kd w k = 103 → ∀ i, i < am_ln w k → am_isref (am_ct w k i) = true) ∧ (am_kd w k = 120 → am_ln w k = 2) ∧ (k < 19 ↔ 110 ≤ am_kd w k) ∧ (am_kd w k < 11 ∨ am_intk (am_kd w k) ∨ am_kd w k = 103 ∨ am_kd w k = 120)
def wfw (w : AW) : Prop := 19 ≤ w.1 ∧ ∀ k, k < w.1 → wfk w k
def am_ext (w w' : AW) : Prop := w.1 ≤ w'.1 ∧ w.2.1 ≤ w'.2.1 ∧ ∀ k, k < w.1 → am_kd w' k = am_kd w k ∧ am_ln w' k = am_ln w k
theorem am_ext.rf {w : AW} : am_ext w w := ⟨Nat.le_refl _, Nat.le_refl _, fun _ _ => ⟨rfl, rfl⟩⟩
theorem am_ext.tr {a b c : AW} (h : am_ext a b) (g : am_ext b c) : am_ext a c := ⟨Nat.le_trans h.1 g.1, Nat.le_trans h.2.1 g.2.1, fun k hk => by
  have h1 := h.2.2 k hk
  have h2 := g.2.2 k (Nat.lt_of_lt_of_le hk h.1)
  exact ⟨h2.1.trans h1.1, h2.2.trans h1.2⟩⟩
theorem wfv.mono {n m : Nat} (hnm : n ≤ m) {v : AV} (h : wfv n v) : wfv m v := by
  rcases v with z | k | u | t
  · exact h
  · exact Nat.lt_of_lt_of_le h hnm
  · trivial
  · trivial
theorem wfs.mono {n m : Nat} (hnm : n ≤ m) {l : List AV} (h : wfs n l) : wfs m l := fun v hv => (h v hv).mono hnm
theorem wfs.nil {n : Nat} : wfs n [] := fun _ h => by cases h
theorem wfs.cons {n : Nat} {v : AV} {l : List AV} (h : wfv n v) (g : wfs n l) : wfs n (v :: l) := fun u hu => by
  rcases List.mem_cons.mp hu with rfl | q
  · exact h
  · exact g u q
theorem wfs.hd {n : Nat} {v : AV} {l : List AV} (h : wfs n (v :: l)) : wfv n v := h v List.mem_cons_self
theorem wfs.tl {n : Nat} {v : AV} {l : List AV} (h : wfs n (v :: l)) : wfs n l := fun u hu => h u (List.mem_cons_of_mem _ hu)
theorem wfs.app {n : Nat} {a b : List AV} (h : wfs n a) (g : wfs n b) : wfs n (a ++ b) := fun u hu => (List.mem_append.mp hu).elim (h u) (g u)
theorem wfs.set {n : Nat} {l : List AV} {k : Nat} {v : AV} (h : wfs n l) (g : wfv n v) : wfs n (l.set k v) := fun u hu => by
  rcases List.mem_or_eq_of_mem_set hu with q | rfl
  · exact h u q
  · exact g
theorem wfs.drop {n : Nat} {l : List AV} {k : Nat} (h : wfs n l) : wfs n (l.drop k) := fun u hu => h u (List.mem_of_mem_drop hu)
theorem wfs.takeR {n : Nat} {l : List AV} {k : Nat} (h : wfs n l) : wfs n (l.take k).reverse := fun u hu => h u (List.mem_of_mem_take (List.mem_reverse.mp hu))
theorem wfs.get {n : Nat} {l : List AV} {k : Nat} (h : wfs n l) : wfv n (lget l k) := by
  unfold lget
  rw [List.getD_eq_getElem?_getD]
  cases hk : l[k]? with
  | none => trivial
  | some v => exact h v (List.mem_of_getElem? hk)
theorem wfs.exp {n : Nat} : ∀ {l : List AV}, wfs n l → wfs n (am_exp l)
  | [], _ => wfs.nil
  | .inl z :: l, h => wfs.cons h.hd (wfs.exp h.tl)
  | .inr (.inl k) :: l, h => wfs.cons h.hd (wfs.exp h.tl)
  | .inr (.inr (.inl u)) :: l, h => wfs.cons (v := vL u) trivial (wfs.cons (v := vX 9) trivial (wfs.exp h.tl))
  | .inr (.inr (.inr t)) :: l, h => wfs.cons h.hd (wfs.exp h.tl)
theorem wfs.loc {n : Nat} {l : List AV} {k : Nat} (h : wfs n l) : wfs n (am_loc l k) := wfs.app (wfs.exp h) (fun u hu => by rw [(List.mem_replicate.mp hu).2]; trivial)
theorem wfw.put {w : AW} {k j : Nat} {v : AV} (h : wfw w) (hv : wfv w.1 v) (hi : am_intk (am_kd w k) → ∃ z, v = vI z) (hr : am_kd w k = 103 → am_isref v = true) : wfw (am_put w k j v) := by
  refine ⟨h.1, fun q hq => ?_⟩
  obtain ⟨h1, h2, h3, h4, h5, h6⟩ := h.2 q hq
  have key : ∀ i, am_ct (am_put w k j v) q i = if q = k ∧ i = j then v else am_ct w q i := by
    intro i
    unfold am_ct am_put
    dsimp only
    by_cases hqk : q = k
    · by_cases hij : i = j <;> simp [hqk, hij]
    · simp [hqk]
  refine ⟨h1, fun i hi' => ?_, h3, fun hk i hi' => ?_, fun hk i hi' => ?_, h6⟩
  · rw [key]
    split
    · exact hv
    · exact h2 i hi'
  · rw [key]
    split
    · rename_i c
      exact hi (c.1 ▸ hk)
    · exact h4 hk i hi'
  · rw [key]
    split
    · rename_i c
      exact hr (c.1 ▸ hk)
    · exact h5 hk i hi'
theorem am_ext.put {w : AW} {k j : Nat} {v : AV} : am_ext w (am_put w k j v) := ⟨Nat.le_refl _, Nat.le_refl _, fun _ _ => ⟨rfl, rfl⟩⟩
theorem wfw.cpy {w : AW} {k q sp dp n : Nat} (h : wfw w) (hk : k < w.1) (hkk : am_kd w k = 100) (hqk : am_kd w q = 100) (hs : sp + n ≤ am_ln w k) : wfw (am_cpy w k q sp dp n) := by
  refine ⟨h.1, fun x hx => ?_⟩
  obtain ⟨h1, h2, h3, h4, h5, h6⟩ := h.2 x hx
  obtain ⟨-, g2, -, g4, -⟩ := h.2 k hk
  have key : ∀ i, am_ct (am_cpy w k q sp dp n) x i = if x = q ∧ dp ≤ i ∧ i < dp + n then am_ct w k (sp + (i - dp)) else am_ct w x i := by
    intro i
    unfold am_ct am_cpy
    dsimp only
    by_cases hxq : x = q
    · by_cases hij : dp ≤ i ∧ i < dp + n <;> simp [hxq, hij]
    · simp [hxq]
  refine ⟨h1, fun i hi' => ?_, h3, fun hk' i hi' => ?_, fun hk' i hi' => ?_, h6⟩
  · rw [key]
    split
    · exact g2 _ (by omega)
    · exact h2 i hi'
  · rw [key]
    split
    · exact g4 (Or.inl hkk) _ (by omega)
    · exact h4 hk' i hi'
  · rw [key]
    split
    · rename_i c
      have hk'' : am_kd w x = 103 := hk'
      rw [c.1, hqk] at hk''
      cases hk''
    · exact h5 hk' i hi'
theorem am_ext.cpy {w : AW} {k q sp dp n : Nat} : am_ext w (am_cpy w k q sp dp n) := ⟨Nat.le_refl _, Nat.le_refl _, fun _ _ => ⟨rfl, rfl⟩⟩
theorem am_new_kd {w : AW} {kind len : Nat} {f : Nat → AV} (k : Nat) : am_kd (am_new w kind len f) k = if k = w.1 then kind else am_kd w k := rfl
theorem am_new_ln {w : AW} {kind len : Nat} {f : Nat → AV} (k : Nat) : am_ln (am_new w kind len f) k = if k = w.1 then len else am_ln w k := rfl
theorem am_new_ct {w : AW} {kind len : Nat} {f : Nat → AV} (k : Nat) : am_ct (am_new w kind len f) k = if k = w.1 then f else am_ct w k := rfl
theorem am_ext.new {w : AW} {kind len : Nat} {f : Nat → AV} : am_ext w (am_new w kind len f) := ⟨Nat.le_succ _, Nat.le_add_right _ _, fun k hk => by
  rw [am_new_kd, am_new_ln, if_neg (by omega), if_neg (by omega)]
  exact ⟨rfl, rfl⟩⟩
theorem wfw.new {w : AW} {kind len : Nat} {f : Nat → AV} (h : wfw w) (hl : len < 1000000) (hf : ∀ i, wfv w.1 (f i)) (h0 : kind < 11 → len = am_nf kind) (hi : am_intk kind → ∀ i, ∃ z, f i = vI z) (hr : kind = 103 → ∀ i, i < len → am_isref (f i) = true) (hk : kind < 11 ∨ kind = 100 ∨ kind = 101 ∨ kind = 103) : wfw (am_new w kind len f) := by
  refine ⟨Nat.le_succ_of_le h.1, fun q hq => ?_⟩
  unfold wfk
  rw [am_new_kd, am_new_ln, am_new_ct]
  by_cases hqn : q = w.1
  · rw [if_pos hqn, if_pos hqn, if_pos hqn]
    have h19 := h.1
    refine ⟨hl, fun i _ => (hf i).mono (Nat.le_succ _), h0, fun a i _ => hi a i, fun a i hi => hr a i hi, fun a => by omega, by omega, ?_⟩
    unfold am_intk
    omega
  · rw [if_neg hqn, if_neg hqn, if_neg hqn]
    have hq' : q < w.1 := by
      have hq2 : q < w.1 + 1 := hq
      omega
    obtain ⟨h1, h2, h3⟩ := h.2 q hq'
    exact ⟨h1, fun i hi' => (h2 i hi').mono (Nat.le_succ _), h3⟩
/-- what a step leaves -/
def wfr (w : AW) (a : AS) : Prop := match a with
  | .inl x => wfw x.2.2.2 ∧ wfs x.2.2.2.1 x.2.1 ∧ wfs x.2.2.2.1 x.2.2.1 ∧ am_ext w x.2.2.2
  | .inr (.inl r) => ∀ v, r = some v → wfv w.1 v
  | .inr (.inr x) => wfs w.1 x.2.1 ∧ wfs w.1 x.2.2.2
section WF
variable {pc : Nat} {ls st : List AV} {w : AW}
theorem wf_same (hw : wfw w) (hl : wfs w.1 ls) (hs : wfs w.1 st) : wfr w (.inl (pc, ls, st, w)) := ⟨hw, hl, hs, am_ext.rf⟩
theorem wf_b2 {f : Int → Int → Int} (hf : ∀ x y, rng x → rng y → rng (f x y)) (hw : wfw w) (hl : wfs w.1 ls) (hs : wfs w.1 st) : ∀ a, am_b2 f pc ls st w = some a → wfr w a := by
  intro a h
  unfold am_b2 at h
  split at h
  · cases h
    exact wf_same hw hl (wfs.cons (v := vI _) (hf _ _ hs.tl.hd hs.hd) hs.tl.tl)
  · cases h
theorem wf_d2 {f : Int → Int → Int} (hf : ∀ x y, rng x → rng y → rng (f x y)) (hw : wfw w) (hl : wfs w.1 ls) (hs : wfs w.1 st) : ∀ a, am_d2 f pc ls st w = some a → wfr w a := by
  intro a h
  unfold am_d2 at h
  split at h
  · split at h
    · cases h
    · cases h
      exact wf_same hw hl (wfs.cons (v := vI _) (hf _ _ hs.tl.hd hs.hd) hs.tl.tl)
  · cases h
theorem wf_m2 {f : Int → Int → Int} (hf : ∀ x y, rng x → rng y → rng (f x y)) (hw : wfw w) (hl : wfs w.1 ls) (hs : wfs w.1 st) : ∀ a, am_m2 f pc ls st w = some a → wfr w a := by
  intro a h
  unfold am_m2 at h
  split at h
  · split at h
    · cases h
      exact wf_same hw hl (wfs.cons (v := vI _) (hf _ _ hs.tl.hd hs.hd) hs.tl.tl)
    · cases h
  · cases h
theorem wf_un {f : Int → Int} (hf : ∀ x, rng x → rng (f x)) (hw : wfw w) (hl : wfs w.1 ls) (hs : wfs w.1 st) : ∀ a, am_un f pc ls st w = some a → wfr w a := by
  intro a h
  unfold am_un at h
  split at h
  · cases h
    exact wf_same hw hl (wfs.cons (v := vI _) (hf _ hs.hd) hs.tl)
  · cases h
theorem wf_m1 {f : Int → Int} (hf : ∀ x, rng x → rng (f x)) (hw : wfw w) (hl : wfs w.1 ls) (hs : wfs w.1 st) : ∀ a, am_m1 f pc ls st w = some a → wfr w a := by
  intro a h
  unfold am_m1 at h
  split at h
  · split at h
    · cases h
      exact wf_same hw hl (wfs.cons (v := vI _) (hf _ hs.hd) hs.tl)
    · cases h
  · cases h
theorem wf_br1 {q : Int → Bool} {off : Int} (hw : wfw w) (hl : wfs w.1 ls) (hs : wfs w.1 st) : ∀ a, am_br1 q off pc ls st w = some a → wfr w a := by
  intro a h
  unfold am_br1 at h
  split at h
  · cases h
    exact wf_same hw hl hs.tl
  · cases h
theorem wf_br2 {q : Int → Int → Bool} {off : Int} (hw : wfw w) (hl : wfs w.1 ls) (hs : wfs w.1 st) : ∀ a, am_br2 q off pc ls st w = some a → wfr w a := by
  intro a h
  unfold am_br2 at h
  split at h
  · cases h
    exact wf_same hw hl hs.tl.tl
  · cases h
theorem wf_ild {k n : Nat} (hw : wfw w) (hl : wfs w.1 ls) (hs : wfs w.1 st) : ∀ a, am_ild k n pc ls st w = some a → wfr w a := by
  intro a h
  unfold am_ild at h
  split at h
  · rename_i z hz
    cases h
    exact wf_same hw hl (wfs.cons (v := vI z) (by have := hl.get (k := k); rw [hz] at this; exact this) hs)
  · cases h
theorem wf_lld {k n : Nat} (hw : wfw w) (hl : wfs w.1 ls) (hs : wfs w.1 st) : ∀ a, am_lld k n pc ls st w = some a → wfr w a := by
  intro a h
  unfold am_lld at h
  split at h
  · cases h
    exact wf_same hw hl (wfs.cons (v := vL _) trivial hs)
  · cases h
theorem wf_ald {k n : Nat} (hw : wfw w) (hl : wfs w.1 ls) (hs : wfs w.1 st) : ∀ a, am_ald k n pc ls st w = some a → wfr w a := by
  intro a h
  unfold am_ald at h
  split at h
  · rename_i z hz
    cases h
    exact wf_same hw hl (wfs.cons (v := vR z) (by have := hl.get (k := k); rw [hz] at this; exact this) hs)
  · cases h
    exact wf_same hw hl (wfs.cons (v := vX 0) trivial hs)
  · cases h
theorem wf_ist {k n : Nat} (hw : wfw w) (hl : wfs w.1 ls) (hs : wfs w.1 st) : ∀ a, am_ist k n pc ls st w = some a → wfr w a := by
  intro a h
  unfold am_ist at h
  split at h
  · split at h
    · cases h
      exact wf_same hw (hl.set (v := vI _) hs.hd) hs.tl
    · cases h
  · cases h
theorem wf_ast {k n : Nat} (hw : wfw w) (hl : wfs w.1 ls) (hs : wfs w.1 st) : ∀ a, am_ast k n pc ls st w = some a → wfr w a := by
  intro a h
  unfold am_ast at h
  split at h
  · split at h
    · cases h
      exact wf_same hw (hl.set (v := vR _) hs.hd) hs.tl
    · cases h
  · split at h
    · cases h
      exact wf_same hw (hl.set (v := vX 0) trivial) hs.tl
    · cases h
  · cases h
theorem wf_iinc {k : Nat} {c : Int} (hw : wfw w) (hl : wfs w.1 ls) (hs : wfs w.1 st) : ∀ a, am_iinc k c pc ls st w = some a → wfr w a := by
  intro a h
  unfold am_iinc at h
  split at h
  · split at h
    · cases h
      exact wf_same hw (hl.set (v := vI _) (wr_rng _)) hs
    · cases h
  · cases h
theorem am_in_lt {i : Int} {n : Nat} (h : am_in i n = true) : 0 ≤ i ∧ i < n ∧ i.toNat < n := by
  unfold am_in at h
  simp only [Bool.and_eq_true, decide_eq_true_eq] at h
  omega
theorem wf_ct {k i : Nat} (hw : wfw w) (hk : k < w.1) (hi : i < am_ln w k) : wfv w.1 (am_ct w k i) := (hw.2 k hk).2.1 i hi
theorem wf_iload (hw : wfw w) (hl : wfs w.1 ls) (hs : wfs w.1 st) : ∀ a, am_iload pc ls st w = some a → wfr w a := by
  intro a h
  unfold am_iload at h
  split at h
  · split at h
    · rename_i c
      cases h
      exact wf_same hw hl (wfs.cons (wf_ct hw hs.tl.hd (am_in_lt c.2).2.2) hs.tl.tl)
    · cases h
  · cases h
theorem wf_bload (hw : wfw w) (hl : wfs w.1 ls) (hs : wfs w.1 st) : ∀ a, am_bload pc ls st w = some a → wfr w a := by
  intro a h
  unfold am_bload at h
  split at h
  · split at h
    · rename_i c
      cases h
      exact wf_same hw hl (wfs.cons (wf_ct hw hs.tl.hd (am_in_lt c.2).2.2) hs.tl.tl)
    · cases h
  · cases h
theorem wf_aload (hw : wfw w) (hl : wfs w.1 ls) (hs : wfs w.1 st) : ∀ a, am_aload pc ls st w = some a → wfr w a := by
  intro a h
  unfold am_aload at h
  split at h
  · split at h
    · rename_i c
      cases h
      exact wf_same hw hl (wfs.cons (wf_ct hw hs.tl.hd (am_in_lt c.2).2.2) hs.tl.tl)
    · cases h
  · cases h
theorem wf_istore (hw : wfw w) (hl : wfs w.1 ls) (hs : wfs w.1 st) : ∀ a, am_istore pc ls st w = some a → wfr w a := by
  intro a h
  unfold am_istore at h
  split at h
  · split at h
    · rename_i c
      cases h
      exact ⟨hw.put (v := vI _) hs.hd (fun _ => ⟨_, rfl⟩) (fun q => by rw [c.1] at q; cases q), hl, hs.tl.tl.tl, am_ext.put⟩
    · cases h
  · cases h
theorem wf_bstore (hw : wfw w) (hl : wfs w.1 ls) (hs : wfs w.1 st) : ∀ a, am_bstore pc ls st w = some a → wfr w a := by
  intro a h
  unfold am_bstore at h
  split at h
  · split at h
    · rename_i c
      cases h
      exact ⟨hw.put (v := vI _) hs.hd (fun _ => ⟨_, rfl⟩) (fun q => by rw [c.1] at q; cases q), hl, hs.tl.tl.tl, am_ext.put⟩
    · cases h
  · cases h
theorem wf_astore (hw : wfw w) (hl : wfs w.1 ls) (hs : wfs w.1 st) : ∀ a, am_astore pc ls st w = some a → wfr w a := by
  intro a h
  unfold am_astore at h
  split at h
  · split at h
    · rename_i c
      cases h
      exact ⟨hw.put (v := vR _) hs.hd (fun q => by rw [c.1] at q; unfold am_intk at q; omega) (fun _ => rfl), hl, hs.tl.tl.tl, am_ext.put⟩
    · cases h
  · cases h
theorem wf_alen (hw : wfw w) (hl : wfs w.1 ls) (hs : wfs w.1 st) : ∀ a, am_alen pc ls st w = some a → wfr w a := by
  intro a h
  unfold am_alen at h
  split at h
  · split at h
    · cases h
      refine wf_same hw hl (wfs.cons (v := vI _) ?_ hs.tl)
      have := (hw.2 _ hs.hd).1
      exact ⟨by omega, by omega⟩
    · cases h
  · cases h
theorem wf_null {q : Bool} {off : Int} (hw : wfw w) (hl : wfs w.1 ls) (hs : wfs w.1 st) : ∀ a, am_null q off pc ls st w = some a → wfr w a := by
  intro a h
  unfold am_null at h
  split at h
  · cases h
    exact wf_same hw hl hs.tl
  · cases h
    exact wf_same hw hl hs.tl
  · cases h
theorem wf_tsw {d lo hi : Int} {offs : Array Int} (hw : wfw w) (hl : wfs w.1 ls) (hs : wfs w.1 st) : ∀ a, am_tsw d lo hi offs pc ls st w = some a → wfr w a := by
  intro a h
  unfold am_tsw at h
  split at h
  · split at h
    · cases h
      exact wf_same hw hl hs.tl
    · split at h
      · cases h
        exact wf_same hw hl hs.tl
      · cases h
  · cases h
theorem wf_lsw {d : Int} {ps : Array (Int × Int)} (hw : wfw w) (hl : wfs w.1 ls) (hs : wfs w.1 st) : ∀ a, am_lsw d ps pc ls st w = some a → wfr w a := by
  intro a h
  unfold am_lsw at h
  split at h
  · cases h
    exact wf_same hw hl hs.tl
  · cases h
theorem wf_l2 {f : Int64 → Int64 → Int64} (hw : wfw w) (hl : wfs w.1 ls) (hs : wfs w.1 st) : ∀ a, am_l2 f pc ls st w = some a → wfr w a := by
  intro a h
  unfold am_l2 at h
  split at h
  · cases h
    exact wf_same hw hl (wfs.cons (v := vL _) trivial hs.tl.tl)
  · cases h
theorem wf_ls {f : Int64 → Int → Int64} (hw : wfw w) (hl : wfs w.1 ls) (hs : wfs w.1 st) : ∀ a, am_ls f pc ls st w = some a → wfr w a := by
  intro a h
  unfold am_ls at h
  split at h
  · cases h
    exact wf_same hw hl (wfs.cons (v := vL _) trivial hs.tl.tl)
  · cases h
theorem wf_getf {c j : Nat} (hc : c < 11 ∧ j < am_nf c ∨ c = 120 ∧ j < 2) (hw : wfw w) (hl : wfs w.1 ls) (hs : wfs w.1 st) : ∀ a, am_getf c j pc ls st w = some a → wfr w a := by
  intro a h
  unfold am_getf at h
  split at h
  · split at h
    · rename_i k r q
      cases h
      refine wf_same hw hl (wfs.cons (wf_ct hw hs.hd ?_) hs.tl)
      obtain ⟨-, -, g3, -, -, g6, -⟩ := hw.2 _ hs.hd
      rcases hc with ⟨h1, h2⟩ | ⟨h1, h2⟩
      · rw [g3 (by omega), q]; exact h2
      · rw [g6 (by omega)]; exact h2
    · cases h
  · cases h
theorem am_fit_isref {ty : Nat} {v : AV} (h : am_fit ty v = true) (h2 : 2 ≤ ty) : am_isref v = true := by
  match ty, h2 with
  | k + 2, _ => exact h
theorem wf_putf {c j : Nat} (hc : c < 11 ∧ j < am_nf c) (hw : wfw w) (hl : wfs w.1 ls) (hs : wfs w.1 st) : ∀ a, am_putf c j pc ls st w = some a → wfr w a := by
  intro a h
  unfold am_putf at h
  split at h
  · split at h
    · rename_i v k r q
      cases h
      refine ⟨hw.put hs.hd (fun x => ?_) (fun x => ?_), hl, hs.tl.tl, am_ext.put⟩
      · rw [q.1] at x; unfold am_intk at x; omega
      · rw [q.1] at x; omega
    · cases h
  · cases h
theorem wf_newa {c n : Nat} {v : Nat → Nat → AV} (hc : (c = 100 ∨ c = 101) ∧ v = (fun _ _ => vI 0) ∨ c = 103 ∧ v = (fun z j => if j < z then vX 0 else vI 0)) (hw : wfw w) (hl : wfs w.1 ls) (hs : wfs w.1 st) : ∀ a, am_newa c pc n v ls st w = some a → wfr w a := by
  intro a h
  unfold am_newa at h
  split at h
  · split at h
    · rename_i z r q
      cases h
      refine ⟨hw.new (by omega) (fun i => ?_) (fun x => ?_) (fun x => ?_) (fun x => ?_) (by omega), hl.mono (Nat.le_succ _), wfs.cons (v := vR _) (Nat.lt_succ_self _) (hs.tl.mono (Nat.le_succ _)), am_ext.new⟩
      · rcases hc with ⟨-, rfl⟩ | ⟨-, rfl⟩
        · exact rng_0
        · show wfv _ (if _ then _ else _)
          split
          · trivial
          · exact rng_0
      · omega
      · rcases hc with ⟨-, rfl⟩ | ⟨rfl, -⟩
        · exact fun _ => ⟨0, rfl⟩
        · unfold am_intk at x; omega
      · rcases hc with ⟨c1, -⟩ | ⟨-, rfl⟩
        · omega
        · intro i hi
          show am_isref (if _ then _ else _) = true
          rw [if_pos hi]
          rfl
    · cases h
  · cases h
theorem wf_acopy (hw : wfw w) (hl : wfs w.1 ls) (hs : wfs w.1 st) : ∀ a, am_acopy pc ls st w = some a → wfr w a := by
  intro a h
  unfold am_acopy at h
  split at h
  · split at h
    · rename_i q
      cases h
      obtain ⟨q1, q2, q3, q4, q5, q6, q7, -⟩ := q
      refine ⟨hw.cpy hs.tl.tl.tl.tl.hd q1 q2 ?_, hl, hs.tl.tl.tl.tl.tl, am_ext.cpy⟩
      omega
    · cases h
  · cases h
theorem wf_objinit (hw : wfw w) (hl : wfs w.1 ls) (hs : wfs w.1 st) : ∀ a, am_objinit pc ls st w = some a → wfr w a := by
  intro a h
  unfold am_objinit at h
  split at h
  · split at h
    · cases h
      exact wf_same hw hl hs.tl
    · cases h
  · cases h
theorem wf_inv {q : Bool} {N n : Nat} (hs : wfs w.1 st) : ∀ a, am_inv q N n pc st w = some a → wfr w a := by
  intro a h
  unfold am_inv at h
  split at h
  · split at h
    · cases h
      exact ⟨(hs.takeR).loc, hs.drop⟩
    · cases h
  · split at h
    · rename_i k r e
      split at h
      · cases h
        have hd := hs.drop (k := n)
        rw [e] at hd
        exact ⟨(wfs.cons (v := vR k) hd.hd hs.takeR).loc, hd.tl⟩
      · cases h
    · cases h
theorem wf_dup (hw : wfw w) (hl : wfs w.1 ls) (hs : wfs w.1 st) : ∀ a, am_dup pc ls st w = some a → wfr w a := by
  intro a h
  unfold am_dup at h
  split at h
  · split at h
    · cases h
    · cases h
      exact wf_same hw hl (wfs.cons hs.hd hs)
  · cases h
theorem wf_dup2 (hw : wfw w) (hl : wfs w.1 ls) (hs : wfs w.1 st) : ∀ a, am_dup2 pc ls st w = some a → wfr w a := by
  intro a h
  unfold am_dup2 at h
  split at h
  · split at h
    · cases h
    · cases h
      exact wf_same hw hl (wfs.cons hs.hd (wfs.cons hs.tl.hd hs))
  · cases h
theorem wf_pop (hw : wfw w) (hl : wfs w.1 ls) (hs : wfs w.1 st) : ∀ a, am_pop pc ls st w = some a → wfr w a := by
  intro a h
  unfold am_pop at h
  split at h
  · split at h
    · cases h
    · cases h
      exact wf_same hw hl hs.tl
  · cases h
end WF
theorem am_dflt_wf {n c j : Nat} : wfv n (am_dflt c j) := by
  unfold am_dflt
  split
  · exact rng_0
  · exact rng_0
  · trivial
