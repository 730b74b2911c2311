/-! each instruction of the abstract machine is the real one's -/
def am_tbl : List Jvm.Cond := lw_tbl.filter goodWord
theorem am_tw {w : Jvm.Cond} (h : w ∈ lw_tbl) (g : goodWord w = true) : w ∈ am_tbl := List.mem_filter.mpr ⟨h, g⟩
theorem am_twi {w : Jvm.Cond} {i : Nat} (h : am_at i w = true) (g : goodWord w = true) : w ∈ am_tbl := am_tw (am_at_mem h) g
def am_nestw : Jvm.Cond → Bool
  | .methodLinkNest _ _ _ _ => true
  | .fieldLinkNest _ _ _ _ _ _ => true
  | _ => false
/-- what is fixed: the classes' numbers and slots; the array classes; the least address of ours; the carried reference; the cells that nobody writes: addresses, kinds, lengths, contents -/
abbrev AG := va_G × ClassId × ClassId × ClassId × Nat × Value × (Nat → Nat) × (Nat → Nat) × (Nat → Nat) × (Nat → Nat → AV)
def gD (G : AG) : va_G := G.1
def gI (G : AG) : ClassId := G.2.1
def gZ (G : AG) : ClassId := G.2.2.1
def gR (G : AG) : ClassId := G.2.2.2.1
def gB (G : AG) : Nat := G.2.2.2.2.1
def gF (G : AG) : Value := G.2.2.2.2.2.1
def gA (G : AG) : Nat → Nat := G.2.2.2.2.2.2.1
def gK (G : AG) : Nat → Nat := G.2.2.2.2.2.2.2.1
def gL (G : AG) : Nat → Nat := G.2.2.2.2.2.2.2.2.1
def gC (G : AG) : Nat → Nat → AV := G.2.2.2.2.2.2.2.2.2
/-- our addresses -/
def gP (G : AG) : Nat → Prop := fun q => gB G ≤ q
def am_tys (G : AG) : List (ClassId × FieldType) := [(gI G, .int), (gZ G, .boolean), (gR G, .object "WallPicks$Row")]
def am_str (i : Nat) : String × Nat × String := am_sts.getD i ("", 0, "")
/-- what the tables say, at a state -/
def am_K (G : AG) (U : State) : Prop := va_K (gD G) am_cl (am_tys G) U ∧ va_AO "WallPicks$Row" U ∧ (∀ w ∈ lw_tbl, am_nestw w = true → va_Nw w U) ∧ ∀ i, i < 8 → vk_R (am_str i).1 (am_str i).2.1 (am_str i).2.2 (gA G (3 + i)) U
theorem am_K.same {G : AG} {u U : State} (hv : U.vm = u.vm) (h : am_K G u) : am_K G U := by
  obtain ⟨h1, h2, h3, h4⟩ := h
  have ha : u.vm.Alike U.vm := by rw [hv]; exact Vm.Alike.refl _
  refine ⟨h1.moved ha, h2.moved ha, fun w hw hn => ?_, fun i hi => (h4 i hi).same hv⟩
  refine va_Nw.same ?_ hv.symm (h3 w hw hn)
  cases w <;> first | rfl | cases hn
theorem am_K.warm {G : AG} {s U : State} (hW : s.WarmedH U.vm) (h : am_K G s) : am_K G U := by
  obtain ⟨h1, h2, h3, h4⟩ := h
  refine ⟨h1.moved hW.alike, h2.moved hW.alike, fun w hw hn => ?_, fun i hi => (h4 i hi).warm hW⟩
  have h5 := h3 w hw hn
  cases w <;> first | exact va_Nw.warmM hW h5 | exact va_Nw.warmF hW h5 | cases hn
def am_roc (G : AG) (U : State) (H : Heap) (k : Nat) : Prop := (gK G k = 110 → va_T .int (gA G k) (gL G k) (fun j => cv (gA G) (gF G) (gC G k j)) (gP G) U H) ∧ (gK G k = 112 → va_T .byte (gA G k) (gL G k) (fun j => cv (gA G) (gF G) (gC G k j)) (gP G) U H) ∧
  (gK G k = 120 → va_O "java/lang/String" (gA G k) (gP G) U H ∧ va_OF "java/lang/String" "value" "[B" (cv (gA G) (gF G) (gC G k 0)) (gA G k) (gP G) U H ∧ va_OF "java/lang/String" "coder" "B" (cv (gA G) (gF G) (gC G k 1)) (gA G k) (gP G) U H)
/-- the statics and the cells that nobody writes -/
def am_Z (G : AG) (U : State) (H : Heap) : Prop := va_Z "java/lang/String" "COMPACT_STRINGS" "Z" (.int 1) (gP G) U H ∧ va_Z "WallPicks" "BODIES" "[I" (.ref (gA G 1)) (gP G) U H ∧ va_Z "WallPicks" "ABOVE" "[I" (.ref (gA G 2)) (gP G) U H ∧ va_Z "jdk/internal/util/Preconditions" "SIOOBE_FORMATTER" "Ljava/util/function/BiFunction;" (gF G) (gP G) U H ∧ ∀ k, k < 19 → am_roc G U H k
theorem am_Z.moved {G : AG} {u U : State} {H : Heap} (hvm : u.vm.Alike U.vm) (h : am_Z G u H) : am_Z G U H := by
  obtain ⟨h1, h2, h3, h4, h5⟩ := h
  refine ⟨h1.moved hvm, h2.moved hvm, h3.moved hvm, h4.moved hvm, fun k hk => ?_⟩
  obtain ⟨g1, g2, g3⟩ := h5 k hk
  exact ⟨fun q => (g1 q).moved hvm, fun q => (g2 q).moved hvm, fun q => ⟨(g3 q).1.moved hvm, (g3 q).2.1.moved hvm, (g3 q).2.2.moved hvm⟩⟩
theorem am_Z.kept {G : AG} {U : State} {H H1 : Heap} (h : am_Z G U H) (hq : ∀ a : Nat, a < H.size → ¬ gP G a → H1[a]? = H[a]?) : am_Z G U H1 := by
  obtain ⟨h1, h2, h3, h4, h5⟩ := h
  refine ⟨h1.kept hq, h2.kept hq, h3.kept hq, h4.kept hq, fun k hk => ?_⟩
  obtain ⟨g1, g2, g3⟩ := h5 k hk
  exact ⟨fun q => (g1 q).kept hq, fun q => (g2 q).kept hq, fun q => ⟨(g3 q).1.kept hq, (g3 q).2.1.kept hq, (g3 q).2.2.kept hq⟩⟩
/-- the context of a method's walk -/
def am_Cx (G : AG) (M : Nat) (p : Program) (s : State) (m : MethodId) (args : Array Value) (meth : Method) (c : Code) : Prop :=
  p.tables.exec = Jvm.exec ∧ c.code = am_code M ∧ c.maxLocals = am_maxl M ∧ s.vm.findClass (am_cn (am_own M)) = some m.cls ∧ (∀ w ∈ am_tbl, w.before args s = true) ∧ meth.name = (am_y M).name ∧ am_K G s ∧ am_Z G s s.heap ∧ gB G ≤ s.heap.size ∧ (gF G).category = 1 ∧ (∀ k, k < 19 → ∀ i, wfv 19 (gC G k i))
/-- the unwritten cells in a world -/
def am_R0 (G : AG) (w : AW) (ad : Nat → Nat) : Prop := ∀ k, k < 19 → am_kd w k = gK G k ∧ am_ln w k = gL G k ∧ (∀ i, am_ct w k i = gC G k i) ∧ ad k = gA G k
/-- the world in the heap -/
def am_At (G : AG) (w : AW) (ad : Nat → Nat) (s : State) (H : Heap) (locs : List Loc) : Prop := wfw w ∧ am_R0 G w ad ∧ va_P (gD G) am_cl (am_ws (gI G) (gZ G) (gR G) (gF G) w ad) H ∧ va_D (gP G) (am_ws (gI G) (gZ G) (gR G) (gF G) w ad) ∧ va_S (gP G) s.heap H locs
/-- from the next state it goes on -/
def am_Nx (G : AG) (p : Program) (l : Launch) (e : Env) (R : Room) (s : State) (m : MethodId) (args : Array Value) (below : List Frame) (meth : Method) (c : Code) (cells slots : Nat) (Q : State → Prop) (w : AW) (ad : Nat → Nat) (pc' : Nat) (al' ast' : List AV) (w' : AW) : Prop :=
  ∀ ad' H' locs' ls', (∀ k, k < w.1 → ad' k = ad k) → am_At G w' ad' s H' locs' → am_L ad' (gF G) ls' al' → W p l e R s m args below meth c H' locs' (cells + (w'.1 - w.1)) (slots + (w'.2.1 - w.2.1)) Q (F0 m pc' ls' (ast'.map (cv ad' (gF G))))
section SW
variable {G : AG} {M : Nat} {p : Program} {l : Launch} {e : Env} {R : Room} {s : State} {m : MethodId} {args : Array Value} {below : List Frame} {meth : Method} {c : Code} {H : Heap} {locs : List Loc} {cells slots : Nat} {Q : State → Prop} {w w' : AW} {ad : Nat → Nat} {pc pc' : Nat} {al al' ast ast' : List AV} {ls : Array Slot}
theorem am_Nx.upd (kk : am_Nx G p l e R s m args below meth c cells slots Q w ad pc' al' ast' w') (h1 : w'.1 = w.1) (h2 : w'.2.1 = w.2.1) {H' : Heap} {locs' : List Loc} (hA : am_At G w' ad s H' locs') {ls' : Array Slot} (hL : am_L ad (gF G) ls' al') : W p l e R s m args below meth c H' locs' cells slots Q (F0 m pc' ls' (ast'.map (cv ad (gF G)))) := by
  have h := kk ad H' locs' ls' (fun _ _ => rfl) hA hL
  rw [h1, h2, Nat.sub_self, Nat.sub_self] at h
  exact h
theorem am_fin {z : Int} {v : Int32} {rest : List Value} (h : W p l e R s m args below meth c H locs cells slots Q (F0 m pc ls (.int (Int32.ofInt z) :: rest))) (hv : Int32.ofInt z = v) : W p l e R s m args below meth c H locs cells slots Q (F0 m pc ls (.int v :: rest)) := hv ▸ h
theorem am_goI {off : Int} (h : am_tgt pc off = true) : (pc : Int) + off = ((am_go pc off : Nat) : Int) := by
  unfold am_tgt at h
  unfold am_go
  have := of_decide_eq_true h
  omega
theorem sw_iadd (cx : am_Cx G M p s m args meth c) (hdg : decode (am_code M) pc = .ok (.iadd, 1)) {f : Int → Int → Int} (hf : ∀ x y, Int32.ofInt (f x y) = Int32.ofInt x + Int32.ofInt y) (hA : am_At G w ad s H locs) (hL : am_L ad (gF G) ls al) (hl : wfs w.1 al) (hs : wfs w.1 ast) (hst : am_b2 f pc al ast w = some (.inl (pc', al', ast', w'))) (kk : am_Nx G p l e R s m args below meth c cells slots Q w ad pc' al' ast' w') : W p l e R s m args below meth c H locs cells slots Q (F0 m pc ls (ast.map (cv ad (gF G)))) := by
  unfold am_b2 at hst
  split at hst
  · cases hst
    exact lv_iadd cx.1 cx.2.1 hdg (am_fin (kk.upd rfl rfl hA hL) (hf _ _))
  · cases hst
theorem sw_isub (cx : am_Cx G M p s m args meth c) (hdg : decode (am_code M) pc = .ok (.isub, 1)) {f : Int → Int → Int} (hf : ∀ x y, Int32.ofInt (f x y) = Int32.ofInt x - Int32.ofInt y) (hA : am_At G w ad s H locs) (hL : am_L ad (gF G) ls al) (hl : wfs w.1 al) (hs : wfs w.1 ast) (hst : am_b2 f pc al ast w = some (.inl (pc', al', ast', w'))) (kk : am_Nx G p l e R s m args below meth c cells slots Q w ad pc' al' ast' w') : W p l e R s m args below meth c H locs cells slots Q (F0 m pc ls (ast.map (cv ad (gF G)))) := by
  unfold am_b2 at hst
  split at hst
  · cases hst
    exact lv_isub cx.1 cx.2.1 hdg (am_fin (kk.upd rfl rfl hA hL) (hf _ _))
  · cases hst
theorem sw_imul (cx : am_Cx G M p s m args meth c) (hdg : decode (am_code M) pc = .ok (.imul, 1)) {f : Int → Int → Int} (hf : ∀ x y, Int32.ofInt (f x y) = Int32.ofInt x * Int32.ofInt y) (hA : am_At G w ad s H locs) (hL : am_L ad (gF G) ls al) (hl : wfs w.1 al) (hs : wfs w.1 ast) (hst : am_b2 f pc al ast w = some (.inl (pc', al', ast', w'))) (kk : am_Nx G p l e R s m args below meth c cells slots Q w ad pc' al' ast' w') : W p l e R s m args below meth c H locs cells slots Q (F0 m pc ls (ast.map (cv ad (gF G)))) := by
  unfold am_b2 at hst
  split at hst
  · cases hst
    exact lv_imul cx.1 cx.2.1 hdg (am_fin (kk.upd rfl rfl hA hL) (hf _ _))
  · cases hst
theorem sw_iand (cx : am_Cx G M p s m args meth c) (hdg : decode (am_code M) pc = .ok (.iand, 1)) {f : Int → Int → Int} (hf : ∀ x y, Int32.ofInt (f x y) = Int32.ofInt x &&& Int32.ofInt y) (hA : am_At G w ad s H locs) (hL : am_L ad (gF G) ls al) (hl : wfs w.1 al) (hs : wfs w.1 ast) (hst : am_b2 f pc al ast w = some (.inl (pc', al', ast', w'))) (kk : am_Nx G p l e R s m args below meth c cells slots Q w ad pc' al' ast' w') : W p l e R s m args below meth c H locs cells slots Q (F0 m pc ls (ast.map (cv ad (gF G)))) := by
  unfold am_b2 at hst
  split at hst
  · cases hst
    exact lv_iand cx.1 cx.2.1 hdg (am_fin (kk.upd rfl rfl hA hL) (hf _ _))
  · cases hst
theorem sw_ior (cx : am_Cx G M p s m args meth c) (hdg : decode (am_code M) pc = .ok (.ior, 1)) {f : Int → Int → Int} (hf : ∀ x y, Int32.ofInt (f x y) = Int32.ofInt x ||| Int32.ofInt y) (hA : am_At G w ad s H locs) (hL : am_L ad (gF G) ls al) (hl : wfs w.1 al) (hs : wfs w.1 ast) (hst : am_b2 f pc al ast w = some (.inl (pc', al', ast', w'))) (kk : am_Nx G p l e R s m args below meth c cells slots Q w ad pc' al' ast' w') : W p l e R s m args below meth c H locs cells slots Q (F0 m pc ls (ast.map (cv ad (gF G)))) := by
  unfold am_b2 at hst
  split at hst
  · cases hst
    exact lv_ior cx.1 cx.2.1 hdg (am_fin (kk.upd rfl rfl hA hL) (hf _ _))
  · cases hst
theorem sw_ixor (cx : am_Cx G M p s m args meth c) (hdg : decode (am_code M) pc = .ok (.ixor, 1)) {f : Int → Int → Int} (hf : ∀ x y, Int32.ofInt (f x y) = Int32.ofInt x ^^^ Int32.ofInt y) (hA : am_At G w ad s H locs) (hL : am_L ad (gF G) ls al) (hl : wfs w.1 al) (hs : wfs w.1 ast) (hst : am_b2 f pc al ast w = some (.inl (pc', al', ast', w'))) (kk : am_Nx G p l e R s m args below meth c cells slots Q w ad pc' al' ast' w') : W p l e R s m args below meth c H locs cells slots Q (F0 m pc ls (ast.map (cv ad (gF G)))) := by
  unfold am_b2 at hst
  split at hst
  · cases hst
    exact lv_ixor cx.1 cx.2.1 hdg (am_fin (kk.upd rfl rfl hA hL) (hf _ _))
  · cases hst
theorem sw_ishl (cx : am_Cx G M p s m args meth c) (hdg : decode (am_code M) pc = .ok (.ishl, 1)) {f : Int → Int → Int} (hf : ∀ x y, Int32.ofInt (f x y) = Int32.ofInt x <<< (Int32.ofInt y &&& 31)) (hA : am_At G w ad s H locs) (hL : am_L ad (gF G) ls al) (hl : wfs w.1 al) (hs : wfs w.1 ast) (hst : am_b2 f pc al ast w = some (.inl (pc', al', ast', w'))) (kk : am_Nx G p l e R s m args below meth c cells slots Q w ad pc' al' ast' w') : W p l e R s m args below meth c H locs cells slots Q (F0 m pc ls (ast.map (cv ad (gF G)))) := by
  unfold am_b2 at hst
  split at hst
  · cases hst
    exact lv_ishl cx.1 cx.2.1 hdg (am_fin (kk.upd rfl rfl hA hL) (hf _ _))
  · cases hst
theorem sw_ishr (cx : am_Cx G M p s m args meth c) (hdg : decode (am_code M) pc = .ok (.ishr, 1)) {f : Int → Int → Int} (hf : ∀ x y, Int32.ofInt (f x y) = Int32.ofInt x >>> (Int32.ofInt y &&& 31)) (hA : am_At G w ad s H locs) (hL : am_L ad (gF G) ls al) (hl : wfs w.1 al) (hs : wfs w.1 ast) (hst : am_b2 f pc al ast w = some (.inl (pc', al', ast', w'))) (kk : am_Nx G p l e R s m args below meth c cells slots Q w ad pc' al' ast' w') : W p l e R s m args below meth c H locs cells slots Q (F0 m pc ls (ast.map (cv ad (gF G)))) := by
  unfold am_b2 at hst
  split at hst
  · cases hst
    exact lv_ishr cx.1 cx.2.1 hdg (am_fin (kk.upd rfl rfl hA hL) (hf _ _))
  · cases hst
theorem sw_iushr (cx : am_Cx G M p s m args meth c) (hdg : decode (am_code M) pc = .ok (.iushr, 1)) (hA : am_At G w ad s H locs) (hL : am_L ad (gF G) ls al) (hl : wfs w.1 al) (hs : wfs w.1 ast) (hst : am_b2 i_ushr pc al ast w = some (.inl (pc', al', ast', w'))) (kk : am_Nx G p l e R s m args below meth c cells slots Q w ad pc' al' ast' w') : W p l e R s m args below meth c H locs cells slots Q (F0 m pc ls (ast.map (cv ad (gF G)))) := by
  unfold am_b2 at hst
  split at hst
  · cases hst
    exact lv_iushr cx.1 cx.2.1 hdg (Int32.ofInt_toInt _).symm (kk.upd rfl rfl hA hL)
  · cases hst
theorem sw_idiv (cx : am_Cx G M p s m args meth c) (hdg : decode (am_code M) pc = .ok (.idiv, 1)) {f : Int → Int → Int} (hf : ∀ x y, Int32.ofInt (f x y) = Int32.ofInt x / Int32.ofInt y) (hA : am_At G w ad s H locs) (hL : am_L ad (gF G) ls al) (hl : wfs w.1 al) (hs : wfs w.1 ast) (hst : am_d2 f pc al ast w = some (.inl (pc', al', ast', w'))) (kk : am_Nx G p l e R s m args below meth c cells slots Q w ad pc' al' ast' w') : W p l e R s m args below meth c H locs cells slots Q (F0 m pc ls (ast.map (cv ad (gF G)))) := by
  unfold am_d2 at hst
  split at hst
  · split at hst
    · cases hst
    · rename_i y x r hy
      cases hst
      exact lv_idiv cx.1 cx.2.1 hdg (fun q => hy ((i_eq hs.hd rng_0).mp q)) (am_fin (kk.upd rfl rfl hA hL) (hf _ _))
  · cases hst
theorem sw_irem (cx : am_Cx G M p s m args meth c) (hdg : decode (am_code M) pc = .ok (.irem, 1)) {f : Int → Int → Int} (hf : ∀ x y, Int32.ofInt (f x y) = Int32.ofInt x - Int32.ofInt x / Int32.ofInt y * Int32.ofInt y) (hA : am_At G w ad s H locs) (hL : am_L ad (gF G) ls al) (hl : wfs w.1 al) (hs : wfs w.1 ast) (hst : am_d2 f pc al ast w = some (.inl (pc', al', ast', w'))) (kk : am_Nx G p l e R s m args below meth c cells slots Q w ad pc' al' ast' w') : W p l e R s m args below meth c H locs cells slots Q (F0 m pc ls (ast.map (cv ad (gF G)))) := by
  unfold am_d2 at hst
  split at hst
  · split at hst
    · cases hst
    · rename_i y x r hy
      cases hst
      exact lv_irem cx.1 cx.2.1 hdg (fun q => hy ((i_eq hs.hd rng_0).mp q)) (am_fin (kk.upd rfl rfl hA hL) (hf _ _))
  · cases hst
theorem sw_ineg (cx : am_Cx G M p s m args meth c) (hdg : decode (am_code M) pc = .ok (.ineg, 1)) {f : Int → Int} (hf : ∀ x, Int32.ofInt (f x) = -Int32.ofInt x) (hA : am_At G w ad s H locs) (hL : am_L ad (gF G) ls al) (hl : wfs w.1 al) (hs : wfs w.1 ast) (hst : am_un f pc al ast w = some (.inl (pc', al', ast', w'))) (kk : am_Nx G p l e R s m args below meth c cells slots Q w ad pc' al' ast' w') : W p l e R s m args below meth c H locs cells slots Q (F0 m pc ls (ast.map (cv ad (gF G)))) := by
  unfold am_un at hst
  split at hst
  · cases hst
    exact lv_ineg cx.1 cx.2.1 hdg (am_fin (kk.upd rfl rfl hA hL) (hf _))
  · cases hst
theorem sw_i2c (cx : am_Cx G M p s m args meth c) (hdg : decode (am_code M) pc = .ok (.i2c, 1)) (hA : am_At G w ad s H locs) (hL : am_L ad (gF G) ls al) (hl : wfs w.1 al) (hs : wfs w.1 ast) (hst : am_un i_ch pc al ast w = some (.inl (pc', al', ast', w'))) (kk : am_Nx G p l e R s m args below meth c cells slots Q w ad pc' al' ast' w') : W p l e R s m args below meth c H locs cells slots Q (F0 m pc ls (ast.map (cv ad (gF G)))) := by
  unfold am_un at hst
  split at hst
  · cases hst
    exact lv_i2c cx.1 cx.2.1 hdg (Int32.ofInt_toInt _).symm (kk.upd rfl rfl hA hL)
  · cases hst
theorem sw_land (cx : am_Cx G M p s m args meth c) (hdg : decode (am_code M) pc = .ok (.land, 1)) (hA : am_At G w ad s H locs) (hL : am_L ad (gF G) ls al) (hl : wfs w.1 al) (hs : wfs w.1 ast) (hst : am_l2 (fun x y => x &&& y) pc al ast w = some (.inl (pc', al', ast', w'))) (kk : am_Nx G p l e R s m args below meth c cells slots Q w ad pc' al' ast' w') : W p l e R s m args below meth c H locs cells slots Q (F0 m pc ls (ast.map (cv ad (gF G)))) := by
  unfold am_l2 at hst
  split at hst
  · cases hst
    exact lv_land cx.1 cx.2.1 hdg (kk.upd rfl rfl hA hL)
  · cases hst
theorem sw_lor (cx : am_Cx G M p s m args meth c) (hdg : decode (am_code M) pc = .ok (.lor, 1)) (hA : am_At G w ad s H locs) (hL : am_L ad (gF G) ls al) (hl : wfs w.1 al) (hs : wfs w.1 ast) (hst : am_l2 (fun x y => x ||| y) pc al ast w = some (.inl (pc', al', ast', w'))) (kk : am_Nx G p l e R s m args below meth c cells slots Q w ad pc' al' ast' w') : W p l e R s m args below meth c H locs cells slots Q (F0 m pc ls (ast.map (cv ad (gF G)))) := by
  unfold am_l2 at hst
  split at hst
  · cases hst
    exact lv_lor cx.1 cx.2.1 hdg (kk.upd rfl rfl hA hL)
  · cases hst
theorem sw_lshl (cx : am_Cx G M p s m args meth c) (hdg : decode (am_code M) pc = .ok (.lshl, 1)) (hA : am_At G w ad s H locs) (hL : am_L ad (gF G) ls al) (hl : wfs w.1 al) (hs : wfs w.1 ast) (hst : am_ls l_shl pc al ast w = some (.inl (pc', al', ast', w'))) (kk : am_Nx G p l e R s m args below meth c cells slots Q w ad pc' al' ast' w') : W p l e R s m args below meth c H locs cells slots Q (F0 m pc ls (ast.map (cv ad (gF G)))) := by
  unfold am_ls at hst
  split at hst
  · cases hst
    exact lv_lshl cx.1 cx.2.1 hdg rfl (kk.upd rfl rfl hA hL)
  · cases hst
theorem sw_lshr (cx : am_Cx G M p s m args meth c) (hdg : decode (am_code M) pc = .ok (.lshr, 1)) (hA : am_At G w ad s H locs) (hL : am_L ad (gF G) ls al) (hl : wfs w.1 al) (hs : wfs w.1 ast) (hst : am_ls l_shr pc al ast w = some (.inl (pc', al', ast', w'))) (kk : am_Nx G p l e R s m args below meth c cells slots Q w ad pc' al' ast' w') : W p l e R s m args below meth c H locs cells slots Q (F0 m pc ls (ast.map (cv ad (gF G)))) := by
  unfold am_ls at hst
  split at hst
  · cases hst
    exact lv_lshr cx.1 cx.2.1 hdg rfl (kk.upd rfl rfl hA hL)
  · cases hst
theorem sw_lushr (cx : am_Cx G M p s m args meth c) (hdg : decode (am_code M) pc = .ok (.lushr, 1)) (hA : am_At G w ad s H locs) (hL : am_L ad (gF G) ls al) (hl : wfs w.1 al) (hs : wfs w.1 ast) (hst : am_ls l_ushr pc al ast w = some (.inl (pc', al', ast', w'))) (kk : am_Nx G p l e R s m args below meth c cells slots Q w ad pc' al' ast' w') : W p l e R s m args below meth c H locs cells slots Q (F0 m pc ls (ast.map (cv ad (gF G)))) := by
  unfold am_ls at hst
  split at hst
  · cases hst
    exact lv_lushr cx.1 cx.2.1 hdg rfl (kk.upd rfl rfl hA hL)
  · cases hst
theorem am_cmp_eq {x y : Int} (hx : rng x) (hy : rng y) : (Int32.ofInt x = Int32.ofInt y) ↔ am_cmp .eq x y = true := by
  rw [i_eq hx hy]
  exact (decide_eq_true_iff (p := x = y)).symm
theorem am_cmp_ne {x y : Int} (hx : rng x) (hy : rng y) : (¬ Int32.ofInt x = Int32.ofInt y) ↔ am_cmp .ne x y = true := by
  rw [i_eq hx hy]
  exact (decide_eq_true_iff (p := ¬ x = y)).symm
theorem am_cmp_lt {x y : Int} (hx : rng x) (hy : rng y) : (Int32.ofInt x < Int32.ofInt y) ↔ am_cmp .lt x y = true := by
  rw [i_lt hx hy]
  exact (decide_eq_true_iff (p := x < y)).symm
theorem am_cmp_ge {x y : Int} (hx : rng x) (hy : rng y) : (Int32.ofInt y ≤ Int32.ofInt x) ↔ am_cmp .ge x y = true := by
  rw [i_le hy hx]
  exact (decide_eq_true_iff (p := y ≤ x)).symm
theorem am_cmp_gt {x y : Int} (hx : rng x) (hy : rng y) : (Int32.ofInt y < Int32.ofInt x) ↔ am_cmp .gt x y = true := by
  rw [i_lt hy hx]
  exact (decide_eq_true_iff (p := y < x)).symm
theorem am_cmp_le {x y : Int} (hx : rng x) (hy : rng y) : (Int32.ofInt x ≤ Int32.ofInt y) ↔ am_cmp .le x y = true := by
  rw [i_le hx hy]
  exact (decide_eq_true_iff (p := x ≤ y)).symm
theorem sw_icmp_eq (cx : am_Cx G M p s m args meth c) {off : Int} (hdg : decode (am_code M) pc = .ok (.if_icmp .eq off, 3)) (ht : am_tgt pc off = true) (hA : am_At G w ad s H locs) (hL : am_L ad (gF G) ls al) (hl : wfs w.1 al) (hs : wfs w.1 ast) (hst : am_br2 (am_cmp .eq) off pc al ast w = some (.inl (pc', al', ast', w'))) (kk : am_Nx G p l e R s m args below meth c cells slots Q w ad pc' al' ast' w') : W p l e R s m args below meth c H locs cells slots Q (F0 m pc ls (ast.map (cv ad (gF G)))) := by
  unfold am_br2 at hst
  split at hst
  · rename_i y x r
    cases hst
    have hx : rng x := hs.tl.hd
    have hy : rng y := hs.hd
    refine lv_icmp_eq cx.1 cx.2.1 hdg (am_goI ht) (fun q => ?_) (fun q => ?_)
    · have h := kk.upd rfl rfl hA hL
      rw [if_pos ((am_cmp_eq hx hy).mp q)] at h
      exact h
    · have h := kk.upd rfl rfl hA hL
      rw [if_neg (fun z => absurd ((am_cmp_eq hx hy).mpr z) q)] at h
      exact h
  · cases hst
theorem sw_if_eq (cx : am_Cx G M p s m args meth c) {off : Int} (hdg : decode (am_code M) pc = .ok (.ifCond .eq off, 3)) (ht : am_tgt pc off = true) (hA : am_At G w ad s H locs) (hL : am_L ad (gF G) ls al) (hl : wfs w.1 al) (hs : wfs w.1 ast) (hst : am_br1 (fun x => am_cmp .eq x 0) off pc al ast w = some (.inl (pc', al', ast', w'))) (kk : am_Nx G p l e R s m args below meth c cells slots Q w ad pc' al' ast' w') : W p l e R s m args below meth c H locs cells slots Q (F0 m pc ls (ast.map (cv ad (gF G)))) := by
  unfold am_br1 at hst
  split at hst
  · rename_i x r
    cases hst
    have hx : rng x := hs.hd
    refine lv_if_eq cx.1 cx.2.1 hdg (am_goI ht) (fun q => ?_) (fun q => ?_)
    · have h := kk.upd rfl rfl hA hL
      rw [if_pos ((am_cmp_eq hx rng_0).mp q)] at h
      exact h
    · have h := kk.upd rfl rfl hA hL
      rw [if_neg (fun z => absurd ((am_cmp_eq hx rng_0).mpr z) q)] at h
      exact h
  · cases hst
theorem sw_icmp_ne (cx : am_Cx G M p s m args meth c) {off : Int} (hdg : decode (am_code M) pc = .ok (.if_icmp .ne off, 3)) (ht : am_tgt pc off = true) (hA : am_At G w ad s H locs) (hL : am_L ad (gF G) ls al) (hl : wfs w.1 al) (hs : wfs w.1 ast) (hst : am_br2 (am_cmp .ne) off pc al ast w = some (.inl (pc', al', ast', w'))) (kk : am_Nx G p l e R s m args below meth c cells slots Q w ad pc' al' ast' w') : W p l e R s m args below meth c H locs cells slots Q (F0 m pc ls (ast.map (cv ad (gF G)))) := by
  unfold am_br2 at hst
  split at hst
  · rename_i y x r
    cases hst
    have hx : rng x := hs.tl.hd
    have hy : rng y := hs.hd
    refine lv_icmp_ne cx.1 cx.2.1 hdg (am_goI ht) (fun q => ?_) (fun q => ?_)
    · have h := kk.upd rfl rfl hA hL
      rw [if_pos ((am_cmp_ne hx hy).mp q)] at h
      exact h
    · have h := kk.upd rfl rfl hA hL
      rw [if_neg (fun z => absurd ((am_cmp_ne hx hy).mpr z) (fun z => z q))] at h
      exact h
  · cases hst
theorem sw_if_ne (cx : am_Cx G M p s m args meth c) {off : Int} (hdg : decode (am_code M) pc = .ok (.ifCond .ne off, 3)) (ht : am_tgt pc off = true) (hA : am_At G w ad s H locs) (hL : am_L ad (gF G) ls al) (hl : wfs w.1 al) (hs : wfs w.1 ast) (hst : am_br1 (fun x => am_cmp .ne x 0) off pc al ast w = some (.inl (pc', al', ast', w'))) (kk : am_Nx G p l e R s m args below meth c cells slots Q w ad pc' al' ast' w') : W p l e R s m args below meth c H locs cells slots Q (F0 m pc ls (ast.map (cv ad (gF G)))) := by
  unfold am_br1 at hst
  split at hst
  · rename_i x r
    cases hst
    have hx : rng x := hs.hd
    refine lv_if_ne cx.1 cx.2.1 hdg (am_goI ht) (fun q => ?_) (fun q => ?_)
    · have h := kk.upd rfl rfl hA hL
      rw [if_pos ((am_cmp_ne hx rng_0).mp q)] at h
      exact h
    · have h := kk.upd rfl rfl hA hL
      rw [if_neg (fun z => absurd ((am_cmp_ne hx rng_0).mpr z) (fun z => z q))] at h
      exact h
  · cases hst
theorem sw_icmp_lt (cx : am_Cx G M p s m args meth c) {off : Int} (hdg : decode (am_code M) pc = .ok (.if_icmp .lt off, 3)) (ht : am_tgt pc off = true) (hA : am_At G w ad s H locs) (hL : am_L ad (gF G) ls al) (hl : wfs w.1 al) (hs : wfs w.1 ast) (hst : am_br2 (am_cmp .lt) off pc al ast w = some (.inl (pc', al', ast', w'))) (kk : am_Nx G p l e R s m args below meth c cells slots Q w ad pc' al' ast' w') : W p l e R s m args below meth c H locs cells slots Q (F0 m pc ls (ast.map (cv ad (gF G)))) := by
  unfold am_br2 at hst
  split at hst
  · rename_i y x r
    cases hst
    have hx : rng x := hs.tl.hd
    have hy : rng y := hs.hd
    refine lv_icmp_lt cx.1 cx.2.1 hdg (am_goI ht) (fun q => ?_) (fun q => ?_)
    · have h := kk.upd rfl rfl hA hL
      rw [if_pos ((am_cmp_lt hx hy).mp q)] at h
      exact h
    · have h := kk.upd rfl rfl hA hL
      rw [if_neg (fun z => absurd ((am_cmp_lt hx hy).mpr z) q)] at h
      exact h
  · cases hst
theorem sw_if_lt (cx : am_Cx G M p s m args meth c) {off : Int} (hdg : decode (am_code M) pc = .ok (.ifCond .lt off, 3)) (ht : am_tgt pc off = true) (hA : am_At G w ad s H locs) (hL : am_L ad (gF G) ls al) (hl : wfs w.1 al) (hs : wfs w.1 ast) (hst : am_br1 (fun x => am_cmp .lt x 0) off pc al ast w = some (.inl (pc', al', ast', w'))) (kk : am_Nx G p l e R s m args below meth c cells slots Q w ad pc' al' ast' w') : W p l e R s m args below meth c H locs cells slots Q (F0 m pc ls (ast.map (cv ad (gF G)))) := by
  unfold am_br1 at hst
  split at hst
  · rename_i x r
    cases hst
    have hx : rng x := hs.hd
    refine lv_if_lt cx.1 cx.2.1 hdg (am_goI ht) (fun q => ?_) (fun q => ?_)
    · have h := kk.upd rfl rfl hA hL
      rw [if_pos ((am_cmp_lt hx rng_0).mp q)] at h
      exact h
    · have h := kk.upd rfl rfl hA hL
      rw [if_neg (fun z => absurd ((am_cmp_lt hx rng_0).mpr z) q)] at h
      exact h
  · cases hst
theorem sw_icmp_ge (cx : am_Cx G M p s m args meth c) {off : Int} (hdg : decode (am_code M) pc = .ok (.if_icmp .ge off, 3)) (ht : am_tgt pc off = true) (hA : am_At G w ad s H locs) (hL : am_L ad (gF G) ls al) (hl : wfs w.1 al) (hs : wfs w.1 ast) (hst : am_br2 (am_cmp .ge) off pc al ast w = some (.inl (pc', al', ast', w'))) (kk : am_Nx G p l e R s m args below meth c cells slots Q w ad pc' al' ast' w') : W p l e R s m args below meth c H locs cells slots Q (F0 m pc ls (ast.map (cv ad (gF G)))) := by
  unfold am_br2 at hst
  split at hst
  · rename_i y x r
    cases hst
    have hx : rng x := hs.tl.hd
    have hy : rng y := hs.hd
    refine lv_icmp_ge cx.1 cx.2.1 hdg (am_goI ht) (fun q => ?_) (fun q => ?_)
    · have h := kk.upd rfl rfl hA hL
      rw [if_pos ((am_cmp_ge hx hy).mp q)] at h
      exact h
    · have h := kk.upd rfl rfl hA hL
      rw [if_neg (fun z => absurd ((am_cmp_ge hx hy).mpr z) q)] at h
      exact h
  · cases hst
theorem sw_if_ge (cx : am_Cx G M p s m args meth c) {off : Int} (hdg : decode (am_code M) pc = .ok (.ifCond .ge off, 3)) (ht : am_tgt pc off = true) (hA : am_At G w ad s H locs) (hL : am_L ad (gF G) ls al) (hl : wfs w.1 al) (hs : wfs w.1 ast) (hst : am_br1 (fun x => am_cmp .ge x 0) off pc al ast w = some (.inl (pc', al', ast', w'))) (kk : am_Nx G p l e R s m args below meth c cells slots Q w ad pc' al' ast' w') : W p l e R s m args below meth c H locs cells slots Q (F0 m pc ls (ast.map (cv ad (gF G)))) := by
  unfold am_br1 at hst
  split at hst
  · rename_i x r
    cases hst
    have hx : rng x := hs.hd
    refine lv_if_ge cx.1 cx.2.1 hdg (am_goI ht) (fun q => ?_) (fun q => ?_)
    · have h := kk.upd rfl rfl hA hL
      rw [if_pos ((am_cmp_ge hx rng_0).mp q)] at h
      exact h
    · have h := kk.upd rfl rfl hA hL
      rw [if_neg (fun z => absurd ((am_cmp_ge hx rng_0).mpr z) q)] at h
      exact h
  · cases hst
theorem sw_icmp_gt (cx : am_Cx G M p s m args meth c) {off : Int} (hdg : decode (am_code M) pc = .ok (.if_icmp .gt off, 3)) (ht : am_tgt pc off = true) (hA : am_At G w ad s H locs) (hL : am_L ad (gF G) ls al) (hl : wfs w.1 al) (hs : wfs w.1 ast) (hst : am_br2 (am_cmp .gt) off pc al ast w = some (.inl (pc', al', ast', w'))) (kk : am_Nx G p l e R s m args below meth c cells slots Q w ad pc' al' ast' w') : W p l e R s m args below meth c H locs cells slots Q (F0 m pc ls (ast.map (cv ad (gF G)))) := by
  unfold am_br2 at hst
  split at hst
  · rename_i y x r
    cases hst
    have hx : rng x := hs.tl.hd
    have hy : rng y := hs.hd
    refine lv_icmp_gt cx.1 cx.2.1 hdg (am_goI ht) (fun q => ?_) (fun q => ?_)
    · have h := kk.upd rfl rfl hA hL
      rw [if_pos ((am_cmp_gt hx hy).mp q)] at h
      exact h
    · have h := kk.upd rfl rfl hA hL
      rw [if_neg (fun z => absurd ((am_cmp_gt hx hy).mpr z) q)] at h
      exact h
  · cases hst
theorem sw_if_gt (cx : am_Cx G M p s m args meth c) {off : Int} (hdg : decode (am_code M) pc = .ok (.ifCond .gt off, 3)) (ht : am_tgt pc off = true) (hA : am_At G w ad s H locs) (hL : am_L ad (gF G) ls al) (hl : wfs w.1 al) (hs : wfs w.1 ast) (hst : am_br1 (fun x => am_cmp .gt x 0) off pc al ast w = some (.inl (pc', al', ast', w'))) (kk : am_Nx G p l e R s m args below meth c cells slots Q w ad pc' al' ast' w') : W p l e R s m args below meth c H locs cells slots Q (F0 m pc ls (ast.map (cv ad (gF G)))) := by
  unfold am_br1 at hst
  split at hst
  · rename_i x r
    cases hst
    have hx : rng x := hs.hd
    refine lv_if_gt cx.1 cx.2.1 hdg (am_goI ht) (fun q => ?_) (fun q => ?_)
    · have h := kk.upd rfl rfl hA hL
      rw [if_pos ((am_cmp_gt hx rng_0).mp q)] at h
      exact h
    · have h := kk.upd rfl rfl hA hL
      rw [if_neg (fun z => absurd ((am_cmp_gt hx rng_0).mpr z) q)] at h
      exact h
  · cases hst
theorem sw_icmp_le (cx : am_Cx G M p s m args meth c) {off : Int} (hdg : decode (am_code M) pc = .ok (.if_icmp .le off, 3)) (ht : am_tgt pc off = true) (hA : am_At G w ad s H locs) (hL : am_L ad (gF G) ls al) (hl : wfs w.1 al) (hs : wfs w.1 ast) (hst : am_br2 (am_cmp .le) off pc al ast w = some (.inl (pc', al', ast', w'))) (kk : am_Nx G p l e R s m args below meth c cells slots Q w ad pc' al' ast' w') : W p l e R s m args below meth c H locs cells slots Q (F0 m pc ls (ast.map (cv ad (gF G)))) := by
  unfold am_br2 at hst
  split at hst
  · rename_i y x r
    cases hst
    have hx : rng x := hs.tl.hd
    have hy : rng y := hs.hd
    refine lv_icmp_le cx.1 cx.2.1 hdg (am_goI ht) (fun q => ?_) (fun q => ?_)
    · have h := kk.upd rfl rfl hA hL
      rw [if_pos ((am_cmp_le hx hy).mp q)] at h
      exact h
    · have h := kk.upd rfl rfl hA hL
      rw [if_neg (fun z => absurd ((am_cmp_le hx hy).mpr z) q)] at h
      exact h
  · cases hst
theorem sw_if_le (cx : am_Cx G M p s m args meth c) {off : Int} (hdg : decode (am_code M) pc = .ok (.ifCond .le off, 3)) (ht : am_tgt pc off = true) (hA : am_At G w ad s H locs) (hL : am_L ad (gF G) ls al) (hl : wfs w.1 al) (hs : wfs w.1 ast) (hst : am_br1 (fun x => am_cmp .le x 0) off pc al ast w = some (.inl (pc', al', ast', w'))) (kk : am_Nx G p l e R s m args below meth c cells slots Q w ad pc' al' ast' w') : W p l e R s m args below meth c H locs cells slots Q (F0 m pc ls (ast.map (cv ad (gF G)))) := by
  unfold am_br1 at hst
  split at hst
  · rename_i x r
    cases hst
    have hx : rng x := hs.hd
    refine lv_if_le cx.1 cx.2.1 hdg (am_goI ht) (fun q => ?_) (fun q => ?_)
    · have h := kk.upd rfl rfl hA hL
      rw [if_pos ((am_cmp_le hx rng_0).mp q)] at h
      exact h
    · have h := kk.upd rfl rfl hA hL
      rw [if_neg (fun z => absurd ((am_cmp_le hx rng_0).mpr z) q)] at h
      exact h
  · cases hst
theorem am_L.at (hL : am_L ad (gF G) ls al) {k : Nat} {v : AV} (h : lget al k = v) (hv : ∀ t, v ≠ .inr (.inr (.inr (t + 2)))) (h2 : am_set v = true) : ls[k]? = some (Slot.val (cv ad (gF G) v)) := hL.2.2.1 k v (lget_some h hv) h2
theorem sw_iload (cx : am_Cx G M p s m args meth c) {k : Nat} (hdg : decode (am_code M) pc = .ok (.iload k, 2)) (hA : am_At G w ad s H locs) (hL : am_L ad (gF G) ls al) (hl : wfs w.1 al) (hs : wfs w.1 ast) (hst : am_ild k 2 pc al ast w = some (.inl (pc', al', ast', w'))) (kk : am_Nx G p l e R s m args below meth c cells slots Q w ad pc' al' ast' w') : W p l e R s m args below meth c H locs cells slots Q (F0 m pc ls (ast.map (cv ad (gF G)))) := by
  unfold am_ild at hst
  split at hst
  · rename_i z hz
    cases hst
    exact lv_iload cx.1 cx.2.1 hdg (hL.at hz (fun t q => by cases q) rfl) (kk.upd rfl rfl hA hL)
  · cases hst
theorem sw_iload_n (cx : am_Cx G M p s m args meth c) {kf : Fin 4} (hdg : decode (am_code M) pc = .ok (.iload_n kf, 1)) (hA : am_At G w ad s H locs) (hL : am_L ad (gF G) ls al) (hl : wfs w.1 al) (hs : wfs w.1 ast) (hst : am_ild kf.val 1 pc al ast w = some (.inl (pc', al', ast', w'))) (kk : am_Nx G p l e R s m args below meth c cells slots Q w ad pc' al' ast' w') : W p l e R s m args below meth c H locs cells slots Q (F0 m pc ls (ast.map (cv ad (gF G)))) := by
  unfold am_ild at hst
  split at hst
  · rename_i z hz
    cases hst
    exact lv_iload_n cx.1 cx.2.1 hdg rfl (hL.at hz (fun t q => by cases q) rfl) (kk.upd rfl rfl hA hL)
  · cases hst
theorem sw_lload_n (cx : am_Cx G M p s m args meth c) {kf : Fin 4} (hdg : decode (am_code M) pc = .ok (.lload_n kf, 1)) (hA : am_At G w ad s H locs) (hL : am_L ad (gF G) ls al) (hl : wfs w.1 al) (hs : wfs w.1 ast) (hst : am_lld kf.val 1 pc al ast w = some (.inl (pc', al', ast', w'))) (kk : am_Nx G p l e R s m args below meth c cells slots Q w ad pc' al' ast' w') : W p l e R s m args below meth c H locs cells slots Q (F0 m pc ls (ast.map (cv ad (gF G)))) := by
  unfold am_lld at hst
  split at hst
  · rename_i z hz
    cases hst
    exact lv_lload_n cx.1 cx.2.1 hdg rfl (hL.at hz (fun t q => by cases q) rfl) (kk.upd rfl rfl hA hL)
  · cases hst
theorem lv_alN (hexec : p.tables.exec = Jvm.exec) {cc : ByteArray} (hb : c.code = cc) {i : Nat} {rest : List Value} (hdg : decode cc pc = .ok (.aload i, 2)) (hl : ls[i]? = some (.val .null))
    (k : W p l e R s m args below meth c H locs cells slots Q (F0 m (pc + 2) ls (.null :: rest))) : W p l e R s m args below meth c H locs cells slots Q (F0 m pc ls rest) := by
  intro T hT X
  obtain ⟨t, a, b⟩ := k T hT X
  refine ⟨t, ?_, b⟩
  jvm_step X.here [X.here.top, hexec, hb, hdg, hl]
  exact ⟨rfl, a⟩
theorem lv_alN_n (hexec : p.tables.exec = Jvm.exec) {cc : ByteArray} (hb : c.code = cc) {kf : Fin 4} {rest : List Value} (hdg : decode cc pc = .ok (.aload_n kf, 1)) (hl : ls[kf.val]? = some (.val .null))
    (k : W p l e R s m args below meth c H locs cells slots Q (F0 m (pc + 1) ls (.null :: rest))) : W p l e R s m args below meth c H locs cells slots Q (F0 m pc ls rest) := by
  intro T hT X
  obtain ⟨t, a, b⟩ := k T hT X
  refine ⟨t, ?_, b⟩
  jvm_step X.here [X.here.top, hexec, hb, hdg, hl]
  exact ⟨rfl, a⟩
theorem sw_aload (cx : am_Cx G M p s m args meth c) {k : Nat} (hdg : decode (am_code M) pc = .ok (.aload k, 2)) (hA : am_At G w ad s H locs) (hL : am_L ad (gF G) ls al) (hl : wfs w.1 al) (hs : wfs w.1 ast) (hst : am_ald k 2 pc al ast w = some (.inl (pc', al', ast', w'))) (kk : am_Nx G p l e R s m args below meth c cells slots Q w ad pc' al' ast' w') : W p l e R s m args below meth c H locs cells slots Q (F0 m pc ls (ast.map (cv ad (gF G)))) := by
  unfold am_ald at hst
  split at hst
  · rename_i z hz
    cases hst
    exact lv_aload cx.1 cx.2.1 hdg (hL.at hz (fun t q => by cases q) rfl) (kk.upd rfl rfl hA hL)
  · rename_i hz
    cases hst
    exact lv_alN cx.1 cx.2.1 hdg (hL.at hz (fun t q => by cases q) rfl) (kk.upd rfl rfl hA hL)
  · cases hst
theorem sw_aload_n (cx : am_Cx G M p s m args meth c) {kf : Fin 4} (hdg : decode (am_code M) pc = .ok (.aload_n kf, 1)) (hA : am_At G w ad s H locs) (hL : am_L ad (gF G) ls al) (hl : wfs w.1 al) (hs : wfs w.1 ast) (hst : am_ald kf.val 1 pc al ast w = some (.inl (pc', al', ast', w'))) (kk : am_Nx G p l e R s m args below meth c cells slots Q w ad pc' al' ast' w') : W p l e R s m args below meth c H locs cells slots Q (F0 m pc ls (ast.map (cv ad (gF G)))) := by
  unfold am_ald at hst
  split at hst
  · rename_i z hz
    cases hst
    exact lv_aload_n cx.1 cx.2.1 hdg rfl (hL.at hz (fun t q => by cases q) rfl) (kk.upd rfl rfl hA hL)
  · rename_i hz
    cases hst
    exact lv_alN_n cx.1 cx.2.1 hdg (hL.at hz (fun t q => by cases q) rfl) (kk.upd rfl rfl hA hL)
  · cases hst
theorem sw_istore (cx : am_Cx G M p s m args meth c) {k : Nat} (hdg : decode (am_code M) pc = .ok (.istore k, 2)) (hA : am_At G w ad s H locs) (hL : am_L ad (gF G) ls al) (hl : wfs w.1 al) (hs : wfs w.1 ast) (hst : am_ist k 2 pc al ast w = some (.inl (pc', al', ast', w'))) (kk : am_Nx G p l e R s m args below meth c cells slots Q w ad pc' al' ast' w') : W p l e R s m args below meth c H locs cells slots Q (F0 m pc ls (ast.map (cv ad (gF G)))) := by
  unfold am_ist at hst
  split at hst
  · split at hst
    · rename_i z r hk
      cases hst
      exact lv_istore cx.1 cx.2.1 hdg hL.has hk.1 rfl (fun ls' h => kk.upd rfl rfl hA (am_L.stored (v := vI z) hL.2.2.2 rfl hk.1 hk.2 cx.2.2.2.2.2.2.2.2.2.1 h))
    · cases hst
  · cases hst
theorem sw_istore_n (cx : am_Cx G M p s m args meth c) {kf : Fin 4} (hdg : decode (am_code M) pc = .ok (.istore_n kf, 1)) (hA : am_At G w ad s H locs) (hL : am_L ad (gF G) ls al) (hl : wfs w.1 al) (hs : wfs w.1 ast) (hst : am_ist kf.val 1 pc al ast w = some (.inl (pc', al', ast', w'))) (kk : am_Nx G p l e R s m args below meth c cells slots Q w ad pc' al' ast' w') : W p l e R s m args below meth c H locs cells slots Q (F0 m pc ls (ast.map (cv ad (gF G)))) := by
  unfold am_ist at hst
  split at hst
  · split at hst
    · rename_i z r hk
      cases hst
      exact lv_istore_n cx.1 cx.2.1 hdg rfl hL.has hk.1 rfl (fun ls' h => kk.upd rfl rfl hA (am_L.stored (v := vI z) hL.2.2.2 rfl hk.1 hk.2 cx.2.2.2.2.2.2.2.2.2.1 h))
    · cases hst
  · cases hst
theorem lv_asN (hexec : p.tables.exec = Jvm.exec) {cc : ByteArray} (hb : c.code = cc) {i nL : Nat} {lv : List (Nat × Value)} {rest : List Value} (hdg : decode cc pc = .ok (.astore i, 2)) (h : lv_has ls nL lv) (hn : i < nL)
    (kk : ∀ ls' : Array Slot, lv_has ls' nL ((i, Value.null) :: lv.filter (fun q => !(q.1 == i) && !(q.1 + 1 == i && q.2.category == 2))) → W p l e R s m args below meth c H locs cells slots Q (F0 m (pc + 2) ls' rest)) : W p l e R s m args below meth c H locs cells slots Q (F0 m pc ls (.null :: rest)) := by
  obtain ⟨ls', e1, e2⟩ := lv_store1 (v := .null) h hn rfl
  intro T hT X
  obtain ⟨t, a, b⟩ := kk ls' e2 T hT X
  refine ⟨t, ?_, b⟩
  jvm_step X.here [X.here.top, hexec, hb, hdg, e1]
  exact ⟨rfl, a⟩
theorem lv_asN_n (hexec : p.tables.exec = Jvm.exec) {cc : ByteArray} (hb : c.code = cc) {kf : Fin 4} {nL : Nat} {lv : List (Nat × Value)} {rest : List Value} (hdg : decode cc pc = .ok (.astore_n kf, 1)) (h : lv_has ls nL lv) (hn : kf.val < nL)
    (kk : ∀ ls' : Array Slot, lv_has ls' nL ((kf.val, Value.null) :: lv.filter (fun q => !(q.1 == kf.val) && !(q.1 + 1 == kf.val && q.2.category == 2))) → W p l e R s m args below meth c H locs cells slots Q (F0 m (pc + 1) ls' rest)) : W p l e R s m args below meth c H locs cells slots Q (F0 m pc ls (.null :: rest)) := by
  obtain ⟨ls', e1, e2⟩ := lv_store1 (v := .null) h hn rfl
  intro T hT X
  obtain ⟨t, a, b⟩ := kk ls' e2 T hT X
  refine ⟨t, ?_, b⟩
  jvm_step X.here [X.here.top, hexec, hb, hdg, e1]
  exact ⟨rfl, a⟩
theorem sw_astore (cx : am_Cx G M p s m args meth c) {k : Nat} (hdg : decode (am_code M) pc = .ok (.astore k, 2)) (hA : am_At G w ad s H locs) (hL : am_L ad (gF G) ls al) (hl : wfs w.1 al) (hs : wfs w.1 ast) (hst : am_ast k 2 pc al ast w = some (.inl (pc', al', ast', w'))) (kk : am_Nx G p l e R s m args below meth c cells slots Q w ad pc' al' ast' w') : W p l e R s m args below meth c H locs cells slots Q (F0 m pc ls (ast.map (cv ad (gF G)))) := by
  unfold am_ast at hst
  split at hst
  · split at hst
    · rename_i z r hk
      cases hst
      exact lv_astore cx.1 cx.2.1 hdg hL.has hk.1 rfl (fun ls' h => kk.upd rfl rfl hA (am_L.stored (v := vR z) hL.2.2.2 rfl hk.1 hk.2 cx.2.2.2.2.2.2.2.2.2.1 h))
    · cases hst
  · split at hst
    · rename_i r hk
      cases hst
      exact lv_asN cx.1 cx.2.1 hdg hL.has hk.1 (fun ls' h => kk.upd rfl rfl hA (am_L.stored (v := vX 0) hL.2.2.2 rfl hk.1 hk.2 cx.2.2.2.2.2.2.2.2.2.1 h))
    · cases hst
  · cases hst
theorem sw_astore_n (cx : am_Cx G M p s m args meth c) {kf : Fin 4} (hdg : decode (am_code M) pc = .ok (.astore_n kf, 1)) (hA : am_At G w ad s H locs) (hL : am_L ad (gF G) ls al) (hl : wfs w.1 al) (hs : wfs w.1 ast) (hst : am_ast kf.val 1 pc al ast w = some (.inl (pc', al', ast', w'))) (kk : am_Nx G p l e R s m args below meth c cells slots Q w ad pc' al' ast' w') : W p l e R s m args below meth c H locs cells slots Q (F0 m pc ls (ast.map (cv ad (gF G)))) := by
  unfold am_ast at hst
  split at hst
  · split at hst
    · rename_i z r hk
      cases hst
      exact lv_astore_n cx.1 cx.2.1 hdg rfl hL.has hk.1 rfl (fun ls' h => kk.upd rfl rfl hA (am_L.stored (v := vR z) hL.2.2.2 rfl hk.1 hk.2 cx.2.2.2.2.2.2.2.2.2.1 h))
    · cases hst
  · split at hst
    · rename_i r hk
      cases hst
      exact lv_asN_n cx.1 cx.2.1 hdg hL.has hk.1 (fun ls' h => kk.upd rfl rfl hA (am_L.stored (v := vX 0) hL.2.2.2 rfl hk.1 hk.2 cx.2.2.2.2.2.2.2.2.2.1 h))
    · cases hst
  · cases hst
theorem sw_iinc (cx : am_Cx G M p s m args meth c) {k : Nat} {n : Int} (hdg : decode (am_code M) pc = .ok (.iinc k n, 3)) (hA : am_At G w ad s H locs) (hL : am_L ad (gF G) ls al) (hl : wfs w.1 al) (hs : wfs w.1 ast) (hst : am_iinc k n pc al ast w = some (.inl (pc', al', ast', w'))) (kk : am_Nx G p l e R s m args below meth c cells slots Q w ad pc' al' ast' w') : W p l e R s m args below meth c H locs cells slots Q (F0 m pc ls (ast.map (cv ad (gF G)))) := by
  unfold am_iinc at hst
  split at hst
  · rename_i z hz
    split at hst
    · rename_i hk
      cases hst
      have hz2 := lget_some hz (fun t q => by cases q)
      obtain ⟨j, hj⟩ := List.getElem?_of_mem (am_lv_mem (ad := ad) (fm := gF G) (q := (k, cv ad (gF G) (.inl z))) |>.mpr ⟨_, hz2, rfl, rfl⟩)
      exact lv_iinc (v := Int32.ofInt (wr (z + n))) cx.1 cx.2.1 hdg hL.has hj (by rw [wr_of, Int32.ofInt_add]) hk.1 rfl (fun ls' h => kk.upd rfl rfl hA (am_L.stored (v := vI (wr (z + n))) hL.2.2.2 rfl hk.1 hk.2 cx.2.2.2.2.2.2.2.2.2.1 h))
    · cases hst
  · cases hst
theorem sw_null (cx : am_Cx G M p s m args meth c) {off : Int} (hdg : decode (am_code M) pc = .ok (.ifnull off, 3)) (ht : am_tgt pc off = true) (hA : am_At G w ad s H locs) (hL : am_L ad (gF G) ls al) (hl : wfs w.1 al) (hs : wfs w.1 ast) (hst : am_null true off pc al ast w = some (.inl (pc', al', ast', w'))) (kk : am_Nx G p l e R s m args below meth c cells slots Q w ad pc' al' ast' w') : W p l e R s m args below meth c H locs cells slots Q (F0 m pc ls (ast.map (cv ad (gF G)))) := by
  unfold am_null at hst
  split at hst
  · cases hst
    exact lv_ifnull cx.1 cx.2.1 hdg (kk.upd rfl rfl hA hL)
  · cases hst
    exact lv_ifnullN cx.1 cx.2.1 hdg (am_goI ht) (kk.upd rfl rfl hA hL)
  · cases hst
theorem sw_nonnull (cx : am_Cx G M p s m args meth c) {off : Int} (hdg : decode (am_code M) pc = .ok (.ifnonnull off, 3)) (ht : am_tgt pc off = true) (hA : am_At G w ad s H locs) (hL : am_L ad (gF G) ls al) (hl : wfs w.1 al) (hs : wfs w.1 ast) (hst : am_null false off pc al ast w = some (.inl (pc', al', ast', w'))) (kk : am_Nx G p l e R s m args below meth c cells slots Q w ad pc' al' ast' w') : W p l e R s m args below meth c H locs cells slots Q (F0 m pc ls (ast.map (cv ad (gF G)))) := by
  unfold am_null at hst
  split at hst
  · cases hst
    exact lv_ifnonnull cx.1 cx.2.1 hdg (am_goI ht) (kk.upd rfl rfl hA hL)
  · cases hst
    exact lv_ifnonnullN cx.1 cx.2.1 hdg (kk.upd rfl rfl hA hL)
  · cases hst
theorem sw_tsw (cx : am_Cx G M p s m args meth c) {d lo hi : Int} {offs : Array Int} {n : Nat} (hdg : decode (am_code M) pc = .ok (.tableswitch d lo hi offs, n)) (ht : am_tgt pc d = true) (ho : offs.toList.all (am_tgt pc) = true) (hA : am_At G w ad s H locs) (hL : am_L ad (gF G) ls al) (hl : wfs w.1 al) (hs : wfs w.1 ast) (hst : am_tsw d lo hi offs pc al ast w = some (.inl (pc', al', ast', w'))) (kk : am_Nx G p l e R s m args below meth c cells slots Q w ad pc' al' ast' w') : W p l e R s m args below meth c H locs cells slots Q (F0 m pc ls (ast.map (cv ad (gF G)))) := by
  unfold am_tsw at hst
  split at hst
  · rename_i x r
    have hx : (Int32.ofInt x).toInt = x := i_tI hs.hd
    split at hst
    · rename_i q
      cases hst
      exact lv_tableOut cx.1 cx.2.1 hdg (by rw [hx]; exact q) (am_goI ht) (kk.upd rfl rfl hA hL)
    · rename_i q
      split at hst
      · rename_i off hoff
        cases hst
        have hm : off ∈ offs.toList := Array.mem_toList_iff.mpr (Array.mem_of_getElem? hoff)
        exact lv_tableIn cx.1 cx.2.1 hdg (by rw [hx]; exact fun z => q (Or.inl z)) (by rw [hx]; exact fun z => q (Or.inr z)) (by rw [hx]; exact hoff) (am_goI (List.all_eq_true.mp ho off hm)) (kk.upd rfl rfl hA hL)
      · cases hst
  · cases hst
theorem am_lsw_mem (pc : Nat) (d : Int) (x : Int) (hd : am_tgt pc d = true) : ∀ (l : List (Int × Int)), l.all (fun q => am_tgt pc q.2) = true → am_tgt pc (Op.lookupswitch.offset l d x) = true
  | [], _ => hd
  | (a, o) :: l, h => by
    simp only [List.all_cons, Bool.and_eq_true] at h
    rw [Op.lookupswitch.offset]
    split
    · exact h.1
    · exact am_lsw_mem pc d x hd l h.2
theorem sw_lsw (cx : am_Cx G M p s m args meth c) {d : Int} {ps : Array (Int × Int)} {n : Nat} (hdg : decode (am_code M) pc = .ok (.lookupswitch d ps, n)) (ht : am_tgt pc d = true) (ho : ps.toList.all (fun q => am_tgt pc q.2) = true) (hp : (ps.toList.zip (ps.toList.drop 1)).all (fun (q, r) => q.1 < r.1) = true) (hA : am_At G w ad s H locs) (hL : am_L ad (gF G) ls al) (hl : wfs w.1 al) (hs : wfs w.1 ast) (hst : am_lsw d ps pc al ast w = some (.inl (pc', al', ast', w'))) (kk : am_Nx G p l e R s m args below meth c cells slots Q w ad pc' al' ast' w') : W p l e R s m args below meth c H locs cells slots Q (F0 m pc ls (ast.map (cv ad (gF G)))) := by
  unfold am_lsw at hst
  split at hst
  · rename_i x r
    cases hst
    have hx : (Int32.ofInt x).toInt = x := i_tI hs.hd
    exact lv_lookup cx.1 cx.2.1 hdg hp (by rw [hx]) (am_goI (am_lsw_mem pc d x ht _ ho)) (kk.upd rfl rfl hA hL)
  · cases hst
theorem sw_dup (cx : am_Cx G M p s m args meth c) (hdg : decode (am_code M) pc = .ok (.dup, 1)) (hA : am_At G w ad s H locs) (hL : am_L ad (gF G) ls al) (hl : wfs w.1 al) (hs : wfs w.1 ast) (hst : am_dup pc al ast w = some (.inl (pc', al', ast', w'))) (kk : am_Nx G p l e R s m args below meth c cells slots Q w ad pc' al' ast' w') : W p l e R s m args below meth c H locs cells slots Q (F0 m pc ls (ast.map (cv ad (gF G)))) := by
  unfold am_dup at hst
  split at hst
  · split at hst
    · cases hst
    · rename_i v r hv
      cases hst
      exact lv_dup cx.1 cx.2.1 hdg (cv_cat cx.2.2.2.2.2.2.2.2.2.1 (by simpa using hv)) (kk.upd rfl rfl hA hL)
  · cases hst
theorem sw_dup2 (cx : am_Cx G M p s m args meth c) (hdg : decode (am_code M) pc = .ok (.dup2, 1)) (hA : am_At G w ad s H locs) (hL : am_L ad (gF G) ls al) (hl : wfs w.1 al) (hs : wfs w.1 ast) (hst : am_dup2 pc al ast w = some (.inl (pc', al', ast', w'))) (kk : am_Nx G p l e R s m args below meth c cells slots Q w ad pc' al' ast' w') : W p l e R s m args below meth c H locs cells slots Q (F0 m pc ls (ast.map (cv ad (gF G)))) := by
  unfold am_dup2 at hst
  split at hst
  · split at hst
    · cases hst
    · rename_i v u r hv
      cases hst
      have h1 : am_long v = false := by cases q : am_long v with | false => rfl | true => exact absurd (Or.inl q) hv
      have h2 : am_long u = false := by cases q : am_long u with | false => rfl | true => exact absurd (Or.inr q) hv
      exact lv_dup2_11 cx.1 cx.2.1 hdg (cv_cat cx.2.2.2.2.2.2.2.2.2.1 h1) (cv_cat cx.2.2.2.2.2.2.2.2.2.1 h2) (kk.upd rfl rfl hA hL)
  · cases hst
theorem sw_pop (cx : am_Cx G M p s m args meth c) (hdg : decode (am_code M) pc = .ok (.pop, 1)) (hA : am_At G w ad s H locs) (hL : am_L ad (gF G) ls al) (hl : wfs w.1 al) (hs : wfs w.1 ast) (hst : am_pop pc al ast w = some (.inl (pc', al', ast', w'))) (kk : am_Nx G p l e R s m args below meth c cells slots Q w ad pc' al' ast' w') : W p l e R s m args below meth c H locs cells slots Q (F0 m pc ls (ast.map (cv ad (gF G)))) := by
  unfold am_pop at hst
  split at hst
  · split at hst
    · cases hst
    · rename_i v r hv
      cases hst
      exact lv_pop cx.1 cx.2.1 hdg (cv_cat cx.2.2.2.2.2.2.2.2.2.1 (by simpa using hv)) (kk.upd rfl rfl hA hL)
  · cases hst
end SW
