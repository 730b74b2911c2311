/-! fields, arrays, new cells -/
/-- what the checks of the tables say: of every instruction, method, class -/
def am_Wd : Prop := am_Ok ∧ (∀ M, M < 232 → ∃ q, am_mw M q = true) ∧ ∀ c, c < 11 → ∃ q l, am_cw c q l = true
theorem am_cl_at {c : Nat} (h : c < 11) : am_cl[c]? = some (am_cn c, am_T c, am_nf c) := by
  unfold am_cl
  rw [List.getElem?_map, List.getElem?_range h]
  rfl
theorem am_cw_lay {c : Nat} {q : Nat × Nat} {li : List Nat} (h : am_cw c q li = true) : ∀ w ∈ u_ws (am_cn c) (am_T c) (am_nf c), w ∈ am_tbl := by
  intro w hw
  unfold am_cw at h
  simp only [Bool.and_eq_true, decide_eq_true_eq] at h
  obtain ⟨k, hk, rfl⟩ := List.mem_map.mp hw
  obtain ⟨i, hi⟩ := am_zip_mem (List.range (am_nf c)) li (by rw [List.length_range, h.1.1.1.2]; exact Nat.le_refl _) k hk
  refine am_twi (List.all_eq_true.mp h.1.1.2 _ hi) ?_
  unfold u_lay
  split <;> rfl
theorem am_cw_inst {c : Nat} {q : Nat × Nat} {li : List Nat} (h : am_cw c q li = true) : Cond.instantiable (am_cn c) (am_nf c) ∈ am_tbl ∧ Cond.initialized (am_cn c) ∈ am_tbl := by
  unfold am_cw at h
  simp only [Bool.and_eq_true, decide_eq_true_eq] at h
  exact ⟨am_twi h.1.1.1.1.1 rfl, am_twi h.1.1.1.1.2 rfl⟩
theorem am_cw_ty {c k : Nat} {q : Nat × Nat} {li : List Nat} (h : am_cw c q li = true) (hk : k < am_nf c) : parseFieldDescriptor (am_T c k).2.2.1 = some .int ∧ am_tyn c k = 0 ∨ parseFieldDescriptor (am_T c k).2.2.1 = some .boolean ∧ am_tyn c k = 1 ∨ am_tyn c k = 2 ∧ am_reta (parseFieldDescriptor (am_T c k).2.2.1) = true := by
  unfold am_cw at h
  simp only [Bool.and_eq_true, decide_eq_true_eq] at h
  have := List.all_eq_true.mp h.1.2 k (List.mem_range.mpr hk)
  simp only [Bool.and_eq_true, decide_eq_true_eq] at this
  exact this.2
theorem am_cw_nm {c : Nat} {q : Nat × Nat} {li : List Nat} (h : am_cw c q li = true) : ∀ a, a < am_nf c → ∀ b, b < am_nf c → a ≠ b → (am_T c a).2.1 ≠ (am_T c b).2.1 := by
  unfold am_cw at h
  simp only [Bool.and_eq_true, decide_eq_true_eq] at h
  intro a ha b hb hab
  have := List.all_eq_true.mp (List.all_eq_true.mp h.2 a (List.mem_range.mpr ha)) b (List.mem_range.mpr hb)
  simp only [Bool.or_eq_true, decide_eq_true_eq] at this
  rcases this with q | q
  · exact absurd (Nat.eq_of_beq_eq_true q) hab
  · exact q
theorem am_reta_some {o : Option FieldType} (h : am_reta o = true) : ∃ ty, o = some ty ∧ ((∃ n, ty = .object n) ∨ ∃ t, ty = .array t) := by
  unfold am_reta at h
  split at h
  · exact ⟨_, rfl, Or.inl ⟨_, rfl⟩⟩
  · exact ⟨_, rfl, Or.inr ⟨_, rfl⟩⟩
  · cases h
/-- the types of a class's fields -/
def am_fty (c k : Nat) : FieldType := (parseFieldDescriptor (am_T c k).2.2.1).getD .int
theorem am_fty_ok {c : Nat} {q : Nat × Nat} {li : List Nat} (h : am_cw c q li = true) : ∀ k, k < am_nf c → parseFieldDescriptor (am_T c k).2.2.1 = some (am_fty c k) := by
  intro k hk
  unfold am_fty
  rcases am_cw_ty h hk with ⟨h1, -⟩ | ⟨h1, -⟩ | ⟨-, h1⟩
  · rw [h1]; rfl
  · rw [h1]; rfl
  · obtain ⟨ty, h2, -⟩ := am_reta_some h1
    rw [h2]; rfl
theorem am_bit_01 {z : Int} (h : am_bit z = true) : z = 0 ∨ z = 1 := by
  unfold am_bit at h
  split at h
  · exact Or.inl rfl
  · exact Or.inr rfl
  · cases h
theorem am_isref_cv {ad : Nat → Nat} {fm : Value} {v : AV} (h : am_isref v = true) : (∃ k, v = vR k ∧ cv ad fm v = .ref (ad k)) ∨ v = vX 0 ∧ cv ad fm v = .null := by
  unfold am_isref at h
  split at h
  · exact Or.inl ⟨_, rfl, rfl⟩
  · exact Or.inr ⟨rfl, rfl⟩
  · cases h
theorem am_fit0 {v : AV} (h : am_fit 0 v = true) : ∃ z, v = vI z := by
  rcases v with z | k | u | t
  · exact ⟨z, rfl⟩
  · cases h
  · cases h
  · cases h
theorem am_fit1 {v : AV} (h : am_fit 1 v = true) : v = vI 0 ∨ v = vI 1 := by
  rcases v with z | k | u | t
  · rcases am_bit_01 (show am_bit z = true from h) with rfl | rfl
    · exact Or.inl rfl
    · exact Or.inr rfl
  · cases h
  · cases h
  · cases h
theorem am_fit_ty {c k : Nat} {q : Nat × Nat} {li : List Nat} {ad : Nat → Nat} {fm : Value} {v : AV} (h : am_cw c q li = true) (hk : k < am_nf c) (hv : am_fit (am_tyn c k) v = true) : narrow (am_fty c k) (cv ad fm v) = cv ad fm v ∧ fits (am_fty c k) (cv ad fm v) = true := by
  have e := am_fty_ok h k hk
  rcases am_cw_ty h hk with ⟨h1, h2⟩ | ⟨h1, h2⟩ | ⟨h2, h1⟩
  · rw [h1] at e
    rw [← Option.some.inj e]
    rw [h2] at hv
    obtain ⟨z, rfl⟩ := am_fit0 hv
    exact ⟨rfl, rfl⟩
  · rw [h1] at e
    rw [← Option.some.inj e]
    rw [h2] at hv
    rcases am_fit1 hv with rfl | rfl
    · exact ⟨rfl, rfl⟩
    · exact ⟨rfl, rfl⟩
  · obtain ⟨ty, h3, h4⟩ := am_reta_some h1
    rw [h3] at e
    rw [← Option.some.inj e]
    rw [h2] at hv
    rcases am_isref_cv (ad := ad) (fm := fm) (show am_isref v = true from hv) with ⟨n, -, h5⟩ | ⟨-, h5⟩ <;> rw [h5] <;> rcases h4 with ⟨n, rfl⟩ | ⟨n, rfl⟩ <;> exact ⟨rfl, rfl⟩
theorem am_nneg {i : Int} (h : rng i) : (Int32.ofInt i).toNatClampNeg = i.toNat := by
  show (Int32.ofInt i).toInt.toNat = i.toNat
  rw [i_tI h]
theorem am_vin {i : Int} {n : Nat} (hr : rng i) (h : am_in i n = true) : vp_in (Int32.ofInt i) n := by
  have := am_in_lt h
  rw [vp_in_iff, i_tI hr]
  omega
section SM
variable {G : AG} {M : Nat} {p : Program} {l : Launch} {e : Env} {R : Room} {s : State} {m : MethodId} {args : Array Value} {below : List Frame} {meth : Method} {c : Code} {H : Heap} {locs : List Loc} {cells slots : Nat} {Q : State → Prop} {w w' : AW} {ad : Nat → Nat} {pc pc' : Nat} {al al' ast ast' : List AV} {ls : Array Slot}
theorem am_At.adr {k : Nat} (hA : am_At G w ad s H locs) (h : k < 19) : ad k = gA G k := (hA.2.1 k h).2.2.2
theorem am_At.cvC {k i : Nat} (cx : am_Cx G M p s m args meth c) (hA : am_At G w ad s H locs) (h : k < 19) : cv (gA G) (gF G) (gC G k i) = cv ad (gF G) (am_ct w k i) := by
  rw [(hA.2.1 k h).2.2.1 i]
  exact cv_congr (n := 19) (fun q hq => (hA.adr hq).symm) (cx.2.2.2.2.2.2.2.2.2.2 k h i)
theorem am_R0.put {k j : Nat} {v : AV} (h : am_R0 G w ad) (hk : 19 ≤ k) : am_R0 G (am_put w k j v) ad := by
  intro q hq
  obtain ⟨h1, h2, h3, h4⟩ := h q hq
  refine ⟨h1, h2, fun i => ?_, h4⟩
  rw [← h3 i]
  unfold am_ct am_put
  dsimp only
  rw [if_neg (by omega)]
theorem am_R0.cpy {k q sp dp n : Nat} (h : am_R0 G w ad) (hq : 19 ≤ q) : am_R0 G (am_cpy w k q sp dp n) ad := by
  intro x hx
  obtain ⟨h1, h2, h3, h4⟩ := h x hx
  refine ⟨h1, h2, fun i => ?_, h4⟩
  rw [← h3 i]
  unfold am_ct am_cpy
  dsimp only
  rw [if_neg (by omega)]
theorem am_R0.new {kind len a : Nat} {f : Nat → AV} (h : am_R0 G w ad) (hn : 19 ≤ w.1) : am_R0 G (am_new w kind len f) (fun k => if k = w.1 then a else ad k) := by
  intro x hx
  obtain ⟨h1, h2, h3, h4⟩ := h x hx
  rw [am_new_kd, am_new_ln, am_new_ct, if_neg (by omega), if_neg (by omega), if_neg (by omega)]
  exact ⟨h1, h2, h3, by dsimp only; rw [if_neg (by omega)]; exact h4⟩
theorem sx_getf (cx : am_Cx G M p s m args meth c) {idx k a j : Nat} {q : Nat × Nat} {li : List Nat} (hdg : decode (am_code M) pc = .ok (.getfield idx, 3)) (hf : am_fl[k]? = some (am_own M, idx, a, j)) (ha : a < 11) (hj : j < am_nf a) (hcw : am_cw a q li = true)
    (hA : am_At G w ad s H locs) (hL : am_L ad (gF G) ls al) (hs : wfs w.1 ast) (hst : am_getf a j pc al ast w = some (.inl (pc', al', ast', w'))) (kk : am_Nx G p l e R s m args below meth c cells slots Q w ad pc' al' ast' w') :
    W p l e R s m args below meth c H locs cells slots Q (F0 m pc ls (ast.map (cv ad (gF G)))) := by
  unfold am_getf at hst
  split at hst
  · split at hst
    · rename_i k0 r hkd
      cases hst
      have hk0 : k0 < w.1 := hs.hd
      obtain ⟨g1, g2, g3, g4, g5, g6, g7, g8⟩ := hA.1.2 k0 hk0
      have h19 : 19 ≤ k0 := by omega
      have he := am_ws_get (cI := gI G) (cZ := gZ G) (cR := gR G) (fm := gF G) (ad := ad) h19 hk0
      rw [am_ent_obj (by omega), hkd, g3 (by omega), hkd] at he
      refine va_get (Ts := am_tbl) (own := am_cn (am_own M)) (ref := am_cn a) (C := am_cn a) (T := am_T a) (N := am_nf a) (ci := a) cx.1 cx.2.1 cx.2.2.2.2.1 (am_cw_lay hcw) cx.2.2.2.1 cx.2.2.2.2.2.2.1.1 hA.2.2.1 (k0 - 19) he (am_cl_at ha) j hj (cx.2.2.2.2.1 _ (am_tw (am_fl_in hf) rfl)) (fun x h => h) (v := cv ad (gF G) (am_ct w k0 j)) ?_ hdg (kk.upd rfl rfl hA hL)
      rw [List.getElem?_map, List.getElem?_range hj]
      rfl
    · cases hst
  · cases hst
theorem sx_getS (cx : am_Cx G M p s m args meth c) {idx j i : Nat} (hdg : decode (am_code M) pc = .ok (.getfield idx, 3)) (hf : j = 0 ∧ am_at i (.fieldLink (am_cn (am_own M)) idx "java/lang/String" "value" "[B") = true ∨ j = 1 ∧ am_at i (.fieldLink (am_cn (am_own M)) idx "java/lang/String" "coder" "B") = true)
    (hA : am_At G w ad s H locs) (hL : am_L ad (gF G) ls al) (hs : wfs w.1 ast) (hst : am_getf 120 j pc al ast w = some (.inl (pc', al', ast', w'))) (kk : am_Nx G p l e R s m args below meth c cells slots Q w ad pc' al' ast' w') :
    W p l e R s m args below meth c H locs cells slots Q (F0 m pc ls (ast.map (cv ad (gF G)))) := by
  unfold am_getf at hst
  split at hst
  · split at hst
    · rename_i k0 r hkd
      cases hst
      have hk0 : k0 < w.1 := hs.hd
      obtain ⟨g1, g2, g3, g4, g5, g6, g7, g8⟩ := hA.1.2 k0 hk0
      have h19 : k0 < 19 := by omega
      have hz := ((cx.2.2.2.2.2.2.2.1).2.2.2.2 k0 h19).2.2 (by rw [← (hA.2.1 k0 h19).1]; exact hkd)
      have h := kk.upd rfl rfl hA hL
      show W p l e R s m args below meth c H locs cells slots Q (F0 m pc ls (.ref (ad k0) :: _))
      rw [hA.adr h19]
      rcases hf with ⟨rfl, hf⟩ | ⟨rfl, hf⟩
      · refine vk_getf cx.1 cx.2.1 hz.2.1 hA.2.2.2.2 cx.2.2.2.1 (cx.2.2.2.2.1 _ (am_twi hf rfl)) (fun x h => h) hdg ?_
        rw [hA.cvC cx h19]
        exact h
      · refine vk_getf cx.1 cx.2.1 hz.2.2 hA.2.2.2.2 cx.2.2.2.1 (cx.2.2.2.2.1 _ (am_twi hf rfl)) (fun x h => h) hdg ?_
        rw [hA.cvC cx h19]
        exact h
    · cases hst
  · cases hst
theorem am_fs_set {n j : Nat} {f : Nat → AV} {ad : Nat → Nat} {fm : Value} {v : AV} (hj : j < n) : ((List.range n).map (fun i => cv ad fm (f i))).set j (cv ad fm v) = (List.range n).map (fun i => cv ad fm (if i = j then v else f i)) := by
  apply List.ext_getElem?
  intro i
  by_cases hi : i < n
  · rw [List.getElem?_map, List.getElem?_range hi]
    by_cases hij : i = j
    · subst hij
      rw [List.getElem?_set_self (by rw [List.length_map, List.length_range]; exact hi)]
      simp
    · rw [List.getElem?_set_ne (Ne.symm hij), List.getElem?_map, List.getElem?_range hi]
      simp [hij]
  · rw [List.getElem?_eq_none (by rw [List.length_set, List.length_map, List.length_range]; omega), List.getElem?_eq_none (by rw [List.length_map, List.length_range]; omega)]
theorem sx_putf (cx : am_Cx G M p s m args meth c) {idx k a j : Nat} {q : Nat × Nat} {li : List Nat} (hdg : decode (am_code M) pc = .ok (.putfield idx, 3)) (hf : am_fl[k]? = some (am_own M, idx, a, j)) (ha : a < 11) (hj : j < am_nf a) (hcw : am_cw a q li = true) (hfin : (am_T a j).2.2.2 = true → (am_y M).name = "<init>" ∧ a = am_own M)
    (hA : am_At G w ad s H locs) (hL : am_L ad (gF G) ls al) (hs : wfs w.1 ast) (hw' : wfw w') (hst : am_putf a j pc al ast w = some (.inl (pc', al', ast', w'))) (kk : am_Nx G p l e R s m args below meth c cells slots Q w ad pc' al' ast' w') :
    W p l e R s m args below meth c H locs cells slots Q (F0 m pc ls (ast.map (cv ad (gF G)))) := by
  unfold am_putf at hst
  split at hst
  · split at hst
    · rename_i v k0 r hkd
      cases hst
      have hk0 : k0 < w.1 := hs.tl.hd
      obtain ⟨g1, g2, g3, g4, g5, g6, g7, g8⟩ := hA.1.2 k0 hk0
      have h19 : 19 ≤ k0 := by omega
      have he := am_ws_get (cI := gI G) (cZ := gZ G) (cR := gR G) (fm := gF G) (ad := ad) h19 hk0
      rw [am_ent_obj (by omega), hkd.1, g3 (by omega), hkd.1] at he
      obtain ⟨hn, hfit⟩ := am_fit_ty (ad := ad) (fm := gF G) hcw hj hkd.2
      have hlen : j < ((List.range (am_nf a)).map (fun i => cv ad (gF G) (am_ct w k0 i))).length := by rw [List.length_map, List.length_range]; exact hj
      have fin : ∀ (H1 : Heap) (locs1 : List Loc), va_P (gD G) am_cl ((am_ws (gI G) (gZ G) (gR G) (gF G) w ad).set (k0 - 19) (ad k0, .inr (a, ((List.range (am_nf a)).map (fun i => cv ad (gF G) (am_ct w k0 i))).set j (cv ad (gF G) v)))) H1 → va_D (gP G) ((am_ws (gI G) (gZ G) (gR G) (gF G) w ad).set (k0 - 19) (ad k0, .inr (a, ((List.range (am_nf a)).map (fun i => cv ad (gF G) (am_ct w k0 i))).set j (cv ad (gF G) v)))) → va_S (gP G) s.heap H1 locs1 →
          W p l e R s m args below meth c H1 locs1 cells slots Q (F0 m (pc + 3) ls (ast'.map (cv ad (gF G)))) := by
        intro H1 locs1 hP hD hS
        rw [am_fs_set hj, am_ws_set (w' := am_put w k0 j v) h19 hk0 rfl (by
          rw [am_ent_obj (show am_kd (am_put w k0 j v) k0 < 11 by show am_kd w k0 < 11; omega)]
          show Sum.inr (am_kd w k0, (List.range (am_ln w k0)).map _) = _
          rw [hkd.1, g3 (by omega), hkd.1]
          congr 2
          apply List.map_congr_left
          intro i _
          rw [am_put_ct]) (fun x hx => am_ent_put_ne hx)] at hP hD
        exact kk.upd rfl rfl ⟨hw', hA.2.1.put h19, hP, hD, hS⟩ hL
      cases hff : (am_T a j).2.2.2 with
      | false => exact va_put (Ts := am_tbl) (own := am_cn (am_own M)) (ref := am_cn a) (C := am_cn a) (T := am_T a) (N := am_nf a) (ci := a) cx.1 cx.2.1 cx.2.2.2.2.1 (am_cw_lay hcw) (am_fty a) (am_fty_ok hcw) (am_cw_nm hcw) cx.2.2.2.1 cx.2.2.2.2.2.2.1.1 hA.2.2.1 hA.2.2.2.1 hA.2.2.2.2 (k0 - 19) he (am_cl_at ha) j hj (cx.2.2.2.2.1 _ (am_tw (am_fl_in hf) rfl)) (fun x h => h) hff (am_fty_ok hcw j hj) hn hfit hlen hdg fin
      | true =>
        obtain ⟨hi1, hi2⟩ := hfin hff
        exact va_putF (Ts := am_tbl) (own := am_cn (am_own M)) (ref := am_cn a) (C := am_cn a) (T := am_T a) (N := am_nf a) (ci := a) cx.1 cx.2.1 cx.2.2.2.2.1 (am_cw_lay hcw) (am_fty a) (am_fty_ok hcw) (am_cw_nm hcw) cx.2.2.2.1 cx.2.2.2.2.2.2.1.1 hA.2.2.1 hA.2.2.2.1 hA.2.2.2.2 (k0 - 19) he (am_cl_at ha) j hj (cx.2.2.2.2.1 _ (am_tw (am_fl_in hf) rfl)) (fun x h => h) hff (by rw [cx.2.2.2.2.2.1]; exact hi1) (by rw [hi2]; rfl) (am_fty_ok hcw j hj) hn hfit hlen hdg fin
    · cases hst
  · cases hst
theorem sx_iload (cx : am_Cx G M p s m args meth c) (hdg : decode (am_code M) pc = .ok (.iaload, 1)) (hA : am_At G w ad s H locs) (hL : am_L ad (gF G) ls al) (hs : wfs w.1 ast) (hst : am_iload pc al ast w = some (.inl (pc', al', ast', w'))) (kk : am_Nx G p l e R s m args below meth c cells slots Q w ad pc' al' ast' w') :
    W p l e R s m args below meth c H locs cells slots Q (F0 m pc ls (ast.map (cv ad (gF G)))) := by
  unfold am_iload at hst
  split at hst
  · split at hst
    · rename_i i k0 r hkd
      cases hst
      have hk0 : k0 < w.1 := hs.tl.hd
      obtain ⟨g1, g2, g3, g4, g5, g6, g7, g8⟩ := hA.1.2 k0 hk0
      have hi := am_vin hs.hd hkd.2
      have hi2 := (am_in_lt hkd.2).2.2
      have h := kk.upd rfl rfl hA hL
      rcases hkd.1 with hk | hk
      · have h19 : 19 ≤ k0 := by omega
        have he := am_ws_get (cI := gI G) (cZ := gZ G) (cR := gR G) (fm := gF G) (ad := ad) h19 hk0
        rw [am_ent_int hk] at he
        refine va_iald cx.1 cx.2.1 cx.2.2.2.2.2.2.1.1 hA.2.2.1 (k0 - 19) 0 he rfl hi hdg ?_
        rw [am_nneg hs.hd]
        obtain ⟨z, hz⟩ := g4 (by unfold am_intk; omega) i.toNat hi2
        rw [hz] at h ⊢
        exact h
      · have h19 : k0 < 19 := by omega
        have hz := ((cx.2.2.2.2.2.2.2.1).2.2.2.2 k0 h19).1 (by rw [← (hA.2.1 k0 h19).1]; exact hk)
        show W p l e R s m args below meth c H locs cells slots Q (F0 m pc ls (_ :: .ref (ad k0) :: _))
        rw [hA.adr h19]
        refine va_ti cx.1 cx.2.1 hz hA.2.2.2.2 (by rw [← (hA.2.1 k0 h19).2.1]; exact hi) (v := cv ad (gF G) (am_ct w k0 i.toNat)) ?_ hdg h
        rw [am_nneg hs.hd]
        exact hA.cvC cx h19
    · cases hst
  · cases hst
theorem sx_bload (cx : am_Cx G M p s m args meth c) (hdg : decode (am_code M) pc = .ok (.baload, 1)) (hA : am_At G w ad s H locs) (hL : am_L ad (gF G) ls al) (hs : wfs w.1 ast) (hst : am_bload pc al ast w = some (.inl (pc', al', ast', w'))) (kk : am_Nx G p l e R s m args below meth c cells slots Q w ad pc' al' ast' w') :
    W p l e R s m args below meth c H locs cells slots Q (F0 m pc ls (ast.map (cv ad (gF G)))) := by
  unfold am_bload at hst
  split at hst
  · split at hst
    · rename_i i k0 r hkd
      cases hst
      have hk0 : k0 < w.1 := hs.tl.hd
      obtain ⟨g1, g2, g3, g4, g5, g6, g7, g8⟩ := hA.1.2 k0 hk0
      have hi := am_vin hs.hd hkd.2
      have hi2 := (am_in_lt hkd.2).2.2
      have h := kk.upd rfl rfl hA hL
      rcases hkd.1 with hk | hk
      · have h19 : 19 ≤ k0 := by omega
        have he := am_ws_get (cI := gI G) (cZ := gZ G) (cR := gR G) (fm := gF G) (ad := ad) h19 hk0
        rw [am_ent_boo hk] at he
        refine va_zald cx.1 cx.2.1 cx.2.2.2.2.2.2.1.1 hA.2.2.1 (k0 - 19) 1 he rfl hi hdg ?_
        rw [am_nneg hs.hd]
        obtain ⟨z, hz⟩ := g4 (by unfold am_intk; omega) i.toNat hi2
        rw [hz] at h ⊢
        exact h
      · have h19 : k0 < 19 := by omega
        have hz := ((cx.2.2.2.2.2.2.2.1).2.2.2.2 k0 h19).2.1 (by rw [← (hA.2.1 k0 h19).1]; exact hk)
        show W p l e R s m args below meth c H locs cells slots Q (F0 m pc ls (_ :: .ref (ad k0) :: _))
        rw [hA.adr h19]
        refine va_tb cx.1 cx.2.1 hz hA.2.2.2.2 (by rw [← (hA.2.1 k0 h19).2.1]; exact hi) (v := cv ad (gF G) (am_ct w k0 i.toNat)) ?_ hdg h
        rw [am_nneg hs.hd]
        exact hA.cvC cx h19
    · cases hst
  · cases hst
theorem sx_aload (cx : am_Cx G M p s m args meth c) (hdg : decode (am_code M) pc = .ok (.aaload, 1)) (hA : am_At G w ad s H locs) (hL : am_L ad (gF G) ls al) (hs : wfs w.1 ast) (hst : am_aload pc al ast w = some (.inl (pc', al', ast', w'))) (kk : am_Nx G p l e R s m args below meth c cells slots Q w ad pc' al' ast' w') :
    W p l e R s m args below meth c H locs cells slots Q (F0 m pc ls (ast.map (cv ad (gF G)))) := by
  unfold am_aload at hst
  split at hst
  · split at hst
    · rename_i i k0 r hkd
      cases hst
      have hk0 : k0 < w.1 := hs.tl.hd
      obtain ⟨g1, g2, g3, g4, g5, g6, g7, g8⟩ := hA.1.2 k0 hk0
      have hi := am_vin hs.hd hkd.2
      have hi2 := (am_in_lt hkd.2).2.2
      have h := kk.upd rfl rfl hA hL
      have h19 : 19 ≤ k0 := by omega
      have he := am_ws_get (cI := gI G) (cZ := gZ G) (cR := gR G) (fm := gF G) (ad := ad) h19 hk0
      rw [am_ent_row hkd.1] at he
      refine va_aldq cx.1 cx.2.1 cx.2.2.2.2.2.2.1.1 hA.2.2.1 (k0 - 19) 2 he rfl hi hdg ?_
      rw [am_nneg hs.hd, if_pos hi2]
      rcases am_isref_cv (ad := ad) (fm := gF G) (g5 hkd.1 i.toNat hi2) with ⟨n, hn, -⟩ | ⟨hn, -⟩
      · rw [hn] at h ⊢
        exact h
      · rw [hn] at h ⊢
        exact h
    · cases hst
  · cases hst
theorem am_put_i32 {k i : Nat} {x : Int} : (fun j => am_i32 (am_ct (am_put w k i (vI x)) k j)) = upd (fun j => am_i32 (am_ct w k j)) i (Int32.ofInt x) := by
  funext j
  rw [am_put_ct]
  unfold upd
  split <;> rfl
theorem am_put_rfo {k i n v : Nat} {ad : Nat → Nat} (hi : i < n) : (fun j => if j < n then am_rfo ad (am_ct (am_put w k i (vR v)) k j) else none) = va_up (fun j => if j < n then am_rfo ad (am_ct w k j) else none) i (some (ad v)) := by
  funext j
  rw [am_put_ct]
  unfold va_up
  by_cases hj : j = i
  · rw [if_pos hj, if_pos hj, if_pos (by omega)]
    rfl
  · rw [if_neg hj, if_neg hj]
theorem sx_istore (cx : am_Cx G M p s m args meth c) (hdg : decode (am_code M) pc = .ok (.iastore, 1)) (hA : am_At G w ad s H locs) (hL : am_L ad (gF G) ls al) (hs : wfs w.1 ast) (hw' : wfw w') (hst : am_istore pc al ast w = some (.inl (pc', al', ast', w'))) (kk : am_Nx G p l e R s m args below meth c cells slots Q w ad pc' al' ast' w') :
    W p l e R s m args below meth c H locs cells slots Q (F0 m pc ls (ast.map (cv ad (gF G)))) := by
  unfold am_istore at hst
  split at hst
  · split at hst
    · rename_i x i k0 r hkd
      cases hst
      have hk0 : k0 < w.1 := hs.tl.tl.hd
      obtain ⟨g1, g2, g3, g4, g5, g6, g7, g8⟩ := hA.1.2 k0 hk0
      have hi := am_vin hs.tl.hd hkd.2
      have h19 : 19 ≤ k0 := by omega
      have he := am_ws_get (cI := gI G) (cZ := gZ G) (cR := gR G) (fm := gF G) (ad := ad) h19 hk0
      rw [am_ent_int hkd.1] at he
      refine va_iast cx.1 cx.2.1 cx.2.2.2.2.2.2.1.1 hA.2.2.1 hA.2.2.2.1 hA.2.2.2.2 (k0 - 19) 0 he rfl hi hdg ?_
      intro H1 locs1 hP hD hS
      rw [am_nneg hs.tl.hd, am_ws_set (w' := am_put w k0 i.toNat (vI x)) h19 hk0 rfl (by
        rw [am_ent_int (show am_kd (am_put w k0 i.toNat (vI x)) k0 = 100 from hkd.1), am_put_i32]
        rfl) (fun x hx => am_ent_put_ne hx)] at hP hD
      exact kk.upd rfl rfl ⟨hw', hA.2.1.put h19, hP, hD, hS⟩ hL
    · cases hst
  · cases hst
theorem sx_bstore (cx : am_Cx G M p s m args meth c) (hdg : decode (am_code M) pc = .ok (.bastore, 1)) (hA : am_At G w ad s H locs) (hL : am_L ad (gF G) ls al) (hs : wfs w.1 ast) (hw' : wfw w') (hst : am_bstore pc al ast w = some (.inl (pc', al', ast', w'))) (kk : am_Nx G p l e R s m args below meth c cells slots Q w ad pc' al' ast' w') :
    W p l e R s m args below meth c H locs cells slots Q (F0 m pc ls (ast.map (cv ad (gF G)))) := by
  unfold am_bstore at hst
  split at hst
  · split at hst
    · rename_i x i k0 r hkd
      cases hst
      have hk0 : k0 < w.1 := hs.tl.tl.hd
      obtain ⟨g1, g2, g3, g4, g5, g6, g7, g8⟩ := hA.1.2 k0 hk0
      have hi := am_vin hs.tl.hd hkd.2.1
      have h19 : 19 ≤ k0 := by omega
      have he := am_ws_get (cI := gI G) (cZ := gZ G) (cR := gR G) (fm := gF G) (ad := ad) h19 hk0
      rw [am_ent_boo hkd.1] at he
      have hx : vp_nar .boolean (Int32.ofInt x) = Int32.ofInt x := by rcases am_bit_01 hkd.2.2 with rfl | rfl <;> rfl
      refine va_zast cx.1 cx.2.1 cx.2.2.2.2.2.2.1.1 hA.2.2.1 hA.2.2.2.1 hA.2.2.2.2 (k0 - 19) 1 he rfl hi hdg ?_
      intro H1 locs1 hP hD hS
      rw [hx, am_nneg hs.tl.hd, am_ws_set (w' := am_put w k0 i.toNat (vI x)) h19 hk0 rfl (by
        rw [am_ent_boo (show am_kd (am_put w k0 i.toNat (vI x)) k0 = 101 from hkd.1), am_put_i32]
        rfl) (fun x hx => am_ent_put_ne hx)] at hP hD
      exact kk.upd rfl rfl ⟨hw', hA.2.1.put h19, hP, hD, hS⟩ hL
    · cases hst
  · cases hst
theorem sx_astore (cx : am_Cx G M p s m args meth c) (hdg : decode (am_code M) pc = .ok (.aastore, 1)) (hA : am_At G w ad s H locs) (hL : am_L ad (gF G) ls al) (hs : wfs w.1 ast) (hw' : wfw w') (hst : am_astore pc al ast w = some (.inl (pc', al', ast', w'))) (kk : am_Nx G p l e R s m args below meth c cells slots Q w ad pc' al' ast' w') :
    W p l e R s m args below meth c H locs cells slots Q (F0 m pc ls (ast.map (cv ad (gF G)))) := by
  unfold am_astore at hst
  split at hst
  · split at hst
    · rename_i v i k0 r hkd
      cases hst
      have hk0 : k0 < w.1 := hs.tl.tl.hd
      have hv0 : v < w.1 := hs.hd
      obtain ⟨g1, g2, g3, g4, g5, g6, g7, g8⟩ := hA.1.2 k0 hk0
      obtain ⟨-, -, f3, -, -, -, f7, -⟩ := hA.1.2 v hv0
      have hi := am_vin hs.tl.hd hkd.2.1
      have hi2 := (am_in_lt hkd.2.1).2.2
      have h19 : 19 ≤ k0 := by omega
      have hv19 : 19 ≤ v := by omega
      have he := am_ws_get (cI := gI G) (cZ := gZ G) (cR := gR G) (fm := gF G) (ad := ad) h19 hk0
      have hev := am_ws_get (cI := gI G) (cZ := gZ G) (cR := gR G) (fm := gF G) (ad := ad) hv19 hv0
      rw [am_ent_row hkd.1] at he
      rw [am_ent_obj (by omega), hkd.2.2] at hev
      refine va_astq cx.1 cx.2.1 cx.2.2.2.2.2.2.1.1 hA.2.2.1 hA.2.2.2.1 hA.2.2.2.2 (k0 - 19) 2 (v - 19) 5 he rfl hev (am_cl_at (by decide)) hi hdg ?_
      intro H1 locs1 hP hD hS
      rw [am_nneg hs.tl.hd, am_ws_set (w' := am_put w k0 i.toNat (vR v)) h19 hk0 rfl (by
        rw [am_ent_row (show am_kd (am_put w k0 i.toNat (vR v)) k0 = 103 from hkd.1)]
        rw [show am_ln (am_put w k0 i.toNat (vR v)) k0 = am_ln w k0 from rfl, am_put_rfo hi2]) (fun x hx => am_ent_put_ne hx)] at hP hD
      exact kk.upd rfl rfl ⟨hw', hA.2.1.put h19, hP, hD, hS⟩ hL
    · cases hst
  · cases hst
theorem sx_alen (cx : am_Cx G M p s m args meth c) (hdg : decode (am_code M) pc = .ok (.arraylength, 1)) (hA : am_At G w ad s H locs) (hL : am_L ad (gF G) ls al) (hs : wfs w.1 ast) (hst : am_alen pc al ast w = some (.inl (pc', al', ast', w'))) (kk : am_Nx G p l e R s m args below meth c cells slots Q w ad pc' al' ast' w') :
    W p l e R s m args below meth c H locs cells slots Q (F0 m pc ls (ast.map (cv ad (gF G)))) := by
  unfold am_alen at hst
  split at hst
  · split at hst
    · rename_i k0 r hkd
      cases hst
      have hk0 : k0 < w.1 := hs.hd
      obtain ⟨g1, g2, g3, g4, g5, g6, g7, g8⟩ := hA.1.2 k0 hk0
      have h := kk.upd rfl rfl hA hL
      have hv : Int32.ofNat (am_ln w k0) = Int32.ofInt (am_ln w k0 : Int) := (Int32.ofInt_eq_ofNat).symm
      have ro : ∀ {ty : FieldType} {f : Nat → Value}, k0 < 19 → va_T ty (gA G k0) (gL G k0) f (gP G) s s.heap → W p l e R s m args below meth c H locs cells slots Q (F0 m pc ls ((.inr (.inl k0) :: r : List AV).map (cv ad (gF G)))) := by
        intro ty f h19 hz
        show W p l e R s m args below meth c H locs cells slots Q (F0 m pc ls (.ref (ad k0) :: _))
        rw [hA.adr h19]
        exact va_tlen cx.1 cx.2.1 hz hA.2.2.2.2 (by rw [← (hA.2.1 k0 h19).2.1]; exact hv) hdg h
      rcases hkd with hk | hk | hk | hk | hk
      · have he := am_ws_get (cI := gI G) (cZ := gZ G) (cR := gR G) (fm := gF G) (ad := ad) (show 19 ≤ k0 by omega) hk0
        rw [am_ent_int hk] at he
        exact va_alen cx.1 cx.2.1 cx.2.2.2.2.2.2.1.1 hA.2.2.1 (k0 - 19) 0 he rfl hv hdg h
      · have he := am_ws_get (cI := gI G) (cZ := gZ G) (cR := gR G) (fm := gF G) (ad := ad) (show 19 ≤ k0 by omega) hk0
        rw [am_ent_boo hk] at he
        exact va_alen cx.1 cx.2.1 cx.2.2.2.2.2.2.1.1 hA.2.2.1 (k0 - 19) 1 he rfl hv hdg h
      · have he := am_ws_get (cI := gI G) (cZ := gZ G) (cR := gR G) (fm := gF G) (ad := ad) (show 19 ≤ k0 by omega) hk0
        rw [am_ent_row hk] at he
        exact va_alen cx.1 cx.2.1 cx.2.2.2.2.2.2.1.1 hA.2.2.1 (k0 - 19) 2 he rfl hv hdg h
      · have h19 : k0 < 19 := by omega
        exact ro h19 (((cx.2.2.2.2.2.2.2.1).2.2.2.2 k0 h19).1 (by rw [← (hA.2.1 k0 h19).1]; exact hk))
      · have h19 : k0 < 19 := by omega
        exact ro h19 (((cx.2.2.2.2.2.2.2.1).2.2.2.2 k0 h19).2.1 (by rw [← (hA.2.1 k0 h19).1]; exact hk))
    · cases hst
  · cases hst
end SM
