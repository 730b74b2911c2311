/-! constants, statics, copies, new cells; every step that is no call and no end -/
section SN
variable {G : AG} {M : Nat} {p : Program} {l : Launch} {e : Env} {R : Room} {s : State} {m : MethodId} {args : Array Value} {below : List Frame} {meth : Method} {c : Code} {H : Heap} {locs : List Loc} {cells slots : Nat} {Q : State → Prop} {w w' : AW} {ad : Nat → Nat} {pc pc' : Nat} {al al' ast ast' : List AV} {ls : Array Slot}
theorem am_ent_cpy_ne {k q sp dp n x : Nat} {cI cZ cR : ClassId} {fm : Value} (h : x ≠ q) : am_ent cI cZ cR fm (am_cpy w k q sp dp n) ad x = am_ent cI cZ cR fm w ad x := by
  have e : ∀ i, am_ct (am_cpy w k q sp dp n) x i = am_ct w x i := by
    intro i
    unfold am_ct am_cpy
    dsimp only
    rw [if_neg h]
  unfold am_ent
  rw [show am_kd (am_cpy w k q sp dp n) x = am_kd w x from rfl, show am_ln (am_cpy w k q sp dp n) x = am_ln w x from rfl]
  simp only [e]
theorem am_cpy_i32 {k q sp dp n : Nat} : (fun j => am_i32 (am_ct (am_cpy w k q sp dp n) q j)) = va_cpy (fun j => am_i32 (am_ct w k j)) (fun j => am_i32 (am_ct w q j)) sp dp n := by
  funext j
  unfold va_cpy am_ct am_cpy
  dsimp only
  rw [if_pos rfl]
  split <;> rfl
theorem am_neg {z : Int} (hr : rng z) (h : 0 ≤ z) : ¬ Int32.ofInt z < 0 := by
  have e : (0 : Int32) = Int32.ofInt 0 := rfl
  rw [e, i_lt hr rng_0]
  omega
theorem sx_acopy (cx : am_Cx G M p s m args meth c) {idx i : Nat} (hdg : decode (am_code M) pc = .ok (.invokestatic idx, 3)) (hf : am_at i (.methodLink (am_cn (am_own M)) idx arraycopyName) = true) (hrf : 1 ≤ R.frames) (hrl : 64 ≤ R.locals)
    (hlen : al.length = am_maxl M) (hA : am_At G w ad s H locs) (hL : am_L ad (gF G) ls al) (hs : wfs w.1 ast) (hw' : wfw w') (hst : am_acopy pc al ast w = some (.inl (pc', al', ast', w'))) (kk : am_Nx G p l e R s m args below meth c cells slots Q w ad pc' al' ast' w') :
    W p l e R s m args below meth c H locs cells slots Q (F0 m pc ls (ast.map (cv ad (gF G)))) := by
  unfold am_acopy at hst
  split at hst
  · split at hst
    · rename_i n dp q sp k r hk
      obtain ⟨q1, q2, q3, q4, q5, q6, q7, q8⟩ := hk
      cases hst
      have hn := hs.hd
      have hdp := hs.tl.hd
      have hq : q < w.1 := hs.tl.tl.hd
      have hsp := hs.tl.tl.tl.hd
      have hk : k < w.1 := hs.tl.tl.tl.tl.hd
      have gq := hA.1.2 q hq
      have gk := hA.1.2 k hk
      have hq19 : 19 ≤ q := by have := gq.2.2.2.2.2.2.1; omega
      have hk19 : 19 ≤ k := by have := gk.2.2.2.2.2.2.1; omega
      have heq := am_ws_get (cI := gI G) (cZ := gZ G) (cR := gR G) (fm := gF G) (ad := ad) hq19 hq
      have hek := am_ws_get (cI := gI G) (cZ := gZ G) (cR := gR G) (fm := gF G) (ad := ad) hk19 hk
      rw [am_ent_int q2] at heq
      rw [am_ent_int q1] at hek
      have hsum := cv_sum (ad := ad) cx.2.2.2.2.2.2.2.2.2.1 ast'
      refine va_copyi cx.1 cx.2.1 (by rw [cx.2.2.1, hL.1, hlen]) cx.2.2.2.1 (cx.2.2.2.2.1 _ (am_twi hf rfl)) (cx.2.2.2.2.1 _ (am_twi am_xw_1 rfl)) (cx.2.2.2.2.1 _ (am_twi am_xw_2 rfl)) (cx.2.2.2.2.1 _ (am_twi am_xw_3 rfl)) cx.2.2.2.2.2.2.1.1 hA.2.2.1 hA.2.2.2.1 hA.2.2.2.2 (k - 19) (q - 19) 0 0 hek heq rfl rfl rfl (am_neg hsp q3) (am_neg hdp q4) (am_neg hn q5) ?_ ?_ (fun _ _ => rfl) hrf ?_ hdg ?_
      · rw [am_nneg hsp, am_nneg hn]; omega
      · rw [am_nneg hdp, am_nneg hn]; omega
      · have : nativeFrameWords "java/lang/System" "arraycopy" 5 = 7 := by decide +kernel
        rw [this]
        omega
      · intro H1 locs1 hP hD hS
        rw [am_nneg hsp, am_nneg hdp, am_nneg hn, am_ws_set (w' := am_cpy w k q sp.toNat dp.toNat n.toNat) hq19 hq rfl (by
          rw [am_ent_int (show am_kd (am_cpy w k q sp.toNat dp.toNat n.toNat) q = 100 from q2), am_cpy_i32]
          rfl) (fun x hx => am_ent_cpy_ne hx)] at hP hD
        exact kk.upd rfl rfl ⟨hw', hA.2.1.cpy hq19, hP, hD, hS⟩ hL
    · cases hst
  · cases hst
theorem i_max_of {x y : Int} (hx : rng x) (hy : rng y) : Int32.ofInt (i_max x y) = if Int32.ofInt x < Int32.ofInt y then Int32.ofInt y else Int32.ofInt x := by
  unfold i_max
  by_cases h : x < y
  · rw [if_pos h, if_pos ((i_lt hx hy).mpr h)]
  · rw [if_neg h, if_neg (fun q => h ((i_lt hx hy).mp q))]
theorem i_min_of {x y : Int} (hx : rng x) (hy : rng y) : Int32.ofInt (i_min x y) = if Int32.ofInt y < Int32.ofInt x then Int32.ofInt y else Int32.ofInt x := by
  unfold i_min
  by_cases h : y < x
  · rw [if_pos h, if_pos ((i_lt hy hx).mpr h)]
  · rw [if_neg h, if_neg (fun q => h ((i_lt hy hx).mp q))]
theorem i_abs_of {x : Int} (hx : rng x) : Int32.ofInt (i_abs x) = if 0 ≤ Int32.ofInt x then Int32.ofInt x else 0 - Int32.ofInt x := by
  have e : (0 : Int32) = Int32.ofInt 0 := rfl
  unfold i_abs
  by_cases h : 0 ≤ x
  · rw [if_pos h, e, if_pos ((i_le rng_0 hx).mpr h)]
  · rw [if_neg h, e, if_neg (fun q => h ((i_le rng_0 hx).mp q)), wr_of, Int32.ofInt_sub]
theorem sx_max (cx : am_Cx G M p s m args meth c) {idx i : Nat} (hdg : decode (am_code M) pc = .ok (.invokestatic idx, 3)) (hf : am_at i (.methodLink (am_cn (am_own M)) idx Lib.Math.max.name) = true) (hrf : 1 ≤ R.frames) (hrl : 64 ≤ R.locals) (hrc : cells ≤ R.cells) (hrs : slots ≤ R.slots)
    (hlen : al.length = am_maxl M) (hA : am_At G w ad s H locs) (hL : am_L ad (gF G) ls al) (hs : wfs w.1 ast) (hst : am_m2 i_max pc al ast w = some (.inl (pc', al', ast', w'))) (kk : am_Nx G p l e R s m args below meth c cells slots Q w ad pc' al' ast' w') :
    W p l e R s m args below meth c H locs cells slots Q (F0 m pc ls (ast.map (cv ad (gF G)))) := by
  unfold am_m2 at hst
  split at hst
  · split at hst
    · rename_i y x r hr
      cases hst
      have hsum := cv_sum (ad := ad) cx.2.2.2.2.2.2.2.2.2.1 r
      exact va_mmax cx.1 cx.2.1 (by rw [cx.2.2.1, hL.1, hlen]) cx.2.2.2.1 (cx.2.2.2.2.1 _ (am_twi hf rfl)) (cx.2.2.2.2.1 _ (am_twi am_xw_7 rfl)) (cx.2.2.2.2.1 _ (am_twi am_xw_4 rfl)) (cx.2.2.2.2.1 _ (am_twi am_xw_8 rfl)) hrf (by omega) hrc hrs hdg (am_fin (kk.upd rfl rfl hA hL) (i_max_of hs.tl.hd hs.hd))
    · cases hst
  · cases hst
theorem sx_min (cx : am_Cx G M p s m args meth c) {idx i : Nat} (hdg : decode (am_code M) pc = .ok (.invokestatic idx, 3)) (hf : am_at i (.methodLink (am_cn (am_own M)) idx Lib.Math.min.name) = true) (hrf : 1 ≤ R.frames) (hrl : 64 ≤ R.locals) (hrc : cells ≤ R.cells) (hrs : slots ≤ R.slots)
    (hlen : al.length = am_maxl M) (hA : am_At G w ad s H locs) (hL : am_L ad (gF G) ls al) (hs : wfs w.1 ast) (hst : am_m2 i_min pc al ast w = some (.inl (pc', al', ast', w'))) (kk : am_Nx G p l e R s m args below meth c cells slots Q w ad pc' al' ast' w') :
    W p l e R s m args below meth c H locs cells slots Q (F0 m pc ls (ast.map (cv ad (gF G)))) := by
  unfold am_m2 at hst
  split at hst
  · split at hst
    · rename_i y x r hr
      cases hst
      have hsum := cv_sum (ad := ad) cx.2.2.2.2.2.2.2.2.2.1 r
      exact va_mmin cx.1 cx.2.1 (by rw [cx.2.2.1, hL.1, hlen]) cx.2.2.2.1 (cx.2.2.2.2.1 _ (am_twi hf rfl)) (cx.2.2.2.2.1 _ (am_twi am_xw_9 rfl)) (cx.2.2.2.2.1 _ (am_twi am_xw_4 rfl)) (cx.2.2.2.2.1 _ (am_twi am_xw_10 rfl)) hrf (by omega) hrc hrs hdg (am_fin (kk.upd rfl rfl hA hL) (i_min_of hs.tl.hd hs.hd))
    · cases hst
  · cases hst
theorem sx_abs (cx : am_Cx G M p s m args meth c) {idx i : Nat} (hdg : decode (am_code M) pc = .ok (.invokestatic idx, 3)) (hf : am_at i (.methodLink (am_cn (am_own M)) idx Lib.Math.abs.name) = true) (hrf : 1 ≤ R.frames) (hrl : 64 ≤ R.locals) (hrc : cells ≤ R.cells) (hrs : slots ≤ R.slots)
    (hlen : al.length = am_maxl M) (hA : am_At G w ad s H locs) (hL : am_L ad (gF G) ls al) (hs : wfs w.1 ast) (hst : am_m1 i_abs pc al ast w = some (.inl (pc', al', ast', w'))) (kk : am_Nx G p l e R s m args below meth c cells slots Q w ad pc' al' ast' w') :
    W p l e R s m args below meth c H locs cells slots Q (F0 m pc ls (ast.map (cv ad (gF G)))) := by
  unfold am_m1 at hst
  split at hst
  · split at hst
    · rename_i x r hr
      cases hst
      have hsum := cv_sum (ad := ad) cx.2.2.2.2.2.2.2.2.2.1 r
      exact va_mabs cx.1 cx.2.1 (by rw [cx.2.2.1, hL.1, hlen]) cx.2.2.2.1 (cx.2.2.2.2.1 _ (am_twi hf rfl)) (cx.2.2.2.2.1 _ (am_twi am_xw_11 rfl)) (cx.2.2.2.2.1 _ (am_twi am_xw_4 rfl)) (cx.2.2.2.2.1 _ (am_twi am_xw_12 rfl)) hrf (by omega) hrc hrs hdg (am_fin (kk.upd rfl rfl hA hL) (i_abs_of hs.hd))
    · cases hst
  · cases hst
theorem sx_objinit (cx : am_Cx G M p s m args meth c) {idx i : Nat} (hdg : decode (am_code M) pc = .ok (.invokespecial idx, 3)) (hf : am_at i (.methodLink (am_cn (am_own M)) idx Lib.objectInit) = true) (hrf : 1 ≤ R.frames) (hrl : 64 ≤ R.locals)
    (hlen : al.length = am_maxl M) (hA : am_At G w ad s H locs) (hL : am_L ad (gF G) ls al) (hs : wfs w.1 ast) (hst : am_objinit pc al ast w = some (.inl (pc', al', ast', w'))) (kk : am_Nx G p l e R s m args below meth c cells slots Q w ad pc' al' ast' w') :
    W p l e R s m args below meth c H locs cells slots Q (F0 m pc ls (ast.map (cv ad (gF G)))) := by
  unfold am_objinit at hst
  split at hst
  · split at hst
    · rename_i k r hr
      cases hst
      have hsum := cv_sum (ad := ad) cx.2.2.2.2.2.2.2.2.2.1 ast'
      exact W.objInit cx.1 cx.2.1 cx.2.2.2.1 (cx.2.2.2.2.1 _ (am_twi hf rfl)) (cx.2.2.2.2.1 _ (am_twi am_xw_5 rfl)) (cx.2.2.2.2.1 _ (am_twi am_xw_6 rfl)) rfl (by rw [cx.2.2.1, ← hlen]; exact hL.1) rfl hdg hrf (by show 2 * 0 + _ + 12 ≤ _; omega) (kk.upd rfl rfl hA hL)
    · cases hst
  · cases hst
theorem am_dflt_cv {c k : Nat} {q : Nat × Nat} {li : List Nat} {ad : Nat → Nat} {fm : Value} (h : am_cw c q li = true) (hk : k < am_nf c) : defaultValue (am_fty c k) = cv ad fm (am_dflt c k) := by
  have e := am_fty_ok h k hk
  rcases am_cw_ty h hk with ⟨h1, h2⟩ | ⟨h1, h2⟩ | ⟨h2, h1⟩
  · rw [h1] at e
    rw [← Option.some.inj e]
    unfold am_dflt
    rw [h2]
    rfl
  · rw [h1] at e
    rw [← Option.some.inj e]
    unfold am_dflt
    rw [h2]
    rfl
  · obtain ⟨ty, h3, h4⟩ := am_reta_some h1
    rw [h3] at e
    rw [← Option.some.inj e]
    unfold am_dflt
    rw [h2]
    rcases h4 with ⟨n, rfl⟩ | ⟨n, rfl⟩ <;> rfl
/-- a new cell: the next world's list -/
theorem am_pushed {kind len a : Nat} {f : Nat → AV} {va : va_E} (hw : wfw w) (he : am_ent (gI G) (gZ G) (gR G) (gF G) (am_new w kind len f) (fun k => if k = w.1 then a else ad k) w.1 = va) :
    am_ws (gI G) (gZ G) (gR G) (gF G) w ad ++ [(a, va)] = am_ws (gI G) (gZ G) (gR G) (gF G) (am_new w kind len f) (fun k => if k = w.1 then a else ad k) := by
  refine am_ws_push hw.1 rfl he (fun k hk => ?_)
  by_cases h19 : 19 ≤ k
  · exact am_ent_new hw hk (fun q hq => if_neg (by omega)) (by rw [am_new_kd, if_neg (by omega)]) (by rw [am_new_ln, if_neg (by omega)]) (fun j => by rw [am_new_ct, if_neg (by omega)]) h19
  · obtain ⟨g1, g2, g3, g4, g5, g6, g7, g8⟩ := hw.2 k hk
    have h110 : 110 ≤ am_kd w k := g7.mp (by omega)
    unfold am_ent
    rw [am_new_kd, am_new_ln, am_new_ct, if_neg (by omega : ¬ k = w.1), if_neg (by omega : ¬ k = w.1), if_neg (by omega : ¬ k = w.1), if_neg (by omega), if_neg (by omega), if_neg (by omega), if_neg (by omega), if_neg (by omega), if_neg (by omega)]
    have e2 : (fun j => if j < am_ln w k then am_rfo (fun k => if k = w.1 then a else ad k) (am_ct w k j) else none) = (fun j => if j < am_ln w k then am_rfo ad (am_ct w k j) else none) := by
      funext j
      split
      · rename_i hj
        exact am_rfo_congr (n := w.1) (fun q hq => if_neg (by omega)) (g2 j hj)
      · rfl
    rw [e2]
theorem sx_new (cx : am_Cx G M p s m args meth c) {idx i a : Nat} {q : Nat × Nat} {li : List Nat} (hdg : decode (am_code M) pc = .ok (.new idx, 3)) (ha : a < 11) (hf : am_at i (.classLink (am_cn (am_own M)) idx (am_cn a)) = true) (hcw : am_cw a q li = true)
    (hrc : cells + 1 ≤ R.cells) (hrs : slots + am_nf a ≤ R.slots) (hA : am_At G w ad s H locs) (hL : am_L ad (gF G) ls al) (hl : wfs w.1 al) (hs : wfs w.1 ast) (hw' : wfw (am_new w a (am_nf a) (am_dflt a))) (kk : am_Nx G p l e R s m args below meth c cells slots Q w ad (pc + 3) al (vR w.1 :: ast) (am_new w a (am_nf a) (am_dflt a))) :
    W p l e R s m args below meth c H locs cells slots Q (F0 m pc ls (ast.map (cv ad (gF G)))) := by
  refine va_new (Ts := am_tbl) (own := am_cn (am_own M)) (C := am_cn a) (T := am_T a) (N := am_nf a) (ci := a) (fs := (List.range (am_nf a)).map (fun j => cv ad (gF G) (am_dflt a j))) cx.1 cx.2.1 cx.2.2.2.2.1 (am_cw_lay hcw) (am_fty a) (am_fty_ok hcw) cx.2.2.2.1 (cx.2.2.2.2.1 _ (am_twi hf rfl)) (cx.2.2.2.2.1 _ (am_cw_inst hcw).1) (cx.2.2.2.2.1 _ (am_cw_inst hcw).2) cx.2.2.2.2.2.2.1.1 hA.2.2.1 hA.2.2.2.1 hA.2.2.2.2 (fun q hq => Nat.le_trans cx.2.2.2.2.2.2.2.2.1 hq) (am_cl_at ha) ?_ hrc hrs hdg ?_
  · intro j hj
    unfold vp_V
    rw [List.getD_eq_getElem?_getD, List.getElem?_map, List.getElem?_range hj]
    exact am_dflt_cv hcw hj
  · intro q1 H1 hP hD hS
    have hc1 : ∀ k, k < w.1 → (fun k => if k = w.1 then q1 else ad k) k = ad k := fun k hk => if_neg (by omega)
    have he : am_ent (gI G) (gZ G) (gR G) (gF G) (am_new w a (am_nf a) (am_dflt a)) (fun k => if k = w.1 then q1 else ad k) w.1 = .inr (a, (List.range (am_nf a)).map (fun j => cv ad (gF G) (am_dflt a j))) := by
      have hkd : am_kd (am_new w a (am_nf a) (am_dflt a)) w.1 = a := by rw [am_new_kd, if_pos rfl]
      rw [am_ent_obj (by rw [hkd]; exact ha), hkd, am_new_ln, if_pos rfl, am_new_ct, if_pos rfl]
      congr 2
      apply List.map_congr_left
      intro j _
      exact cv_congr (n := 0) (fun k hk => absurd hk (Nat.not_lt_zero k)) (am_dflt_wf)
    rw [am_pushed hA.1 he] at hP hD
    have h := kk (fun k => if k = w.1 then q1 else ad k) H1 locs ls hc1 ⟨hw', hA.2.1.new hA.1.1, hP, hD, hS⟩ (hL.congr hc1 hl)
    rw [show (am_new w a (am_nf a) (am_dflt a)).1 - w.1 = 1 from Nat.add_sub_cancel_left .., show (am_new w a (am_nf a) (am_dflt a)).2.1 - w.2.1 = am_nf a from Nat.add_sub_cancel_left .., List.map_cons, cvs_congr hc1 hs] at h
    have e2 : cv (fun k => if k = w.1 then q1 else ad k) (gF G) (vR w.1) = .ref q1 := by
      show Value.ref (if w.1 = w.1 then q1 else ad w.1) = _
      rw [if_pos rfl]
    rw [e2] at h
    exact h
theorem am_RA_uniq {U : State} {cA cB : ClassId} {ty : FieldType} (h : va_RA U cA ty) (g : va_RA U cB ty) : cA = cB := by
  unfold va_RA at h g
  cases ty <;> first
    | exact Option.some.inj (h.symm.trans g)
    | (obtain ⟨_, _, _, _, _, h4⟩ := h
       obtain ⟨_, _, _, _, _, g4⟩ := g
       exact Option.some.inj (h4.symm.trans g4))
theorem sx_newa (cx : am_Cx G M p s m args meth c) {a i : Nat} {aty : ArrayType} (hdg : decode (am_code M) pc = .ok (.newarray aty, 2)) (haty : aty = .int ∧ a = 100 ∨ aty = .boolean ∧ a = 101) (hf : am_at i (.arrayClass (newarray.typeOf aty)) = true)
    (hrc : cells + (w'.1 - w.1) ≤ R.cells) (hrs : slots + (w'.2.1 - w.2.1) ≤ R.slots) (hA : am_At G w ad s H locs) (hL : am_L ad (gF G) ls al) (hl : wfs w.1 al) (hs : wfs w.1 ast) (hw' : wfw w') (hst : am_newa a pc 2 (fun _ _ => vI 0) al ast w = some (.inl (pc', al', ast', w'))) (kk : am_Nx G p l e R s m args below meth c cells slots Q w ad pc' al' ast' w') :
    W p l e R s m args below meth c H locs cells slots Q (F0 m pc ls (ast.map (cv ad (gF G)))) := by
  unfold am_newa at hst
  split at hst
  · split at hst
    · rename_i z r hz
      cases hst
      have e1 : (am_new w a z.toNat (fun _ => vI 0)).1 - w.1 = 1 := Nat.add_sub_cancel_left ..
      have e2 : (am_new w a z.toNat (fun _ => vI 0)).2.1 - w.2.1 = z.toNat := Nat.add_sub_cancel_left ..
      rw [e1] at hrc
      rw [e2] at hrs
      have hzr : rng z := hs.hd
      have go : ∀ (q1 : Nat) (cA : ClassId) (H1 : Heap) (ty : FieldType) (cK : ClassId) (t : Nat), (am_tys G)[t]? = some (cK, ty) → va_K (gD G) am_cl (am_tys G ++ [(cA, ty)]) s → (∀ v : va_E, v = .inl (cK, z.toNat, .inl (fun _ => 0)) → am_ent (gI G) (gZ G) (gR G) (gF G) (am_new w a z.toNat (fun _ => vI 0)) (fun k => if k = w.1 then q1 else ad k) w.1 = v) → va_P (gD G) am_cl (am_ws (gI G) (gZ G) (gR G) (gF G) w ad ++ [(q1, .inl (cA, z.toNat, .inl (fun _ => 0)))]) H1 → va_D (gP G) (am_ws (gI G) (gZ G) (gR G) (gF G) w ad ++ [(q1, .inl (cA, z.toNat, .inl (fun _ => 0)))]) → va_S (gP G) s.heap H1 locs →
          W p l e R s m args below meth c H1 locs (cells + 1) (slots + z.toNat) Q (F0 m (pc + 2) ls (.ref q1 :: r.map (cv ad (gF G)))) := by
        intro q1 cA H1 ty cK t ht hK2 he hP hD hS
        have hcA : cA = cK := by
          have h1 := (hK2.2 (am_tys G).length (cA, ty) (by rw [List.getElem?_append_right (Nat.le_refl _), Nat.sub_self]; rfl)).2
          have h2 := (cx.2.2.2.2.2.2.1.1.2 t (cK, ty) ht).2
          exact am_RA_uniq h1 h2
        subst hcA
        have hc1 : ∀ k, k < w.1 → (fun k => if k = w.1 then q1 else ad k) k = ad k := fun k hk => if_neg (by omega)
        rw [am_pushed hA.1 (he _ rfl)] at hP hD
        have h := kk (fun k => if k = w.1 then q1 else ad k) H1 locs ls hc1 ⟨hw', hA.2.1.new hA.1.1, hP, hD, hS⟩ (hL.congr hc1 hl)
        rw [e1, e2, List.map_cons, cvs_congr hc1 hs.tl] at h
        have e3 : cv (fun k => if k = w.1 then q1 else ad k) (gF G) (vR w.1) = .ref q1 := by
          show Value.ref (if w.1 = w.1 then q1 else ad w.1) = _
          rw [if_pos rfl]
        rw [e3] at h
        exact h
      have hent : ∀ (q1 : Nat) (v : va_E) (cK : ClassId), (a = 100 ∧ cK = gI G ∨ a = 101 ∧ cK = gZ G) → v = .inl (cK, z.toNat, .inl (fun _ => 0)) → am_ent (gI G) (gZ G) (gR G) (gF G) (am_new w a z.toNat (fun _ => vI 0)) (fun k => if k = w.1 then q1 else ad k) w.1 = v := by
        intro q1 v cK ha hv
        have hkd : am_kd (am_new w a z.toNat (fun _ => vI 0)) w.1 = a := by rw [am_new_kd, if_pos rfl]
        subst hv
        rcases ha with ⟨rfl, rfl⟩ | ⟨rfl, rfl⟩
        · rw [am_ent_int hkd, am_new_ln, if_pos rfl, am_new_ct, if_pos rfl]
          rfl
        · rw [am_ent_boo hkd, am_new_ln, if_pos rfl, am_new_ct, if_pos rfl]
          rfl
      rcases haty with ⟨rfl, rfl⟩ | ⟨rfl, rfl⟩
      · refine va_newa (ty := .int) (a0 := (z.toNat, .inl (fun _ => 0))) cx.1 cx.2.1 (cx.2.2.2.2.1 _ (am_twi hf rfl)) rfl cx.2.2.2.2.2.2.1.1 hA.2.2.1 hA.2.2.2.1 hA.2.2.2.2 (fun q hq => Nat.le_trans cx.2.2.2.2.2.2.2.2.1 hq) (fun cA => rfl) (am_neg hzr hz.1) (am_nneg hzr) ?_ hrc hrs hdg ?_
        · show z.toNat * 4 ≤ _; omega
        · intro q1 cA H1 hK2 hP hD hS
          exact go q1 cA H1 .int (gI G) 0 rfl hK2 (fun v hv => hent q1 v _ (Or.inl ⟨rfl, rfl⟩) hv) hP hD hS
      · refine va_newa (ty := .boolean) (a0 := (z.toNat, .inl (fun _ => 0))) cx.1 cx.2.1 (cx.2.2.2.2.1 _ (am_twi hf rfl)) rfl cx.2.2.2.2.2.2.1.1 hA.2.2.1 hA.2.2.2.1 hA.2.2.2.2 (fun q hq => Nat.le_trans cx.2.2.2.2.2.2.2.2.1 hq) (fun cA => rfl) (am_neg hzr hz.1) (am_nneg hzr) ?_ hrc hrs hdg ?_
        · show z.toNat * 1 ≤ _; omega
        · intro q1 cA H1 hK2 hP hD hS
          exact go q1 cA H1 .boolean (gZ G) 1 rfl hK2 (fun v hv => hent q1 v _ (Or.inr ⟨rfl, rfl⟩) hv) hP hD hS
    · cases hst
  · cases hst
theorem sx_newq (cx : am_Cx G M p s m args meth c) {i idx : Nat} (hdg : decode (am_code M) pc = .ok (.anewarray idx, 3)) (hf : am_at i (.classLink (am_cn (am_own M)) idx "WallPicks$Row") = true)
    (hrc : cells + (w'.1 - w.1) ≤ R.cells) (hrs : slots + (w'.2.1 - w.2.1) ≤ R.slots) (hA : am_At G w ad s H locs) (hL : am_L ad (gF G) ls al) (hl : wfs w.1 al) (hs : wfs w.1 ast) (hw' : wfw w') (hst : am_newa 103 pc 3 (fun z j => if j < z then vX 0 else vI 0) al ast w = some (.inl (pc', al', ast', w'))) (kk : am_Nx G p l e R s m args below meth c cells slots Q w ad pc' al' ast' w') :
    W p l e R s m args below meth c H locs cells slots Q (F0 m pc ls (ast.map (cv ad (gF G)))) := by
  unfold am_newa at hst
  split at hst
  · split at hst
    · rename_i z r hz
      cases hst
      have e1 : (am_new w 103 z.toNat (fun j => if j < z.toNat then vX 0 else vI 0)).1 - w.1 = 1 := Nat.add_sub_cancel_left ..
      have e2 : (am_new w 103 z.toNat (fun j => if j < z.toNat then vX 0 else vI 0)).2.1 - w.2.1 = z.toNat := Nat.add_sub_cancel_left ..
      rw [e1] at hrc
      rw [e2] at hrs
      have hzr : rng z := hs.hd
      refine va_newq (C := "WallPicks$Row") cx.1 cx.2.1 cx.2.2.2.1 (cx.2.2.2.2.1 _ (am_twi hf rfl)) cx.2.2.2.2.2.2.1.2.1 cx.2.2.2.2.2.2.1.1 hA.2.2.1 hA.2.2.2.1 hA.2.2.2.2 (fun q hq => Nat.le_trans cx.2.2.2.2.2.2.2.2.1 hq) (am_neg hzr hz.1) (am_nneg hzr) (by omega) hrc hrs hdg ?_
      intro q1 cA H1 hK2 hP hD hS
      have hcA : cA = gR G := by
        have h1 := (hK2.2 (am_tys G).length (cA, .object "WallPicks$Row") (by rw [List.getElem?_append_right (Nat.le_refl _), Nat.sub_self]; rfl)).2
        have h2 := (cx.2.2.2.2.2.2.1.1.2 2 (gR G, .object "WallPicks$Row") rfl).2
        exact am_RA_uniq h1 h2
      subst hcA
      have hc1 : ∀ k, k < w.1 → (fun k => if k = w.1 then q1 else ad k) k = ad k := fun k hk => if_neg (by omega)
      have he : am_ent (gI G) (gZ G) (gR G) (gF G) (am_new w 103 z.toNat (fun j => if j < z.toNat then vX 0 else vI 0)) (fun k => if k = w.1 then q1 else ad k) w.1 = .inl (gR G, z.toNat, .inr (.inr (.inr (.inr (fun _ => none))))) := by
        have hkd : am_kd (am_new w 103 z.toNat (fun j => if j < z.toNat then vX 0 else vI 0)) w.1 = 103 := by rw [am_new_kd, if_pos rfl]
        rw [am_ent_row hkd, am_new_ln, if_pos rfl, am_new_ct, if_pos rfl]
        have e4 : (fun j => if j < z.toNat then am_rfo (fun k => if k = w.1 then q1 else ad k) (if j < z.toNat then vX 0 else vI 0) else none) = (fun _ => (none : Option Nat)) := by
          funext j
          split
          · rfl
          · rfl
        rw [e4]
      rw [am_pushed hA.1 he] at hP hD
      have h := kk (fun k => if k = w.1 then q1 else ad k) H1 locs ls hc1 ⟨hw', hA.2.1.new hA.1.1, hP, hD, hS⟩ (hL.congr hc1 hl)
      rw [e1, e2, List.map_cons, cvs_congr hc1 hs.tl] at h
      have e3 : cv (fun k => if k = w.1 then q1 else ad k) (gF G) (vR w.1) = .ref q1 := by
        show Value.ref (if w.1 = w.1 then q1 else ad w.1) = _
        rw [if_pos rfl]
      rw [e3] at h
      exact h
    · cases hst
  · cases hst
end SN
