/-! every step that is no call and no end; the calls; the whole run -/
theorem am_step_len {e : AE} {pc : Nat} {al ast : List AV} {w : AW} {pc' : Nat} {al' ast' : List AV} {w' : AW} (hst : am_step e pc al ast w = some (.inl (pc', al', ast', w'))) : al'.length = al.length := by
  obtain ⟨ins, n, a, b, k⟩ := e
  have key : ∀ {o : Option AS}, o = some (.inl (pc', al', ast', w')) → (∀ x, o = some (.inl x) → x.2.1.length = al.length) → al'.length = al.length := fun h g => g _ h
  cases ins <;> refine key hst ?_ <;> intro x hx <;> simp only [am_step] at hx <;>
    (try simp only [am_ild, am_lld, am_ald, am_ist, am_ast, am_iinc, am_iload, am_bload, am_aload, am_istore, am_bstore, am_astore, am_alen, am_pop, am_dup, am_dup2, am_b2, am_d2, am_un, am_l2, am_ls, am_br1, am_br2, am_null, am_tsw, am_lsw, am_getf, am_putf, am_newa, am_objinit, am_acopy, am_m2, am_m1, am_inv] at hx) <;>
    (repeat' split at hx) <;> first | (cases hx; rfl) | (cases hx; exact List.length_set) | cases hx
theorem am_inv_inl {q : Bool} {a n pc : Nat} {st : List AV} {w : AW} (x : Nat × List AV × List AV × AW) : ¬ am_inv q a n pc st w = some (.inl x) := by
  intro h
  unfold am_inv at h
  split at h
  · split at h <;> cases h
  · split at h
    · split at h <;> cases h
    · cases h
theorem am_bipush {i : Int} (h1 : -128 ≤ i) (h2 : i ≤ 127) : (Int8.ofInt i).toInt32 = Int32.ofInt i := by
  apply Int32.toInt_inj.mp
  rw [Int8.toInt_toInt32, Int8.toInt_ofInt_of_le (by omega) (by omega), i_tI ⟨by omega, by omega⟩]
theorem am_sipush {i : Int} (h1 : -32768 ≤ i) (h2 : i ≤ 32767) : (Int16.ofInt i).toInt32 = Int32.ofInt i := by
  apply Int32.toInt_inj.mp
  rw [Int16.toInt_toInt32, Int16.toInt_ofInt_of_le (by omega) (by omega), i_tI ⟨by omega, by omega⟩]
section SA
variable {G : AG} {M : Nat} {p : Program} {l : Launch} {e : Env} {R : Room} {s : State} {m : MethodId} {args : Array Value} {below : List Frame} {meth : Method} {c : Code} {H : Heap} {locs : List Loc} {cells slots : Nat} {Q : State → Prop} {w w' : AW} {ad : Nat → Nat} {pc pc' : Nat} {al al' ast ast' : List AV} {ls : Array Slot}
theorem sx_getstatic (cx : am_Cx G M p s m args meth c) {idx a k : Nat} (hdg : decode (am_code M) pc = .ok (.getstatic idx, 3)) (hf : a = 0 ∧ am_at k (.fieldLink (am_cn (am_own M)) idx "java/lang/String" "COMPACT_STRINGS" "Z") = true ∨ a = 1 ∧ am_at k (.fieldLinkNest (am_cn (am_own M)) idx "WallPicks" "BODIES" "[I" "WallPicks") = true ∨ a = 2 ∧ am_at k (.fieldLinkNest (am_cn (am_own M)) idx "WallPicks" "ABOVE" "[I" "WallPicks") = true ∨ a = 3 ∧ am_at k (.fieldLink (am_cn (am_own M)) idx "jdk/internal/util/Preconditions" "SIOOBE_FORMATTER" "Ljava/util/function/BiFunction;") = true)
    (hA : am_At G w ad s H locs) (hL : am_L ad (gF G) ls al) (kk : am_Nx G p l e R s m args below meth c cells slots Q w ad (pc + 3) al (am_sta a :: ast) w) : W p l e R s m args below meth c H locs cells slots Q (F0 m pc ls (ast.map (cv ad (gF G)))) := by
  have hz := cx.2.2.2.2.2.2.2.1
  have h := kk.upd rfl rfl hA hL
  rcases hf with ⟨rfl, hf⟩ | ⟨rfl, hf⟩ | ⟨rfl, hf⟩ | ⟨rfl, hf⟩
  · exact va_gets cx.1 cx.2.1 hz.1 hA.2.2.2.2 cx.2.2.2.1 (cx.2.2.2.2.1 _ (am_twi hf rfl)) (fun x h => h) hdg h
  · have e1 : cv ad (gF G) (am_sta 1) = .ref (gA G 1) := by
      show Value.ref (ad 1) = _
      rw [hA.adr (by decide)]
    rw [List.map_cons, e1] at h
    exact va_getsN cx.1 cx.2.1 hz.2.1 hA.2.2.2.2 cx.2.2.2.1 (va_Nw.use rfl (cx.2.2.2.2.2.2.1.2.2.1 _ (am_at_mem hf) rfl)) (fun x h => h) hdg h
  · have e1 : cv ad (gF G) (am_sta 2) = .ref (gA G 2) := by
      show Value.ref (ad 2) = _
      rw [hA.adr (by decide)]
    rw [List.map_cons, e1] at h
    exact va_getsN cx.1 cx.2.1 hz.2.2.1 hA.2.2.2.2 cx.2.2.2.1 (va_Nw.use rfl (cx.2.2.2.2.2.2.1.2.2.1 _ (am_at_mem hf) rfl)) (fun x h => h) hdg h
  · exact va_gets cx.1 cx.2.1 hz.2.2.2.1 hA.2.2.2.2 cx.2.2.2.1 (cx.2.2.2.2.1 _ (am_twi hf rfl)) (fun x h => h) hdg h
theorem am_stepW (hWd : am_Wd) (cx : am_Cx G M p s m args meth c) (hM : M < 233) {e0 : AE} (hf : am_find M pc = some e0) (hlen : al.length = am_maxl M) (hrf : 1 ≤ R.frames) (hrl : 64 ≤ R.locals) (hrc : cells + (w'.1 - w.1) ≤ R.cells) (hrs : slots + (w'.2.1 - w.2.1) ≤ R.slots)
    (hA : am_At G w ad s H locs) (hL : am_L ad (gF G) ls al) (hl : wfs w.1 al) (hs : wfs w.1 ast) (hst : am_step e0 pc al ast w = some (.inl (pc', al', ast', w'))) (kk : am_Nx G p l e R s m args below meth c cells slots Q w ad pc' al' ast' w') :
    W p l e R s m args below meth c H locs cells slots Q (F0 m pc ls (ast.map (cv ad (gF G)))) := by
  obtain ⟨hok, hdec⟩ := hWd.1 M pc e0 hM hf
  have hw' : wfw w' := (am_step_wf hok hA.1 hl hs _ hst).1
  obtain ⟨ins, n, a, b, k⟩ := e0
  replace hdec : decode (am_code M) pc = .ok (ins, n) := of_decide_eq_true hdec
  cases ins with
  | aconst_null =>
    have hn : n = 1 := Nat.eq_of_beq_eq_true hok
    subst hn
    cases hst
    exact lv_null cx.1 cx.2.1 hdec (kk.upd rfl rfl hA hL)
  | iconst i =>
    simp only [am_okb, Bool.and_eq_true] at hok
    have hn : n = 1 := Nat.eq_of_beq_eq_true hok.1.1.1
    subst hn
    simp only [decide_eq_true_eq] at hok
    obtain ⟨⟨⟨-, rfl⟩, h1⟩, h2⟩ := hok
    cases hst
    exact lv_iconst cx.1 cx.2.1 hdec rfl (kk.upd rfl rfl hA hL)
  | bipush i =>
    simp only [am_okb, Bool.and_eq_true] at hok
    have hn : n = 2 := Nat.eq_of_beq_eq_true hok.1.1.1
    subst hn
    simp only [decide_eq_true_eq] at hok
    obtain ⟨⟨⟨-, rfl⟩, h1⟩, h2⟩ := hok
    cases hst
    exact lv_bipush cx.1 cx.2.1 hdec (am_bipush h1 h2) (kk.upd rfl rfl hA hL)
  | sipush i =>
    simp only [am_okb, Bool.and_eq_true] at hok
    have hn : n = 3 := Nat.eq_of_beq_eq_true hok.1.1.1
    subst hn
    simp only [decide_eq_true_eq] at hok
    obtain ⟨⟨⟨-, rfl⟩, h1⟩, h2⟩ := hok
    cases hst
    exact lv_sipush cx.1 cx.2.1 hdec (am_sipush h1 h2) (kk.upd rfl rfl hA hL)
  | ldc i =>
    simp only [am_okb, Bool.and_eq_true] at hok
    have hn : n = 2 := Nat.eq_of_beq_eq_true hok.1
    subst hn
    have h2 := hok.2
    cases hst
    have h := kk.upd rfl rfl hA hL
    cases a with
    | zero =>
      simp only [Bool.and_eq_true] at h2
      exact lv_ldc cx.1 cx.2.1 cx.2.2.2.1 (cx.2.2.2.2.1 _ (am_twi h2.2 rfl)) hdec h
    | succ a =>
      simp only [Bool.and_eq_true, decide_eq_true_eq] at h2
      obtain ⟨⟨h3, h4⟩, h5⟩ := h2
      cases hq : am_sts[(b - 3).toNat]? with
      | none => rw [hq] at h5; cases h5
      | some q =>
        rw [hq] at h5
        simp only [Bool.and_eq_true, decide_eq_true_eq] at h5
        have hi := Nat.eq_of_beq_eq_true h5.2
        have hb3 : 3 + (b - 3).toNat = b.toNat := by omega
        have hr := cx.2.2.2.2.2.2.1.2.2.2 (b - 3).toNat (by omega)
        have hqq : am_str (b - 3).toNat = q := by unfold am_str; rw [List.getD_eq_getElem?_getD, hq]; rfl
        rw [hqq, ← h5.1, ← hi, hb3, ← hA.adr (by omega : b.toNat < 19)] at hr
        exact va_ldcS cx.1 cx.2.1 cx.2.2.2.1 hr hdec h
  | ldc_w i =>
    simp only [am_okb, Bool.and_eq_true] at hok
    have hn : n = 3 := Nat.eq_of_beq_eq_true hok.1.1
    subst hn
    cases hst
    exact lv_ldcw cx.1 cx.2.1 cx.2.2.2.1 (cx.2.2.2.2.1 _ (am_twi hok.2 rfl)) hdec (kk.upd rfl rfl hA hL)
  | ldc2_w i =>
    simp only [am_okb, Bool.and_eq_true] at hok
    have hn : n = 3 := Nat.eq_of_beq_eq_true hok.1
    subst hn
    cases hst
    exact lv_ldc2 cx.1 cx.2.1 cx.2.2.2.1 (cx.2.2.2.2.1 _ (am_twi hok.2 rfl)) hdec (kk.upd rfl rfl hA hL)
  | iload i =>
    have hn : n = 2 := Nat.eq_of_beq_eq_true hok
    subst hn
    exact sw_iload cx hdec hA hL hl hs hst kk
  | aload i =>
    have hn : n = 2 := Nat.eq_of_beq_eq_true hok
    subst hn
    exact sw_aload cx hdec hA hL hl hs hst kk
  | istore i =>
    have hn : n = 2 := Nat.eq_of_beq_eq_true hok
    subst hn
    exact sw_istore cx hdec hA hL hl hs hst kk
  | astore i =>
    have hn : n = 2 := Nat.eq_of_beq_eq_true hok
    subst hn
    exact sw_astore cx hdec hA hL hl hs hst kk
  | iload_n i =>
    have hn : n = 1 := Nat.eq_of_beq_eq_true hok
    subst hn
    exact sw_iload_n cx hdec hA hL hl hs hst kk
  | lload_n i =>
    have hn : n = 1 := Nat.eq_of_beq_eq_true hok
    subst hn
    exact sw_lload_n cx hdec hA hL hl hs hst kk
  | aload_n i =>
    have hn : n = 1 := Nat.eq_of_beq_eq_true hok
    subst hn
    exact sw_aload_n cx hdec hA hL hl hs hst kk
  | istore_n i =>
    have hn : n = 1 := Nat.eq_of_beq_eq_true hok
    subst hn
    exact sw_istore_n cx hdec hA hL hl hs hst kk
  | astore_n i =>
    have hn : n = 1 := Nat.eq_of_beq_eq_true hok
    subst hn
    exact sw_astore_n cx hdec hA hL hl hs hst kk
  | iinc i cc =>
    simp only [am_okb, Bool.and_eq_true] at hok
    have hn : n = 3 := Nat.eq_of_beq_eq_true hok.1.1
    subst hn
    exact sw_iinc cx hdec hA hL hl hs hst kk
  | iaload =>
    have hn : n = 1 := Nat.eq_of_beq_eq_true hok
    subst hn
    exact sx_iload cx hdec hA hL hs hst kk
  | baload =>
    have hn : n = 1 := Nat.eq_of_beq_eq_true hok
    subst hn
    exact sx_bload cx hdec hA hL hs hst kk
  | aaload =>
    have hn : n = 1 := Nat.eq_of_beq_eq_true hok
    subst hn
    exact sx_aload cx hdec hA hL hs hst kk
  | arraylength =>
    have hn : n = 1 := Nat.eq_of_beq_eq_true hok
    subst hn
    exact sx_alen cx hdec hA hL hs hst kk
  | iastore =>
    have hn : n = 1 := Nat.eq_of_beq_eq_true hok
    subst hn
    exact sx_istore cx hdec hA hL hs hw' hst kk
  | bastore =>
    have hn : n = 1 := Nat.eq_of_beq_eq_true hok
    subst hn
    exact sx_bstore cx hdec hA hL hs hw' hst kk
  | aastore =>
    have hn : n = 1 := Nat.eq_of_beq_eq_true hok
    subst hn
    exact sx_astore cx hdec hA hL hs hw' hst kk
  | pop =>
    have hn : n = 1 := Nat.eq_of_beq_eq_true hok
    subst hn
    exact sw_pop cx hdec hA hL hl hs hst kk
  | dup =>
    have hn : n = 1 := Nat.eq_of_beq_eq_true hok
    subst hn
    exact sw_dup cx hdec hA hL hl hs hst kk
  | dup2 =>
    have hn : n = 1 := Nat.eq_of_beq_eq_true hok
    subst hn
    exact sw_dup2 cx hdec hA hL hl hs hst kk
  | iushr =>
    have hn : n = 1 := Nat.eq_of_beq_eq_true hok
    subst hn
    exact sw_iushr cx hdec hA hL hl hs hst kk
  | i2c =>
    have hn : n = 1 := Nat.eq_of_beq_eq_true hok
    subst hn
    exact sw_i2c cx hdec hA hL hl hs hst kk
  | land =>
    have hn : n = 1 := Nat.eq_of_beq_eq_true hok
    subst hn
    exact sw_land cx hdec hA hL hl hs hst kk
  | lor =>
    have hn : n = 1 := Nat.eq_of_beq_eq_true hok
    subst hn
    exact sw_lor cx hdec hA hL hl hs hst kk
  | lshl =>
    have hn : n = 1 := Nat.eq_of_beq_eq_true hok
    subst hn
    exact sw_lshl cx hdec hA hL hl hs hst kk
  | lshr =>
    have hn : n = 1 := Nat.eq_of_beq_eq_true hok
    subst hn
    exact sw_lshr cx hdec hA hL hl hs hst kk
  | lushr =>
    have hn : n = 1 := Nat.eq_of_beq_eq_true hok
    subst hn
    exact sw_lushr cx hdec hA hL hl hs hst kk
  | iadd =>
    have hn : n = 1 := Nat.eq_of_beq_eq_true hok
    subst hn
    exact sw_iadd cx hdec (fun x y => by rw [wr_of, Int32.ofInt_add]) hA hL hl hs hst kk
  | isub =>
    have hn : n = 1 := Nat.eq_of_beq_eq_true hok
    subst hn
    exact sw_isub cx hdec (fun x y => by rw [wr_of, Int32.ofInt_sub]) hA hL hl hs hst kk
  | imul =>
    have hn : n = 1 := Nat.eq_of_beq_eq_true hok
    subst hn
    exact sw_imul cx hdec (fun x y => by rw [wr_of, Int32.ofInt_mul]) hA hL hl hs hst kk
  | ineg =>
    have hn : n = 1 := Nat.eq_of_beq_eq_true hok
    subst hn
    exact sw_ineg cx hdec (fun x => by rw [wr_of, Int32.ofInt_neg]) hA hL hl hs hst kk
  | iand =>
    have hn : n = 1 := Nat.eq_of_beq_eq_true hok
    subst hn
    exact sw_iand cx hdec (fun _ _ => Int32.ofInt_toInt _) hA hL hl hs hst kk
  | ior =>
    have hn : n = 1 := Nat.eq_of_beq_eq_true hok
    subst hn
    exact sw_ior cx hdec (fun _ _ => Int32.ofInt_toInt _) hA hL hl hs hst kk
  | ixor =>
    have hn : n = 1 := Nat.eq_of_beq_eq_true hok
    subst hn
    exact sw_ixor cx hdec (fun _ _ => Int32.ofInt_toInt _) hA hL hl hs hst kk
  | ishl =>
    have hn : n = 1 := Nat.eq_of_beq_eq_true hok
    subst hn
    exact sw_ishl cx hdec (fun _ _ => Int32.ofInt_toInt _) hA hL hl hs hst kk
  | ishr =>
    have hn : n = 1 := Nat.eq_of_beq_eq_true hok
    subst hn
    exact sw_ishr cx hdec (fun _ _ => Int32.ofInt_toInt _) hA hL hl hs hst kk
  | idiv =>
    have hn : n = 1 := Nat.eq_of_beq_eq_true hok
    subst hn
    exact sw_idiv cx hdec (fun _ _ => Int32.ofInt_toInt _) hA hL hl hs hst kk
  | irem =>
    have hn : n = 1 := Nat.eq_of_beq_eq_true hok
    subst hn
    exact sw_irem cx hdec (fun _ _ => Int32.ofInt_toInt _) hA hL hl hs hst kk
  | i2l =>
    have hn : n = 1 := Nat.eq_of_beq_eq_true hok
    subst hn
    simp only [am_step] at hst
    split at hst
    · cases hst
      exact lv_i2l cx.1 cx.2.1 hdec rfl (kk.upd rfl rfl hA hL)
    · cases hst
  | l2i =>
    have hn : n = 1 := Nat.eq_of_beq_eq_true hok
    subst hn
    simp only [am_step] at hst
    split at hst
    · cases hst
      exact lv_l2i cx.1 cx.2.1 hdec (Int32.ofInt_toInt _).symm (kk.upd rfl rfl hA hL)
    · cases hst
  | ifCond cc off =>
    simp only [am_okb, Bool.and_eq_true] at hok
    have hn : n = 3 := Nat.eq_of_beq_eq_true hok.1
    subst hn
    cases cc with
    | eq => exact sw_if_eq cx hdec hok.2 hA hL hl hs hst kk
    | ne => exact sw_if_ne cx hdec hok.2 hA hL hl hs hst kk
    | lt => exact sw_if_lt cx hdec hok.2 hA hL hl hs hst kk
    | ge => exact sw_if_ge cx hdec hok.2 hA hL hl hs hst kk
    | gt => exact sw_if_gt cx hdec hok.2 hA hL hl hs hst kk
    | le => exact sw_if_le cx hdec hok.2 hA hL hl hs hst kk
  | if_icmp cc off =>
    simp only [am_okb, Bool.and_eq_true] at hok
    have hn : n = 3 := Nat.eq_of_beq_eq_true hok.1
    subst hn
    cases cc with
    | eq => exact sw_icmp_eq cx hdec hok.2 hA hL hl hs hst kk
    | ne => exact sw_icmp_ne cx hdec hok.2 hA hL hl hs hst kk
    | lt => exact sw_icmp_lt cx hdec hok.2 hA hL hl hs hst kk
    | ge => exact sw_icmp_ge cx hdec hok.2 hA hL hl hs hst kk
    | gt => exact sw_icmp_gt cx hdec hok.2 hA hL hl hs hst kk
    | le => exact sw_icmp_le cx hdec hok.2 hA hL hl hs hst kk
  | goto off =>
    simp only [am_okb, Bool.and_eq_true] at hok
    have hn : n = 3 := Nat.eq_of_beq_eq_true hok.1
    subst hn
    cases hst
    exact lv_goto cx.1 cx.2.1 hdec (am_goI hok.2) (kk.upd rfl rfl hA hL)
  | ifnull off =>
    simp only [am_okb, Bool.and_eq_true] at hok
    have hn : n = 3 := Nat.eq_of_beq_eq_true hok.1
    subst hn
    exact sw_null cx hdec hok.2 hA hL hl hs hst kk
  | ifnonnull off =>
    simp only [am_okb, Bool.and_eq_true] at hok
    have hn : n = 3 := Nat.eq_of_beq_eq_true hok.1
    subst hn
    exact sw_nonnull cx hdec hok.2 hA hL hl hs hst kk
  | tableswitch d lo hi offs =>
    simp only [am_okb, Bool.and_eq_true] at hok
    exact sw_tsw cx hdec hok.1 hok.2 hA hL hl hs hst kk
  | lookupswitch d ps =>
    simp only [am_okb, Bool.and_eq_true] at hok
    exact sw_lsw cx hdec hok.1.1 hok.1.2 hok.2 hA hL hl hs hst kk
  | ireturn =>
    simp only [am_step] at hst
    split at hst
    · split at hst <;> cases hst
    · cases hst
  | areturn =>
    simp only [am_step] at hst
    split at hst
    · split at hst <;> cases hst
    · cases hst
  | return_ =>
    simp only [am_step] at hst
    split at hst
    · cases hst
    · cases hst
  | getstatic i =>
    simp only [am_okb, Bool.and_eq_true] at hok
    have hn : n = 3 := Nat.eq_of_beq_eq_true hok.1
    subst hn
    have h2 := hok.2
    cases hst
    refine sx_getstatic cx (a := a) (k := k) hdec ?_ hA hL kk
    split at h2
    · exact Or.inl ⟨rfl, h2⟩
    · exact Or.inr (Or.inl ⟨rfl, h2⟩)
    · exact Or.inr (Or.inr (Or.inl ⟨rfl, h2⟩))
    · exact Or.inr (Or.inr (Or.inr ⟨rfl, h2⟩))
    · cases h2
  | getfield i =>
    simp only [am_okb, Bool.and_eq_true] at hok
    have hn : n = 3 := Nat.eq_of_beq_eq_true hok.1
    subst hn
    have h2 := hok.2
    split at h2
    · split at h2
      · exact sx_getS cx (i := k) hdec (Or.inl ⟨rfl, h2⟩) hA hL hs hst kk
      · exact sx_getS cx (i := k) hdec (Or.inr ⟨rfl, h2⟩) hA hL hs hst kk
      · cases h2
    · obtain ⟨h3, h4, h5⟩ := am_flc_of h2
      obtain ⟨q, li, hcw⟩ := hWd.2.2 a h4
      exact sx_getf cx hdec h3 h4 h5 hcw hA hL hs hst kk
  | putfield i =>
    simp only [am_okb, Bool.and_eq_true] at hok
    have hn : n = 3 := Nat.eq_of_beq_eq_true hok.1.1
    subst hn
    obtain ⟨h3, h4, h5⟩ := am_flc_of hok.1.2
    obtain ⟨q, li, hcw⟩ := hWd.2.2 a h4
    refine sx_putf cx hdec h3 h4 h5 hcw (fun hfin => ?_) hA hL hs hw' hst kk
    have h6 := hok.2
    rw [hfin] at h6
    simp only [Bool.not_true, Bool.false_or, Bool.and_eq_true, decide_eq_true_eq] at h6
    exact ⟨h6.1, Nat.eq_of_beq_eq_true h6.2⟩
  | new i =>
    simp only [am_okb, Bool.and_eq_true] at hok
    have hn : n = 3 := Nat.eq_of_beq_eq_true hok.1.1
    subst hn
    simp only [Nat.blt_eq] at hok
    obtain ⟨q, li, hcw⟩ := hWd.2.2 a hok.1.2
    cases hst
    have e1 : (am_new w a (am_nf a) (am_dflt a)).1 - w.1 = 1 := Nat.add_sub_cancel_left ..
    have e2 : (am_new w a (am_nf a) (am_dflt a)).2.1 - w.2.1 = am_nf a := Nat.add_sub_cancel_left ..
    rw [e1] at hrc
    rw [e2] at hrs
    exact sx_new cx hdec hok.1.2 hok.2 hcw hrc hrs hA hL hl hs hw' kk
  | newarray ty =>
    simp only [am_okb, Bool.and_eq_true] at hok
    have hn : n = 2 := Nat.eq_of_beq_eq_true hok.1
    subst hn
    have h2 := hok.2
    cases ty with
    | int =>
      simp only [Bool.and_eq_true] at h2
      exact sx_newa cx hdec (Or.inl ⟨rfl, Nat.eq_of_beq_eq_true h2.1⟩) h2.2 hrc hrs hA hL hl hs hw' hst kk
    | boolean =>
      simp only [Bool.and_eq_true] at h2
      exact sx_newa cx hdec (Or.inr ⟨rfl, Nat.eq_of_beq_eq_true h2.1⟩) h2.2 hrc hrs hA hL hl hs hw' hst kk
    | _ => cases h2
  | anewarray i =>
    simp only [am_okb, Bool.and_eq_true] at hok
    have hn : n = 3 := Nat.eq_of_beq_eq_true hok.1
    subst hn
    exact sx_newq cx hdec hok.2 hrc hrs hA hL hl hs hw' hst kk
  | invokespecial i =>
    simp only [am_okb, Bool.and_eq_true] at hok
    have hn : n = 3 := Nat.eq_of_beq_eq_true hok.1
    subst hn
    simp only [am_step] at hst
    split at hst
    · rename_i ha
      have h2 := hok.2
      rw [if_pos ha] at h2
      exact sx_objinit cx hdec h2 hrf hrl hlen hA hL hs hst kk
    · exact absurd hst (am_inv_inl _)
  | invokevirtual i =>
    exact absurd (show am_inv false a b.toNat pc ast w = _ from hst) (am_inv_inl _)
  | invokestatic i =>
    simp only [am_okb, Bool.and_eq_true] at hok
    have hn : n = 3 := Nat.eq_of_beq_eq_true hok.1
    subst hn
    have h2 := hok.2
    simp only [am_step] at hst
    split at hst
    · rename_i ha
      rw [if_pos ha] at h2
      exact sx_acopy cx hdec h2 hrf hrl hlen hA hL hs hw' hst kk
    · rename_i ha
      rw [if_neg ha] at h2
      split at hst
      · rename_i ha
        rw [if_pos ha] at h2
        exact sx_max cx hdec h2 hrf hrl (by omega) (by omega) hlen hA hL hs hst kk
      · rename_i ha
        rw [if_neg ha] at h2
        split at hst
        · rename_i ha
          rw [if_pos ha] at h2
          exact sx_min cx hdec h2 hrf hrl (by omega) (by omega) hlen hA hL hs hst kk
        · rename_i ha
          rw [if_neg ha] at h2
          split at hst
          · rename_i ha
            rw [if_pos ha] at h2
            exact sx_abs cx hdec h2 hrf hrl (by omega) (by omega) hlen hA hL hs hst kk
          · exact absurd hst (am_inv_inl _)
  | _ => exact nomatch (show (none : Option AS) = some _ from hst)
end SA
