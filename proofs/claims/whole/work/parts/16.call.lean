/-! calls; the whole run -/
theorem am_inv_F {a n pc : Nat} {st : List AV} {w : AW} {N : Nat} {ls' : List AV} {pc' : Nat} {st' : List AV} (h : am_inv false a n pc st w = some (.inr (.inr (N, ls', pc', st')))) :
    ∃ k0, st.drop n = vR k0 :: st' ∧ am_kd w k0 = am_rk (am_own a) ∧ st'.length ≤ 4 ∧ ((am_exp (vR k0 :: (st.take n).reverse)).length ≤ am_maxl a ∧ am_lok (am_exp (vR k0 :: (st.take n).reverse)) = true) ∧ N = a ∧ ls' = am_loc (vR k0 :: (st.take n).reverse) (am_maxl a) ∧ pc' = pc + 3 := by
  unfold am_inv at h
  dsimp only at h
  split at h
  · rename_i k0 r he
    split at h
    · rename_i hc
      cases h
      exact ⟨k0, he, hc.1, hc.2.1, hc.2.2, rfl, rfl, rfl⟩
    · cases h
  · cases h
theorem am_inv_T {a n pc : Nat} {st : List AV} {w : AW} {N : Nat} {ls' : List AV} {pc' : Nat} {st' : List AV} (h : am_inv true a n pc st w = some (.inr (.inr (N, ls', pc', st')))) :
    n ≤ st.length ∧ st' = st.drop n ∧ st'.length ≤ 4 ∧ ((am_exp (st.take n).reverse).length ≤ am_maxl a ∧ am_lok (am_exp (st.take n).reverse) = true) ∧ N = a ∧ ls' = am_loc (st.take n).reverse (am_maxl a) ∧ pc' = pc + 3 := by
  unfold am_inv at h
  dsimp only at h
  split at h
  · rename_i hc
    cases h
    exact ⟨hc.1, rfl, hc.2.1, hc.2.2, rfl, rfl, rfl⟩
  · cases h
theorem am_mlc_of {k own idx a : Nat} {nest : Bool} (h : am_mlc k own idx a nest = true) : ∃ j, am_ml[k]? = some (own, idx, a, j) ∧ a < 232 ∧ (j = 0 ∨ nest = true) := by
  unfold am_mlc at h
  split at h
  · rename_i o i c j e
    simp only [Bool.and_eq_true, Bool.or_eq_true, Nat.blt_eq] at h
    obtain ⟨⟨⟨⟨h1, h2⟩, h3⟩, h4⟩, h5⟩ := h
    obtain rfl := Nat.eq_of_beq_eq_true h1
    obtain rfl := Nat.eq_of_beq_eq_true h2
    obtain rfl := Nat.eq_of_beq_eq_true h3
    exact ⟨j, e, h4, h5.imp Nat.eq_of_beq_eq_true id⟩
  · cases h
theorem am_own_le (N : Nat) : am_own N ≤ 99 := by
  by_cases hN : N < 233
  · have h : ∀ N, N < 233 → am_own N ≤ 99 := by decide +kernel
    exact h N hN
  · have h0 : am_m N = am_m0 := by
      unfold am_m
      have h5 : 5 ≤ N / 40 := by omega
      by_cases h6 : N / 40 = 5
      · rw [h6]
        show am_ms5.getD (N % 40) am_m0 = am_m0
        have h7 : am_ms5.length = 33 := by decide +kernel
        rw [List.getD_eq_getElem?_getD, List.getElem?_eq_none (by omega)]
        rfl
      · match h7 : N / 40, h5, h6 with
        | 5, _, h => exact absurd rfl h
        | k + 6, _, _ => rfl
    unfold am_own
    rw [h0]
    decide
section SC
variable {G : AG} {l : Launch} {M : Nat} {p : Program} {e : Env} {R : Room} {s : State} {m : MethodId} {args : Array Value} {below : List Frame} {meth : Method} {c : Code} {H : Heap} {locs : List Loc} {cells slots : Nat} {Q : State → Prop} {w w2 : AW} {ad : Nat → Nat} {pc : Nat} {ls : Array Slot} {al ast : List AV} {r : Option AV}
theorem am_recv {N k0 : Nat} (cx : am_Cx G M p s m args meth c) (hA : am_At G w ad s H locs) (hk : k0 < w.1) (hkd : am_kd w k0 = am_rk (am_own N)) : ∃ cell : Cell, H[ad k0]? = some cell ∧ cell.vm.isStatics = false ∧ s.vm.findClass (am_cn (am_own N)) = some cell.cls := by
  obtain ⟨g1, g2, g3, g4, g5, g6, g7, g8⟩ := hA.1.2 k0 hk
  by_cases h15 : am_own N = 15
  · rw [h15] at hkd ⊢
    have hk120 : am_kd w k0 = 120 := hkd
    have h19 : k0 < 19 := by omega
    have hz := ((cx.2.2.2.2.2.2.2.1).2.2.2.2 k0 h19).2.2 (by rw [← (hA.2.1 k0 h19).1]; exact hk120)
    obtain ⟨cell, h1, h2, h3, -⟩ := hz.1.kept hA.2.2.2.2.2.1
    rw [hA.adr h19]
    exact ⟨cell, h1, h2, h3⟩
  · have hrk : am_rk (am_own N) = am_own N := by
      unfold am_rk
      split
      · rename_i h; exact absurd h h15
      · rfl
    rw [hrk] at hkd
    by_cases h11 : am_own N < 11
    · have h19 : 19 ≤ k0 := by omega
      have he := am_ws_get (cI := gI G) (cZ := gZ G) (cR := gR G) (fm := gF G) (ad := ad) h19 hk
      rw [am_ent_obj (by omega), hkd] at he
      exact va_recv cx.2.2.2.2.2.2.1.1 hA.2.2.1 (am_cl_at h11) he
    · exfalso
      have hle := am_own_le N
      unfold am_intk at g8
      omega
theorem am_cwB {N n idx : Nat} {q : Nat × Nat × Nat × Nat} {d mc ms : Nat} (hmw : am_mw N q = true) (cx : am_Cx G M p s m args meth c) (hfr : d + 2 ≤ R.frames) (hlo : 64 * (d + 2) ≤ R.locals) (hn : n = am_np N) (hl : (Cond.methodLink (am_cn (am_own M)) idx (am_y N)).before args s = true) :
    CallB R s args (am_cn (am_own M)) idx (am_y N) (am_code N) (am_maxl N) (am_ret N) (am_wsN N) (am_rm d mc ms) mc ms n := by
  obtain ⟨m1, m2, m3, m4, m5, m6, m7, m8⟩ := am_mw_facts hmw
  have hts := cx.2.2.2.2.1
  refine ⟨rfl, rfl, hfr, ?_, fun x hx a' U hW => ?_, List.mem_cons_self, hts _ m1, hts _ m4, ⟨m7.1, m7.2.1⟩, fun sig h => ?_, hl⟩
  · show 8 + (am_maxl N + 11) + 64 * (d + 1) ≤ R.locals
    omega
  · rcases List.mem_cons.mp hx with rfl | hx
    · exact pay_in hts am_good _ m1 a' U hW
    · exact pay_in hts am_good _ hx a' U hW
  · have h2 := m7.2.2
    rw [h] at h2
    rw [hn]
    exact (Option.some.inj h2).symm
theorem am_cwN {N n idx : Nat} {q : Nat × Nat × Nat × Nat} {d mc ms : Nat} (hmw : am_mw N q = true) (cx : am_Cx G M p s m args meth c) (hfr : d + 2 ≤ R.frames) (hlo : 64 * (d + 2) ≤ R.locals) (hn : n = am_np N) (hl : (Cond.methodLinkNest (am_cn (am_own M)) idx (am_y N) "WallPicks").before args s = true) :
    va_CN R s args (am_cn (am_own M)) idx (am_y N) "WallPicks" (am_code N) (am_maxl N) (am_ret N) (am_wsN N) (am_rm d mc ms) mc ms n := by
  obtain ⟨m1, m2, m3, m4, m5, m6, m7, m8⟩ := am_mw_facts hmw
  have hts := cx.2.2.2.2.1
  refine ⟨⟨rfl, rfl, hfr, ?_, fun x hx a' U hW => ?_, List.mem_cons_self⟩, hts _ m1, hts _ m4, ⟨m7.1, m7.2.1⟩, fun sig h => ?_, hl⟩
  · show 8 + (am_maxl N + 11) + 64 * (d + 1) ≤ R.locals
    omega
  · rcases List.mem_cons.mp hx with rfl | hx
    · exact pay_in hts am_good _ m1 a' U hW
    · exact pay_in hts am_good _ hx a' U hW
  · have h2 := m7.2.2
    rw [h] at h2
    rw [hn]
    exact (Option.some.inj h2).symm
theorem am_callW (hWd : am_Wd) (hG : am_Gd G) {f d : Nat} (hS : am_Snd l G f) (cx : am_Cx G M p s m args meth c) (hM : M < 233) {e0 : AE} (hf : am_find M pc = some e0) (hlen : al.length = am_maxl M) {N : Nat} {ls' : List AV} {pc' : Nat} {st' : List AV}
    (hst : am_step e0 pc al ast w = some (.inr (.inr (N, ls', pc', st')))) (hex : am_exec f d N 0 ls' [] w = some (r, w2)) (hfr : d + 2 ≤ R.frames) (hlo : 64 * (d + 2) ≤ R.locals) (hrc : cells + (w2.1 - w.1) ≤ R.cells) (hrs : slots + (w2.2.1 - w.2.1) ≤ R.slots)
    (hA : am_At G w ad s H locs) (hL : am_L ad (gF G) ls al) (hs : wfs w.1 ast)
    (kk : ∀ (ad' : Nat → Nat) (H1 : Heap) (locs1 : List Loc), (∀ k, k < w.1 → ad' k = ad k) → am_R0 G w2 ad' → va_P (gD G) am_cl (am_ws (gI G) (gZ G) (gR G) (gF G) w2 ad') H1 → va_D (gP G) (am_ws (gI G) (gZ G) (gR G) (gF G) w2 ad') → va_S (gP G) s.heap H1 locs1 → W p l e R s m args below meth c H1 locs1 (cells + (w2.1 - w.1)) (slots + (w2.2.1 - w.2.1)) Q (F0 m pc' ls ((r.toList ++ st').map (cv ad' (gF G))))) :
    W p l e R s m args below meth c H locs cells slots Q (F0 m pc ls (ast.map (cv ad (gF G)))) := by
  obtain ⟨hok, hdec⟩ := hWd.1 M pc e0 hM hf
  obtain ⟨ins, n, a, b, k⟩ := e0
  replace hdec : decode (am_code M) pc = .ok (ins, n) := of_decide_eq_true hdec
  have hfix : CallFix p m c (am_code M) (am_maxl M) s args am_tbl (am_cn (am_own M)) := ⟨cx.1, cx.2.1, cx.2.2.1, cx.2.2.2.1, cx.2.2.2.2.1⟩
  have hsz : ls.size = am_maxl M := hL.1.trans hlen
  have hfc := cx.2.2.2.2.2.2.2.2.2.1
  have virt : ∀ (idx nb : Nat), am_inv false a nb pc ast w = some (.inr (.inr (N, ls', pc', st'))) → nb = am_np a → a < 232 → am_stat a = false →
      (∀ (k0 : Nat), ast.drop nb = vR k0 :: st' → k0 < w.1 → am_kd w k0 = am_rk (am_own a) → st'.length ≤ 4 → Met l (am_y a) (am_wsN a) (am_rm d (w2.1 - w.1) (w2.2.1 - w.2.1)) (va_Pc (.ref (ad k0) :: ((ast.take nb).reverse).map (cv ad (gF G))) (am_Pre G w ad)) (am_Qc G w w2 r ad) (w2.1 - w.1) (w2.2.1 - w.2.1) (gP G) →
        va_Run p l e R s m args below meth c H locs cells slots (w2.1 - w.1) (w2.2.1 - w.2.1) (F0 m pc ls (ast.map (cv ad (gF G)))) (st'.map (cv ad (gF G))) (am_Qc G w w2 r ad (Value.ref (ad k0) :: ((ast.take nb).reverse).map (cv ad (gF G))).toArray) (gP G)) →
      W p l e R s m args below meth c H locs cells slots Q (F0 m pc ls (ast.map (cv ad (gF G)))) := by
    intro idx nb hinv hnb ha hstat hrun
    obtain ⟨k0, h1, h2, h3, h4, rfl, rfl, rfl⟩ := am_inv_F hinv
    have hd : wfs w.1 (ast.drop nb) := hs.drop
    rw [h1] at hd
    have hmet := am_Met (ad := ad) hWd hG hS (avs := vR k0 :: (ast.take nb).reverse) hex ha h4.1 h4.2 hA.1 (wfs.cons hd.hd hs.takeR)
    exact am_after (hrun k0 h1 hd.hd h2 h3 hmet) hA.2.2.2.2 hd.tl kk
  have stat : ∀ (idx nb : Nat), am_inv true a nb pc ast w = some (.inr (.inr (N, ls', pc', st'))) → nb = am_np a → a < 232 →
      (nb ≤ ast.length → st' = ast.drop nb → st'.length ≤ 4 → Met l (am_y a) (am_wsN a) (am_rm d (w2.1 - w.1) (w2.2.1 - w.2.1)) (va_Pc (((ast.take nb).reverse).map (cv ad (gF G))) (am_Pre G w ad)) (am_Qc G w w2 r ad) (w2.1 - w.1) (w2.2.1 - w.2.1) (gP G) →
        va_Run p l e R s m args below meth c H locs cells slots (w2.1 - w.1) (w2.2.1 - w.2.1) (F0 m pc ls (ast.map (cv ad (gF G)))) (st'.map (cv ad (gF G))) (am_Qc G w w2 r ad (((ast.take nb).reverse).map (cv ad (gF G))).toArray) (gP G)) →
      W p l e R s m args below meth c H locs cells slots Q (F0 m pc ls (ast.map (cv ad (gF G)))) := by
    intro idx nb hinv hnb ha hrun
    obtain ⟨h1, h2, h3, h4, rfl, rfl, rfl⟩ := am_inv_T hinv
    have hmet := am_Met (ad := ad) hWd hG hS (avs := (ast.take nb).reverse) hex ha h4.1 h4.2 hA.1 hs.takeR
    exact am_after (hrun h1 h2 h3 hmet) hA.2.2.2.2 (by rw [h2]; exact hs.drop) kk
  have hstk : ∀ (nb k0 : Nat), ast.drop nb = vR k0 :: st' → ast.map (cv ad (gF G)) = (((ast.take nb).reverse).map (cv ad (gF G))).reverse ++ .ref (ad k0) :: st'.map (cv ad (gF G)) := by
    intro nb k0 h1
    conv => lhs; rw [← List.take_append_drop nb ast, h1]
    rw [List.map_append, List.map_reverse, List.reverse_reverse]
    rfl
  have hlenA : ∀ (nb k0 : Nat), ast.drop nb = vR k0 :: st' → (((ast.take nb).reverse).map (cv ad (gF G))).length = nb := by
    intro nb k0 h1
    rw [List.length_map, List.length_reverse, List.length_take]
    have : (ast.drop nb).length = st'.length + 1 := by rw [h1]; rfl
    rw [List.length_drop] at this
    omega
  have hroom : ∀ (st : List AV), st.length ≤ 4 → 2 * (F0 m pc ls (ast.map (cv ad (gF G)))).monitorRoom + ((st.map (cv ad (gF G))).map fun v => v.category).sum ≤ 8 := by
    intro st h
    have := cv_sum (ad := ad) hfc st
    show 2 * 0 + _ ≤ 8
    omega
  cases ins with
  | invokespecial i =>
    simp only [am_okb, Bool.and_eq_true] at hok
    have hn : n = 3 := Nat.eq_of_beq_eq_true hok.1
    subst hn
    simp only [am_step] at hst
    split at hst
    · unfold am_objinit at hst
      split at hst
      · split at hst <;> cases hst
      · cases hst
    · rename_i ha
      have h2 := hok.2
      rw [if_neg ha] at h2
      simp only [Bool.and_eq_true, decide_eq_true_eq, Bool.not_eq_true'] at h2
      obtain ⟨⟨⟨⟨h3, h4⟩, h5⟩, h6⟩, h7⟩ := h2
      obtain ⟨j, h8, h9, h10⟩ := am_mlc_of h3
      have hnb : b.toNat = am_np a := by rw [h4]; rfl
      obtain ⟨q, hq⟩ := hWd.2.1 a h9
      obtain ⟨m1, m2, m3, m4, m5, m6, m7, m8⟩ := am_mw_facts hq
      refine virt i b.toNat hst hnb h9 h5 (fun k0 g1 g2 g3 g4 hmet => ?_)
      have hp : PreS s H (va_Pc (.ref (ad k0) :: ((ast.take b.toNat).reverse).map (cv ad (gF G))) (am_Pre G w ad)) (.ref (ad k0) :: ((ast.take b.toNat).reverse).map (cv ad (gF G))) := ⟨am_Pre.blind, am_pre cx hA⟩
      cases j with
      | zero =>
        have hl := cx.2.2.2.2.1 _ (am_tw (am_ml_in h8) rfl)
        have cw := am_cwB (R := R) (d := d) (mc := w2.1 - w.1) (ms := w2.2.1 - w.2.1) hq cx hfr hlo hnb hl
        rw [h7] at cw
        exact va_runI hfix hmet ⟨cw, h6, cx.2.2.2.2.1 _ (m3 h5).1⟩ hp rfl (hlenA _ _ g1) hsz (hstk _ _ g1) (hroom _ g4) hdec ⟨hrc, hrs⟩
      | succ j =>
        have hl := va_Nw.use (A := args) rfl (cx.2.2.2.2.2.2.1.2.2.1 _ (am_ml_in h8) rfl)
        have cw := am_cwN (R := R) (d := d) (mc := w2.1 - w.1) (ms := w2.2.1 - w.2.1) hq cx hfr hlo hnb hl
        rw [h7] at cw
        exact va_runIN hfix hmet ⟨cw, h6, cx.2.2.2.2.1 _ (m3 h5).1⟩ hp rfl (hlenA _ _ g1) hsz (hstk _ _ g1) (hroom _ g4) hdec ⟨hrc, hrs⟩
  | invokevirtual i =>
    simp only [am_okb, Bool.and_eq_true, decide_eq_true_eq, Bool.not_eq_true', decide_eq_false_iff_not] at hok
    obtain ⟨⟨⟨⟨hn, h3⟩, h4⟩, h5⟩, h6⟩ := hok
    obtain rfl : n = 3 := Nat.eq_of_beq_eq_true hn
    obtain ⟨j, h8, h9, h10⟩ := am_mlc_of h3
    obtain rfl : j = 0 := h10.elim id (fun z => by cases z)
    have hnb : b.toNat = am_np a := by rw [h4]; rfl
    obtain ⟨q, hq⟩ := hWd.2.1 a h9
    obtain ⟨m1, m2, m3, m4, m5, m6, m7, m8⟩ := am_mw_facts hq
    refine virt i b.toNat hst hnb h9 h5 (fun k0 g1 g2 g3 g4 hmet => ?_)
    have hl := cx.2.2.2.2.1 _ (am_tw (am_ml_in h8) rfl)
    have cw := am_cwB (R := R) (d := d) (mc := w2.1 - w.1) (ms := w2.2.1 - w.2.1) hq cx hfr hlo hnb hl
    have hsel : Cond.selects (am_y a).cls (am_y a) (am_y a) ∈ am_tbl := (m3 h5).2.elim (fun z => absurd z h6) id
    have hrec := am_recv cx hA g2 g3
    rw [m5] at hrec
    exact va_runV (C := (am_y a).cls) hfix hmet ⟨cw, cx.2.2.2.2.1 _ (m3 h5).1, cx.2.2.2.2.1 _ hsel⟩ ⟨am_Pre.blind, hrec, am_pre cx hA⟩ rfl (hlenA _ _ g1) hsz (hstk _ _ g1) (hroom _ g4) hdec ⟨hrc, hrs⟩
  | invokestatic i =>
    simp only [am_okb, Bool.and_eq_true] at hok
    have hn : n = 3 := Nat.eq_of_beq_eq_true hok.1
    subst hn
    have h2 := hok.2
    simp only [am_step] at hst
    split at hst
    · unfold am_acopy at hst
      split at hst
      · split at hst <;> cases hst
      · cases hst
    · rename_i ha
      rw [if_neg ha] at h2
      split at hst
      · unfold am_m2 at hst
        split at hst
        · split at hst <;> cases hst
        · cases hst
      · rename_i ha
        rw [if_neg ha] at h2
        split at hst
        · unfold am_m2 at hst
          split at hst
          · split at hst <;> cases hst
          · cases hst
        · rename_i ha
          rw [if_neg ha] at h2
          split at hst
          · unfold am_m1 at hst
            split at hst
            · split at hst <;> cases hst
            · cases hst
          · rename_i ha
            rw [if_neg ha] at h2
            simp only [Bool.and_eq_true, decide_eq_true_eq] at h2
            obtain ⟨⟨h3, h4⟩, h5⟩ := h2
            obtain ⟨j, h8, h9, h10⟩ := am_mlc_of h3
            have hnb : b.toNat = am_np a := by rw [h4]; rfl
            obtain ⟨q, hq⟩ := hWd.2.1 a h9
            obtain ⟨m1, m2, m3, m4, m5, m6, m7, m8⟩ := am_mw_facts hq
            refine stat i b.toNat hst hnb h9 (fun g1 g2 g3 hmet => ?_)
            have hp : PreS s H (va_Pc (((ast.take b.toNat).reverse).map (cv ad (gF G))) (am_Pre G w ad)) (((ast.take b.toNat).reverse).map (cv ad (gF G))) := ⟨am_Pre.blind, am_pre cx hA⟩
            have hst2 : ast.map (cv ad (gF G)) = (((ast.take b.toNat).reverse).map (cv ad (gF G))).reverse ++ st'.map (cv ad (gF G)) := by
              conv => lhs; rw [← List.take_append_drop b.toNat ast]
              rw [List.map_append, List.map_reverse, List.reverse_reverse, g2]
            have hla : (((ast.take b.toNat).reverse).map (cv ad (gF G))).length = b.toNat := by
              rw [List.length_map, List.length_reverse, List.length_take]
              omega
            cases j with
            | zero =>
              have hl := cx.2.2.2.2.1 _ (am_tw (am_ml_in h8) rfl)
              have cw := am_cwB (R := R) (d := d) (mc := w2.1 - w.1) (ms := w2.2.1 - w.2.1) hq cx hfr hlo hnb hl
              exact va_runS hfix hmet ⟨cw, cx.2.2.2.2.1 _ (m2 h5)⟩ hp rfl hla hsz hst2 (hroom _ g3) hdec ⟨hrc, hrs⟩
            | succ j =>
              have hl := va_Nw.use (A := args) rfl (cx.2.2.2.2.2.2.1.2.2.1 _ (am_ml_in h8) rfl)
              have cw := am_cwN (R := R) (d := d) (mc := w2.1 - w.1) (ms := w2.2.1 - w.2.1) hq cx hfr hlo hnb hl
              exact va_runSN hfix hmet ⟨cw, cx.2.2.2.2.1 _ (m2 h5), trivial⟩ hp rfl hla hsz hst2 (hroom _ g3) hdec ⟨hrc, hrs⟩
  | _ =>
    exfalso
    simp only [am_step] at hst
    (try simp only [am_ild, am_lld, am_ald, am_ist, am_ast, am_iinc, am_iload, am_bload, am_aload, am_istore, am_bstore, am_astore, am_alen, am_pop, am_dup, am_dup2, am_b2, am_d2, am_un, am_l2, am_ls, am_br1, am_br2, am_null, am_tsw, am_lsw, am_getf, am_putf, am_newa] at hst)
    (repeat' split at hst) <;> cases hst
end SC
theorem am_find_lt {M pc : Nat} {e : AE} (hf : am_find M pc = some e) : M < 233 := by
  rcases Nat.lt_or_ge M 233 with q | q
  · exact q
  · unfold am_find at hf
    rw [am_tab_big q] at hf
    cases hf
theorem am_step_ret {e : AE} {pc : Nat} {al ast : List AV} {w : AW} {r : Option AV} (h : am_step e pc al ast w = some (.inr (.inl r))) : am_rets e r ∧ ast = r.toList := by
  obtain ⟨ins, n, a, b, k⟩ := e
  cases ins with
  | ireturn =>
    simp only [am_step] at h
    split at h
    · split at h
      · rename_i x hx
        cases h
        exact ⟨Or.inl ⟨rfl, x, rfl, hx⟩, rfl⟩
      · cases h
    · cases h
  | areturn =>
    simp only [am_step] at h
    split at h
    · split at h
      · rename_i v hv
        cases h
        exact ⟨Or.inr (Or.inl ⟨rfl, v, rfl, hv⟩), rfl⟩
      · cases h
    · cases h
  | return_ =>
    simp only [am_step] at h
    split at h
    · cases h
      exact ⟨Or.inr (Or.inr ⟨rfl, rfl⟩), rfl⟩
    · cases h
  | _ =>
    exfalso
    simp only [am_step] at h
    (try simp only [am_ild, am_lld, am_ald, am_ist, am_ast, am_iinc, am_iload, am_bload, am_aload, am_istore, am_bstore, am_astore, am_alen, am_pop, am_dup, am_dup2, am_b2, am_d2, am_un, am_l2, am_ls, am_br1, am_br2, am_null, am_tsw, am_lsw, am_getf, am_putf, am_newa, am_objinit, am_acopy, am_m2, am_m1, am_inv] at h)
    (repeat' split at h) <;> cases h
theorem am_sound (hWd : am_Wd) {G : AG} (hG : am_Gd G) (l : Launch) : ∀ f, am_Snd l G f := by
  intro f
  induction f with
  | zero => intro d M pc al ast w r w' h; cases h
  | succ f ih =>
    intro d M pc al ast w r w' hex p e R s m args below meth c H locs cells slots Q ad ls cx hA hL hlen hl hs hfr hlo hrc hrs hcl
    rw [am_exec] at hex
    cases hf : am_find M pc with
    | none => rw [hf] at hex; cases hex
    | some e0 =>
      rw [hf] at hex
      dsimp only at hex
      have hM := am_find_lt hf
      cases hst : am_step e0 pc al ast w with
      | none => rw [hst] at hex; cases hex
      | some x =>
        rw [hst] at hex
        have hwf := am_step_wf (hWd.1 M pc e0 hM hf).1 hA.1 hl hs x hst
        rcases x with ⟨pc1, al1, ast1, w1⟩ | r1 | ⟨N, ls1, pc1, st1⟩
        · obtain ⟨g1, g2, g3, g4⟩ := hwf
          have hfin := am_exec_wf hWd.1 _ _ _ _ _ _ _ _ _ hex g1 g2 g3
          have e1 := g4.1
          have e2 := g4.2.1
          have e3 := hfin.2.2.1
          have e4 := hfin.2.2.2.1
          dsimp only at e1 e2 e3 e4 g2 g3
          refine am_stepW hWd cx hM hf hlen (by omega) (by omega) (by omega) (by omega) hA hL hl hs hst ?_
          intro ad1 H1 locs1 ls1 hext hA1 hL1
          refine ih _ _ _ _ _ _ _ _ hex p e R s m args below meth c H1 locs1 _ _ Q ad1 ls1 cx hA1 hL1 ((am_step_len hst).trans hlen) g2 g3 hfr hlo (by omega) (by omega) ?_
          intro ad2 H2 locs2 ls2 pc2 e2' hext2 hA2 hf2 hr2
          have h := hcl ad2 H2 locs2 ls2 pc2 e2' (fun k hk => (hext2 k (Nat.lt_of_lt_of_le hk e1)).trans (hext k hk)) hA2 hf2 hr2
          rw [show cells + (w1.1 - w.1) + (w'.1 - w1.1) = cells + (w'.1 - w.1) by omega, show slots + (w1.2.1 - w.2.1) + (w'.2.1 - w1.2.1) = slots + (w'.2.1 - w.2.1) by omega]
          exact h
        · cases hex
          obtain ⟨h1, h2⟩ := am_step_ret hst
          have h := hcl ad H locs ls pc e0 (fun _ _ => rfl) hA hf h1
          rw [Nat.sub_self, Nat.sub_self] at h
          rw [h2]
          exact h
        · obtain ⟨g1, g2⟩ := hwf
          dsimp only at hex g1 g2
          cases d with
          | zero => cases hex
          | succ d =>
            dsimp only at hex
            cases hc : am_exec f d N 0 ls1 [] w with
            | none => rw [hc] at hex; cases hex
            | some y =>
              obtain ⟨r2, w2⟩ := y
              rw [hc] at hex
              dsimp only at hex
              have k1 := am_exec_wf hWd.1 _ _ _ _ _ _ _ _ _ hc hA.1 g1 wfs.nil
              have hst2 : wfs w2.1 (r2.toList ++ st1) := wfs.app (fun v hv => k1.2.1 v (by cases r2 with | none => cases hv | some u => rw [List.mem_singleton.mp hv])) (g2.mono k1.2.2.1)
              have k2 := am_exec_wf hWd.1 _ _ _ _ _ _ _ _ _ hex k1.1 (hl.mono k1.2.2.1) hst2
              have e1 := k1.2.2.1
              have e2 := k1.2.2.2.1
              have e3 := k2.2.2.1
              have e4 := k2.2.2.2.1
              refine am_callW hWd hG ih cx hM hf hlen hst hc hfr hlo (by omega) (by omega) hA hL hs ?_
              intro ad1 H1 locs1 hext hR1 hP1 hD1 hS1
              refine ih _ _ _ _ _ _ _ _ hex p e R s m args below meth c H1 locs1 _ _ Q ad1 ls cx ⟨k1.1, hR1, hP1, hD1, hS1⟩ (hL.congr hext hl) hlen (hl.mono e1) hst2 hfr hlo (by omega) (by omega) ?_
              intro ad2 H2 locs2 ls2 pc2 e2' hext2 hA2 hf2 hr2
              have h := hcl ad2 H2 locs2 ls2 pc2 e2' (fun k hk => (hext2 k (Nat.lt_of_lt_of_le hk e1)).trans (hext k hk)) hA2 hf2 hr2
              rw [show cells + (w2.1 - w.1) + (w'.1 - w2.1) = cells + (w'.1 - w.1) by omega, show slots + (w2.2.1 - w.2.1) + (w'.2.1 - w2.2.1) = slots + (w'.2.1 - w.2.1) by omega]
              exact h
