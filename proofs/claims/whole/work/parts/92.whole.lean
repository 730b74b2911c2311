/-! the claim out of one walk of the law's body (the frame begun from the kit's skeleton) -/
def R_law : String := "WallPicksLaw"
def lw_P (b : Addr) (xs : List Int32) (args : Array Value) (s : State) : Prop := args = #[.ref b] ∧ s.IntsAt b xs ∧ xs.length ≤ 256 ∧ (Jvm.Cond.and given_1 narrow_1).before args s = true
def lw_Q (_ : Array Value) (s : State) (o : Outcome) (t : State) : Prop := o = .returned (some (.int 1)) ∧ Framed s o t [] 600000 7302250
def lw_Z (below : List Frame) (a : Array Value) (s : State) : State → Prop := fun t => ∃ o, t.status = .running ∧ Ended t below o ∧ lw_Q a s o t
theorem lw_ret {p : Program} {l : Launch} {e : Env} {s : State} {m : MethodId} {below : List Frame} {meth : Method} {c : Code} {b : Nat} (hx : p.tables.exec = Jvm.exec) (hb : c.code = code) (hr : meth.sig.returnType = ret) (hlocks : meth.locks = false) {pc : Nat} {H : Heap} {ls : Array Slot} (hdg : decode code pc = .ok (.ireturn, 1)) : W p l e room_1 s m #[Value.ref b] below meth c H [] 600000 7302250 (lw_Z below #[Value.ref b] s) (F0 m pc ls [.int 1]) := by
  intro T hT X
  obtain ⟨fs, hret, hrun, hended, hW, hframe⟩ := X.leave (v := some (.int 1)) (hlocks := hlocks) (fun h => by rw [hr] at h; cases h)
  have hmeth' : T.vm.method? m = some meth := X.method'
  refine ⟨T.setFrames fs, ?_, .returned (some (.int 1)), hrun, hended, rfl, ⟨_, rfl⟩, hW, hframe⟩
  jvm_step X.here [X.here.top, hx, hb, hdg, hmeth', hr, ret, narrow_b1]
  (try refine ⟨rfl, ?_⟩); (try refine ⟨rfl, ?_⟩)
  first | (intro acts; rw [hret _ acts rfl rfl rfl]) | rw [hret _ _ rfl rfl rfl]
  exact Steps.refl _
def lw_At (p : Program) (s : State) (m : MethodId) (meth : Method) (c : Code) (b L : Nat) (xs : Nat → Int32) : Prop :=
  p.tables.exec = Jvm.exec ∧ c.code = code ∧ meth.sig.returnType = ret ∧ c.maxLocals = 4 ∧ s.vm.findClass R_law = some m.cls ∧ (∀ w ∈ lw_tbl, w.before #[Value.ref b] s = true) ∧ va_X b L xs s s.heap ∧ b < s.heap.size ∧ meth.locks = false ∧ (Jvm.Cond.and given_1 narrow_1).before #[Value.ref b] s = true ∧ meth.name = "law"
theorem k_lits : (∀ j : Nat, j < 21 → Int32.ofInt (k_bod.getD j 0).toInt = k_bod.getD j 0) := fun _ _ => Int32.ofInt_toInt _
section WH
variable {s : State} {b L : Nat} {xs : Nat → Int32}
/-- the classes of the tables at the start -/
theorem k_classes {args : Array Value} (hts : ∀ w ∈ lw_tbl, w.before args s = true) : ∃ (dC : Nat → ClassId) (dI : Nat → Nat → Nat), ∀ (c : Nat) (q : vw_C), am_cl[c]? = some q → u_Kn s q.1 q.2.1 q.2.2 (dC c) (dI c) := by
  have htm : ∀ w ∈ am_tbl, w.before args s = true := fun w hw => hts w (List.mem_filter.mp hw).1
  have h0 : ∀ c : Nat, ∃ q : ClassId × (Nat → Nat), c < 11 → u_Kn s (am_cn c) (am_T c) (am_nf c) q.1 q.2 := by
    intro c
    by_cases hc : c < 11
    · obtain ⟨q, li, h⟩ := am_Wd_ok.2.2 c hc
      obtain ⟨cC, iS, hk⟩ := u_known htm (am_cw_lay h) (htm _ (am_cw_inst h).1)
      exact ⟨(cC, iS), fun _ => hk⟩
    · exact ⟨(0, fun _ => 0), fun h => absurd h hc⟩
  obtain ⟨d, hd⟩ := Classical.axiomOfChoice h0
  refine ⟨fun c => (d c).1, fun c => (d c).2, fun c q hq => ?_⟩
  have hc : c < 11 := by
    rcases Nat.lt_or_ge c 11 with h | h
    · exact h
    · rw [List.getElem?_eq_none (by unfold am_cl; rw [List.length_map, List.length_range]; exact h)] at hq
      cases hq
  rw [am_cl_at hc] at hq
  cases hq
  exact hd c hc
/-- the classes of the arrays -/
theorem k_arrays {args : Array Value} (hts : ∀ w ∈ lw_tbl, w.before args s = true) : ∃ cI cZ cR : ClassId, (ArrOfT s cI .int ∧ va_RA s cI .int) ∧ (ArrOfT s cZ .boolean ∧ va_RA s cZ .boolean) ∧ ArrOfT s cR (.object "WallPicks$Row") ∧ va_RA s cR (.object "WallPicks$Row") := by
  obtain ⟨-, -, -, w4, w5, w6, -⟩ := k_w1
  obtain ⟨cI, kI, compI, i1, i2, i3⟩ := Cond.arrayClass_spec (hts _ (am_at_mem w4))
  obtain ⟨cZ, kZ, compZ, z1, z2, z3⟩ := Cond.arrayClass_spec (hts _ (am_at_mem w5))
  obtain ⟨compR, cR, kR, r1, r2, r3, r4, r5⟩ := Cond.arrayOver_spec (hts _ (am_at_mem w6))
  exact ⟨cI, cZ, cR, ⟨fun N z => ⟨(fun k h => by cases h), kI, i2, compI, i3⟩, i1⟩, ⟨fun N z => ⟨(fun k h => by cases h), kZ, z2, compZ, z3⟩, z1⟩, fun N z => ⟨(fun k h => by cases h), kR, r3, compR, r4⟩, kR, compR, r3, r4, r1, r5⟩
theorem k_RG (j : Int) : RG (k_scr L xs j) := ⟨Int32.le_toInt _, Int32.toInt_le _⟩
/-- all that is fixed -/
theorem k_given {args : Array Value} (hts : ∀ w ∈ lw_tbl, w.before args s = true) (hX : va_X b L xs s s.heap) (hbl : b < s.heap.size) (hgv : (Jvm.Cond.and given_1 narrow_1).before args s = true) : ∃ G : AG, am_Gd G ∧ am_K G s ∧ am_Z G s s.heap ∧ gB G = s.heap.size ∧ gK G = KD ∧ gL G = LN L ∧ gC G = mk (fun k j => if k = 0 then k_scr L xs j else 0) ∧ gA G 0 = b := by
  have hfl : ∀ w ∈ k_flat, w.before args s = true := flat_of_before _ hgv
  have hA : ∀ a : Nat, a < s.heap.size → ¬ (fun q : Nat => s.heap.size ≤ q) a := fun a h => Nat.not_le.mpr h
  obtain ⟨f1, f2, f3, f4, f5, f6⟩ := k_f1
  obtain ⟨w1, w2, w3, w4, w5, w6, w7, w8, w9, w10⟩ := k_w1
  obtain ⟨dC, dI, hKc⟩ := k_classes hts
  obtain ⟨cI, cZ, cR, hI, hZ, hR⟩ := k_arrays hts
  obtain ⟨tB, hB1, hB2⟩ := va_Tof (tm := .static "WallPicks" "BODIES" "[I") (ty := .int) (N := 21) (f := fun j => .int (k_bod.getD j 0)) (by omega) (hfl _ f3) (va_eqt (hfl _ f4)) (fun j hj => va_eqt (hfl _ (k_f2 j hj))) hA
  obtain ⟨tA, hA1, hA2⟩ := va_Tof (tm := .static "WallPicks" "ABOVE" "[I") (ty := .int) (N := 7) (f := fun j => .int (k_abo.getD j 0)) (by omega) (hfl _ f5) (va_eqt (hfl _ f6)) (fun j hj => va_eqt (hfl _ (k_f3 j hj))) hA
  obtain ⟨adK, adV, hStr, hEv⟩ := vk_Sof (tm := k_tm) (N := 8) (len := k_slen) (byt := k_sbyt) (by decide) (fun i hi => hfl _ (k_f4 i hi).1) (fun i hi => hfl _ (k_f4 i hi).2.1) (fun i hi => hfl _ (k_f4 i hi).2.2.1) (fun i hi => hfl _ (k_f4 i hi).2.2.2) (fun i hi j hj => hfl _ (k_f5 i hi j hj)) (fun i j hi hj hij => (k_f6 i hi j hj hij).imp (hfl _) (hfl _)) hA
  have hF : ∃ fm : Value, fm.category = 1 ∧ va_Z "jdk/internal/util/Preconditions" "SIOOBE_FORMATTER" "Ljava/util/function/BiFunction;" fm (fun q : Nat => s.heap.size ≤ q) s s.heap := by
    rcases va_Zqof (hts _ (am_at_mem w8)) (hts _ (am_at_mem w3)) (hfl _ f2) hA with h | ⟨t, h⟩
    · exact ⟨.null, rfl, h⟩
    · exact ⟨.ref t, rfl, h⟩
  obtain ⟨fm, hfm, hFm⟩ := hF
  have hG0 : k_ad b tB tA adK adV 0 = b := rfl
  have hG1 : k_ad b tB tA adK adV 1 = tB := rfl
  have hG2 : k_ad b tB tA adK adV 2 = tA := rfl
  have hG3 : ∀ i, i < 8 → k_ad b tB tA adK adV (3 + i) = adK i := by
    intro i hi
    unfold k_ad
    rw [if_neg (by omega), if_neg (by omega), if_neg (by omega), if_pos (by omega), Nat.add_sub_cancel_left]
  have hG11 : ∀ i, i < 8 → k_ad b tB tA adK adV (11 + i) = adV i := by
    intro i hi
    unfold k_ad
    rw [if_neg (by omega), if_neg (by omega), if_neg (by omega), if_neg (by omega), Nat.add_sub_cancel_left]
  have hgc : ∀ k, ¬ k = 0 → ∀ j, gC (k_G dC dI cI cZ cR s.heap.size fm (k_ad b tB tA adK adV) L (k_scr L xs)) k j = mk (fun _ _ => 0) k j := fun k h j => k_mk h j
  refine ⟨k_G dC dI cI cZ cR s.heap.size fm (k_ad b tB tA adK adV) L (k_scr L xs), k_Gc k_RG hfm, ⟨⟨hKc, fun k q hq => ?_⟩, ?_, fun w hw hn => ?_, fun i hi => ?_⟩, ⟨?_, ?_, ?_, hFm, fun k hk => ?_⟩, rfl, rfl, rfl, rfl, rfl⟩
  · match k, hq with
    | 0, hq => cases hq; exact hI
    | 1, hq => cases hq; exact hZ
    | 2, hq => cases hq; exact hR
    | k + 3, hq => simp [am_tys] at hq
  · exact va_AO.of (hts _ (am_at_mem w6))
  · have ht : w.onTables = true := by
      cases w <;> first | rfl | cases hn
    exact va_Nw.of ht (hts w hw)
  · show vk_R _ _ _ (k_ad b tB tA adK adV (3 + i)) s
    rw [hG3 i hi]
    have h2 := hEv i hi
    exact vk_R.of (A := args) (hts _ (am_at_mem (k_w2 i hi))) h2
  · exact va_Zof (hts _ (am_at_mem w7)) (hts _ (am_at_mem w2)) (va_eqi (hfl _ f1)) hA
  · exact va_Zref (hts _ (am_at_mem w9)) (hts _ (am_at_mem w1)) hB1 hA
  · exact va_Zref (hts _ (am_at_mem w10)) (hts _ (am_at_mem w1)) hA1 hA
  · have tab : ∀ (ty : FieldType) (t N : Nat) (f g : Nat → Value), va_T ty t N f (fun q : Nat => s.heap.size ≤ q) s s.heap → (∀ j, j < N → g j = f j) → va_T ty t N g (fun q : Nat => s.heap.size ≤ q) s s.heap := by
      intro ty t N f g h hg
      obtain ⟨cell, h1, h2, h3, h4, h5, h6, h7⟩ := h
      exact ⟨cell, h1, h2, h3, h4, h5, fun j hj => by rw [hg j hj]; exact h6 j hj, h7⟩
    have hkd : k = 0 ∨ k = 1 ∨ k = 2 ∨ (∃ i, i < 8 ∧ k = 3 + i) ∨ ∃ i, i < 8 ∧ k = 11 + i := by
      rcases Nat.lt_or_ge k 3 with h | h
      · omega
      · rcases Nat.lt_or_ge k 11 with h2 | h2
        · exact Or.inr (Or.inr (Or.inr (Or.inl ⟨k - 3, by omega, by omega⟩)))
        · exact Or.inr (Or.inr (Or.inr (Or.inr ⟨k - 11, by omega, by omega⟩)))
    rcases hkd with rfl | rfl | rfl | ⟨i, hi, rfl⟩ | ⟨i, hi, rfl⟩
    · refine ⟨fun _ => ?_, fun h => absurd (show KD 0 = 112 from h) (by decide), fun h => absurd (show KD 0 = 120 from h) (by decide)⟩
      obtain ⟨cell, h1, h2, h3, h4, h5⟩ := hX
      refine ⟨cell, h1, h2, h3, by rw [h4]; exact Nat.le_refl _, by rw [h4]; rfl, fun j hj => ?_, Nat.not_le.mpr hbl⟩
      rw [h5 j hj]
      have e0 : gC (k_G dC dI cI cZ cR s.heap.size fm (k_ad b tB tA adK adV) L (k_scr L xs)) 0 j = vI (k_scr L xs (j : Int)) := k_mk0 (scr := k_scr L xs) j
      dsimp only
      rw [e0]
      show some (Value.int (xs j)) = some (Value.int (Int32.ofInt (xs ((j : Int).toNat)).toInt))
      rw [Int32.ofInt_toInt, Int.toNat_natCast]
    · refine ⟨fun _ => tab _ _ _ _ _ hB2 (fun j hj => ?_), fun h => absurd (show KD 1 = 112 from h) (by decide), fun h => absurd (show KD 1 = 120 from h) (by decide)⟩
      rw [hgc 1 (by omega), k_c_bod j hj]
      show Value.int (Int32.ofInt (k_bod.getD j 0).toInt) = _
      rw [Int32.ofInt_toInt]
    · refine ⟨fun _ => tab _ _ _ _ _ hA2 (fun j hj => ?_), fun h => absurd (show KD 2 = 112 from h) (by decide), fun h => absurd (show KD 2 = 120 from h) (by decide)⟩
      rw [hgc 2 (by omega), k_c_abo j hj]
      show Value.int (Int32.ofInt (k_abo.getD j 0).toInt) = _
      rw [Int32.ofInt_toInt]
    · obtain ⟨d1, d2, d3⟩ := k_c_s3 i hi
      obtain ⟨g1, g2, g3, g4⟩ := hStr.1 i hi
      refine ⟨fun h => absurd (d1.symm.trans (show KD (3 + i) = 110 from h)) (by decide), fun h => absurd (d1.symm.trans (show KD (3 + i) = 112 from h)) (by decide), fun _ => ⟨?_, ?_, ?_⟩⟩
      · show va_O _ (k_ad b tB tA adK adV (3 + i)) _ _ _
        rw [hG3 i hi]
        exact g1
      · rw [hgc (3 + i) (by omega), k_c_s1 i hi]
        show va_OF _ _ _ _ (k_ad b tB tA adK adV (3 + i)) _ _ _
        rw [hG3 i hi]
        show va_OF _ _ _ (Value.ref (k_ad b tB tA adK adV (11 + i))) _ _ _ _
        rw [hG11 i hi]
        exact g3
      · rw [hgc (3 + i) (by omega), k_c_s2 i hi]
        show va_OF _ _ _ _ (k_ad b tB tA adK adV (3 + i)) _ _ _
        rw [hG3 i hi]
        exact g2
    · obtain ⟨d1, d2, d3⟩ := k_c_s3 i hi
      obtain ⟨g1, g2, g3, g4⟩ := hStr.1 i hi
      refine ⟨fun h => absurd (d2.symm.trans (show KD (11 + i) = 110 from h)) (by decide), fun _ => ?_, fun h => absurd (d2.symm.trans (show KD (11 + i) = 120 from h)) (by decide)⟩
      show va_T _ (k_ad b tB tA adK adV (11 + i)) (LN L (11 + i)) _ _ _ _
      have hln : LN L (11 + i) = k_slen.getD i 0 := by
        rw [← d3, show 11 + i = (10 + i) + 1 by omega]
        rfl
      rw [hG11 i hi, hln]
      refine tab _ _ _ _ _ g4 (fun j hj => ?_)
      rw [hgc (11 + i) (by omega), k_c_s4 i hi j hj]
      show Value.int (Int32.ofInt _) = _
      rw [Int32.ofInt_toInt]
end WH
/-- the walk of the law: the abstract machine's run, in the real one -/
theorem whole_start {p : Program} {e : Env} {s : State} {m : MethodId} {below : List Frame} {meth : Method} {c : Code} (l : Launch) {b L : Nat} {xs : Nat → Int32} (hL : L ≤ 256) (C0 : lw_At p s m meth c b L xs) : W p l e room_1 s m #[Value.ref b] below meth c s.heap [] 0 0 (lw_Z below #[Value.ref b] s) (entryFrame m ([Value.ref b] : List Value).toArray 4) := by
  obtain ⟨hx, hb, hr, hml, hown, hts, hX, hbl, hlocks, hgv, hnm⟩ := C0
  obtain ⟨G, hGd, hK, hZ, hB, gk, gl, gc, ga⟩ := k_given hts hX hbl hgv
  obtain ⟨f, σ, hex⟩ := k_whole (L := L) (scr := k_scr L xs) k_RG (by omega)
  have hw := k_wfw (L := L) (scr := k_scr L xs) k_RG (by omega)
  have hP : gP G = fun q : Nat => s.heap.size ≤ q := by
    unfold gP
    rw [hB]
  have cx : am_Cx G 232 p s m #[Value.ref b] meth c := ⟨hx, hb, hml, hown, fun w h => hts w (List.mem_filter.mp h).1, hnm, hK, hZ, Nat.le_of_eq hB, hGd.1, hGd.2⟩
  have hR0 : am_R0 G (k_den (k_b0 L (k_scr L xs)) []) (gA G) := by
    intro k hk
    rw [gk, gl, gc]
    exact ⟨if_pos hk, if_pos hk, fun i => if_pos hk, rfl⟩
  have hws : am_ws (gI G) (gZ G) (gR G) (gF G) (k_den (k_b0 L (k_scr L xs)) []) (gA G) = [] := rfl
  have hAt : am_At G (k_den (k_b0 L (k_scr L xs)) []) (gA G) s s.heap [] := ⟨hw, hR0, by rw [hws]; exact fun k q h => by simp at h, by rw [hws]; exact ⟨fun i j p q h => by simp at h, fun k q h => by simp at h⟩, va_S.rf⟩
  have hLs := am_L.entry (ad := gA G) (fm := gF G) hGd.1 (al := [vR 0]) (n := 4) (by decide) rfl
  have e0 : ([vR 0] : List AV).map (cv (gA G) (gF G)) = [Value.ref b] := by
    show [Value.ref (gA G 0)] = _
    rw [ga]
  rw [e0] at hLs
  rw [lg_entry_eq]
  refine am_sound am_Wd_ok hGd l f 60 232 0 _ [] _ _ _ hex p e room_1 s m _ below meth c s.heap [] 0 0 _ (gA G) _ cx hAt hLs rfl ?_ wfs.nil (by decide) (by decide) ?_ ?_ ?_
  · exact wfs.loc (wfs.cons (v := vR 0) (show 0 < 19 by omega) wfs.nil)
  · show 0 + (165 - 19) ≤ 600000
    omega
  · show 0 + (289000 - (18772 + 0)) ≤ 7302250
    omega
  · intro ad' H' locs' ls' pc' e' hext hA hf hr'
    obtain ⟨hok, hdec⟩ := am_Wd_ok.1 232 pc' e' (by omega) hf
    obtain ⟨ins, n, a, z, k⟩ := e'
    have hdg : decode code pc' = .ok (ins, n) := of_decide_eq_true hdec
    rcases hr' with ⟨hi, z, hz, -⟩ | ⟨hi, v, hv, hv2⟩ | ⟨hi, h⟩
    · dsimp only at hi
      subst hi
      simp only [am_okb, Bool.and_eq_true] at hok
      have hn : n = 1 := Nat.eq_of_beq_eq_true hok.1
      subst hn
      refine va_forget (fun q hq => ?_) ?_
      · have h := hA.2.2.2.2.2.2 q hq
        rw [hP] at h
        exact h
      · exact W.widen (by show 0 + (165 - 19) ≤ 600000; omega) (by show 0 + (289000 - (18772 + 0)) ≤ 7302250; omega) (lw_ret hx hb hr hlocks hdg)
    · cases hv
      cases hv2
    · cases h
