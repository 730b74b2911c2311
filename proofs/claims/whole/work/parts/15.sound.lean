/-! the abstract machine is sound: what it comes to, the real one comes to -/
def am_wsN (N : Nat) : List Jvm.Cond := Jvm.Cond.code (am_y N) (am_code N) (am_maxl N) (am_ret N) :: am_tbl
def am_rm (d mc ms : Nat) : Room := { frames := d + 1, cells := mc, slots := ms, locals := 64 * (d + 1) }
def am_Pre (G : AG) (w : AW) (ad : Nat → Nat) (U : State) : Prop := am_K G U ∧ am_Z G U U.heap ∧ gB G ≤ U.heap.size ∧ am_R0 G w ad ∧ va_P (gD G) am_cl (am_ws (gI G) (gZ G) (gR G) (gF G) w ad) U.heap ∧ va_D (gP G) (am_ws (gI G) (gZ G) (gR G) (gF G) w ad)
def am_Qc (G : AG) (w w2 : AW) (r : Option AV) (ad : Nat → Nat) : Array Value → State → Outcome → State → Prop := fun _ st oc t => (∃ ad', (∀ k, k < w.1 → ad' k = ad k) ∧ oc = .returned (r.map (cv ad' (gF G))) ∧ am_R0 G w2 ad' ∧ va_P (gD G) am_cl (am_ws (gI G) (gZ G) (gR G) (gF G) w2 ad') t.heap ∧ va_D (gP G) (am_ws (gI G) (gZ G) (gR G) (gF G) w2 ad')) ∧ va_F (gP G) st t
/-- what holds of the launch-wide data -/
def am_Gd (G : AG) : Prop := (gF G).category = 1 ∧ ∀ k, k < 19 → ∀ i, wfv 19 (gC G k i)
/-- an end with r -/
def am_rets (e : AE) (r : Option AV) : Prop := (e.1 = .ireturn ∧ ∃ z, r = some (vI z) ∧ am_rfit e.2.2.1 z = true) ∨ (e.1 = .areturn ∧ ∃ v, r = some v ∧ am_isref v = true) ∨ (e.1 = .return_ ∧ r = none)
def am_Snd (l : Launch) (G : AG) (f : Nat) : Prop := ∀ (d M pc : Nat) (al ast : List AV) (w : AW) (r : Option AV) (w' : AW), am_exec f d M pc al ast w = some (r, w') → ∀ (p : Program) (e : Env) (R : Room) (s : State) (m : MethodId) (args : Array Value) (below : List Frame) (meth : Method) (c : Code) (H : Heap) (locs : List Loc) (cells slots : Nat) (Q : State → Prop) (ad : Nat → Nat) (ls : Array Slot),
  am_Cx G M p s m args meth c → am_At G w ad s H locs → am_L ad (gF G) ls al → al.length = am_maxl M → wfs w.1 al → wfs w.1 ast → d + 1 ≤ R.frames → 64 * (d + 1) ≤ R.locals → cells + (w'.1 - w.1) ≤ R.cells → slots + (w'.2.1 - w.2.1) ≤ R.slots →
  (∀ (ad' : Nat → Nat) (H' : Heap) (locs' : List Loc) (ls' : Array Slot) (pc' : Nat) (e' : AE), (∀ k, k < w.1 → ad' k = ad k) → am_At G w' ad' s H' locs' → am_find M pc' = some e' → am_rets e' r → W p l e R s m args below meth c H' locs' (cells + (w'.1 - w.1)) (slots + (w'.2.1 - w.2.1)) Q (F0 m pc' ls' (r.toList.map (cv ad' (gF G))))) →
  W p l e R s m args below meth c H locs cells slots Q (F0 m pc ls (ast.map (cv ad (gF G))))
theorem am_mw_facts {N : Nat} {q : Nat × Nat × Nat × Nat} (h : am_mw N q = true) : Cond.code (am_y N) (am_code N) (am_maxl N) (am_ret N) ∈ am_tbl ∧ (am_stat N = true → Cond.static (am_y N) ∈ am_tbl) ∧ (am_stat N = false → Cond.instanceMethod (am_y N) ∈ am_tbl ∧ ((am_y N).name = "<init>" ∨ Cond.selects (am_y N).cls (am_y N) (am_y N) ∈ am_tbl)) ∧ Cond.initialized (am_y N).cls ∈ am_tbl ∧ am_cn (am_own N) = (am_y N).cls ∧ plainName (am_y N).cls = true ∧ ((am_y N).cls ≠ "java/lang/invoke/MethodHandle" ∧ (am_y N).cls ≠ "java/lang/invoke/VarHandle" ∧ (parseMethodDescriptor (am_y N).desc).map (fun d => d.parameters.length) = some (am_np N)) ∧ am_maxl N ≤ 30 := by
  unfold am_mw at h
  simp only [Bool.and_eq_true, decide_eq_true_eq, Nat.ble_eq] at h
  obtain ⟨⟨⟨⟨⟨⟨⟨h1, h2⟩, h3⟩, h4⟩, h5⟩, h6⟩, h7⟩, h8⟩ := h
  refine ⟨am_twi h1 rfl, fun hs => ?_, fun hs => ?_, am_twi h3 rfl, h4, h5, h6, h7⟩
  · rw [hs] at h2
    exact am_twi h2 rfl
  · rw [hs] at h2
    simp only [Bool.and_eq_true, Bool.or_eq_true, decide_eq_true_eq] at h2
    exact ⟨am_twi h2.1 rfl, h2.2.imp id (fun z => am_twi z rfl)⟩
theorem am_good : GoodIn am_tbl am_tbl := fun w hw => ⟨hw, good_of_word (List.mem_filter.mp hw).2⟩
theorem am_byte01 {z : Int} (h : am_bit z = true) : narrow .byte (.int (Int32.ofInt z)) = .int (Int32.ofInt z) := by
  rcases am_bit_01 h with rfl | rfl <;> rfl
theorem am_bool01 {z : Int} (h : am_bit z = true) : narrow .boolean (.int (Int32.ofInt z)) = .int (Int32.ofInt z) := by
  rcases am_bit_01 h with rfl | rfl <;> rfl
theorem am_char {z : Int} (h1 : 0 ≤ z) (h2 : z ≤ 65535) : narrow .char (.int (Int32.ofInt z)) = .int (Int32.ofInt z) := by
  obtain ⟨n, rfl⟩ := Int.eq_ofNat_of_zero_le h1
  have e : Int32.ofInt (n : Int) = nI n := Int32.ofInt_eq_ofNat
  rw [e]
  exact (pk_charN (by omega)).1
section SD
variable {G : AG} {l : Launch}
theorem am_Pre.blind {w : AW} {ad : Nat → Nat} {av : List Value} : FrameBlind (va_Pc av (am_Pre G w ad)) := by
  intro a U g mk h
  obtain ⟨h0, h1, h2, h3, h4, h5, h6⟩ := h
  exact ⟨h0, am_K.same (u := U) rfl h1, am_Z.moved (u := U) (Vm.Alike.refl U.vm) h2, h3, h4, h5, h6⟩
theorem am_Met (hWd : am_Wd) (hG : am_Gd G) {f : Nat} (hS : am_Snd l G f) {d N : Nat} {avs : List AV} {w w2 : AW} {r : Option AV} {ad : Nat → Nat} (hex : am_exec f d N 0 (am_loc avs (am_maxl N)) [] w = some (r, w2)) (hN : N < 232) (hlen : (am_exp avs).length ≤ am_maxl N) (hlk : am_lok (am_exp avs) = true) (hw : wfw w) (havs : wfs w.1 avs) :
    Met l (am_y N) (am_wsN N) (am_rm d (w2.1 - w.1) (w2.2.1 - w.2.1)) (va_Pc (avs.map (cv ad (gF G))) (am_Pre G w ad)) (am_Qc G w w2 r ad) (w2.1 - w.1) (w2.2.1 - w.2.1) (gP G) := by
  obtain ⟨q, hq⟩ := hWd.2.1 N hN
  obtain ⟨m1, m2, m3, m4, m5, m6, m7, m8⟩ := am_mw_facts hq
  refine Met.ofW (cc := am_code N) (maxL := am_maxl N) (ret := am_ret N) m6 rfl ?_
  intro p e s m args below meth c s₁ B hml hv
  obtain ⟨rfl, hK, hZ, hB, hR0, hP, hD⟩ := hv
  have hts := atoms_spec (ws := am_wsN N) B.pre
  have hown : s.vm.findClass (am_y N).cls = some m.cls := findClass_of_methodNamed B.named
  have hlocks := B.notSynchronized
  have cx : am_Cx G N p s m (avs.map (cv ad (gF G))).toArray meth c := ⟨B.exec, B.bytes, hml, by rw [m5]; exact hown, fun x hx => hts x (List.mem_cons_of_mem _ hx), (name_of_methodNamed B.named B.method).1, hK, hZ, hB, hG.1, hG.2⟩
  rw [lg_entry_eq]
  have hS0 : va_S (gP G) s.heap s.heap [] := va_S.rf
  have hL := am_L.entry (ad := ad) (fm := gF G) hG.1 hlen hlk
  refine hS d N 0 _ [] w r w2 hex p e _ s m _ below meth c s.heap [] 0 0 _ ad _ cx ⟨hw, hR0, hP, hD, hS0⟩ hL ?_ havs.loc wfs.nil (Nat.le_refl _) (Nat.le_refl _) (by show 0 + (w2.1 - w.1) ≤ w2.1 - w.1; omega) (by show 0 + (w2.2.1 - w.2.1) ≤ w2.2.1 - w.2.1; omega) ?_
  · unfold am_loc
    rw [List.length_append, List.length_replicate]
    omega
  · intro ad' H' locs' ls' pc' e' hext hA hf hr
    rw [Nat.zero_add, Nat.zero_add]
    obtain ⟨hok, hdec⟩ := hWd.1 N pc' e' (by omega) hf
    obtain ⟨ins, n, a, b, k⟩ := e'
    have hdg : decode (am_code N) pc' = .ok (ins, n) := of_decide_eq_true hdec
    have hfr : ∀ x ∈ locs', gP G x.base := hA.2.2.2.2.2.2
    have post : ∀ t : State, t.heap = H' → s.WarmedH t.vm → am_Qc G w w2 r ad (avs.map (cv ad (gF G))).toArray s (.returned (r.map (cv ad' (gF G)))) t := by
      intro t ht _
      exact ⟨⟨ad', hext, rfl, hA.2.1, by rw [ht]; exact hA.2.2.1, hA.2.2.2.1⟩, hA.2.2.2.2.F ht⟩
    rcases hr with ⟨hi, z, rfl, hz⟩ | ⟨hi, v, rfl, hv⟩ | ⟨hi, rfl⟩
    · dsimp only at hi
      subst hi
      simp only [am_okb, Bool.and_eq_true] at hok
      have hn : n = 1 := Nat.eq_of_beq_eq_true hok.1
      subst hn
      have hc := hok.2
      have hz : am_rfit a z = true := hz
      match a, hc, hz with
      | 0, hc, hz => exact W.iret B.exec B.bytes (B.returns.trans (of_decide_eq_true hc)) post hfr hdg hlocks
      | 1, hc, hz => exact W.zret (ty := .boolean) B.exec B.bytes (B.returns.trans (of_decide_eq_true hc)) (am_bool01 hz) post hfr hdg hlocks
      | 2, hc, hz => exact W.zret (ty := .byte) B.exec B.bytes (B.returns.trans (of_decide_eq_true hc)) (am_byte01 hz) post hfr hdg hlocks
      | 3, hc, hz =>
        have hz2 : (decide (0 ≤ z) && decide (z ≤ 65535)) = true := hz
        simp only [Bool.and_eq_true, decide_eq_true_eq] at hz2
        exact W.zret (ty := .char) B.exec B.bytes (B.returns.trans (of_decide_eq_true hc)) (am_char hz2.1 hz2.2) post hfr hdg hlocks
      | _ + 4, hc, _ => cases hc
    · dsimp only at hi
      subst hi
      simp only [am_okb, Bool.and_eq_true] at hok
      have hn : n = 1 := Nat.eq_of_beq_eq_true hok.1
      subst hn
      obtain ⟨ty, h1, h2⟩ := am_reta_some hok.2
      refine W.aret (v := cv ad' (gF G) v) B.exec B.bytes (B.returns.trans h1) h2 ?_ post hfr hdg hlocks
      rcases am_isref_cv (ad := ad') (fm := gF G) hv with ⟨x, -, h3⟩ | ⟨-, h3⟩
      · exact Or.inr ⟨_, h3⟩
      · exact Or.inl h3
    · dsimp only at hi
      subst hi
      simp only [am_okb, Bool.and_eq_true, decide_eq_true_eq] at hok
      have hn : n = 1 := Nat.eq_of_beq_eq_true hok.1
      subst hn
      exact W.vret B.exec B.bytes (B.returns.trans hok.2) post hfr hdg hlocks
section AC
variable {M : Nat} {p : Program} {e : Env} {R : Room} {s : State} {m : MethodId} {args : Array Value} {below : List Frame} {meth : Method} {c : Code} {H : Heap} {locs : List Loc} {cells slots : Nat} {Q : State → Prop} {w w2 : AW} {ad : Nat → Nat} {pc : Nat} {ls : Array Slot} {r : Option AV} {a : Array Value} {mc ms : Nat} {st0 : List Value} {rest : List AV}
theorem am_after (hr : va_Run p l e R s m args below meth c H locs cells slots mc ms (F0 m pc ls st0) (rest.map (cv ad (gF G))) (am_Qc G w w2 r ad a) (gP G)) (hS : va_S (gP G) s.heap H locs) (hrest : wfs w.1 rest)
    (kk : ∀ (ad' : Nat → Nat) (H1 : Heap) (locs1 : List Loc), (∀ k, k < w.1 → ad' k = ad k) → am_R0 G w2 ad' → va_P (gD G) am_cl (am_ws (gI G) (gZ G) (gR G) (gF G) w2 ad') H1 → va_D (gP G) (am_ws (gI G) (gZ G) (gR G) (gF G) w2 ad') → va_S (gP G) s.heap H1 locs1 → W p l e R s m args below meth c H1 locs1 (cells + mc) (slots + ms) Q (F0 m (pc + 3) ls ((r.toList ++ rest).map (cv ad' (gF G))))) :
    W p l e R s m args below meth c H locs cells slots Q (F0 m pc ls st0) := by
  intro T hT X
  obtain ⟨v, st₀, t, T', L, h0, X', hL, e1, e2, ⟨⟨ad', hext, hv, hR0, hP, hD⟩, hz, hk⟩, st⟩ := hr T hT X
  obtain rfl := Outcome.returned.inj hv
  rw [h0] at hz hk
  have hk2 := kk ad' T'.heap (locs ++ L) hext hR0 (by rw [e1]; exact hP) hD
    ⟨Nat.le_trans hS.1 (by rw [e1]; exact hz), fun q h1 h2 => by rw [e1, hk q (Nat.lt_of_lt_of_le h1 hS.1) h2]; exact hS.2.1 q h1 h2, fun q hq => by
      rcases List.mem_append.mp hq with h | h
      · exact hS.2.2 q h
      · exact hL q h⟩
  rw [List.map_append, cvs_congr hext hrest] at hk2
  have e3 : (r.toList).map (cv ad' (gF G)) = (r.map (cv ad' (gF G))).toList := by cases r <;> rfl
  rw [e3] at hk2
  obtain ⟨t2, a1, b1⟩ := hk2 T' rfl X'
  exact ⟨t2, st t2 a1, b1⟩
theorem am_pre (cx : am_Cx G M p s m args meth c) (hA : am_At G w ad s H locs) {av : List Value} : ∀ U : State, U.heap = H → s.WarmedH U.vm → va_Pc av (am_Pre G w ad) av.toArray U := by
  intro U hU hW
  refine ⟨rfl, cx.2.2.2.2.2.2.1.warm hW, ?_, ?_, hA.2.1, by rw [hU]; exact hA.2.2.1, hA.2.2.2.1⟩
  · rw [hU]
    exact (cx.2.2.2.2.2.2.2.1.moved hW.alike).kept hA.2.2.2.2.2.1
  · rw [hU]
    exact Nat.le_trans cx.2.2.2.2.2.2.2.2.1 hA.2.2.2.2.1
end AC
end SD
