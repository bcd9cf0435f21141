/-! ===== SpoolHallLaw.tape: it answers, or it catches ===== -/
theorem cal_RL_7 : qCalV RL 7 yX8_tape cX8_tape 4 (some .int) 2 := ⟨⟨qTT_in 1209 (by decide +kernel) rfl, qTT_in 128 (by decide +kernel) rfl, ⟨by decide, by decide, by decide +kernel⟩, Or.inl (qTT_in 1206 (by decide +kernel) rfl)⟩, qTT_in 1207 (by decide +kernel) rfl, qTT_in 1208 (by decide +kernel) rfl⟩
theorem ml7 : Cond.methodLink RL 7 yX8_tape ∈ qTT := qTT_in 1206 (by decide +kernel) rfl
abbrev hhT : List (Nat × Nat × Nat × Nat) := [(0, 10, 13, 13)]
abbrev wsT : List Cond := Cond.codeWith yL_tape cL_tape 5 (some .int) hhT :: qTT
theorem cwT : Cond.codeWith yL_tape cL_tape 5 (some .int) hhT ∈ qTT := qTT_in 1204 (by decide +kernel) rfl
theorem clT : Cond.classLink RL 13 nse ∈ qTT := qTT_in 1205 (by decide +kernel) rfl
abbrev R_LT (mc ms : Nat) : Room := { frames := 8, cells := mc, slots := ms, locals := 130 }
def ltW (cs : Nat → ClassId) (ad : Nat → Nat) (h : qH) (o : Nat) (ov : Nat → Int64) : va_W := qpic UX cs ad h ++ lO cs o ov
def ltPre (D : va_G) (cs : Nat → ClassId) (ad : Nat → Nat) (h : qH) (o : Nat) (ov : Nat → Int64) (sz : Nat) (S : State) : Prop := S.heap.size = sz ∧ va_P D vwCl (ltW cs ad h o ov) S.heap ∧ va_K D vwCl (qtys cs ++ [(cs 3, .long)]) S ∧ va_D (fun _ => True) (ltW cs ad h o ov) ∧ (∀ w ∈ qNT, va_Nw w S) ∧ ROX ad (va_A (ltW cs ad h o ov) sz) S ∧ XR (va_A (ltW cs ad h o ov) sz) S
theorem Met_ofWH {l : Launch} {y : MethodName} {ws ws' : List Cond} {rm : Room} {Pc : Array Value → State → Prop} {Qc : Array Value → State → Outcome → State → Prop} {mc ms : Nat} {free : Addr → Prop} {cc : ByteArray} {maxL : Nat} {ret : Option FieldType} {hh : List (Nat × Nat × Nat × Nat)}
    (hy : plainName y.cls = true) (hw : ws = Cond.codeWith y cc maxL ret hh :: ws')
    (body : ∀ p e s m args below meth c s₁, BodyLoose p l y (headSpec ws rm) cc maxL ret e s m args below meth c s₁ → c.maxLocals = maxL → Pc args s →
      W p l e (headSpec ws rm).room s m args below meth c s.heap [] 0 0 (MQ below Qc args s mc ms free) (entryFrame m args maxL)) : Met l y ws rm Pc Qc mc ms free := by
  refine MetFree.of_bodyS (code := cc) (maxLocals := maxL) (ret := ret) hy ?_ ?_
  · intro args s m h hn
    obtain ⟨m9, meth, c, hn9, h1, h2, h3, h4, -, h5, h6, -⟩ := Cond.codeWith_spec (atoms_spec (ws := ws) h _ (by rw [hw]; exact List.mem_cons_self))
    cases hn.symm.trans hn9
    exact ⟨meth, c, h1, h2, h3, h4, h5, h6⟩
  · intro p e s m args below meth c s₁ B hml hP _
    have hh0 : s₁.heap = s.heap := by rw [B.state]; rfl
    obtain ⟨t, a1, o, b1, b2, b3⟩ := body p e s m args below meth c s₁ B hml hP s₁ hh0 (Stand.of_body B)
    exact ⟨t, o, a1, b1, b2, b3⟩
theorem va_Pl {D : va_G} {w1 w2 : va_W} {H : Heap} (h : va_P D vwCl (w1 ++ w2) H) : va_P D vwCl w1 H := fun k q hk => h k q (by rw [List.getElem?_append_left (List.getElem?_eq_some_iff.mp hk).1]; exact hk)
theorem va_Pr {D : va_G} {w1 w2 : va_W} {H : Heap} (h : va_P D vwCl (w1 ++ w2) H) : va_P D vwCl w2 H := fun k q hk => h (w1.length + k) q (by rw [List.getElem?_append_right (Nat.le_add_right _ _), Nat.add_sub_cancel_left]; exact hk)
theorem va_Dl {A : Nat → Prop} {w1 w2 : va_W} (h : va_D A (w1 ++ w2)) : va_D A w1 := ⟨fun i j p q hi hj e => h.1 i j p q (by rw [List.getElem?_append_left (List.getElem?_eq_some_iff.mp hi).1]; exact hi) (by rw [List.getElem?_append_left (List.getElem?_eq_some_iff.mp hj).1]; exact hj) e, fun k q hk => h.2 k q (by rw [List.getElem?_append_left (List.getElem?_eq_some_iff.mp hk).1]; exact hk)⟩
theorem va_Dr {A : Nat → Prop} {w1 w2 : va_W} (h : va_D A (w1 ++ w2)) : va_D A w2 := ⟨fun i j p q hi hj e => by
    have := h.1 (w1.length + i) (w1.length + j) p q (by rw [List.getElem?_append_right (Nat.le_add_right _ _), Nat.add_sub_cancel_left]; exact hi) (by rw [List.getElem?_append_right (Nat.le_add_right _ _), Nat.add_sub_cancel_left]; exact hj) e
    omega, fun k q hk => h.2 (w1.length + k) q (by rw [List.getElem?_append_right (Nat.le_add_right _ _), Nat.add_sub_cancel_left]; exact hk)⟩
theorem va_Dd {A : Nat → Prop} {w1 w2 : va_W} (h : va_D A (w1 ++ w2)) : dis w1 w2 := fun i j p q hi hj e => by
  have h1 := (List.getElem?_eq_some_iff.mp hi).1
  have := h.1 i (w1.length + j) p q (by rw [List.getElem?_append_left h1]; exact hi) (by rw [List.getElem?_append_right (Nat.le_add_right _ _), Nat.add_sub_cancel_left]; exact hj) e
  omega
theorem va_Dapp {A : Nat → Prop} {w1 w2 : va_W} (h1 : va_D A w1) (h2 : va_D A w2) (hd : dis w1 w2) : va_D A (w1 ++ w2) := by
  have key : ∀ (k : Nat) (q : Nat × va_E), (w1 ++ w2)[k]? = some q → (k < w1.length ∧ w1[k]? = some q) ∨ (w1.length ≤ k ∧ w2[k - w1.length]? = some q) := by
    intro k q hk
    rcases Nat.lt_or_ge k w1.length with h | h
    · rw [List.getElem?_append_left h] at hk; exact Or.inl ⟨h, hk⟩
    · rw [List.getElem?_append_right h] at hk; exact Or.inr ⟨h, hk⟩
  refine ⟨fun i j p q hi hj e => ?_, fun k q hk => ?_⟩
  · rcases key i p hi with ⟨a1, a2⟩ | ⟨a1, a2⟩ <;> rcases key j q hj with ⟨b1, b2⟩ | ⟨b1, b2⟩
    · exact h1.1 i j p q a2 b2 e
    · exact absurd e (hd _ _ p q a2 b2)
    · exact absurd e.symm (hd _ _ q p b2 a2)
    · have := h2.1 _ _ p q a2 b2 e
      omega
  · rcases key k q hk with ⟨-, a2⟩ | ⟨-, a2⟩
    · exact h1.2 _ q a2
    · exact h2.2 _ q a2
theorem lt_len {cs : Nat → ClassId} {ad : Nat → Nat} {h : qH} : (qpic UX cs ad h).length = 85 := by simp [qpic]; rfl
set_option maxHeartbeats 1000000 in
/-- it answers -/
theorem mL_tapeA (l : Launch) (p1 p2 v : Int32) (D : va_G) (cs : Nat → ClassId) (ad : Nat → Nat) (h : qH) (o : Nat) (ov : Nat → Int64) (sz : Nat) (hv : f8_tape p1 p2 h = some v) : Met l yL_tape wsT (R_LT 0 0) (va_Pc [.ref (ad 0), .int p1, .int p2, .ref o] (ltPre D cs ad h o ov sz)) (qQ (some (.int 0)) (fun t => va_P D vwCl (ltW cs ad h o (vp_updL ov 0 v.toInt64)) t.heap ∧ va_D (va_A (ltW cs ad h o ov) sz) (ltW cs ad h o (vp_updL ov 0 v.toInt64))) (va_A (ltW cs ad h o ov) sz)) 0 0 (va_A (ltW cs ad h o ov) sz) := by
  refine Met_ofWH (cc := cL_tape) (maxL := 5) (ret := some .int) (hh := hhT) (by decide) rfl ?_
  intro p e s m args below meth c s₁ B hml hpc
  obtain ⟨rfl, hsz, hP, hK, hD, hN, hRo, hXR⟩ := hpc
  subst hsz
  have hts := atoms_spec (ws := wsT) B.pre
  have hC : qC cL_tape 5 (some .int) RL p s m ([.ref (ad 0), .int p1, .int p2, .ref o] : List Value).toArray meth c := ⟨B.exec, B.bytes, hml, B.returns, findClass_of_methodNamed B.named, fun w hw => hts w (List.mem_cons_of_mem _ hw), hN, B.notSynchronized⟩
  have hl0 := lv_entry ([.ref (ad 0), .int p1, .int p2, .ref o] : List Value) (n := 5) (Nat.le_of_ble_eq_true rfl)
  rw [lg_entry_eq]
  generalize (lg_sl ([.ref (ad 0), .int p1, .int p2, .ref o] : List Value) ++ List.replicate (5 - (lg_sl ([.ref (ad 0), .int p1, .int p2, .ref o] : List Value)).length) Slot.unset).toArray = la at hl0 ⊢
  have hl1 : lv_has la 5 [(0, .ref (ad 0)), (1, .int p1), (2, .int p2), (3, .ref o)] := hl0
  have hL : qL ad la 5 [] := ⟨hl1.1, hl1.2.1, fun i v hi => by simp at hi⟩
  have hDs : va_D (va_A (ltW cs ad h o ov) s.heap.size) (ltW cs ad h o ov) := hD.self
  have hW : qW UX ROX D cs ad (va_A (ltW cs ad h o ov) s.heap.size) h s s.heap [] (R_LT 0 0) 0 0 := ⟨va_Pl hP, va_Dl hDs, hK.sub [0, 1, 2] rfl, va_S.rf, fun q hq => Or.inr hq, hRo, Nat.zero_le _, Nat.zero_le _⟩
  refine lv_aload_n (x := o) hC.1 hC.2.1 dL_tape_0 rfl (hl1.2.2 (3, .ref o) (by simp)) ?_
  refine lv_iconst (v := 0) hC.1 hC.2.1 dL_tape_1 (by decide) ?_
  refine lv_aload_n (x := ad 0) hC.1 hC.2.1 dL_tape_2 rfl (hl1.2.2 (0, .ref (ad 0)) (by simp)) ?_
  refine lv_iload_n (x := p1) hC.1 hC.2.1 dL_tape_3 rfl (hl1.2.2 (1, .int p1) (by simp)) ?_
  refine lv_iload_n (x := p2) hC.1 hC.2.1 dL_tape_4 rfl (hl1.2.2 (2, .int p2) (by simp)) ?_
  refine w_callVr (rest := [.int 0, .ref o]) (as := [.int p1, .int p2]) (b := 0) qRokX (m8_tape l p1 p2) hv cal_RL_7 uX_0 rfl rfl ⟨rfl, rfl⟩ ⟨Nat.le_of_ble_eq_true rfl, Nat.le_of_ble_eq_true rfl⟩ (Nat.le_of_ble_eq_true rfl) dL_tape_5 hC hW hL (fun H1 locs1 hW1 hk1 => ?_)
  have hdis := va_Dd hDs
  have hP1 : va_P D vwCl (ltW cs ad h o ov) H1 := va_P.app hW1.1 (fr_P (va_Pr hP) hdis hk1)
  refine lv_i2l (v := v.toInt64) hC.1 hC.2.1 dL_tape_8 rfl ?_
  have hat : (ltW cs ad h o ov)[85]? = some (o, .inl (cs 3, 1, .inr (.inl ov))) := by
    show (qpic UX cs ad h ++ lO cs o ov)[85]? = _
    rw [List.getElem?_append_right (by rw [lt_len]; exact Nat.le_refl _), lt_len]
    rfl
  have hset : ∀ f, (ltW cs ad h o ov).set 85 (o, .inl (cs 3, 1, .inr (.inl f))) = ltW cs ad h o f := by
    intro f
    show (qpic UX cs ad h ++ lO cs o ov).set 85 _ = qpic UX cs ad h ++ lO cs o f
    rw [List.set_append_right _ _ (by rw [lt_len]; exact Nat.le_refl _), lt_len]
    rfl
  refine va_last hC.1 hC.2.1 hK hP1 hDs hW1.2.2.2.1 85 3 hat rfl (i := 0) (x := v.toInt64) (by intro z; rcases z with z | z; exact absurd z (by decide); exact absurd z (by decide)) dL_tape_9 fun H2 locs2 h1 h2 h3 => ?_
  rw [hset] at h1 h2
  refine lv_goto (tgt := 17) hC.1 hC.2.1 dL_tape_10 (by decide) ?_
  refine lv_iconst (v := 0) hC.1 hC.2.1 dL_tape_17 (by decide) ?_
  have hlocks : meth.locks = false := hC.2.2.2.2.2.2.2
  exact W.iret (v := 0) hC.1 hC.2.1 (by rw [hC.2.2.2.1]) (fun t ht hw => ⟨⟨rfl, by rw [ht]; exact h1, h2⟩, h3.F ht⟩) h3.2.2 dL_tape_18
set_option maxHeartbeats 1000000 in
/-- it catches -/
theorem mL_tapeB (l : Launch) (hlt : l.stackTraces = false) (p1 p2 : Int32) (D : va_G) (cs : Nat → ClassId) (ad : Nat → Nat) (h : qH) (o : Nat) (ov : Nat → Int64) (sz : Nat) (hv : NT p1 p2 h) : Met l yL_tape wsT (R_LT 1 6) (va_Pc [.ref (ad 0), .int p1, .int p2, .ref o] (ltPre D cs ad h o ov sz)) (qQ (some (.int 1)) (fun t => va_P D vwCl (ltW cs ad h o ov) t.heap ∧ va_D (va_A (ltW cs ad h o ov) sz) (ltW cs ad h o ov)) (va_A (ltW cs ad h o ov) sz)) 1 6 (va_A (ltW cs ad h o ov) sz) := by
  refine Met_ofWH (cc := cL_tape) (maxL := 5) (ret := some .int) (hh := hhT) (by decide) rfl ?_
  intro p e s m args below meth c s₁ B hml hpc
  obtain ⟨rfl, hsz, hP, hK, hD, hN, hRo, hXR⟩ := hpc
  subst hsz
  have hts := atoms_spec (ws := wsT) B.pre
  have htb : c.exceptionTable.toList = tableOf hhT := vx_table (x := yL_tape) B (hts _ List.mem_cons_self)
  have hC : qC cL_tape 5 (some .int) RL p s m ([.ref (ad 0), .int p1, .int p2, .ref o] : List Value).toArray meth c := ⟨B.exec, B.bytes, hml, B.returns, findClass_of_methodNamed B.named, fun w hw => hts w (List.mem_cons_of_mem _ hw), hN, B.notSynchronized⟩
  have hl0 := lv_entry ([.ref (ad 0), .int p1, .int p2, .ref o] : List Value) (n := 5) (Nat.le_of_ble_eq_true rfl)
  rw [lg_entry_eq]
  generalize (lg_sl ([.ref (ad 0), .int p1, .int p2, .ref o] : List Value) ++ List.replicate (5 - (lg_sl ([.ref (ad 0), .int p1, .int p2, .ref o] : List Value)).length) Slot.unset).toArray = la at hl0 ⊢
  have hl1 : lv_has la 5 [(0, .ref (ad 0)), (1, .int p1), (2, .int p2), (3, .ref o)] := hl0
  have hDs : va_D (va_A (ltW cs ad h o ov) s.heap.size) (ltW cs ad h o ov) := hD.self
  have hA : ∀ q, va_A (qpic UX cs ad h) s.heap.size q → va_A (ltW cs ad h o ov) s.heap.size q := by
    intro q hq
    rcases hq with ⟨k, x, hk⟩ | hq
    · exact Or.inl ⟨k, x, by show (qpic UX cs ad h ++ lO cs o ov)[k]? = _; rw [List.getElem?_append_left (List.getElem?_eq_some_iff.mp hk).1]; exact hk⟩
    · exact Or.inr hq
  refine lv_aload_n (x := o) hC.1 hC.2.1 dL_tape_0 rfl (hl1.2.2 (3, .ref o) (by simp)) ?_
  refine lv_iconst (v := 0) hC.1 hC.2.1 dL_tape_1 (by decide) ?_
  refine lv_aload_n (x := ad 0) hC.1 hC.2.1 dL_tape_2 rfl (hl1.2.2 (0, .ref (ad 0)) (by simp)) ?_
  refine lv_iload_n (x := p1) hC.1 hC.2.1 dL_tape_3 rfl (hl1.2.2 (1, .int p1) (by simp)) ?_
  refine lv_iload_n (x := p2) hC.1 hC.2.1 dL_tape_4 rfl (hl1.2.2 (2, .int p2) (by simp)) ?_
  have htt := hC.2.2.2.2.2.1
  have hM := m8_tapeX l hlt p1 p2 D cs ad h s.heap.size hv
  obtain ⟨⟨h1, h2, h3, -⟩, h5, h6⟩ := cal_RL_7
  have hrecv : ∃ cell : Cell, s.heap[ad 0]? = some cell ∧ cell.vm.isStatics = false ∧ s.vm.findClass yX8_tape.cls = some cell.cls := va_recv (q := (RX8, TX8, 20)) hK (va_Pl hP) rfl (qpic_get uX_0)
  have hpv : PreV s s.heap yX8_tape.cls (ad 0) (va_Pc [.ref (ad 0), .int p1, .int p2] (qPreX D cs ad h s.heap.size)) [.int p1, .int p2] := by
    refine ⟨fun a S g mk hp => ?_, hrecv, fun S hS hw => ⟨rfl, ⟨by rw [hS], by rw [hS]; exact va_Pl hP, va_K.moved hw.alike (hK.sub [0, 1, 2] rfl), (va_Dl hD), qNT_warm hw hN, qRokX.1 ad _ _ S hA (qRokX.2 ad _ s S (fun q h1 h2 => by rw [hS]) hw hRo)⟩, hXR.mv hA (fun q h1 h2 => by rw [hS]) hw⟩⟩
    obtain ⟨q0, ⟨q1, q2, q3, q4, q5, q6⟩, q7⟩ := hp
    exact ⟨q0, ⟨q1, q2, va_K.moved (u := S) (U := S.calling g mk a) (Vm.Alike.refl S.vm) q3, q4, qNT_same (s := S) (U := S.calling g mk a) rfl q5, qRokX.2 ad _ S (S.calling g mk a) (fun _ _ _ => rfl) (State.WarmedH.refl S) q6⟩, q7.mv (fun _ z => z) (fun _ _ _ => rfl) (State.WarmedH.refl S)⟩
  have hrun : vx_Run p l e (R_LT 1 6) s m ([.ref (ad 0), .int p1, .int p2, .ref o] : List Value).toArray below meth c s.heap [] 0 0 1 6 (F0 m 5 la [.int p2, .int p1, .ref (ad 0), .int 0, .ref o]) [.int 0, .ref o] (fun _ _ _ => False) (fun E st t => E = nse ∧ qB UX D cs ad (va_A (qpic UX cs ad h) s.heap.size) h t ∧ va_F (va_A (qpic UX cs ad h) s.heap.size) st t) (va_A (qpic UX cs ad h) s.heap.size) := by
    exact vx_runV (n := 2) (As := [.int p1, .int p2]) ⟨hC.1, hC.2.1, hC.2.2.1, hC.2.2.2.2.1, htt⟩ hM ⟨callB_of 2 htt (qws_good h1) rfl rfl rfl (htt _ h2) (htt _ ml7) h3 ⟨Nat.le_of_ble_eq_true rfl, Nat.le_of_ble_eq_true rfl⟩, htt _ h5, htt _ h6⟩ hpv rfl rfl hl1.1 rfl (Nat.le_of_ble_eq_true rfl) dL_tape_5 ⟨Nat.le_refl _, Nat.le_refl _⟩
  intro T hT X
  rcases hrun T hT X with ⟨v, st₀, t, T', L, h0, X', hL, e1, e2, hF, st⟩ | ⟨q, st₀, t, T', L, E, ce, h0, X', hL, e1, e2, ⟨hE, ⟨b1, -, b3⟩, hF⟩, hce, hcv, hcl, st⟩
  · exact hF.elim
  · subst hE
    obtain ⟨k1, k2, k3⟩ := vx_keep (A0 := va_A (ltW cs ad h o ov) s.heap.size) (H0 := s.heap) (locs := []) h0 e1 va_S.rf (fun q _ hq => hA q hq) hA hL hF
    have hP1 : va_P D vwCl (ltW cs ad h o ov) T'.heap := va_P.app (by rw [e1]; exact b1) (fr_P (va_Pr hP) (va_Dd hDs) k2)
    have hlocks : meth.locks = false := hC.2.2.2.2.2.2.2
    have kx : vx_W p l e (R_LT 1 6) s m ([.ref (ad 0), .int p1, .int p2, .ref o] : List Value).toArray below meth c T'.heap ([] ++ L) (0 + 1) (0 + 6) (MQ below (qQ (some (.int 1)) (fun t => va_P D vwCl (ltW cs ad h o ov) t.heap ∧ va_D (va_A (ltW cs ad h o ov) s.heap.size) (ltW cs ad h o ov)) (va_A (ltW cs ad h o ov) s.heap.size)) ([.ref (ad 0), .int p1, .int p2, .ref o] : List Value).toArray s 1 6 (va_A (ltW cs ad h o ov) s.heap.size)) (F0 m 5 la [.int 0, .ref o]) q := by
      refine vx_catch (own := RL) (name := nse) (E := nse) (ce := ce) hC.2.2.2.2.1 [] ⟨0, 10, 13, 13⟩ [] htb (fun z hz => nomatch hz) (by decide) (by decide) (htt _ clT) (va_Nw.use rfl hXR.2.2.1) (by rw [e1]; exact hce) hcv hcl ?_
      refine lv_astore (lv' := [(4, .ref q), (0, .ref (ad 0)), (1, .int p1), (2, .int p2), (3, .ref o)]) hC.1 hC.2.1 dL_tape_13 hl1 (by decide) rfl (fun la2 hl2 => ?_)
      refine lv_iconst (v := 1) hC.1 hC.2.1 dL_tape_15 (by decide) ?_
      exact W.iret (v := 1) hC.1 hC.2.1 (by rw [hC.2.2.2.1]) (fun t ht hw => ⟨⟨rfl, by rw [ht]; exact hP1, hDs⟩, k3.F ht⟩) k3.2.2 dL_tape_16
    obtain ⟨t2, a1, c1⟩ := kx T' rfl X'
    exact ⟨t2, st.trans a1, c1⟩
