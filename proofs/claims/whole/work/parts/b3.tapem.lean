/-! ===== tape: the road that throws ===== -/
section NST
variable {p : Program} {l : Launch} {e : Env} {R : Room} {s : State} {m : MethodId} {args : Array Value} {below : List Frame} {meth : Method} {c : Code} {H : Heap} {locs : List Loc} {cells slots : Nat}
variable {mc ms : Nat} {free : Addr → Prop} {ls : Array Slot} {rest : List Value} {Qc : Array Value → State → Outcome → State → Prop} {XC : String → State → State → Prop}
set_option maxHeartbeats 1000000 in
theorem nse_throw {cc : ByteArray} {pc : Nat} (hexec : p.tables.exec = Jvm.exec) (hb : c.code = cc) (hl : l.stackTraces = false) {own text : String} {ik is ic sa : Nat} {A : Nat → Prop} (hown : s.vm.findClass own = some m.cls)
    (hk : (Cond.classLink own ik nse).before args s = true) (hini : (Cond.initialized nse).before args s = true) (hstr : vk_R own is text sa s) (hat : ∀ w ∈ (nseAtoms own ic).filter vx_no, w.before args s = true)
    (hgood : ∀ w ∈ Cond.classLink own ik nse :: Cond.initialized nse :: (nseAtoms own ic).filter vx_no, vx_ot w = true)
    (hU : vx_Zq Bundle.tN "UNASSIGNED_STACK" Bundle.steD A s s.heap) (hN : vx_Zq Bundle.tN "SUPPRESSED_SENTINEL" Bundle.listD A s s.heap) (hS : va_S A s.heap H locs) (hsize : ls.size = c.maxLocals)
    (d0 : decode cc pc = .ok (.new ik, 3)) (d3 : decode cc (pc + 3) = .ok (.dup, 1)) (d4 : decode cc (pc + 4) = .ok (.ldc is, 2)) (d6 : decode cc (pc + 6) = .ok (.invokespecial ic, 3)) (d9 : decode cc (pc + 9) = .ok (.athrow, 1))
    (hout : ∀ x ∈ c.exceptionTable.toList, covers x (pc + 9) = false)
    (hRframes : 5 < R.frames) (hRlocals : (rest.map fun v => v.category).sum + 82 ≤ R.locals) (hRcells : cells + 1 ≤ R.cells) (hRslots : slots + 6 ≤ R.slots) (hlocks : meth.locks = false)
    (hx : ∀ t : State, s.vm.Alike t.vm → H.size ≤ t.heap.size → (∀ q : Nat, q < H.size → t.heap[q]? = H[q]?) → XC nse s t)
    (hf : ∀ z ∈ locs, free z.base) (hc : cells + 1 ≤ mc) (hs : slots + 6 ≤ ms) :
    W p l e R s m args below meth c H locs cells slots (vx_MQ below Qc XC args s mc ms free) (F0 m pc ls rest) := by
  intro T hT X
  have htr : e.platform.stackTraces = false := (show e.platform.stackTraces = l.stackTraces by rw [X.admits.platform]).trans hl
  have Y := vx_rebase X (R' := { frames := R.frames, locals := R.locals, cells := 1, slots := 6 }) (Nat.le_refl _) (Nat.le_refl _) hRcells hRslots
  obtain ⟨s', hA⟩ : ∃ z, z = (T.setVm s.vm).setFrames (.invoking m args :: below) := ⟨_, rfl⟩
  rw [← hA] at Y
  have hvm : s'.vm = s.vm := by rw [hA]; rfl
  have hhp : s'.heap = H := by rw [hA]; exact hT
  have hW0 : s.WarmedH s'.vm := by rw [hvm]; exact State.WarmedH.refl s
  have hat' : ∀ w ∈ (nseAtoms own ic).filter vx_no, w.before args s' = true := fun w hw => vx_ot_at hW0 hvm.symm (hgood w (List.mem_cons_of_mem _ (List.mem_cons_of_mem _ hw))) (hat w hw)
  have hk' : (Cond.classLink own ik nse).before args s' = true := vx_ot_at hW0 hvm.symm (hgood _ List.mem_cons_self) hk
  have hini' : (Cond.initialized nse).before args s' = true := vx_ot_at hW0 hvm.symm (hgood _ (List.mem_cons_of_mem _ List.mem_cons_self)) hini
  have hU' : vx_Zq Bundle.tN "UNASSIGNED_STACK" Bundle.steD A s' s'.heap := by rw [hhp]; exact vx_Zq.moved hW0.alike (hU.kept hS.2.1)
  have hN' : vx_Zq Bundle.tN "SUPPRESSED_SENTINEL" Bundle.listD A s' s'.heap := by rw [hhp]; exact vx_Zq.moved hW0.alike (hN.kept hS.2.1)
  have h : ∀ w ∈ nseAtoms own ic, w.before args s' = true := vx_own hat' (vx_isRefq hU'.1) (vx_isRefq hN'.1) hU'.2.word hN'.2.word
  have hown' : s'.vm.findClass own = some m.cls := by rw [hvm]; exact hown
  have hins : (Cond.instantiable nse 6).before args s' = true := h _ (by simp [nseAtoms])
  obtain ⟨vm₁, cX, kX, hfX, hkX, -, -, X₁, st1⟩ := Y.newCold hexec (own := own) (C := nse) (index := ik) (n := 6) hown' hk' hins hini'
    (g := F0 m pc ls rest) rfl (by rw [hb]; exact d0) (Nat.le_refl _) (Nat.le_refl _)
  generalize hT1 : (T.setVm vm₁).pushCell { cls := cX, slots := kX.instanceTypes.map defaultValue, vm := .none } = T1 at X₁ st1
  have hcat : (Value.ref T.heap.size).category = 1 := rfl
  have hcellA : T1.heap[T.heap.size]? = some (freshCell cX kX) := by rw [← hT1]; exact State.heap_pushCell_size _ _
  have d3' : decode c.code (pc + 3) = .ok (.dup, 1) := by rw [hb]; exact d3
  have d4' : decode c.code (pc + 4) = .ok (.ldc is, 2) := by rw [hb]; exact d4
  have hstr' : vk_R own is text sa s' := vk_R.warm hW0 hstr
  obtain ⟨U, hsteps, hrun, hend, hW, hsame, ce, hce, hcl0, hcv⟩ := nse_ctor X₁ hexec htr (own := own) (ic := ic) hown' h (fun x hx => nomatch hx) hfX hkX hcellA (by rw [hhp, hT]; exact Nat.le_refl _) (msg := .ref sa) rfl
    (g := { method := m, pc := pc + 6, locals := ls, stack := .ref sa :: .ref T.heap.size :: .ref T.heap.size :: rest, locked := none }) rfl hsize rfl rfl (rest := rest) rfl
    (by rw [hb]; exact d6) (by rw [hb]; exact d9) hout hRframes (by simp only [List.map_cons, List.sum_cons, hcat]; show 2 * 0 + (1 + _) + 81 ≤ R.locals; omega) hlocks
  obtain ⟨f1, f2⟩ := vx_frame hsame
  rw [hhp] at f1 f2
  have hWs : s.WarmedH U.vm := State.WarmedH.trans hW0 hW
  have hcl : s.vm.findClass nse = some ce.cls := by
    rw [hvm] at hcl0
    exact hcl0
  have hall : s.sameButNew ({ U with vm := s.vm } : State) locs mc ms := by
    subst hA
    obtain ⟨e1, e2⟩ := hsame
    rw [State.setFrames_setFrames] at e1
    have h2 : (T.setVm s.vm).sameButNew ({ U with vm := s.vm } : State) [] (0 + 1) (0 + 6) := ⟨e1, e2⟩
    have h3 := X.same.trans h2
    rw [List.append_nil] at h3
    exact h3.mono hc hs
  refine ⟨U, ?_, .threw T.heap.size, hrun, hend, Or.inr ⟨T.heap.size, rfl, nse, ce, locs, hx U hWs.alike f1 (fun q hq => f2 q hq (fun z hz => nomatch hz)), hce, hcv, hcl, hWs, hall, hf⟩⟩
  refine st1 _ ?_
  show Steps p.tables e below (T1.setTop { method := m, pc := pc + 3, locals := ls, stack := .ref T.heap.size :: rest, locked := none }) _
  jvm_step X₁.here [X₁.here.top, hexec, d3', Value.category]
  exact X₁.ldcString hexec (own := own) (text := text) (index := is) (a := sa) hown' hstr'.1 hstr'.2
    (g := { method := m, pc := pc + 4, locals := ls, stack := .ref T.heap.size :: .ref T.heap.size :: rest, locked := none }) rfl d4' _ hsteps
end NST
theorem nse_gd : ∀ w ∈ ((nseAtoms RX8 165).filter vx_no).filter goodWord, w ∈ qTT := qTT_all [145, 1232, 1241, 1243, 1246, 1248, 1233, 1234, 156, 157, 1235, 1240, 1244, 1264, 1222, 1265, 1224, 1266, 1226, 1236, 1238, 1228, 1260, 1261, 1263, 1228, 1251, 1252, 1253, 1254, 1254, 1255, 1256, 1257, 1257, 1258, 1259, 1260, 1250, 1211, 1219, 1220, 1221, 1223, 1225, 1227, 1231, 1230, 1229] (by decide +kernel) (by decide +kernel)
theorem nse_bd : ∀ w ∈ ((nseAtoms RX8 165).filter vx_no).filter (fun w => !goodWord w), w ∈ nseDecl.map Cond.declares := by decide +kernel
theorem nse_hat {args : Array Value} {s : State} (htt : ∀ w ∈ qTT, w.before args s = true) (hd : ∀ x ∈ nseDecl, va_Nw (.declares x) s) : ∀ w ∈ (nseAtoms RX8 165).filter vx_no, w.before args s = true := vx_hat (fun w hw => htt w (nse_gd w hw)) nse_bd (fun w hw => by
  obtain ⟨x, hx, rfl⟩ := List.mem_map.mp hw
  exact va_Nw.use rfl (hd x hx))
theorem nse_cl : Cond.classLink RX8 161 nse ∈ qTT := qTT_in 1210 (by decide +kernel) rfl
theorem nse_in : Cond.initialized nse ∈ qTT := qTT_in 148 (by decide +kernel) rfl
theorem nse_ob : (Cond.classLink RX8 161 nse :: Cond.initialized nse :: (nseAtoms RX8 165).filter vx_no).all vx_ot = true := by decide +kernel
theorem nse_ot : ∀ w ∈ Cond.classLink RX8 161 nse :: Cond.initialized nse :: (nseAtoms RX8 165).filter vx_no, vx_ot w = true := List.all_eq_true.mp nse_ob
/-- a call that only reads, whatever comes behind -/
theorem w_callVr {U : List qS} {RO : qRO} {l : Launch} {R : Room} {cc : ByteArray} {nL pc : Nat} {ret : Option FieldType} {own : String} {rest : List Value} {h : qH} {f : qH → Option Int32} {z : Int32} {y : MethodName} {cy : ByteArray} {nLy n idx ci b : Nat} {ry : Option FieldType} {rm : Room} {as : List Value} {fs : List qF}
    {p : Program} {e : Env} {s : State} {m : MethodId} {args : Array Value} {below : List Frame} {meth : Method} {c : Code} {D : va_G} {cs : Nat → ClassId} {ad : Nat → Nat} {A : Nat → Prop} {H : Heap} {locs : List Loc} {cells slots : Nat} {la : Array Slot} {ls : List (Option Value)} {Q : State → Prop} (hRO : qRok RO)
    (hm : qMet U RO l y (qws y cy nLy ry) rm (.ref b :: as) f qEr) (hz : f h = some z) (hc : qCalV own idx y cy nLy ry n) (hs : U[b]? = some (.inl (ci, fs))) (hci : (vwCl[ci]?).map (fun q => q.1) = some y.cls) (hn : as.length = n) (hrm : rm.cells = 0 ∧ rm.slots = 0) (hR : rm.frames + 1 ≤ R.frames ∧ 8 + (nLy + 11) + rm.locals ≤ R.locals) (hcat : (rest.map fun v => v.category).sum ≤ 8) (hd : decode cc pc = .ok (.invokevirtual idx, 3)) (hC : qC cc nL ret own p s m args meth c) (hW : qW U RO D cs ad A h s H locs R cells slots) (hL : qL ad la nL ls)
    (kk : ∀ (H1 : Heap) (locs1 : List Loc), qW U RO D cs ad A h s H1 locs1 R cells slots → (∀ q : Nat, q < H.size → ¬ va_A (qpic U cs ad h) H.size q → H1[q]? = H[q]?) → W p l e R s m args below meth c H1 locs1 cells slots Q (F0 m (pc + 3) la (.int z :: rest))) : W p l e R s m args below meth c H locs cells slots Q (F0 m pc la ((as.map (qv ad)).reverse ++ .ref (ad b) :: rest)) := by
  obtain ⟨⟨h1, h2, h3, h4⟩, h5, h6⟩ := hc
  have hts := hC.2.2.2.2.2.1
  have hM := hm D cs ad h z H.size hz
  obtain ⟨q, hq1, hq2⟩ : ∃ q : vw_C, vwCl[ci]? = some q ∧ q.1 = y.cls := by
    cases hv : vwCl[ci]? with
    | none => rw [hv] at hci; cases hci
    | some q => rw [hv] at hci; exact ⟨q, rfl, Option.some.inj hci⟩
  have hrecv : ∃ cell : Cell, H[ad b]? = some cell ∧ cell.vm.isStatics = false ∧ s.vm.findClass y.cls = some cell.cls := by
    rw [← hq2]
    exact va_recv hW.2.2.1 hW.1 hq1 (qpic_get hs)
  have hpre : PreV s H y.cls (ad b) (va_Pc ((Value.ref b :: as).map (qv ad)) (qPre U RO D cs ad h H.size)) (as.map (qv ad)) := ⟨qPre_blind hRO, hrecv, fun S hS hw => ⟨rfl, qPre_of hRO hC.2.2.2.2.2.2.1 hW S hS hw⟩⟩
  have hroom : 2 * (F0 m pc la ((as.map (qv ad)).reverse ++ .ref (ad b) :: rest)).monitorRoom + (rest.map fun v => v.category).sum ≤ 8 := by
    show 2 * 0 + _ ≤ 8
    omega
  have hfit : cells + 0 ≤ R.cells ∧ slots + 0 ≤ R.slots := ⟨hW.2.2.2.2.2.2.1, hW.2.2.2.2.2.2.2⟩
  have hrun : ∃ aa, va_Run p l e R s m args below meth c H locs cells slots 0 0 (F0 m pc la ((as.map (qv ad)).reverse ++ .ref (ad b) :: rest)) rest (qQ (some (.int z)) (qB U D cs ad (va_A (qpic U cs ad h) H.size) h) (va_A (qpic U cs ad h) H.size) aa) (va_A (qpic U cs ad h) H.size) := by
    rcases h4 with h4 | ⟨host, h4⟩
    · exact ⟨_, va_runV (n := n) ⟨hC.1, hC.2.1, hC.2.2.1, hC.2.2.2.2.1, hts⟩ hM ⟨callB_of n hts (qws_good h1) rfl hrm.1 hrm.2 (hts _ h2) (hts _ h4) h3 hR, hts _ h5, hts _ h6⟩ hpre rfl (by simpa using hn) hL.1 rfl hroom hd hfit⟩
    · exact ⟨_, va_runVN (n := n) ⟨hC.1, hC.2.1, hC.2.2.1, hC.2.2.2.2.1, hts⟩ hM ⟨va_cnB n hts (qws_good h1) rfl hrm.1 hrm.2 (hC.2.2.2.2.2.2.1 _ h4) (hts _ h2) h3 hR, hts _ h5, hts _ h6⟩ hpre rfl (by simpa using hn) hL.1 rfl hroom hd hfit⟩
  obtain ⟨aa, hr⟩ := hrun
  refine q_call hr hW.2.2.2.1 (fun q _ hq => qA_in hW q hq) (fun q hq => qA_in hW q hq) fun t H1 locs1 ht hvm hB hz1 hk1 hS1 => ?_
  obtain ⟨b1, b2, b3⟩ := hB
  rw [ht] at b1
  exact kk H1 locs1 ⟨b1, b3.weaken (fun _ q _ h9 => qA_in hW q.1 h9), hW.2.2.1, hS1, hW.2.2.2.2⟩ hk1
def NT (p1 p2 : Int32) (h : qH) : Prop := f4_isTape 6 p1 h = some 0 ∨ (f4_isTape 6 p1 h = some 1 ∧ (p2 < 0 ∨ ¬ p2 ≤ 10))
abbrev R8_tapeX : Room := { frames := 6, cells := 1, slots := 6, locals := 90 }
def qPreX (D : va_G) (cs : Nat → ClassId) (ad : Nat → Nat) (h : qH) (sz : Nat) (S : State) : Prop := qPre UX ROX D cs ad h sz S ∧ XR (va_A (qpic UX cs ad h) sz) S
section TXW
variable {l : Launch} {p : Program} {e : Env} {s : State} {m : MethodId} {args : Array Value} {below : List Frame} {meth : Method} {c : Code} {D : va_G} {cs : Nat → ClassId} {ad : Nat → Nat} {A : Nat → Prop} {la : Array Slot} {Q : State → Prop} {p1 p2 : Int32} {h : qH}
/-- plan of the hall, then isTape -/
theorem tx_key (hC : qC cX8_tape 4 (some .int) RX8 p s m args meth c) (hl1 : lv_has la 4 [(0, .ref (ad 0)), (1, .int p1), (2, .int p2)]) (hW : qW UX ROX D cs ad A h s s.heap [] R8_tapeX 0 0) {z : Int32} (hz : f4_isTape 6 p1 h = some z) (kk : ∀ (H1 : Heap) (locs1 : List Loc), qW UX ROX D cs ad A h s H1 locs1 R8_tapeX 0 0 → W p l e R8_tapeX s m args below meth c H1 locs1 0 0 Q (F0 m 8 la [.int z])) : W p l e R8_tapeX s m args below meth c s.heap [] 0 0 Q (F0 m 0 la []) := by
  have hL : qL ad la 4 [] := ⟨hl1.1, hl1.2.1, fun i v hi => by simp at hi⟩
  refine lv_aload_n (x := ad 0) hC.1 hC.2.1 dX8_tape_0 rfl (hl1.2.2 (0, .ref (ad 0)) (by simp)) ?_
  obtain ⟨f8, hf8, hu0⟩ : ∃ f8 : List qF, f8[2]? = some (.inr (some 6)) ∧ UX[0]? = some (.inl (8, f8)) := ⟨_, rfl, uX_0⟩
  have he := qpic_get (cs := cs) (ad := ad) (h := h) hu0
  have hv2 : (f8.mapIdx (qfv ad (h.1 0) (h.2 0)))[2]? = some (.ref (ad 6)) := by rw [List.getElem?_mapIdx, hf8]; rfl
  have hw : W p l e R8_tapeX s m args below meth c s.heap [] 0 0 Q (F0 m 4 la [.ref (ad 6)]) := by
    refine lv_iload_n (x := p1) hC.1 hC.2.1 dX8_tape_4 rfl (hl1.2.2 (1, .int p1) (by simp)) ?_
    exact w_callVr (rest := []) (as := [.int p1]) (b := 6) qRokX (m4_isTape l kPlan_6 p1) hz cal_RX8_157 uX_6 rfl rfl ⟨rfl, rfl⟩ ⟨Nat.le_of_ble_eq_true rfl, Nat.le_of_ble_eq_true rfl⟩ (Nat.le_of_ble_eq_true rfl) dX8_tape_5 hC hW hL (fun H1 locs1 hW1 _ => kk H1 locs1 hW1)
  obtain ⟨C, T, N, hcN, hkN, hinN, hlkN⟩ := qg_RX8_28
  rcases hlkN with hlk | ⟨host, hlk⟩
  · exact va_get hC.1 hC.2.1 hC.2.2.2.2.2.1 hinN hC.2.2.2.2.1 hW.2.2.1 hW.1 0 he hcN 2 hkN (hC.2.2.2.2.2.1 _ hlk) (fun _ h9 => h9) hv2 dX8_tape_1 hw
  · exact va_getN hC.1 hC.2.1 hC.2.2.2.2.2.1 hinN hC.2.2.2.2.1 hW.2.2.1 hW.1 0 he hcN 2 hkN (va_Nw.use rfl (hC.2.2.2.2.2.2.1 _ hlk)) (fun _ h9 => h9) hv2 dX8_tape_1 hw
theorem tx_walk (hC : qC cX8_tape 4 (some .int) RX8 p s m args meth c) (hl1 : lv_has la 4 [(0, .ref (ad 0)), (1, .int p1), (2, .int p2)]) (hW : qW UX ROX D cs ad A h s s.heap [] R8_tapeX 0 0) (hno : NT p1 p2 h) (fin : ∀ (H1 : Heap) (locs1 : List Loc), qW UX ROX D cs ad A h s H1 locs1 R8_tapeX 0 0 → W p l e R8_tapeX s m args below meth c H1 locs1 0 0 Q (F0 m 21 la [])) : W p l e R8_tapeX s m args below meth c s.heap [] 0 0 Q (F0 m 0 la []) := by
  rcases hno with h0 | ⟨h0, h1⟩
  · refine tx_key hC hl1 hW h0 fun H1 locs1 hW1 => ?_
    exact lv_if_eq (tgt := 21) hC.1 hC.2.1 dX8_tape_8 (by decide) (fun _ => fin H1 locs1 hW1) (fun z => absurd rfl z)
  · refine tx_key hC hl1 hW h0 fun H1 locs1 hW1 => ?_
    refine lv_if_eq (tgt := 21) hC.1 hC.2.1 dX8_tape_8 (by decide) (fun z => absurd z q1f) (fun _ => ?_)
    refine lv_iload_n (x := p2) hC.1 hC.2.1 dX8_tape_11 rfl (hl1.2.2 (2, .int p2) (by simp)) ?_
    refine lv_if_lt (tgt := 21) hC.1 hC.2.1 dX8_tape_12 (by decide) (fun _ => fin H1 locs1 hW1) (fun hlt => ?_)
    refine lv_iload_n (x := p2) hC.1 hC.2.1 dX8_tape_15 rfl (hl1.2.2 (2, .int p2) (by simp)) ?_
    refine lv_bipush (v := 10) hC.1 hC.2.1 dX8_tape_16 (by decide) ?_
    refine lv_icmp_le (tgt := 31) hC.1 hC.2.1 dX8_tape_18 (by decide) (fun hle => ?_) (fun _ => fin H1 locs1 hW1)
    rcases h1 with h1 | h1
    · exact absurd h1 hlt
    · exact absurd hle h1
/-- the throw itself -/
theorem tx_fin (hl : l.stackTraces = false) (hC : qC cX8_tape 4 (some .int) RX8 p s m args meth c) (hla : la.size = 4) (htab : ∀ x ∈ c.exceptionTable.toList, False) (hXR : XR A s) {Qc : Array Value → State → Outcome → State → Prop} {XC : String → State → State → Prop} {free : Nat → Prop} (hf : ∀ q, A q → free q) (hx : ∀ (H1 : Heap) (locs1 : List Loc), qW UX ROX D cs ad A h s H1 locs1 R8_tapeX 0 0 → ∀ t : State, s.vm.Alike t.vm → H1.size ≤ t.heap.size → (∀ q : Nat, q < H1.size → t.heap[q]? = H1[q]?) → XC nse s t) (H1 : Heap) (locs1 : List Loc) (hW1 : qW UX ROX D cs ad A h s H1 locs1 R8_tapeX 0 0) : W p l e R8_tapeX s m args below meth c H1 locs1 0 0 (vx_MQ below Qc XC args s 1 6 free) (F0 m 21 la []) := by
  obtain ⟨hdl, ⟨sa, hsa⟩, -, hZ1, hZ2⟩ := hXR
  have htt := hC.2.2.2.2.2.1
  exact nse_throw hC.1 hC.2.1 hl hC.2.2.2.2.1 (htt _ nse_cl) (htt _ nse_in) hsa (nse_hat htt hdl) nse_ot hZ1 hZ2 hW1.2.2.2.1 (hla.trans hC.2.2.1.symm) dX8_tape_21 dX8_tape_24 dX8_tape_25 dX8_tape_27 dX8_tape_30 (fun x hx => (htab x hx).elim) (by decide) (Nat.le_of_ble_eq_true rfl) (Nat.le_refl _) (Nat.le_refl _) hC.2.2.2.2.2.2.2 (hx H1 locs1 hW1) (fun q hq => hf _ (hW1.2.2.2.1.2.2 q hq)) (Nat.le_refl _) (Nat.le_refl _)
end TXW
/-- SpoolHall.tape of what isn't there: it throws, and all is as it was -/
theorem m8_tapeX (l : Launch) (hl : l.stackTraces = false) (p1 p2 : Int32) (D : va_G) (cs : Nat → ClassId) (ad : Nat → Nat) (h : qH) (sz : Nat) (hno : NT p1 p2 h) : vx_Met l yX8_tape (qws yX8_tape cX8_tape 4 (some .int)) R8_tapeX (va_Pc [.ref (ad 0), .int p1, .int p2] (qPreX D cs ad h sz)) (fun _ _ _ _ => False) (fun E st t => E = nse ∧ qB UX D cs ad (va_A (qpic UX cs ad h) sz) h t ∧ va_F (va_A (qpic UX cs ad h) sz) st t) 1 6 (va_A (qpic UX cs ad h) sz) := by
  refine vx_ofW (cc := cX8_tape) (maxL := 4) (ret := some .int) (by decide) rfl ?_
  intro p e s m args below meth c s₁ B hml htab hv
  obtain ⟨rfl, ⟨hsz, hP, hK, hD, hN, hRo⟩, hXR⟩ := hv
  subst hsz
  have hts := atoms_spec (ws := qws yX8_tape cX8_tape 4 (some .int)) B.pre
  have hC : qC cX8_tape 4 (some .int) RX8 p s m ([.ref (ad 0), .int p1, .int p2] : List Value).toArray meth c := ⟨B.exec, B.bytes, hml, B.returns, findClass_of_methodNamed B.named, fun w hw => hts w (List.mem_cons_of_mem _ hw), hN, B.notSynchronized⟩
  have hl0 := lv_entry ([.ref (ad 0), .int p1, .int p2] : List Value) (n := 4) (Nat.le_of_ble_eq_true rfl)
  rw [lg_entry_eq]
  have hW : qW UX ROX D cs ad (va_A (qpic UX cs ad h) s.heap.size) h s s.heap [] R8_tapeX 0 0 := ⟨hP, hD.self, hK, va_S.rf, fun q hq => Or.inr hq, hRo, Nat.zero_le _, Nat.zero_le _⟩
  refine tx_walk hC hl0 hW hno (tx_fin hl hC hl0.1 htab hXR (fun _ z => z) (fun H1 locs1 hW1 t hvm hz hk => ?_))
  refine ⟨rfl, ⟨hW1.1.kept (fun k x hx => hk x.1 ((hW1.1 k x hx).lt)), va_K.moved hvm hK, hW1.2.1⟩, Nat.le_trans hW1.2.2.2.1.1 hz, fun q hq hnA => ?_⟩
  rw [hk q (Nat.lt_of_lt_of_le hq hW1.2.2.2.1.1)]
  exact hW1.2.2.2.1.2.1 q hq hnA
