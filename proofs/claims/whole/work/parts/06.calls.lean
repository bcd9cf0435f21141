section QY
variable {ρ : Type} {U : List qS} {RO : qRO} {l : Launch} {R : Room} {cc : ByteArray} {nL : Nat} {ret : Option FieldType} {own : String} {E : ρ → Option Value × qH} {pc pc' : Nat} {ls : List (Option Value)} {st : List Value} {h : qH} {r : Option ρ}
theorem q_call {p : Program} {e : Env} {s : State} {m : MethodId} {args : Array Value} {below : List Frame} {meth : Method} {c : Code} {H : Heap} {locs : List Loc} {cells slots mc ms : Nat} {Q : State → Prop} {la : Array Slot} {rest st0 : List Value} {a : Array Value} {A0 A1 : Nat → Prop} {H0 : Heap} {free : Addr → Prop} {v : Option Value} {B : State → Prop}
    (hr : va_Run p l e R s m args below meth c H locs cells slots mc ms (F0 m pc la st0) rest (qQ v B A1 a) free) (hS : va_S A0 H0 H locs) (hA : ∀ q, q < H.size → A1 q → A0 q) (hf : ∀ q, free q → A0 q)
    (kk : ∀ (t : State) (H1 : Heap) (locs1 : List Loc), t.heap = H1 → s.vm.Alike t.vm → B t → H.size ≤ H1.size → (∀ q : Nat, q < H.size → ¬ A1 q → H1[q]? = H[q]?) → va_S A0 H0 H1 locs1 → W p l e R s m args below meth c H1 locs1 (cells + mc) (slots + ms) Q (F0 m (pc + 3) la (v.toList ++ rest))) : W p l e R s m args below meth c H locs cells slots Q (F0 m pc la st0) := by
  intro T hT X
  obtain ⟨v', st₀, t, T', L, h0, X', hL, e1, e2, ⟨⟨hv, hb⟩, hz, hk⟩, st⟩ := hr T hT X
  cases hv
  rw [h0] at hz hk
  obtain ⟨t2, a1, b1⟩ := kk t T'.heap (locs ++ L) e1.symm (by rw [← e2]; exact X'.warmed.alike) hb (by rw [e1]; exact hz) (fun q h1 h2 => by rw [e1]; exact hk q h1 h2)
    ⟨Nat.le_trans hS.1 (by rw [e1]; exact hz), fun q h1 h2 => by rw [e1, hk q (Nat.lt_of_lt_of_le h1 hS.1) (fun z => h2 (hA q (Nat.lt_of_lt_of_le h1 hS.1) z))]; exact hS.2.1 q h1 h2, fun q hq => by
      rcases List.mem_append.mp hq with h | h
      · exact hS.2.2 q h
      · exact hf _ (hL q h)⟩ T' rfl X'
  exact ⟨t2, st t2 a1, b1⟩
/-- a callee's rows of the tables -/
def qCal (own : String) (idx : Nat) (y : MethodName) (cy : ByteArray) (nLy : Nat) (ry : Option FieldType) (n : Nat) : Prop :=
  Cond.code y cy nLy ry ∈ qTT ∧ Cond.initialized y.cls ∈ qTT ∧ (y.cls ≠ "java/lang/invoke/MethodHandle" ∧ y.cls ≠ "java/lang/invoke/VarHandle" ∧ (parseMethodDescriptor y.desc).map (fun d => d.parameters.length) = some n) ∧ (Cond.methodLink own idx y ∈ qTT ∨ ∃ host : String, Cond.methodLinkNest own idx y host ∈ qNT)
def qCalV (own : String) (idx : Nat) (y : MethodName) (cy : ByteArray) (nLy : Nat) (ry : Option FieldType) (n : Nat) : Prop := qCal own idx y cy nLy ry n ∧ Cond.instanceMethod y ∈ qTT ∧ Cond.selects y.cls y y ∈ qTT
def qCalS (own : String) (idx : Nat) (y : MethodName) (cy : ByteArray) (nLy : Nat) (ry : Option FieldType) (n : Nat) : Prop := qCal own idx y cy nLy ry n ∧ Cond.static y ∈ qTT
theorem qA_in {D : va_G} {cs : Nat → ClassId} {ad : Nat → Nat} {A : Nat → Prop} {s : State} {H : Heap} {locs : List Loc} {cells slots : Nat} (hW : qW U RO D cs ad A h s H locs R cells slots) : ∀ q, va_A (qpic U cs ad h) H.size q → A q := by
  intro q hq
  rcases hq with ⟨k, e, hk⟩ | hq
  · exact hW.2.1.2 k (q, e) hk
  · exact hW.2.2.2.2.1 q (Nat.le_trans hW.2.2.2.1.1 hq)
theorem qPre_blind (hRO : qRok RO) {D : va_G} {cs : Nat → ClassId} {ad : Nat → Nat} {av : List Value} {sz : Nat} : FrameBlind (va_Pc av (qPre U RO D cs ad h sz)) := by
  intro a S g mk hp
  obtain ⟨q0, q1, q2, q3, q4, q5, q6⟩ := hp
  exact ⟨q0, q1, q2, va_K.moved (u := S) (U := S.calling g mk a) (Vm.Alike.refl S.vm) q3, q4, qNT_same (s := S) (U := S.calling g mk a) rfl q5, hRO.2 ad _ S (S.calling g mk a) (fun _ _ _ => rfl) (State.WarmedH.refl S) q6⟩
theorem qPre_of (hRO : qRok RO) {D : va_G} {cs : Nat → ClassId} {ad : Nat → Nat} {A : Nat → Prop} {s : State} {H : Heap} {locs : List Loc} {cells slots : Nat} (hN : ∀ w ∈ qNT, va_Nw w s) (hW : qW U RO D cs ad A h s H locs R cells slots) (S : State) (hS : S.heap = H) (hw : s.WarmedH S.vm) : qPre U RO D cs ad h H.size S :=
  ⟨by rw [hS], by rw [hS]; exact hW.1, va_K.moved hw.alike hW.2.2.1, hW.2.1.weaken (fun _ _ _ _ => trivial), qNT_warm hw hN, hRO.1 ad A _ S (qA_in hW) (hRO.2 ad A s S (fun q h1 h2 => by rw [hS]; exact hW.2.2.2.1.2.1 q h1 h2) hw hW.2.2.2.2.2.1)⟩
theorem p_callX {ρ' : Type} {f : Option ρ'} {E' : ρ' → Option Value × qH} {kk : ρ' → Option ρ} {st0 : List Value} (hp : pc + 3 = pc')
    (hrun : ∀ z', f = some z' → ∀ (p : Program) (e : Env) (s : State) (m : MethodId) (args : Array Value) (below : List Frame) (meth : Method) (c : Code) (D : va_G) (cs : Nat → ClassId) (ad : Nat → Nat) (A : Nat → Prop) (H : Heap) (locs : List Loc) (cells slots : Nat) (la : Array Slot), qC cc nL ret own p s m args meth c → qW U RO D cs ad A h s H locs R cells slots → qL ad la nL ls →
      ∃ aa, va_Run p l e R s m args below meth c H locs cells slots 0 0 (F0 m pc la (st0.map (qv ad))) (st.map (qv ad)) (qQ ((E' z').1.map (qv ad)) (qB U D cs ad (va_A (qpic U cs ad h) H.size) (E' z').2) (va_A (qpic U cs ad h) H.size) aa) (va_A (qpic U cs ad h) H.size))
    (k : ∀ z', PW U RO l R cc nL ret own E pc' ls ((E' z').1.toList ++ st) (E' z').2 (kk z')) : PW U RO l R cc nL ret own E pc ls st0 h (f.bind kk) := by
  subst hp
  intro z hz p e s m args below meth c D cs ad A H locs cells slots la hC hW hL
  cases hf : f with
  | none => rw [hf] at hz; cases hz
  | some z' =>
    rw [hf] at hz
    obtain ⟨aa, hr⟩ := hrun z' hf p e s m args below meth c D cs ad A H locs cells slots la hC hW hL
    refine q_call hr hW.2.2.2.1 (fun q _ hq => qA_in hW q hq) (fun q hq => qA_in hW q hq) fun t H1 locs1 ht hvm hB hz1 hk1 hS1 => ?_
    obtain ⟨b1, b2, b3⟩ := hB
    rw [ht] at b1
    have w := k z' z hz p e s m args below meth c D cs ad A H1 locs1 cells slots la hC ⟨b1, b3.weaken (fun _ q _ h9 => qA_in hW q.1 h9), hW.2.2.1, hS1, hW.2.2.2.2⟩ hL
    have es : ((E' z').1.map (qv ad)).toList ++ st.map (qv ad) = ((E' z').1.toList ++ st).map (qv ad) := by
      cases (E' z').1 <;> rfl
    rw [es]
    exact w
theorem p_callV {ρ' : Type} {f : qH → Option ρ'} {E' : qH → ρ' → Option Value × qH} {kk : ρ' → Option ρ} {y : MethodName} {cy : ByteArray} {nLy n idx ci b : Nat} {ry : Option FieldType} {rm : Room} {as : List Value} {fs : List qF} (hRO : qRok RO)
    (hm : qMet U RO l y (qws y cy nLy ry) rm (.ref b :: as) f E') (hc : qCalV own idx y cy nLy ry n) (hs : U[b]? = some (.inl (ci, fs))) (hci : (vwCl[ci]?).map (fun q => q.1) = some y.cls) (hn : as.length = n) (hrm : rm.cells = 0 ∧ rm.slots = 0) (hR : rm.frames + 1 ≤ R.frames ∧ 8 + (nLy + 11) + rm.locals ≤ R.locals) (hcat : (st.map fun v => v.category).sum ≤ 8) (hd : decode cc pc = .ok (.invokevirtual idx, 3)) (hp : pc + 3 = pc')
    (k : ∀ z', PW U RO l R cc nL ret own E pc' ls ((E' h z').1.toList ++ st) (E' h z').2 (kk z')) : PW U RO l R cc nL ret own E pc ls (as.reverse ++ .ref b :: st) h ((f h).bind kk) := by
  refine p_callX (E' := E' h) hp (fun z' hz' p e s m args below meth c D cs ad A H locs cells slots la hC hW hL => ?_) k
  obtain ⟨⟨h1, h2, h3, h4⟩, h5, h6⟩ := hc
  have hts := hC.2.2.2.2.2.1
  have hM := hm D cs ad h z' H.size hz'
  obtain ⟨q, hq1, hq2⟩ : ∃ q : vw_C, vwCl[ci]? = some q ∧ q.1 = y.cls := by
    cases hv : vwCl[ci]? with
    | none => rw [hv] at hci; cases hci
    | some q => rw [hv] at hci; exact ⟨q, rfl, Option.some.inj hci⟩
  have hrecv : ∃ cell : Cell, H[ad b]? = some cell ∧ cell.vm.isStatics = false ∧ s.vm.findClass y.cls = some cell.cls := by
    rw [← hq2]
    exact va_recv hW.2.2.1 hW.1 hq1 (qpic_get hs)
  have hpre : PreV s H y.cls (ad b) (va_Pc ((Value.ref b :: as).map (qv ad)) (qPre U RO D cs ad h H.size)) (as.map (qv ad)) := ⟨qPre_blind hRO, hrecv, fun S hS hw => ⟨rfl, qPre_of hRO hC.2.2.2.2.2.2.1 hW S hS hw⟩⟩
  have hstk : (F0 m pc la ((as.reverse ++ .ref b :: st).map (qv ad))).stack = (as.map (qv ad)).reverse ++ .ref (ad b) :: st.map (qv ad) := by
    show (as.reverse ++ .ref b :: st).map (qv ad) = _
    simp [qv]
  have hroom : 2 * (F0 m pc la ((as.reverse ++ .ref b :: st).map (qv ad))).monitorRoom + ((st.map (qv ad)).map fun v => v.category).sum ≤ 8 := by
    show 2 * 0 + _ ≤ 8
    rw [qv_cats]
    omega
  have hfit : cells + 0 ≤ R.cells ∧ slots + 0 ≤ R.slots := ⟨hW.2.2.2.2.2.2.1, hW.2.2.2.2.2.2.2⟩
  rcases h4 with h4 | ⟨host, h4⟩
  · exact ⟨_, va_runV (n := n) ⟨hC.1, hC.2.1, hC.2.2.1, hC.2.2.2.2.1, hts⟩ hM ⟨callB_of n hts (qws_good h1) rfl hrm.1 hrm.2 (hts _ h2) (hts _ h4) h3 hR, hts _ h5, hts _ h6⟩ hpre rfl (by simpa using hn) hL.1 hstk hroom hd hfit⟩
  · exact ⟨_, va_runVN (n := n) ⟨hC.1, hC.2.1, hC.2.2.1, hC.2.2.2.2.1, hts⟩ hM ⟨va_cnB n hts (qws_good h1) rfl hrm.1 hrm.2 (hC.2.2.2.2.2.2.1 _ h4) (hts _ h2) h3 hR, hts _ h5, hts _ h6⟩ hpre rfl (by simpa using hn) hL.1 hstk hroom hd hfit⟩
theorem p_callS {ρ' : Type} {f : qH → Option ρ'} {E' : qH → ρ' → Option Value × qH} {kk : ρ' → Option ρ} {y : MethodName} {cy : ByteArray} {nLy n idx : Nat} {ry : Option FieldType} {rm : Room} {as : List Value} (hRO : qRok RO)
    (hm : qMet U RO l y (qws y cy nLy ry) rm as f E') (hc : qCalS own idx y cy nLy ry n) (hn : as.length = n) (hrm : rm.cells = 0 ∧ rm.slots = 0) (hR : rm.frames + 1 ≤ R.frames ∧ 8 + (nLy + 11) + rm.locals ≤ R.locals) (hcat : (st.map fun v => v.category).sum ≤ 8) (hd : decode cc pc = .ok (.invokestatic idx, 3)) (hp : pc + 3 = pc')
    (k : ∀ z', PW U RO l R cc nL ret own E pc' ls ((E' h z').1.toList ++ st) (E' h z').2 (kk z')) : PW U RO l R cc nL ret own E pc ls (as.reverse ++ st) h ((f h).bind kk) := by
  refine p_callX (E' := E' h) hp (fun z' hz' p e s m args below meth c D cs ad A H locs cells slots la hC hW hL => ?_) k
  obtain ⟨⟨h1, h2, h3, h4⟩, h5⟩ := hc
  have hts := hC.2.2.2.2.2.1
  have hM := hm D cs ad h z' H.size hz'
  have hpre : PreS s H (va_Pc (as.map (qv ad)) (qPre U RO D cs ad h H.size)) (as.map (qv ad)) := ⟨qPre_blind hRO, fun S hS hw => ⟨rfl, qPre_of hRO hC.2.2.2.2.2.2.1 hW S hS hw⟩⟩
  have hstk : (F0 m pc la ((as.reverse ++ st).map (qv ad))).stack = (as.map (qv ad)).reverse ++ st.map (qv ad) := by
    show (as.reverse ++ st).map (qv ad) = _
    simp
  have hroom : 2 * (F0 m pc la ((as.reverse ++ st).map (qv ad))).monitorRoom + ((st.map (qv ad)).map fun v => v.category).sum ≤ 8 := by
    show 2 * 0 + _ ≤ 8
    rw [qv_cats]
    omega
  have hfit : cells + 0 ≤ R.cells ∧ slots + 0 ≤ R.slots := ⟨hW.2.2.2.2.2.2.1, hW.2.2.2.2.2.2.2⟩
  rcases h4 with h4 | ⟨host, h4⟩
  · exact ⟨_, va_runS (n := n) ⟨hC.1, hC.2.1, hC.2.2.1, hC.2.2.2.2.1, hts⟩ hM ⟨callB_of n hts (qws_good h1) rfl hrm.1 hrm.2 (hts _ h2) (hts _ h4) h3 hR, hts _ h5⟩ hpre rfl (by simpa using hn) hL.1 hstk hroom hd hfit⟩
  · exact ⟨_, va_runSN (n := n) ⟨hC.1, hC.2.1, hC.2.2.1, hC.2.2.2.2.1, hts⟩ hM ⟨va_cnB n hts (qws_good h1) rfl hrm.1 hrm.2 (hC.2.2.2.2.2.2.1 _ h4) (hts _ h2) h3 hR, hts _ h5, trivial⟩ hpre rfl (by simpa using hn) hL.1 hstk hroom hd hfit⟩
/-! the kinds of answers: a reader's int, a writer's int, a writer -/
def qEr (h : qH) (z : Int32) : Option Value × qH := (some (.int z), h)
def qEw (_ : qH) (z : Int32 × qH) : Option Value × qH := (some (.int z.1), z.2)
def qEv (_ : qH) (z : qH) : Option Value × qH := (none, z)
theorem p_callVr {f : qH → Option Int32} {kk : Int32 → Option ρ} {y : MethodName} {cy : ByteArray} {nLy n idx ci b : Nat} {ry : Option FieldType} {rm : Room} (as : List Value) {fs : List qF} (hRO : qRok RO) (hm : qMet U RO l y (qws y cy nLy ry) rm (.ref b :: as) f qEr) (hc : qCalV own idx y cy nLy ry n) (hs : U[b]? = some (.inl (ci, fs))) (hci : (vwCl[ci]?).map (fun q => q.1) = some y.cls) (hn : as.length = n) (hrm : rm.cells = 0 ∧ rm.slots = 0) (hR : rm.frames + 1 ≤ R.frames ∧ 8 + (nLy + 11) + rm.locals ≤ R.locals) (hcat : (st.map fun v => v.category).sum ≤ 8) (hd : decode cc pc = .ok (.invokevirtual idx, 3)) (hp : pc + 3 = pc')
    (k : ∀ z : Int32, PW U RO l R cc nL ret own E pc' ls (.int z :: st) h (kk z)) : PW U RO l R cc nL ret own E pc ls (as.reverse ++ .ref b :: st) h ((f h).bind kk) := p_callV hRO hm hc hs hci hn hrm hR hcat hd hp k
theorem p_callVw {f : qH → Option (Int32 × qH)} {kk : Int32 × qH → Option ρ} {y : MethodName} {cy : ByteArray} {nLy n idx ci b : Nat} {ry : Option FieldType} {rm : Room} (as : List Value) {fs : List qF} (hRO : qRok RO) (hm : qMet U RO l y (qws y cy nLy ry) rm (.ref b :: as) f qEw) (hc : qCalV own idx y cy nLy ry n) (hs : U[b]? = some (.inl (ci, fs))) (hci : (vwCl[ci]?).map (fun q => q.1) = some y.cls) (hn : as.length = n) (hrm : rm.cells = 0 ∧ rm.slots = 0) (hR : rm.frames + 1 ≤ R.frames ∧ 8 + (nLy + 11) + rm.locals ≤ R.locals) (hcat : (st.map fun v => v.category).sum ≤ 8) (hd : decode cc pc = .ok (.invokevirtual idx, 3)) (hp : pc + 3 = pc')
    (k : ∀ (z : Int32) (h1 : qH), PW U RO l R cc nL ret own E pc' ls (.int z :: st) h1 (kk (z, h1))) : PW U RO l R cc nL ret own E pc ls (as.reverse ++ .ref b :: st) h ((f h).bind kk) := p_callV hRO hm hc hs hci hn hrm hR hcat hd hp fun z => k z.1 z.2
theorem p_callVv {f : qH → Option qH} {kk : qH → Option ρ} {y : MethodName} {cy : ByteArray} {nLy n idx ci b : Nat} {ry : Option FieldType} {rm : Room} (as : List Value) {fs : List qF} (hRO : qRok RO) (hm : qMet U RO l y (qws y cy nLy ry) rm (.ref b :: as) f qEv) (hc : qCalV own idx y cy nLy ry n) (hs : U[b]? = some (.inl (ci, fs))) (hci : (vwCl[ci]?).map (fun q => q.1) = some y.cls) (hn : as.length = n) (hrm : rm.cells = 0 ∧ rm.slots = 0) (hR : rm.frames + 1 ≤ R.frames ∧ 8 + (nLy + 11) + rm.locals ≤ R.locals) (hcat : (st.map fun v => v.category).sum ≤ 8) (hd : decode cc pc = .ok (.invokevirtual idx, 3)) (hp : pc + 3 = pc')
    (k : ∀ h1 : qH, PW U RO l R cc nL ret own E pc' ls st h1 (kk h1)) : PW U RO l R cc nL ret own E pc ls (as.reverse ++ .ref b :: st) h ((f h).bind kk) := p_callV hRO hm hc hs hci hn hrm hR hcat hd hp k
theorem p_callSr {f : qH → Option Int32} {kk : Int32 → Option ρ} {y : MethodName} {cy : ByteArray} {nLy n idx : Nat} {ry : Option FieldType} {rm : Room} (as : List Value) (hRO : qRok RO) (hm : qMet U RO l y (qws y cy nLy ry) rm as f qEr) (hc : qCalS own idx y cy nLy ry n) (hn : as.length = n) (hrm : rm.cells = 0 ∧ rm.slots = 0) (hR : rm.frames + 1 ≤ R.frames ∧ 8 + (nLy + 11) + rm.locals ≤ R.locals) (hcat : (st.map fun v => v.category).sum ≤ 8) (hd : decode cc pc = .ok (.invokestatic idx, 3)) (hp : pc + 3 = pc')
    (k : ∀ z : Int32, PW U RO l R cc nL ret own E pc' ls (.int z :: st) h (kk z)) : PW U RO l R cc nL ret own E pc ls (as.reverse ++ st) h ((f h).bind kk) := p_callS hRO hm hc hn hrm hR hcat hd hp k
/-! the entry -/
def qent : List Value → List (Option Value)
  | [] => []
  | v :: vs => if v.category = 2 then some v :: none :: qent vs else some v :: qent vs
theorem qent_at (ad : Nat → Nat) (n : Nat) : ∀ (av : List Value) (base i : Nat) (v : Value), (qent av ++ List.replicate n none)[i]? = some (some v) → (base + i, qv ad v) ∈ lv_args base (av.map (qv ad))
  | [], base, i, v, hi => by
    simp only [qent, List.nil_append, List.getElem?_replicate] at hi
    split at hi <;> simp at hi
  | w :: av, base, i, v, hi => by
    show (base + i, qv ad v) ∈ (base, qv ad w) :: lv_args (if (qv ad w).category = 2 then base + 2 else base + 1) (av.map (qv ad))
    rw [qv_cat]
    by_cases hc : w.category = 2
    · rw [if_pos hc]
      simp only [qent, if_pos hc, List.cons_append] at hi
      match i, hi with
      | 0, hi =>
        simp at hi
        subst hi
        simp
      | 1, hi => simp at hi
      | i + 2, hi =>
        simp only [List.getElem?_cons_succ] at hi
        have := qent_at ad n av (base + 2) i v hi
        exact List.mem_cons_of_mem _ (by rw [show base + (i + 2) = base + 2 + i by omega]; exact this)
    · rw [if_neg hc]
      simp only [qent, if_neg hc, List.cons_append] at hi
      match i, hi with
      | 0, hi =>
        simp at hi
        subst hi
        simp
      | i + 1, hi =>
        simp only [List.getElem?_cons_succ] at hi
        have := qent_at ad n av (base + 1) i v hi
        exact List.mem_cons_of_mem _ (by rw [show base + (i + 1) = base + 1 + i by omega]; exact this)
theorem qsl_len (ad : Nat → Nat) : ∀ av : List Value, (lg_sl (av.map (qv ad))).length = (qent av).length
  | [] => rfl
  | v :: av => by
    have ih := qsl_len ad av
    simp only [lg_sl] at ih
    simp only [lg_sl, List.map_cons, List.flatMap_cons, List.length_append, qv_cat, qent]
    split <;> simp [ih] <;> omega
theorem q_met {y : MethodName} {av : List Value} {f : qH → Option ρ} {E' : qH → ρ → Option Value × qH} (n0 : Nat) (hy : plainName y.cls = true) (hown : y.cls = own) (hn : (qent av).length ≤ nL) (hls : qent av ++ List.replicate n0 none = ls) (k : ∀ h, PW U RO l R cc nL ret own (E' h) 0 ls [] h (f h)) : qMet U RO l y (qws y cc nL ret) R av f E' := by
  intro D cs ad h z sz hz
  refine Met.ofW (cc := cc) (maxL := nL) (ret := ret) hy rfl ?_
  intro p e s m args below meth c s₁ B hml hv
  obtain ⟨rfl, hsz, hP, hK, hD, hN, hRo⟩ := hv
  subst hsz
  have hts := atoms_spec (ws := qws y cc nL ret) B.pre
  have hC : qC cc nL ret own p s m ((av.map (qv ad)).toArray) meth c := ⟨B.exec, B.bytes, hml, B.returns, by rw [← hown]; exact findClass_of_methodNamed B.named, fun w hw => hts w (List.mem_cons_of_mem _ hw), hN, B.notSynchronized⟩
  have hl := lv_entry (av.map (qv ad)) (n := nL) (by rw [qsl_len]; exact hn)
  rw [lg_entry_eq]
  exact k h z hz p e s m _ below meth c D cs ad _ s.heap [] 0 0 _ hC ⟨hP, hD.self, hK, va_S.rf, fun q hq => Or.inr hq, hRo, Nat.zero_le _, Nat.zero_le _⟩ ⟨hl.1, hl.2.1, fun i v hi => by
    rw [← hls] at hi
    have := qent_at ad n0 av 0 i v hi
    rw [Nat.zero_add] at this
    exact hl.2.2 (i, qv ad v) this⟩
/-! Math.min, Math.max, System.arraycopy -/
def qMin (own : String) (idx : Nat) : Prop := Cond.methodLink own idx Lib.Math.min.name ∈ qTT ∧ Cond.static Lib.Math.min.name ∈ qTT ∧ Cond.initialized "java/lang/Math" ∈ qTT ∧ Cond.code Lib.Math.min.name Lib.Math.min.code 2 (some .int) ∈ qTT
def qMax (own : String) (idx : Nat) : Prop := Cond.methodLink own idx Lib.Math.max.name ∈ qTT ∧ Cond.static Lib.Math.max.name ∈ qTT ∧ Cond.initialized "java/lang/Math" ∈ qTT ∧ Cond.code Lib.Math.max.name Lib.Math.max.code 2 (some .int) ∈ qTT
theorem p_min {idx : Nat} {x y : Int32} (hm : qMin own idx) (hR : 1 ≤ R.frames ∧ (st.map fun v => v.category).sum + 13 ≤ R.locals) (hd : decode cc pc = .ok (.invokestatic idx, 3)) (hp : pc + 3 = pc') (k : PW U RO l R cc nL ret own E pc' ls (.int (if y < x then y else x) :: st) h r) : PW U RO l R cc nL ret own E pc ls (.int y :: .int x :: st) h r := by
  subst hp
  intro z hz p e s m args below meth c D cs ad A H locs cells slots la hC hW hL
  have hts := hC.2.2.2.2.2.1
  exact va_mmin hC.1 hC.2.1 (hC.2.2.1.trans hL.1.symm) hC.2.2.2.2.1 (hts _ hm.1) (hts _ hm.2.1) (hts _ hm.2.2.1) (hts _ hm.2.2.2) hR.1 (by rw [qv_cats]; exact hR.2) hW.2.2.2.2.2.2.1 hW.2.2.2.2.2.2.2 hd (k z hz p e s m args below meth c D cs ad A H locs cells slots la hC hW hL)
theorem p_max {idx : Nat} {x y : Int32} (hm : qMax own idx) (hR : 1 ≤ R.frames ∧ (st.map fun v => v.category).sum + 13 ≤ R.locals) (hd : decode cc pc = .ok (.invokestatic idx, 3)) (hp : pc + 3 = pc') (k : PW U RO l R cc nL ret own E pc' ls (.int (if x < y then y else x) :: st) h r) : PW U RO l R cc nL ret own E pc ls (.int y :: .int x :: st) h r := by
  subst hp
  intro z hz p e s m args below meth c D cs ad A H locs cells slots la hC hW hL
  have hts := hC.2.2.2.2.2.1
  exact va_mmax hC.1 hC.2.1 (hC.2.2.1.trans hL.1.symm) hC.2.2.2.2.1 (hts _ hm.1) (hts _ hm.2.1) (hts _ hm.2.2.1) (hts _ hm.2.2.2) hR.1 (by rw [qv_cats]; exact hR.2) hW.2.2.2.2.2.2.1 hW.2.2.2.2.2.2.2 hd (k z hz p e s m args below meth c D cs ad A H locs cells slots la hC hW hL)
def qCpy (own : String) (idx : Nat) : Prop := Cond.methodLink own idx arraycopyName ∈ qTT ∧ Cond.native arraycopyName ∈ qTT ∧ Cond.static arraycopyName ∈ qTT ∧ Cond.initialized "java/lang/System" ∈ qTT
def qcp (sp dp n : Int32) (n0 n1 : Nat) : Bool := decide (¬ sp < 0) && decide (¬ dp < 0) && decide (¬ n < 0) && decide (sp.toNatClampNeg + n.toNatClampNeg ≤ n0) && decide (dp.toNatClampNeg + n.toNatClampNeg ≤ n1)
theorem p_copy {idx a0 a : Nat} {L0 L1 : Nat ⊕ Nat} {rs0 rs1 : List Nat} {sp dp n : Int32} (hU : qok U) (hm : qCpy own idx) (hs0 : U[a0]? = some (.inr (0, L0, rs0))) (hs1 : U[a]? = some (.inr (0, L1, rs1))) (hR : 1 ≤ R.frames ∧ (st.map fun v => v.category).sum + (nativeFrameWords "java/lang/System" "arraycopy" 5 + 11) ≤ R.locals) (hd : decode cc pc = .ok (.invokestatic idx, 3)) (hp : pc + 3 = pc')
    (k : PW U RO l R cc nL ret own E pc' ls st (qrow h a (va_cpy (h.1 a0) (h.1 a) (ix sp) (ix dp) (ix n))) r) : PW U RO l R cc nL ret own E pc ls (.int n :: .int dp :: .ref a :: .int sp :: .ref a0 :: st) h (qg (qcp sp dp n (qlen h L0) (qlen h L1)) r) := by
  subst hp
  intro z hz p e s m args below meth c D cs ad A H locs cells slots la hC hW hL
  obtain ⟨h1, h2⟩ := qg_some hz
  simp only [qcp, Bool.and_eq_true, decide_eq_true_eq] at h1
  obtain ⟨⟨⟨⟨g1, g2⟩, g3⟩, g4⟩, g5⟩ := h1
  have hts := hC.2.2.2.2.2.1
  refine va_copyi hC.1 hC.2.1 (hC.2.2.1.trans hL.1.symm) hC.2.2.2.2.1 (hts _ hm.1) (hts _ hm.2.1) (hts _ hm.2.2.1) (hts _ hm.2.2.2) hW.2.2.1 hW.1 hW.2.1 hW.2.2.2.1 a0 a 0 0 (qpic_arr hs0 (by decide)) (qpic_arr hs1 (by decide)) rfl rfl rfl g1 g2 g3 g4 g5 (fun _ _ => rfl) hR.1 (by rw [qv_cats]; exact hR.2) hd fun H1 locs1 f1 f2 f3 => ?_
  rw [← qcell_arr (cs := cs) (ad := ad) (h := h) hU hs1 (by decide), qpic_row hU hs1] at f1 f2
  exact k z h2 p e s m args below meth c D cs ad A H1 locs1 cells slots la hC ⟨f1, f2, hW.2.2.1, f3, hW.2.2.2.2⟩ hL
end QY
