/-! THE CLAIM OUT OF ONE WALK OF THE LAW'S BODY. Your part is whole_start (and what it stands on); all else here is the same for every law, but numbers. -/
def R_law : String := "SpoolHallLaw"
def lw_P (b : Addr) (xs : List Int32) (args : Array Value) (s : State) : Prop := args = #[.ref b] ∧ s.IntsAt b xs ∧ xs.length ≤ 3072 ∧ (Jvm.Cond.and given_1 narrow_1).before args s = true
def lw_Q (_ : Array Value) (s : State) (o : Outcome) (t : State) : Prop := o = .returned (some (.int 1)) ∧ Framed s o t [] 601024 7293034
def lw_Z (below : List Frame) (a : Array Value) (s : State) : State → Prop := fun t => ∃ o, t.status = .running ∧ Ended t below o ∧ lw_Q a s o t
/-- the law's own end, with 1 on the stack, nothing written that was there before, its room as the claim has it -/
theorem lw_ret {p : Program} {l : Launch} {e : Env} {s : State} {m : MethodId} {below : List Frame} {meth : Method} {c : Code} {b : Nat} (hx : p.tables.exec = Jvm.exec) (hb : c.code = code) (hr : meth.sig.returnType = ret) (hlocks : meth.locks = false) {pc : Nat} {H : Heap} {ls : Array Slot} (hdg : decode code pc = .ok (.ireturn, 1)) : W p l e room_1 s m #[Value.ref b] below meth c H [] 601024 7293034 (lw_Z below #[Value.ref b] s) (F0 m pc ls [.int 1]) := by
  intro T hT X
  obtain ⟨fs, hret, hrun, hended, hW, hframe⟩ := X.leave (v := some (.int 1)) (hlocks := hlocks) (fun h => by rw [hr] at h; cases h)
  have hmeth' : T.vm.method? m = some meth := X.method'
  refine ⟨T.setFrames fs, ?_, .returned (some (.int 1)), hrun, hended, rfl, ⟨_, rfl⟩, hW, hframe⟩
  jvm_step X.here [X.here.top, hx, hb, hdg, hmeth', hr, ret, narrow_b1]
  (try refine ⟨rfl, ?_⟩); (try refine ⟨rfl, ?_⟩)
  first | (intro acts; rw [hret _ acts rfl rfl rfl]) | rw [hret _ _ rfl rfl rfl]
  exact Steps.refl _
/-- what holds at the law's entry: the machine, the code, the tables' words (any of lw_tbl by 'hts w (by decide +kernel)'), the script of L ints xs at the cell b, what the Statement gives of the start (any of its parts by flat_of_before) -/
def lw_At (p : Program) (s : State) (m : MethodId) (meth : Method) (c : Code) (b L : Nat) (xs : Nat → Int32) : Prop :=
  p.tables.exec = Jvm.exec ∧ c.code = code ∧ meth.sig.returnType = ret ∧ c.maxLocals = 7 ∧ s.vm.findClass R_law = some m.cls ∧ (∀ w ∈ lw_tbl, w.before #[Value.ref b] s = true) ∧ va_X b L xs s s.heap ∧ b < s.heap.size ∧ meth.locks = false ∧ (Jvm.Cond.and given_1 narrow_1).before #[Value.ref b] s = true
/-! ===== the law's world: both sides in one heap ===== -/
def dis (w1 w2 : va_W) : Prop := ∀ (i j : Nat) (p q : Nat × va_E), w1[i]? = some p → w2[j]? = some q → p.1 ≠ q.1
theorem dis.symm {w1 w2 : va_W} (h : dis w1 w2) : dis w2 w1 := fun i j p q hi hj e => h j i q p hj hi e.symm
theorem fr_P {D : va_G} {w1 w2 : va_W} {H H1 : Heap} (hP2 : va_P D vwCl w2 H) (hd : dis w1 w2) (hk : ∀ q : Nat, q < H.size → ¬ va_A w1 H.size q → H1[q]? = H[q]?) : va_P D vwCl w2 H1 := hP2.kept fun k x hx => hk x.1 ((hP2 k x hx).lt) fun z => by
  rcases z with ⟨i, e, hi⟩ | z
  · exact hd i k _ _ hi hx rfl
  · exact absurd ((hP2 k x hx).lt) (Nat.not_lt.mpr z)
theorem fr_dis {D : va_G} {w1 w1' w2 : va_W} {H : Heap} (hP2 : va_P D vwCl w2 H) (hd : dis w1 w2) (hD1 : va_D (va_A w1 H.size) w1') : dis w1' w2 := by
  intro i j p q hi hj e
  rcases hD1.2 i p hi with ⟨k, e', hk⟩ | z
  · exact hd k j _ _ hk hj e
  · have := (hP2 j q hj).lt
    omega
abbrev lA (s : State) : Nat → Prop := fun q => s.heap.size ≤ q
def lO (cs : Nat → ClassId) (o : Nat) (ov : Nat → Int64) : va_W := [(o, .inl (cs 3, 1, .inr (.inl ov)))]
def LW (s : State) (D : va_G) (cs : Nat → ClassId) (adx adm : Nat → Nat) (hx hm : qH) (o : Nat) (ov : Nat → Int64) (H : Heap) (locs : List Loc) : Prop :=
  (va_P D vwCl (qpic UX cs adx hx) H ∧ va_D (lA s) (qpic UX cs adx hx)) ∧ (va_P D vwCl (qpic UM cs adm hm) H ∧ va_D (lA s) (qpic UM cs adm hm)) ∧ (va_P D vwCl (lO cs o ov) H ∧ va_D (lA s) (lO cs o ov)) ∧ (dis (qpic UX cs adx hx) (qpic UM cs adm hm) ∧ dis (qpic UX cs adx hx) (lO cs o ov) ∧ dis (qpic UM cs adm hm) (lO cs o ov)) ∧ va_S (lA s) s.heap H locs ∧ ROX adx (lA s) s
/-- what a thrown NoSuchElementException needs -/
def nseDecl : List MethodName := [⟨"java/lang/RuntimeException", "<init>", "(Ljava/lang/String;)V"⟩, ⟨"java/lang/Exception", "<init>", "(Ljava/lang/String;)V"⟩, ⟨"java/lang/Throwable", "<init>", "(Ljava/lang/String;)V"⟩]
def XR (A : Nat → Prop) (s : State) : Prop := (∀ x ∈ nseDecl, va_Nw (.declares x) s) ∧ (∃ sa, vk_R RX8 163 "no such tape, or nothing such of it" sa s) ∧ va_Nw (.castable "java/util/NoSuchElementException" "java/util/NoSuchElementException") s ∧ vx_Zq Bundle.tN "UNASSIGNED_STACK" Bundle.steD A s s.heap ∧ vx_Zq Bundle.tN "SUPPRESSED_SENTINEL" Bundle.listD A s s.heap
theorem XR.mv {A B : Nat → Prop} {s U : State} (h : XR A s) (hAB : ∀ q, B q → A q) (hq : ∀ q, q < s.heap.size → ¬ A q → U.heap[q]? = s.heap[q]?) (hW : s.WarmedH U.vm) : XR B U := by
  obtain ⟨h0, ⟨sa, h1⟩, h2, h3, h4⟩ := h
  exact ⟨fun x hx => va_Nw.warmD hW (h0 x hx), ⟨sa, h1.warm hW⟩, va_Nw.warmC hW h2, ((h3.kept hq).moved hW.alike).narrow hAB, ((h4.kept hq).moved hW.alike).narrow hAB⟩
def LC (p : Program) (l : Launch) (s : State) (m : MethodId) (meth : Method) (c : Code) (b L : Nat) (xs : Nat → Int32) (D : va_G) (cs : Nat → ClassId) : Prop :=
  (p.tables.exec = Jvm.exec ∧ c.code = code ∧ c.maxLocals = 7 ∧ s.vm.findClass RL = some m.cls) ∧ (∀ w ∈ lw_tbl, w.before #[Value.ref b] s = true) ∧ (∀ w ∈ qNT, va_Nw w s) ∧ va_K D vwCl (qtys cs ++ [(cs 3, .long)]) s ∧ (va_X b L xs s s.heap ∧ b < s.heap.size ∧ L ≤ 3072) ∧ (meth.locks = false ∧ meth.sig.returnType = ret) ∧ l.stackTraces = false ∧ XR (lA s) s
def vl (b x m o : Nat) : Nat → Nat
  | 0 => b
  | 1 => x
  | 2 => m
  | _ => o
/-- a point of the law's turn i -/
def LPt (p : Program) (l : Launch) (e : Env) (s : State) (m : MethodId) (below : List Frame) (meth : Method) (c : Code) (b : Nat) (D : va_G) (cs : Nat → ClassId) (xl : List (Nat × Value)) (i pc : Nat) (st : List Value) (hx hm : qH) (ov : Nat → Int64) (C S : Nat) : Prop :=
  ∀ (adx adm : Nat → Nat) (o : Nat) (H : Heap) (locs : List Loc) (cells slots : Nat) (la : Array Slot), LW s D cs adx adm hx hm o ov H locs → lv_has la 7 ([(0, .ref b), (1, .ref (adx 0)), (2, .ref (adm 0)), (3, .ref o), (4, .int (nI i))] ++ xl) → cells ≤ C → slots ≤ S →
    W p l e room_1 s m #[Value.ref b] below meth c H locs cells slots (lw_Z below #[Value.ref b] s) (F0 m pc la (st.map (qv (vl b (adx 0) (adm 0) o))))
theorem Met_fe {l : Launch} {y : MethodName} {ws : List Cond} {rm : Room} {Pc : Array Value → State → Prop} {Qc : Array Value → State → Outcome → State → Prop} {mc ms : Nat} {free : Addr → Prop} (h : Met l y ws rm Pc Qc mc ms free) : Met l y ws rm Pc (fun a st o t => Qc a st o t ∧ ∃ L, FrameEnd st o t L mc ms) mc ms free :=
  MetFree.mono h (fun _ _ z => z) (fun _ _ _ _ _ z => z) fun a s o s' _ z => ⟨⟨z.1, z.2.choose, z.2.choose_spec.1⟩, z.2⟩
section LR
variable {p : Program} {l : Launch} {e : Env} {s : State} {m : MethodId} {below : List Frame} {meth : Method} {c : Code} {b L : Nat} {xs : Nat → Int32} {D : va_G} {cs : Nat → ClassId} {xl : List (Nat × Value)} {i pc pc' : Nat} {st : List Value} {hx hm : qH} {ov : Nat → Int64} {C S : Nat}
theorem LC.tt (K : LC p l s m meth c b L xs D cs) : ∀ w ∈ qTT, w.before #[Value.ref b] s = true := fun w hw => K.2.1 w (List.mem_filter.mp hw).1
theorem lp_al0 (K : LC p l s m meth c b L xs D cs) (hd : decode code pc = .ok (.aload_n 0, 1)) (hp : pc + 1 = pc') (kk : LPt p l e s m below meth c b D cs xl i pc' (.ref 0 :: st) hx hm ov C S) : LPt p l e s m below meth c b D cs xl i pc st hx hm ov C S := by
  subst hp
  intro adx adm o H locs cells slots la hW hl hc hs
  have w := kk adx adm o H locs cells slots la hW hl hc hs
  have hq : la[0]? = some (.val (.ref b)) := hl.2.2 (0, .ref b) (by simp)
  exact lv_aload_n (cc := code) K.1.1 K.1.2.1 hd rfl hq w
theorem lp_al1 (K : LC p l s m meth c b L xs D cs) (hd : decode code pc = .ok (.aload_n 1, 1)) (hp : pc + 1 = pc') (kk : LPt p l e s m below meth c b D cs xl i pc' (.ref 1 :: st) hx hm ov C S) : LPt p l e s m below meth c b D cs xl i pc st hx hm ov C S := by
  subst hp
  intro adx adm o H locs cells slots la hW hl hc hs
  have w := kk adx adm o H locs cells slots la hW hl hc hs
  have hq : la[1]? = some (.val (.ref (adx 0))) := hl.2.2 (1, .ref (adx 0)) (by simp)
  exact lv_aload_n (cc := code) K.1.1 K.1.2.1 hd rfl hq w
theorem lp_al2 (K : LC p l s m meth c b L xs D cs) (hd : decode code pc = .ok (.aload_n 2, 1)) (hp : pc + 1 = pc') (kk : LPt p l e s m below meth c b D cs xl i pc' (.ref 2 :: st) hx hm ov C S) : LPt p l e s m below meth c b D cs xl i pc st hx hm ov C S := by
  subst hp
  intro adx adm o H locs cells slots la hW hl hc hs
  have w := kk adx adm o H locs cells slots la hW hl hc hs
  have hq : la[2]? = some (.val (.ref (adm 0))) := hl.2.2 (2, .ref (adm 0)) (by simp)
  exact lv_aload_n (cc := code) K.1.1 K.1.2.1 hd rfl hq w
theorem lp_al3 (K : LC p l s m meth c b L xs D cs) (hd : decode code pc = .ok (.aload_n 3, 1)) (hp : pc + 1 = pc') (kk : LPt p l e s m below meth c b D cs xl i pc' (.ref 3 :: st) hx hm ov C S) : LPt p l e s m below meth c b D cs xl i pc st hx hm ov C S := by
  subst hp
  intro adx adm o H locs cells slots la hW hl hc hs
  have w := kk adx adm o H locs cells slots la hW hl hc hs
  have hq : la[3]? = some (.val (.ref o)) := hl.2.2 (3, .ref o) (by simp)
  exact lv_aload_n (cc := code) K.1.1 K.1.2.1 hd rfl hq w
theorem lp_scr (K : LC p l s m meth c b L xs D cs) (hi : i + 6 ≤ L) {j : Nat} {v : Int} {pc1 pc2 pc3 pc4 : Nat} (hj : j < 6) (hv : Int32.ofInt v = nI j) (d0 : decode code pc = .ok (.aload_n 0, 1)) (e0 : pc + 1 = pc1) (d1 : decode code pc1 = .ok (.iload 4, 2)) (e1 : pc1 + 2 = pc2) (d2 : decode code pc2 = .ok (.iconst v, 1)) (e2 : pc2 + 1 = pc3) (d3 : decode code pc3 = .ok (.iadd, 1)) (e3 : pc3 + 1 = pc4) (d4 : decode code pc4 = .ok (.iaload, 1)) (e4 : pc4 + 1 = pc') (kk : LPt p l e s m below meth c b D cs xl i pc' (.int (xs (i + j)) :: st) hx hm ov C S) : LPt p l e s m below meth c b D cs xl i pc st hx hm ov C S := by
  subst e0; subst e1; subst e2; subst e3; subst e4
  intro adx adm o H locs cells slots la hW hl hc hs
  have hL := K.2.2.2.2.1.2.2
  refine lv_aload_n (x := b) K.1.1 K.1.2.1 d0 rfl (hl.2.2 (0, .ref b) (by simp)) ?_
  refine lv_iload (x := nI i) K.1.1 K.1.2.1 d1 (hl.2.2 (4, .int (nI i)) (by simp)) ?_
  refine lv_iconst (v := nI j) K.1.1 K.1.2.1 d2 hv ?_
  refine lv_iadd K.1.1 K.1.2.1 d3 ?_
  rw [nI_add]
  refine va_sld K.1.1 K.1.2.1 K.2.2.2.2.1.1 K.2.2.2.2.1.2.1 (A := lA s) (Nat.not_le.mpr K.2.2.2.2.1.2.1) hW.2.2.2.2.1 (i := nI (i + j)) (qin_vp (qin_nI (by omega) (by omega))) d4 ?_
  have w := kk adx adm o H locs cells slots la hW hl hc hs
  rw [show (nI (i + j)).toNatClampNeg = i + j from ix_nI (by omega)]
  exact w
/-- the law's side of a call -/
theorem q_callF {R : Room} {args : Array Value} {H : Heap} {locs : List Loc} {cells slots mc ms : Nat} {Q : State → Prop} {la : Array Slot} {rest st0 : List Value} {a : Array Value} {A0 A1 : Nat → Prop} {H0 : Heap} {free : Addr → Prop} {v : Option Value} {B : State → Prop}
    (hr : va_Run p l e R s m args below meth c H locs cells slots mc ms (F0 m pc la st0) rest (fun st o t => qQ v B A1 a st o t ∧ ∃ L, FrameEnd st o t L mc ms) free) (hS : va_S A0 H0 H locs) (hA : ∀ q, q < H.size → A1 q → A0 q) (hf : ∀ q, free q → A0 q)
    (kk : ∀ (t : State) (H1 : Heap) (locs1 : List Loc), t.heap = H1 → s.vm.Alike t.vm → B t → H.size ≤ H1.size → (∀ q : Nat, q < H.size → ¬ A1 q → H1[q]? = H[q]?) → (∀ (q : Nat) (x : Cell), H[q]? = some x → ∃ x', H1[q]? = some x' ∧ x'.slots.size = x.slots.size) → va_S A0 H0 H1 locs1 → W p l e R s m args below meth c H1 locs1 (cells + mc) (slots + ms) Q (F0 m (pc + 3) la (v.toList ++ rest))) : W p l e R s m args below meth c H locs cells slots Q (F0 m pc la st0) := by
  intro T hT X
  obtain ⟨v', st₀, t, T', L, h0, X', hL, e1, e2, ⟨⟨⟨hv, hb⟩, hz, hk⟩, L2, hfe⟩, st⟩ := hr T hT X
  cases hv
  rw [h0] at hz hk
  obtain ⟨-, -, -, -, -, -, -, hsz⟩ := hfe
  obtain ⟨t2, a1, b1⟩ := kk t T'.heap (locs ++ L) e1.symm (by rw [← e2]; exact X'.warmed.alike) hb (by rw [e1]; exact hz) (fun q h1 h2 => by rw [e1]; exact hk q h1 h2)
    (fun q x hx => by
      obtain ⟨x', g1, -, g3, -⟩ := hsz q x (by rw [h0]; exact hx)
      exact ⟨x', by rw [e1]; exact g1, g3⟩)
    ⟨Nat.le_trans hS.1 (by rw [e1]; exact hz), fun q h1 h2 => by rw [e1, hk q (Nat.lt_of_lt_of_le h1 hS.1) (fun z => h2 (hA q (Nat.lt_of_lt_of_le h1 hS.1) z))]; exact hS.2.1 q h1 h2, fun q hq => by
      rcases List.mem_append.mp hq with h | h
      · exact hS.2.2 q h
      · exact hf _ (hL q h)⟩ T' rfl X'
  exact ⟨t2, st t2 a1, b1⟩
theorem lw_pre {U : List qS} {RO : qRO} {ad : Nat → Nat} {h : qH} {H : Heap} {locs : List Loc} (hRO : qRok RO) (K : LC p l s m meth c b L xs D cs) (hP : va_P D vwCl (qpic U cs ad h) H) (hD : va_D (lA s) (qpic U cs ad h)) (hS : va_S (lA s) s.heap H locs) (hR : RO ad (lA s) s) : (∀ q, va_A (qpic U cs ad h) H.size q → lA s q) ∧ ∀ S : State, S.heap = H → s.WarmedH S.vm → qPre U RO D cs ad h H.size S := by
  have hA : ∀ q, va_A (qpic U cs ad h) H.size q → lA s q := by
    intro q hq
    rcases hq with ⟨k, x, hk⟩ | hq
    · exact hD.2 k (q, x) hk
    · exact Nat.le_trans hS.1 hq
  refine ⟨hA, fun S hSh hw => ⟨by rw [hSh], by rw [hSh]; exact hP, va_K.moved hw.alike (K.2.2.2.1.sub [0, 1, 2] rfl), hD.weaken (fun _ _ _ _ => trivial), qNT_warm hw K.2.2.1, hRO.1 ad (lA s) _ S hA (hRO.2 ad (lA s) s S (fun q h1 h2 => by rw [hSh]; exact hS.2.1 q h1 h2) hw hR)⟩⟩
theorem len_same {ad ad' : Nat → Nat} {h h' : qH} {H H1 : Heap} (hP : va_P D vwCl (qpic UX cs ad h) H) (hP1 : va_P D vwCl (qpic UX cs ad' h') H1) (e50 : ad' 50 = ad 50) (hsz : ∀ (q : Nat) (x : Cell), H[q]? = some x → ∃ x', H1[q]? = some x' ∧ x'.slots.size = x.slots.size) : ix (h'.1 100 0) = ix (h.1 100 0) := by
  have h1 : H[ad 50]? = some (arrV (cs 0) (ix (h.1 100 0)) (fun j => .int (h.1 50 j))) := hP 50 _ (qpic_get uX_50)
  have h2 : H1[ad' 50]? = some (arrV (cs 0) (ix (h'.1 100 0)) (fun j => .int (h'.1 50 j))) := hP1 50 _ (qpic_get uX_50)
  obtain ⟨x', g1, g2⟩ := hsz _ _ h1
  rw [e50, g1] at h2
  cases h2
  rw [arrV_size, arrV_size] at g2
  exact g2
theorem lp_callX {ρ' : Type} {f : qH → Option ρ'} {E' : qH → ρ' → Option Value × qH} {z : ρ'} {y : MethodName} {cy : ByteArray} {nLy n idx : Nat} {ry : Option FieldType} {rm : Room} {v : Int32} {hx' : qH} (as : List Value) (K : LC p l s m meth c b L xs D cs) (has : ∀ ad, as.map (qv ad) = as) (hm' : qMet UX ROX l y (qws y cy nLy ry) rm (.ref 0 :: as) f E') (hz : f hx = some z) (hE : E' hx z = (some (.int v), hx')) (hc : qCalV RL idx y cy nLy ry n) (hcl : RX8 = y.cls) (hn : as.length = n) (hrm : rm.cells = 0 ∧ rm.slots = 0) (hR : rm.frames + 1 ≤ room_1.frames ∧ 8 + (nLy + 11) + rm.locals ≤ room_1.locals) (hcat : (st.map fun v => v.category).sum ≤ 8) (hCS : C ≤ 601024 ∧ S ≤ 7293034) (hd : decode code pc = .ok (.invokevirtual idx, 3)) (hp : pc + 3 = pc')
    (kk : ix (hx'.1 100 0) = ix (hx.1 100 0) → LPt p l e s m below meth c b D cs xl i pc' (.int v :: st) hx' hm ov C S) : LPt p l e s m below meth c b D cs xl i pc (as.reverse ++ .ref 1 :: st) hx hm ov C S := by
  subst hp
  intro adx adm o H locs cells slots la hW hl hcc hss
  obtain ⟨⟨hPx, hDx⟩, ⟨hPm, hDm⟩, ⟨hPo, hDo⟩, ⟨d1, d2, d3⟩, hS, hRO⟩ := hW
  obtain ⟨hA, hpre⟩ := lw_pre qRokX K hPx hDx hS hRO
  obtain ⟨⟨h1, h2, h3, h4⟩, h5, h6⟩ := hc
  have hts := K.tt
  have hM := Met_fe (hm' D cs adx hx z H.size hz)
  have hrecv : ∃ cell : Cell, H[adx 0]? = some cell ∧ cell.vm.isStatics = false ∧ s.vm.findClass y.cls = some cell.cls := by
    rw [← hcl]
    exact va_recv (q := (RX8, TX8, 20)) K.2.2.2.1 hPx rfl (qpic_get uX_0)
  have hpv : PreV s H y.cls (adx 0) (va_Pc ((Value.ref 0 :: as).map (qv adx)) (qPre UX ROX D cs adx hx H.size)) as := ⟨qPre_blind qRokX, hrecv, fun S hSh hw => ⟨by rw [List.map_cons, has]; rfl, hpre S hSh hw⟩⟩
  have hstk : (F0 m pc la ((as.reverse ++ .ref 1 :: st).map (qv (vl b (adx 0) (adm 0) o)))).stack = as.reverse ++ .ref (adx 0) :: st.map (qv (vl b (adx 0) (adm 0) o)) := by
    show (as.reverse ++ .ref 1 :: st).map (qv (vl b (adx 0) (adm 0) o)) = _
    rw [List.map_append, List.map_reverse, has]
    rfl
  have hroom : 2 * (F0 m pc la ((as.reverse ++ .ref 1 :: st).map (qv (vl b (adx 0) (adm 0) o)))).monitorRoom + ((st.map (qv (vl b (adx 0) (adm 0) o))).map fun v => v.category).sum ≤ 8 := by
    show 2 * 0 + _ ≤ 8
    rw [qv_cats]
    omega
  have hfit : cells + 0 ≤ room_1.cells ∧ slots + 0 ≤ room_1.slots := ⟨Nat.le_trans hcc hCS.1, Nat.le_trans hss hCS.2⟩
  have hrun : ∃ aa, va_Run p l e room_1 s m #[Value.ref b] below meth c H locs cells slots 0 0 (F0 m pc la ((as.reverse ++ .ref 1 :: st).map (qv (vl b (adx 0) (adm 0) o)))) (st.map (qv (vl b (adx 0) (adm 0) o))) (fun st o t => qQ ((E' hx z).1.map (qv adx)) (qB UX D cs adx (va_A (qpic UX cs adx hx) H.size) (E' hx z).2) (va_A (qpic UX cs adx hx) H.size) aa st o t ∧ ∃ L, FrameEnd st o t L 0 0) (va_A (qpic UX cs adx hx) H.size) := by
    rcases h4 with h4 | ⟨host, h4⟩
    · exact ⟨_, va_runV (n := n) ⟨K.1.1, K.1.2.1, K.1.2.2.1, K.1.2.2.2, hts⟩ hM ⟨callB_of n hts (qws_good h1) rfl hrm.1 hrm.2 (hts _ h2) (hts _ h4) h3 hR, hts _ h5, hts _ h6⟩ hpv rfl hn hl.1 hstk hroom hd hfit⟩
    · exact ⟨_, va_runVN (n := n) ⟨K.1.1, K.1.2.1, K.1.2.2.1, K.1.2.2.2, hts⟩ hM ⟨va_cnB n hts (qws_good h1) rfl hrm.1 hrm.2 (K.2.2.1 _ h4) (hts _ h2) h3 hR, hts _ h5, hts _ h6⟩ hpv rfl hn hl.1 hstk hroom hd hfit⟩
  obtain ⟨aa, hr⟩ := hrun
  rw [hE] at hr
  refine q_callF hr hS (fun q _ hq => hA q hq) hA fun t H1 locs1 ht hvm hB hz1 hk1 hsz hS1 => ?_
  obtain ⟨b1, -, b3⟩ := hB
  rw [ht] at b1
  exact kk (len_same hPx b1 rfl hsz) adx adm o H1 locs1 cells slots la ⟨⟨b1, b3.weaken (fun _ q _ h9 => hA q.1 h9)⟩, ⟨fr_P hPm d1 hk1, hDm⟩, ⟨fr_P hPo d2 hk1, hDo⟩, ⟨fr_dis hPm d1 b3, fr_dis hPo d2 b3, d3⟩, hS1, hRO⟩ hl hcc hss
theorem lp_callM {ρ' : Type} {f : qH → Option ρ'} {E' : qH → ρ' → Option Value × qH} {z : ρ'} {y : MethodName} {cy : ByteArray} {nLy n idx : Nat} {ry : Option FieldType} {rm : Room} {v : Int32} {hm' : qH} (as : List Value) (K : LC p l s m meth c b L xs D cs) (has : ∀ ad, as.map (qv ad) = as) (hM' : qMet UM ROM l y (qws y cy nLy ry) rm (.ref 0 :: as) f E') (hz : f hm = some z) (hE : E' hm z = (some (.int v), hm')) (hc : qCalV RL idx y cy nLy ry n) (hcl : RX9 = y.cls) (hn : as.length = n) (hrm : rm.cells = 0 ∧ rm.slots = 0) (hR : rm.frames + 1 ≤ room_1.frames ∧ 8 + (nLy + 11) + rm.locals ≤ room_1.locals) (hcat : (st.map fun v => v.category).sum ≤ 8) (hCS : C ≤ 601024 ∧ S ≤ 7293034) (hd : decode code pc = .ok (.invokevirtual idx, 3)) (hp : pc + 3 = pc')
    (kk : LPt p l e s m below meth c b D cs xl i pc' (.int v :: st) hx hm' ov C S) : LPt p l e s m below meth c b D cs xl i pc (as.reverse ++ .ref 2 :: st) hx hm ov C S := by
  subst hp
  intro adx adm o H locs cells slots la hW hl hcc hss
  obtain ⟨⟨hPx, hDx⟩, ⟨hPm, hDm⟩, ⟨hPo, hDo⟩, ⟨d1, d2, d3⟩, hS, hRO⟩ := hW
  obtain ⟨hA, hpre⟩ := lw_pre (RO := ROM) qRokM K hPm hDm hS trivial
  obtain ⟨⟨h1, h2, h3, h4⟩, h5, h6⟩ := hc
  have hts := K.tt
  have hM := Met_fe (hM' D cs adm hm z H.size hz)
  have hrecv : ∃ cell : Cell, H[adm 0]? = some cell ∧ cell.vm.isStatics = false ∧ s.vm.findClass y.cls = some cell.cls := by
    rw [← hcl]
    exact va_recv (q := (RX9, TX9, 35)) K.2.2.2.1 hPm rfl (qpic_get uM_0)
  have hpv : PreV s H y.cls (adm 0) (va_Pc ((Value.ref 0 :: as).map (qv adm)) (qPre UM ROM D cs adm hm H.size)) as := ⟨qPre_blind qRokM, hrecv, fun S hSh hw => ⟨by rw [List.map_cons, has]; rfl, hpre S hSh hw⟩⟩
  have hstk : (F0 m pc la ((as.reverse ++ .ref 2 :: st).map (qv (vl b (adx 0) (adm 0) o)))).stack = as.reverse ++ .ref (adm 0) :: st.map (qv (vl b (adx 0) (adm 0) o)) := by
    show (as.reverse ++ .ref 2 :: st).map (qv (vl b (adx 0) (adm 0) o)) = _
    rw [List.map_append, List.map_reverse, has]
    rfl
  have hroom : 2 * (F0 m pc la ((as.reverse ++ .ref 2 :: st).map (qv (vl b (adx 0) (adm 0) o)))).monitorRoom + ((st.map (qv (vl b (adx 0) (adm 0) o))).map fun v => v.category).sum ≤ 8 := by
    show 2 * 0 + _ ≤ 8
    rw [qv_cats]
    omega
  have hfit : cells + 0 ≤ room_1.cells ∧ slots + 0 ≤ room_1.slots := ⟨Nat.le_trans hcc hCS.1, Nat.le_trans hss hCS.2⟩
  have hrun : ∃ aa, va_Run p l e room_1 s m #[Value.ref b] below meth c H locs cells slots 0 0 (F0 m pc la ((as.reverse ++ .ref 2 :: st).map (qv (vl b (adx 0) (adm 0) o)))) (st.map (qv (vl b (adx 0) (adm 0) o))) (fun st o t => qQ ((E' hm z).1.map (qv adm)) (qB UM D cs adm (va_A (qpic UM cs adm hm) H.size) (E' hm z).2) (va_A (qpic UM cs adm hm) H.size) aa st o t ∧ ∃ L, FrameEnd st o t L 0 0) (va_A (qpic UM cs adm hm) H.size) := by
    rcases h4 with h4 | ⟨host, h4⟩
    · exact ⟨_, va_runV (n := n) ⟨K.1.1, K.1.2.1, K.1.2.2.1, K.1.2.2.2, hts⟩ hM ⟨callB_of n hts (qws_good h1) rfl hrm.1 hrm.2 (hts _ h2) (hts _ h4) h3 hR, hts _ h5, hts _ h6⟩ hpv rfl hn hl.1 hstk hroom hd hfit⟩
    · exact ⟨_, va_runVN (n := n) ⟨K.1.1, K.1.2.1, K.1.2.2.1, K.1.2.2.2, hts⟩ hM ⟨va_cnB n hts (qws_good h1) rfl hrm.1 hrm.2 (K.2.2.1 _ h4) (hts _ h2) h3 hR, hts _ h5, hts _ h6⟩ hpv rfl hn hl.1 hstk hroom hd hfit⟩
  obtain ⟨aa, hr⟩ := hrun
  rw [hE] at hr
  refine q_callF hr hS (fun q _ hq => hA q hq) hA fun t H1 locs1 ht hvm hB hz1 hk1 hsz hS1 => ?_
  obtain ⟨b1, -, b3⟩ := hB
  rw [ht] at b1
  exact kk adx adm o H1 locs1 cells slots la ⟨⟨fr_P hPx d1.symm hk1, hDx⟩, ⟨b1, b3.weaken (fun _ q _ h9 => hA q.1 h9)⟩, ⟨fr_P hPo d3 hk1, hDo⟩, ⟨(fr_dis hPx d1.symm b3).symm, d2, fr_dis hPo d3 b3⟩, hS1, hRO⟩ hl hcc hss
theorem lp_eq (K : LC p l s m meth c b L xs D cs) {v : Int32} {off : Int} {tgt : Nat} (hd : decode code pc = .ok (.if_icmp .eq off, 3)) (ht : (pc : Int) + off = (tgt : Int)) (kk : LPt p l e s m below meth c b D cs xl i tgt st hx hm ov C S) : LPt p l e s m below meth c b D cs xl i pc (.int v :: .int v :: st) hx hm ov C S := by
  intro adx adm o H locs cells slots la hW hl hc hs
  exact lv_icmp_eq K.1.1 K.1.2.1 hd ht (fun _ => kk adx adm o H locs cells slots la hW hl hc hs) (fun z => absurd rfl z)
theorem lp_go {st' : List Value} (kk : LPt p l e s m below meth c b D cs xl i pc' st' hx hm ov C S) (f : ∀ (H : Heap) (locs : List Loc) (cells slots : Nat) (Q : State → Prop) (la : Array Slot) (ad : Nat → Nat), W p l e room_1 s m #[Value.ref b] below meth c H locs cells slots Q (F0 m pc' la (st'.map (qv ad))) → W p l e room_1 s m #[Value.ref b] below meth c H locs cells slots Q (F0 m pc la (st.map (qv ad)))) : LPt p l e s m below meth c b D cs xl i pc st hx hm ov C S :=
  fun adx adm o H locs cells slots la hW hl hc hs => f H locs cells slots _ la _ (kk adx adm o H locs cells slots la hW hl hc hs)
/-- what is known of two locals more may be forgotten -/
theorem lp_drop (kk : LPt p l e s m below meth c b D cs [] i pc st hx hm ov C S) : LPt p l e s m below meth c b D cs xl i pc st hx hm ov C S :=
  fun adx adm o H locs cells slots la hW hl hc hs => kk adx adm o H locs cells slots la hW ⟨hl.1, hl.2.1, fun q hq => hl.2.2 q (by rw [List.append_nil] at hq; exact List.mem_append_left _ hq)⟩ hc hs
end LR
