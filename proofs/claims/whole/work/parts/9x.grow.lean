/-! ===== worlds that grow: constructors ===== -/
def q00 : qH := (fun _ _ => 0, fun _ => 0)
def qrl (n : Nat) (v : Value) : Bool := match v with
  | .ref k => decide (k < n)
  | _ => true
def qfl (n : Nat) (f : qF) : Bool := match f with
  | .inr (some k) => decide (k < n)
  | _ => true
def qsw (n : Nat) (s : qS) : Bool := match s with
  | .inl (_, fs) => fs.all (qfl n)
  | .inr (_, _, rs) => rs.all (fun k => decide (k < n))
def qlw (n : Nat) (ls : List (Option Value)) : Bool := ls.all (fun o => match o with
  | some v => qrl n v
  | none => true)
theorem qrl_ad {ad ad' : Nat → Nat} {n : Nat} (h : ∀ k, k < n → ad' k = ad k) {v : Value} (hv : qrl n v = true) : qv ad' v = qv ad v := by
  cases v with
  | ref k => exact congrArg Value.ref (h k (of_decide_eq_true hv))
  | _ => rfl
theorem qrls_ad {ad ad' : Nat → Nat} {n : Nat} (h : ∀ k, k < n → ad' k = ad k) {st : List Value} (hv : st.all (qrl n) = true) : st.map (qv ad') = st.map (qv ad) := by
  apply List.map_congr_left
  intro v hm
  exact qrl_ad h (List.all_eq_true.mp hv v hm)
theorem qfl_ad {ad ad' : Nat → Nat} {n : Nat} (h : ∀ k, k < n → ad' k = ad k) {row : Nat → Int32} {lg : Int64} {j : Nat} {f : qF} (hf : qfl n f = true) : qfv ad' row lg j f = qfv ad row lg j f := by
  match f, hf with
  | .inl 0, _ => rfl
  | .inl (_ + 1), _ => rfl
  | .inr none, _ => rfl
  | .inr (some k), hf => exact congrArg Value.ref (h k (of_decide_eq_true hf))
theorem qfls_ad {ad ad' : Nat → Nat} {n : Nat} (h : ∀ k, k < n → ad' k = ad k) {row : Nat → Int32} {lg : Int64} {fs : List qF} (hf : fs.all (qfl n) = true) : fs.mapIdx (qfv ad' row lg) = fs.mapIdx (qfv ad row lg) := by
  apply List.ext_getElem?
  intro j
  simp only [List.getElem?_mapIdx]
  cases hj : fs[j]? with
  | none => rfl
  | some f => simp only [Option.map_some, qfl_ad h (List.all_eq_true.mp hf f (List.mem_of_getElem? hj))]
theorem qcell_ad {cs : Nat → ClassId} {ad ad' : Nat → Nat} {n k : Nat} {hh : qH} (h : ∀ k, k < n → ad' k = ad k) {s : qS} (hs : qsw n s = true) : qcell cs ad' hh k s = qcell cs ad hh k s := by
  match s, hs with
  | .inl (ci, fs), hs => simp only [qcell, qfls_ad h hs]
  | .inr (t, L, rs), hs =>
    have e : (fun j : Nat => (rs[j]?).map ad') = fun j : Nat => (rs[j]?).map ad := by
      funext j
      cases hj : rs[j]? with
      | none => rfl
      | some k => exact congrArg some (h k (of_decide_eq_true (List.all_eq_true.mp hs k (List.mem_of_getElem? hj))))
    simp only [qcell, e]
theorem qpic_ad {U : List qS} {cs : Nat → ClassId} {ad ad' : Nat → Nat} {n : Nat} {hh : qH} (h : ∀ k, k < n → ad' k = ad k) (hU : U.all (qsw n) = true) (hn : U.length ≤ n) : qpic U cs ad' hh = qpic U cs ad hh := by
  apply List.ext_getElem?
  intro k
  cases hk : U[k]? with
  | none => simp [qpic, hk]
  | some s => rw [qpic_get hk, qpic_get hk, h k (Nat.lt_of_lt_of_le (List.getElem?_eq_some_iff.mp hk).1 hn), qcell_ad h (List.all_eq_true.mp hU s (List.mem_of_getElem? hk))]
theorem qpic_push {U : List qS} {cs : Nat → ClassId} {ad : Nat → Nat} {hh : qH} {s : qS} : qpic (U ++ [s]) cs ad hh = qpic U cs ad hh ++ [(ad U.length, qcell cs ad hh U.length s)] := by
  simp [qpic, List.mapIdx_append]
theorem qfl_mono {n m : Nat} (h : n ≤ m) {f : qF} (hf : qfl n f = true) : qfl m f = true := by
  match f, hf with
  | .inl _, _ => rfl
  | .inr none, _ => rfl
  | .inr (some k), hf => exact decide_eq_true (Nat.lt_of_lt_of_le (of_decide_eq_true hf) h)
theorem qsw_mono {n m : Nat} (h : n ≤ m) {s : qS} (hs : qsw n s = true) : qsw m s = true := by
  match s, hs with
  | .inl (ci, fs), hs => exact List.all_eq_true.mpr fun f hf => qfl_mono h (List.all_eq_true.mp hs f hf)
  | .inr (t, L, rs), hs => exact List.all_eq_true.mpr fun k hk => decide_eq_true (Nat.lt_of_lt_of_le (of_decide_eq_true (List.all_eq_true.mp hs k hk)) h)
theorem qsws_mono {n m : Nat} (h : n ≤ m) {U : List qS} (hs : U.all (qsw n) = true) : U.all (qsw m) = true := List.all_eq_true.mpr fun s hm => qsw_mono h (List.all_eq_true.mp hs s hm)
theorem qlw_ad {ad ad' : Nat → Nat} {n nL : Nat} {la : Array Slot} {ls : List (Option Value)} (h : ∀ k, k < n → ad' k = ad k) (hl : qlw n ls = true) (hL : qL ad la nL ls) : qL ad' la nL ls := by
  refine ⟨hL.1, hL.2.1, fun i v hi => ?_⟩
  have h1 := List.all_eq_true.mp hl _ (List.mem_of_getElem? hi)
  rw [qrl_ad h h1]
  exact hL.2.2 i v hi
/-- how a constructor ends -/
def qBg (Uf : List qS) (n0 : Nat) (D : va_G) (cs : Nat → ClassId) (ad : Nat → Nat) (A : Nat → Prop) (t : State) : Prop := ∃ ad' : Nat → Nat, (∀ k, k < n0 → ad' k = ad k) ∧ qB Uf D cs ad' A q00 t
theorem qBg_ad {Uf : List qS} {n0 : Nat} {D : va_G} {cs : Nat → ClassId} {ad ad1 : Nat → Nat} {A : Nat → Prop} {t : State} (h : ∀ k, k < n0 → ad1 k = ad k) (b : qBg Uf n0 D cs ad1 A t) : qBg Uf n0 D cs ad A t := by
  obtain ⟨ad', h1, h2⟩ := b
  exact ⟨ad', fun k hk => (h1 k hk).trans (h k hk), h2⟩
def PWg (l : Launch) (R : Room) (cc : ByteArray) (nL : Nat) (own : String) (n0 : Nat) (Uf : List qS) (kc ks pc : Nat) (ls : List (Option Value)) (st : List Value) (U : List qS) : Prop :=
  ∀ (p : Program) (e : Env) (s : State) (m : MethodId) (args : Array Value) (below : List Frame) (meth : Method) (c : Code) (D : va_G) (cs : Nat → ClassId) (ad : Nat → Nat) (A : Nat → Prop) (H : Heap) (locs : List Loc) (cells slots : Nat) (la : Array Slot),
    (meth.name = "<init>" ∧ va_AO "SpoolHall$Script" s) → qC cc nL none own p s m args meth c → qW U ROM D cs ad A q00 s H locs R (cells + kc) (slots + ks) → qL ad la nL ls → (U.all (qsw U.length) = true ∧ n0 ≤ U.length) →
    W p l e R s m args below meth c H locs cells slots (MQ below (qQ none (qBg Uf n0 D cs ad A) A) args s (cells + kc) (slots + ks) A) (F0 m pc la (st.map (qv ad)))
theorem W_mono {p : Program} {l : Launch} {e : Env} {R : Room} {s : State} {m : MethodId} {args : Array Value} {below : List Frame} {meth : Method} {c : Code} {H : Heap} {locs : List Loc} {cells slots : Nat} {Q Q' : State → Prop} {g : JFrame} (h : ∀ t, Q t → Q' t) (w : W p l e R s m args below meth c H locs cells slots Q g) : W p l e R s m args below meth c H locs cells slots Q' g := fun T hT X => by
  obtain ⟨t, a, b⟩ := w T hT X
  exact ⟨t, a, h t b⟩
theorem MQ_mono {below : List Frame} {Qc Qc' : Array Value → State → Outcome → State → Prop} {a : Array Value} {s : State} {mc ms : Nat} {free : Addr → Prop} (h : ∀ o t, Qc a s o t → Qc' a s o t) (t : State) (b : MQ below Qc a s mc ms free t) : MQ below Qc' a s mc ms free t := by
  obtain ⟨o, b1, b2, b3, b4⟩ := b
  exact ⟨o, b1, b2, h o t b3, b4⟩
section QG
variable {l : Launch} {R : Room} {cc : ByteArray} {nL : Nat} {own : String} {n0 : Nat} {Uf : List qS} {kc ks pc pc' : Nat} {ls : List (Option Value)} {st : List Value} {U : List qS}
theorem PWg.go {st' : List Value} (k : PWg l R cc nL own n0 Uf kc ks pc' ls st' U) (f : ∀ (p : Program) (e : Env) (s : State) (m : MethodId) (args : Array Value) (below : List Frame) (meth : Method) (c : Code) (H : Heap) (locs : List Loc) (cells slots : Nat) (Q : State → Prop) (ad : Nat → Nat) (la : Array Slot), qC cc nL none own p s m args meth c → qL ad la nL ls → W p l e R s m args below meth c H locs cells slots Q (F0 m pc' la (st'.map (qv ad))) → W p l e R s m args below meth c H locs cells slots Q (F0 m pc la (st.map (qv ad)))) : PWg l R cc nL own n0 Uf kc ks pc ls st U :=
  fun p e s m args below meth c D cs ad A H locs cells slots la hi hC hW hL hw => f p e s m args below meth c H locs cells slots _ ad la hC hL (k p e s m args below meth c D cs ad A H locs cells slots la hi hC hW hL hw)
theorem g_iconst {n : Int} {v : Int32} (hv : Int32.ofInt n = v) (hd : decode cc pc = .ok (.iconst n, 1)) (hp : pc + 1 = pc') (k : PWg l R cc nL own n0 Uf kc ks pc' ls (.int v :: st) U) : PWg l R cc nL own n0 Uf kc ks pc ls st U := by
  subst hp
  exact PWg.go k fun p e s m args below meth c H locs cells slots Q ad la hC hL w => lv_iconst hC.1 hC.2.1 hd hv w
theorem g_bipush {n : Int} {v : Int32} (hv : (Int8.ofInt n).toInt32 = v) (hd : decode cc pc = .ok (.bipush n, 2)) (hp : pc + 2 = pc') (k : PWg l R cc nL own n0 Uf kc ks pc' ls (.int v :: st) U) : PWg l R cc nL own n0 Uf kc ks pc ls st U := by
  subst hp
  exact PWg.go k fun p e s m args below meth c H locs cells slots Q ad la hC hL w => lv_bipush hC.1 hC.2.1 hd hv w
theorem g_sipush {n : Int} {v : Int32} (hv : (Int16.ofInt n).toInt32 = v) (hd : decode cc pc = .ok (.sipush n, 3)) (hp : pc + 3 = pc') (k : PWg l R cc nL own n0 Uf kc ks pc' ls (.int v :: st) U) : PWg l R cc nL own n0 Uf kc ks pc ls st U := by
  subst hp
  exact PWg.go k fun p e s m args below meth c H locs cells slots Q ad la hC hL w => lv_sipush hC.1 hC.2.1 hd hv w
theorem g_ldc {idx : Nat} {v : Int32} (hw : Cond.constant own idx v ∈ qTT) (hd : decode cc pc = .ok (.ldc idx, 2)) (hp : pc + 2 = pc') (k : PWg l R cc nL own n0 Uf kc ks pc' ls (.int v :: st) U) : PWg l R cc nL own n0 Uf kc ks pc ls st U := by
  subst hp
  exact PWg.go k fun p e s m args below meth c H locs cells slots Q ad la hC hL w => lv_ldc hC.1 hC.2.1 hC.2.2.2.2.1 (hC.2.2.2.2.2.1 _ hw) hd w
theorem g_aload_n {k0 : Fin 4} {x : Nat} (hl : ls[(k0 : Nat)]? = some (some (.ref x))) (hd : decode cc pc = .ok (.aload_n k0, 1)) (hp : pc + 1 = pc') (k : PWg l R cc nL own n0 Uf kc ks pc' ls (.ref x :: st) U) : PWg l R cc nL own n0 Uf kc ks pc ls st U := by
  subst hp
  exact PWg.go k fun p e s m args below meth c H locs cells slots Q ad la hC hL w => lv_aload_n hC.1 hC.2.1 hd rfl (hL.2.2 _ _ hl) w
theorem g_iload_n {k0 : Fin 4} {x : Int32} (hl : ls[(k0 : Nat)]? = some (some (.int x))) (hd : decode cc pc = .ok (.iload_n k0, 1)) (hp : pc + 1 = pc') (k : PWg l R cc nL own n0 Uf kc ks pc' ls (.int x :: st) U) : PWg l R cc nL own n0 Uf kc ks pc ls st U := by
  subst hp
  exact PWg.go k fun p e s m args below meth c H locs cells slots Q ad la hC hL w => lv_iload_n hC.1 hC.2.1 hd rfl (hL.2.2 _ _ hl) w
theorem g_dup {v : Value} (hv : v.category = 1) (hd : decode cc pc = .ok (.dup, 1)) (hp : pc + 1 = pc') (k : PWg l R cc nL own n0 Uf kc ks pc' ls (v :: v :: st) U) : PWg l R cc nL own n0 Uf kc ks pc ls (v :: st) U := by
  subst hp
  exact PWg.go k fun p e s m args below meth c H locs cells slots Q ad la hC hL w => lv_dup hC.1 hC.2.1 hd (by rw [qv_cat]; exact hv) w
theorem g_goto {off : Int} {tgt : Nat} (hd : decode cc pc = .ok (.goto off, 3)) (ht : (pc : Int) + off = (tgt : Int)) (k : PWg l R cc nL own n0 Uf kc ks tgt ls st U) : PWg l R cc nL own n0 Uf kc ks pc ls st U :=
  PWg.go k fun p e s m args below meth c H locs cells slots Q ad la hC hL w => lv_goto hC.1 hC.2.1 hd ht w
theorem g_icmp_ge_t {x y : Int32} {off : Int} {tgt : Nat} (hd : decode cc pc = .ok (.if_icmp .ge off, 3)) (ht : (pc : Int) + off = (tgt : Int)) (hc : y ≤ x) (k : PWg l R cc nL own n0 Uf kc ks tgt ls st U) : PWg l R cc nL own n0 Uf kc ks pc ls (.int y :: .int x :: st) U :=
  PWg.go k fun p e s m args below meth c H locs cells slots Q ad la hC hL w => lv_icmp_ge hC.1 hC.2.1 hd ht (fun _ => w) (fun z => absurd hc z)
theorem g_icmp_ge_f {x y : Int32} {off : Int} {tgt : Nat} (hd : decode cc pc = .ok (.if_icmp .ge off, 3)) (ht : (pc : Int) + off = (tgt : Int)) (hp : pc + 3 = pc') (hc : ¬ y ≤ x) (k : PWg l R cc nL own n0 Uf kc ks pc' ls st U) : PWg l R cc nL own n0 Uf kc ks pc ls (.int y :: .int x :: st) U := by
  subst hp
  exact PWg.go k fun p e s m args below meth c H locs cells slots Q ad la hC hL w => lv_icmp_ge hC.1 hC.2.1 hd ht (fun z => absurd z hc) (fun _ => w)
theorem g_istore_n {k0 : Fin 4} {x : Int32} (hd : decode cc pc = .ok (.istore_n k0, 1)) (hp : pc + 1 = pc') (hi : (k0 : Nat) < nL) (h1 : q1 ls k0) (k : PWg l R cc nL own n0 Uf kc ks pc' (ls.set k0 (some (.int x))) st U) : PWg l R cc nL own n0 Uf kc ks pc ls (.int x :: st) U := by
  subst hp
  intro p e s m args below meth c D cs ad A H locs cells slots la hi0 hC hW hL hw
  obtain ⟨la', e', hL'⟩ := qL_store (v := .int x) hL hi rfl h1
  intro T hT X
  obtain ⟨t, a, b⟩ := k p e s m args below meth c D cs ad A H locs cells slots la' hi0 hC hW hL' hw T hT X
  refine ⟨t, ?_, b⟩
  have e'' : storeLocals la (k0 : Nat) (.int x) = some la' := e'
  have hx := hC.1
  have hb := hC.2.1
  jvm_step X.here [X.here.top, ↓top_set X.here.top, hx, hb, hd, qv, e'']
  exact a
theorem g_iinc {i : Nat} {n : Int} {x v : Int32} (hv : Int32.ofInt n = v) (hd : decode cc pc = .ok (.iinc i n, 3)) (hp : pc + 3 = pc') (hl : ls[i]? = some (some (.int x))) (hi : i < nL) (h1 : q1 ls i) (k : PWg l R cc nL own n0 Uf kc ks pc' (ls.set i (some (.int (x + v)))) st U) : PWg l R cc nL own n0 Uf kc ks pc ls st U := by
  subst hp
  subst hv
  intro p e s m args below meth c D cs ad A H locs cells slots la hi0 hC hW hL hw
  obtain ⟨la', e', hL'⟩ := qL_store (v := .int (x + Int32.ofInt n)) hL hi rfl h1
  intro T hT X
  obtain ⟨t, a, b⟩ := k p e s m args below meth c D cs ad A H locs cells slots la' hi0 hC hW hL' hw T hT X
  refine ⟨t, ?_, b⟩
  have e'' : storeLocals la i (.int (x + Int32.ofInt n)) = some la' := e'
  have hg : la[i]? = some (.val (.int x)) := hL.2.2 i _ hl
  have hx := hC.1
  have hb := hC.2.1
  jvm_step X.here [X.here.top, ↓top_set X.here.top, hx, hb, hd, hg, e'']
  exact a
theorem g_getr {idx ci k a b : Nat} {fs : List qF} (hg : qGet own idx ci k) (hs : U[a]? = some (.inl (ci, fs))) (hf : fs[k]? = some (.inr (some b))) (hd : decode cc pc = .ok (.getfield idx, 3)) (hp : pc + 3 = pc') (kk : PWg l R cc nL own n0 Uf kc ks pc' ls (.ref b :: st) U) : PWg l R cc nL own n0 Uf kc ks pc ls (.ref a :: st) U := by
  subst hp
  intro p e s m args below meth c D cs ad A H locs cells slots la hi hC hW hL hw
  have w := kk p e s m args below meth c D cs ad A H locs cells slots la hi hC hW hL hw
  obtain ⟨C, T, N, hc, hk, hin, hlk⟩ := hg
  have he := qpic_get (cs := cs) (ad := ad) (h := q00) hs
  have hv : (fs.mapIdx (qfv ad (q00.1 a) (q00.2 a)))[k]? = some (.ref (ad b)) := by simp [hf, qfv]
  rcases hlk with hlk | ⟨host, hlk⟩
  · exact va_get hC.1 hC.2.1 hC.2.2.2.2.2.1 hin hC.2.2.2.2.1 hW.2.2.1 hW.1 a he hc k hk (hC.2.2.2.2.2.1 _ hlk) (fun _ h9 => h9) hv hd w
  · exact va_getN hC.1 hC.2.1 hC.2.2.2.2.2.1 hin hC.2.2.2.2.1 hW.2.2.1 hW.1 a he hc k hk (va_Nw.use rfl (hC.2.2.2.2.2.2.1 _ hlk)) (fun _ h9 => h9) hv hd w
def qObj (own : String) (idx : Nat) : Prop := Cond.methodLink own idx Lib.objectInit ∈ qTT ∧ Cond.instanceMethod Lib.objectInit ∈ qTT ∧ Cond.code Lib.objectInit ⟨#[0xb1]⟩ 1 none ∈ qTT
theorem g_objInit {idx b : Nat} (hg : qObj own idx) (hR : 1 ≤ R.frames ∧ (st.map fun v => v.category).sum + 12 ≤ R.locals) (hd : decode cc pc = .ok (.invokespecial idx, 3)) (hp : pc + 3 = pc') (kk : PWg l R cc nL own n0 Uf kc ks pc' ls st U) : PWg l R cc nL own n0 Uf kc ks pc ls (.ref b :: st) U := by
  subst hp
  exact PWg.go kk fun p e s m args below meth c H locs cells slots Q ad la hC hL w => W.objInit hC.1 hC.2.1 hC.2.2.2.2.1 (hC.2.2.2.2.2.1 _ hg.1) (hC.2.2.2.2.2.1 _ hg.2.1) (hC.2.2.2.2.2.1 _ hg.2.2) (g := F0 m pc la ((Value.ref b :: st).map (qv ad))) rfl (hL.1.trans hC.2.2.1.symm) rfl hd hR.1 (by show 2 * 0 + _ + 12 ≤ _; rw [qv_cats]; omega) w
/-- a reference put into a field of the object under construction -/
def qPutG (own : String) (idx ci k : Nat) : Prop := ∃ (C : String) (T : u_T) (N : Nat) (ty0 : Nat → FieldType), vwCl[ci]? = some (C, T, N) ∧ k < N ∧ (∀ w ∈ u_ws C T N, w ∈ qTT) ∧ (∀ k, k < N → parseFieldDescriptor (T k).2.2.1 = some (ty0 k)) ∧ (∀ a, a < N → ∀ b, b < N → a ≠ b → (T a).2.1 ≠ (T b).2.1) ∧ (T k).1 = own ∧ (∀ q : Nat, narrow (ty0 k) (.ref q) = .ref q ∧ fits (ty0 k) (.ref q) = true) ∧ Cond.fieldLink own idx (T k).1 (T k).2.1 (T k).2.2.1 ∈ qTT
theorem qset_at {V t : List qS} {x y : qS} {cs : Nat → ClassId} {ad : Nat → Nat} {hh : qH} : (qpic (V ++ x :: t) cs ad hh).set V.length (ad V.length, qcell cs ad hh V.length y) = qpic (V ++ y :: t) cs ad hh := by
  apply List.ext_getElem?
  intro k
  have hl : V.length < (qpic (V ++ x :: t) cs ad hh).length := by simp [qpic]
  by_cases hk : k = V.length
  · subst hk
    rw [List.getElem?_set_self hl, qpic_get (s := y) (by simp)]
  · rw [List.getElem?_set_ne (Ne.symm hk)]
    have e : (V ++ x :: t)[k]? = (V ++ y :: t)[k]? := by
      rcases Nat.lt_or_gt_of_ne hk with h | h
      · rw [List.getElem?_append_left h, List.getElem?_append_left h]
      · rw [List.getElem?_append_right (Nat.le_of_lt h), List.getElem?_append_right (Nat.le_of_lt h)]
        obtain ⟨i, hi⟩ : ∃ i, k - V.length = i + 1 := ⟨k - V.length - 1, by omega⟩
        rw [hi, List.getElem?_cons_succ, List.getElem?_cons_succ]
    simp only [qpic, List.getElem?_mapIdx, e]
theorem qwf_at {V t : List qS} {x y : qS} {n : Nat} (h : (V ++ x :: t).all (qsw n) = true) (hy : qsw n y = true) : (V ++ y :: t).all (qsw n) = true := by
  simp only [List.all_append, List.all_cons, Bool.and_eq_true] at h ⊢
  exact ⟨h.1, hy, h.2.2⟩
theorem qwf_x {V t : List qS} {x : qS} {n : Nat} (h : (V ++ x :: t).all (qsw n) = true) : qsw n x = true := by
  simp only [List.all_append, List.all_cons, Bool.and_eq_true] at h
  exact h.2.1
theorem g_putr {V t : List qS} {ci k idx j : Nat} {fs : List qF} (hg : qPutG own idx ci k) (hf : fs[k]? = some (.inr none)) (hj : j < V.length + (t.length + 1)) (hd : decode cc pc = .ok (.putfield idx, 3)) (hp : pc + 3 = pc') (kk : PWg l R cc nL own n0 Uf kc ks pc' ls st (V ++ .inl (ci, fs.set k (.inr (some j))) :: t)) : PWg l R cc nL own n0 Uf kc ks pc ls (.ref j :: .ref V.length :: st) (V ++ .inl (ci, fs) :: t) := by
  subst hp
  intro p e s m args below meth c D cs ad A H locs cells slots la hi hC hW hL hw
  obtain ⟨C, T, N, ty0, hc, hk, hin, hty, hnm, hdecl, hnf, hlk⟩ := hg
  have he := qpic_get (cs := cs) (ad := ad) (h := q00) (U := V ++ .inl (ci, fs) :: t) (k := V.length) (s := .inl (ci, fs)) (by simp)
  have hkl : k < fs.length := (List.getElem?_eq_some_iff.mp hf).1
  have hlen : k < (fs.mapIdx (qfv ad (q00.1 V.length) (q00.2 V.length))).length := by simpa using hkl
  have hset : (qpic (V ++ .inl (ci, fs) :: t) cs ad q00).set V.length (ad V.length, .inr (ci, (fs.mapIdx (qfv ad (q00.1 V.length) (q00.2 V.length))).set k (.ref (ad j)))) = qpic (V ++ .inl (ci, fs.set k (.inr (some j))) :: t) cs ad q00 := by
    have ef : (fs.mapIdx (qfv ad (q00.1 V.length) (q00.2 V.length))).set k (.ref (ad j)) = (fs.set k (.inr (some j))).mapIdx (qfv ad (q00.1 V.length) (q00.2 V.length)) := by
      apply List.ext_getElem?
      intro i
      by_cases hik : i = k
      · subst hik
        rw [List.getElem?_set_self hlen]
        simp [hkl, qfv]
      · rw [List.getElem?_set_ne (Ne.symm hik)]
        simp only [List.getElem?_mapIdx, List.getElem?_set_ne (Ne.symm hik)]
    rw [ef]
    exact qset_at (y := .inl (ci, fs.set k (.inr (some j))))
  have hwf : (V ++ .inl (ci, fs.set k (.inr (some j))) :: t).all (qsw (V ++ .inl (ci, fs.set k (.inr (some j))) :: t).length) = true := by
    have h1 := hw.1
    simp only [List.length_append, List.length_cons] at h1 ⊢
    refine qwf_at h1 (List.all_eq_true.mpr fun f hm => ?_)
    rcases List.mem_or_eq_of_mem_set hm with hm | rfl
    · exact List.all_eq_true.mp (qwf_x h1) f hm
    · exact decide_eq_true hj
  have fin : ∀ (H1 : Heap) (locs1 : List Loc), va_P D vwCl ((qpic (V ++ .inl (ci, fs) :: t) cs ad q00).set V.length (ad V.length, .inr (ci, (fs.mapIdx (qfv ad (q00.1 V.length) (q00.2 V.length))).set k (.ref (ad j))))) H1 → va_D A ((qpic (V ++ .inl (ci, fs) :: t) cs ad q00).set V.length (ad V.length, .inr (ci, (fs.mapIdx (qfv ad (q00.1 V.length) (q00.2 V.length))).set k (.ref (ad j))))) → va_S A s.heap H1 locs1 → W p l e R s m args below meth c H1 locs1 cells slots (MQ below (qQ none (qBg Uf n0 D cs ad A) A) args s (cells + kc) (slots + ks) A) (F0 m (pc + 3) la (st.map (qv ad))) := by
    intro H1 locs1 h1 h2 h3
    rw [hset] at h1 h2
    exact kk p e s m args below meth c D cs ad A H1 locs1 cells slots la hi hC ⟨h1, h2, hW.2.2.1, h3, hW.2.2.2.2⟩ hL ⟨hwf, by have := hw.2; simp only [List.length_append, List.length_cons] at this ⊢; exact this⟩
  cases hfin : (T k).2.2.2 with
  | false => exact va_put hC.1 hC.2.1 hC.2.2.2.2.2.1 hin ty0 hty hnm hC.2.2.2.2.1 hW.2.2.1 hW.1 hW.2.1 hW.2.2.2.1 V.length he hc k hk (hC.2.2.2.2.2.1 _ hlk) (fun _ h9 => h9) hfin (hty k hk) (hnf _).1 (hnf _).2 hlen hd fin
  | true => exact va_putF hC.1 hC.2.1 hC.2.2.2.2.2.1 hin ty0 hty hnm hC.2.2.2.2.1 hW.2.2.1 hW.1 hW.2.1 hW.2.2.2.1 V.length he hc k hk (hC.2.2.2.2.2.1 _ hlk) (fun _ h9 => h9) hfin hi.1 hdecl (hty k hk) (hnf _).1 (hnf _).2 hlen hd fin
/-- one cell more -/
theorem g_grow {s0 : qS} {c1 s1 : Nat} {pc0 : Nat} (h0 : qsw (U.length + 1) s0 = true) (hls : qlw U.length ls = true) (hst : st.all (qrl U.length) = true) (k : PWg l R cc nL own n0 Uf kc ks pc0 ls (.ref U.length :: st) (U ++ [s0]))
    {p : Program} {e : Env} {s : State} {m : MethodId} {args : Array Value} {below : List Frame} {meth : Method} {c : Code} {D : va_G} {cs : Nat → ClassId} {ad : Nat → Nat} {A : Nat → Prop} {H H1 : Heap} {locs : List Loc} {cells slots q : Nat} {la : Array Slot} {e0 : va_E}
    (hi : meth.name = "<init>" ∧ va_AO "SpoolHall$Script" s) (hC : qC cc nL none own p s m args meth c) (hW : qW U ROM D cs ad A q00 s H locs R (cells + (kc + c1)) (slots + (ks + s1))) (hL : qL ad la nL ls) (hw : U.all (qsw U.length) = true ∧ n0 ≤ U.length)
    (he : ∀ ad' : Nat → Nat, (∀ k, k < U.length → ad' k = ad k) → qcell cs ad' q00 U.length s0 = e0) (hP : va_P D vwCl (qpic U cs ad q00 ++ [(q, e0)]) H1) (hD : va_D A (qpic U cs ad q00 ++ [(q, e0)])) (hS : va_S A s.heap H1 locs) :
    W p l e R s m args below meth c H1 locs (cells + c1) (slots + s1) (MQ below (qQ none (qBg Uf n0 D cs ad A) A) args s (cells + (kc + c1)) (slots + (ks + s1)) A) (F0 m pc0 la (.ref q :: st.map (qv ad))) := by
  obtain ⟨ad', hq, hag⟩ : ∃ ad' : Nat → Nat, ad' U.length = q ∧ ∀ k, k < U.length → ad' k = ad k := ⟨fun k => if k = U.length then q else ad k, if_pos rfl, fun k hk => if_neg (Nat.ne_of_lt hk)⟩
  have hpic : qpic U cs ad q00 ++ [(q, e0)] = qpic (U ++ [s0]) cs ad' q00 := by
    rw [qpic_push, qpic_ad hag hw.1 (Nat.le_refl _), he ad' hag, hq]
  rw [hpic] at hP hD
  have hwf : (U ++ [s0]).all (qsw (U ++ [s0]).length) = true := by
    rw [List.length_append, List.length_singleton, List.all_append, Bool.and_eq_true]
    exact ⟨qsws_mono (Nat.le_succ _) hw.1, by simpa using h0⟩
  have w := k p e s m args below meth c D cs ad' A H1 locs (cells + c1) (slots + s1) la hi hC ⟨hP, hD, hW.2.2.1, hS, hW.2.2.2.2.1, trivial, by have := hW.2.2.2.2.2.2.1; omega, by have := hW.2.2.2.2.2.2.2; omega⟩ (qlw_ad hag hls hL) ⟨hwf, by rw [List.length_append]; have := hw.2; omega⟩
  rw [show cells + c1 + kc = cells + (kc + c1) by omega, show slots + s1 + ks = slots + (ks + s1) by omega] at w
  have w2 := W_mono (MQ_mono (Qc' := qQ none (qBg Uf n0 D cs ad A) A) fun o t b => ⟨⟨b.1.1, qBg_ad (fun k hk => hag k (Nat.lt_of_lt_of_le hk hw.2)) b.1.2⟩, b.2⟩) w
  rw [List.map_cons, qrls_ad hag hst, show qv ad' (.ref U.length) = .ref q from congrArg Value.ref hq] at w2
  exact w2
theorem g_newa {N : Nat} {v : Int32} (harr : Cond.arrayClass .int ∈ qTT) (hv : ¬ v < 0) (hN : v.toNatClampNeg = N) (hB : N * 4 ≤ 536870912) (hls : qlw U.length ls = true) (hst : st.all (qrl U.length) = true) (hd : decode cc pc = .ok (.newarray .int, 2)) (hp : pc + 2 = pc') (k : PWg l R cc nL own n0 Uf kc ks pc' ls (.ref U.length :: st) (U ++ [.inr (0, .inl N, [])])) : PWg l R cc nL own n0 Uf (kc + 1) (ks + N) pc ls (.int v :: st) U := by
  subst hp
  intro p e s m args below meth c D cs ad A H locs cells slots la hi hC hW hL hw
  refine va_newa (atype := .int) hC.1 hC.2.1 (hC.2.2.2.2.2.1 _ harr) rfl hW.2.2.1 hW.1 hW.2.1 hW.2.2.2.1 hW.2.2.2.2.1 (n := v) (N' := N) (a0 := (N, .inl fun _ => 0)) (fun _ => rfl) hv hN hB (by have := hW.2.2.2.2.2.2.1; omega) (by have := hW.2.2.2.2.2.2.2; omega) hd fun q cA H1 hK1 hP1 hD1 hS1 => ?_
  have e1 := (hW.2.2.1.2 0 (cs 0, .int) rfl).2
  have e2 := (hK1.2 3 (cA, .int) rfl).2
  have hcA : cA = cs 0 := Option.some.inj (Eq.trans (Eq.symm e2) e1)
  subst hcA
  exact g_grow rfl hls hst k hi hC hW hL hw (fun _ _ => rfl) hP1 hD1 hS1
theorem g_newz {N : Nat} {v : Int32} (harr : Cond.arrayClass .boolean ∈ qTT) (hv : ¬ v < 0) (hN : v.toNatClampNeg = N) (hB : N * 1 ≤ 536870912) (hls : qlw U.length ls = true) (hst : st.all (qrl U.length) = true) (hd : decode cc pc = .ok (.newarray .boolean, 2)) (hp : pc + 2 = pc') (k : PWg l R cc nL own n0 Uf kc ks pc' ls (.ref U.length :: st) (U ++ [.inr (1, .inl N, [])])) : PWg l R cc nL own n0 Uf (kc + 1) (ks + N) pc ls (.int v :: st) U := by
  subst hp
  intro p e s m args below meth c D cs ad A H locs cells slots la hi hC hW hL hw
  refine va_newa (atype := .boolean) hC.1 hC.2.1 (hC.2.2.2.2.2.1 _ harr) rfl hW.2.2.1 hW.1 hW.2.1 hW.2.2.2.1 hW.2.2.2.2.1 (n := v) (N' := N) (a0 := (N, .inl fun _ => 0)) (fun _ => rfl) hv hN hB (by have := hW.2.2.2.2.2.2.1; omega) (by have := hW.2.2.2.2.2.2.2; omega) hd fun q cA H1 hK1 hP1 hD1 hS1 => ?_
  have e1 := (hW.2.2.1.2 1 (cs 1, .boolean) rfl).2
  have e2 := (hK1.2 3 (cA, .boolean) rfl).2
  have hcA : cA = cs 1 := Option.some.inj (Eq.trans (Eq.symm e2) e1)
  subst hcA
  exact g_grow rfl hls hst k hi hC hW hL hw (fun _ _ => rfl) hP1 hD1 hS1
theorem g_newq {N idx : Nat} {v : Int32} (hcl : Cond.classLink own idx "SpoolHall$Script" ∈ qTT) (hv : ¬ v < 0) (hN : v.toNatClampNeg = N) (hB : N * 4 ≤ 536870912) (hls : qlw U.length ls = true) (hst : st.all (qrl U.length) = true) (hd : decode cc pc = .ok (.anewarray idx, 3)) (hp : pc + 3 = pc') (k : PWg l R cc nL own n0 Uf kc ks pc' ls (.ref U.length :: st) (U ++ [.inr (2, .inl N, [])])) : PWg l R cc nL own n0 Uf (kc + 1) (ks + N) pc ls (.int v :: st) U := by
  subst hp
  intro p e s m args below meth c D cs ad A H locs cells slots la hi hC hW hL hw
  refine va_newq hC.1 hC.2.1 hC.2.2.2.2.1 (hC.2.2.2.2.2.1 _ hcl) hi.2 hW.2.2.1 hW.1 hW.2.1 hW.2.2.2.1 hW.2.2.2.2.1 (n := v) (N' := N) hv hN hB (by have := hW.2.2.2.2.2.2.1; omega) (by have := hW.2.2.2.2.2.2.2; omega) hd fun q cA H1 hK1 hP1 hD1 hS1 => ?_
  obtain ⟨-, -, -, -, -, e1⟩ := (hW.2.2.1.2 2 (cs 2, .object "SpoolHall$Script") rfl).2
  obtain ⟨-, -, -, -, -, e2⟩ := (hK1.2 3 (cA, .object "SpoolHall$Script") rfl).2
  have hcA : cA = cs 2 := Option.some.inj (Eq.trans (Eq.symm e2) e1)
  subst hcA
  exact g_grow rfl hls hst k hi hC hW hL hw (fun _ _ => rfl) hP1 hD1 hS1
def qNewG (own : String) (idx ci : Nat) (fs : List qF) : Prop := ∃ (C : String) (T : u_T) (ty : Nat → FieldType), vwCl[ci]? = some (C, T, fs.length) ∧ (∀ w ∈ u_ws C T fs.length, w ∈ qTT) ∧ (∀ k, k < fs.length → parseFieldDescriptor (T k).2.2.1 = some (ty k)) ∧ Cond.classLink own idx C ∈ qTT ∧ Cond.instantiable C fs.length ∈ qTT ∧ Cond.initialized C ∈ qTT ∧ (∀ j, j < fs.length → defaultValue (ty j) = vp_V (fs.mapIdx (qfv (fun _ => 0) (fun _ => 0) 0)) j) ∧ fs.all (qfl 0) = true
theorem g_new {idx ci : Nat} {fs : List qF} (hg : qNewG own idx ci fs) (hls : qlw U.length ls = true) (hst : st.all (qrl U.length) = true) (hd : decode cc pc = .ok (.new idx, 3)) (hp : pc + 3 = pc') (k : PWg l R cc nL own n0 Uf kc ks pc' ls (.ref U.length :: st) (U ++ [.inl (ci, fs)])) : PWg l R cc nL own n0 Uf (kc + 1) (ks + fs.length) pc ls st U := by
  subst hp
  intro p e s m args below meth c D cs ad A H locs cells slots la hi hC hW hL hw
  obtain ⟨C, T, ty, hc, hin, hty, h1, h2, h3, h4, h5⟩ := hg
  have hts := hC.2.2.2.2.2.1
  refine va_new hC.1 hC.2.1 hts hin ty hty hC.2.2.2.2.1 (hts _ h1) (hts _ h2) (hts _ h3) hW.2.2.1 hW.1 hW.2.1 hW.2.2.2.1 hW.2.2.2.2.1 hc h4 (by have := hW.2.2.2.2.2.2.1; omega) (by have := hW.2.2.2.2.2.2.2; omega) hd fun q H1 hP1 hD1 hS1 => ?_
  refine g_grow (s0 := .inl (ci, fs)) (List.all_eq_true.mpr fun f hf => qfl_mono (m := U.length + 1) (Nat.zero_le _) (List.all_eq_true.mp h5 f hf)) hls hst k hi hC hW hL hw (fun ad' _ => ?_) hP1 hD1 hS1
  show Sum.inr (ci, fs.mapIdx (qfv ad' (fun _ => 0) 0)) = Sum.inr (ci, fs.mapIdx (qfv (fun _ => 0) (fun _ => 0) 0))
  rw [qfls_ad (n := 0) (fun k hk => absurd hk (Nat.not_lt_zero k)) h5]
theorem g_aast {V t : List qS} {n j : Nat} {rs : List Nat} {fs : List qF} {i : Int32} (hi0 : ¬ i < 0) (hi1 : i.toNatClampNeg = rs.length) (hin : rs.length < n) (hj : (V ++ .inr (2, .inl n, rs) :: t)[j]? = some (.inl (6, fs))) (hd : decode cc pc = .ok (.aastore, 1)) (hp : pc + 1 = pc') (kk : PWg l R cc nL own n0 Uf kc ks pc' ls st (V ++ .inr (2, .inl n, rs ++ [j]) :: t)) : PWg l R cc nL own n0 Uf kc ks pc ls (.ref j :: .int i :: .ref V.length :: st) (V ++ .inr (2, .inl n, rs) :: t) := by
  subst hp
  intro p e s m args below meth c D cs ad A H locs cells slots la hi hC hW hL hw
  have ha := qpic_get (cs := cs) (ad := ad) (h := q00) (U := V ++ .inr (2, .inl n, rs) :: t) (k := V.length) (s := .inr (2, .inl n, rs)) (by simp)
  have hv := qpic_get (cs := cs) (ad := ad) (h := q00) hj
  refine va_astq hC.1 hC.2.1 hW.2.2.1 hW.1 hW.2.1 hW.2.2.2.1 V.length 2 j 6 (r := (RX6, TX6, 4)) ha rfl hv rfl (i := i) (fun z => by rcases z with z | z; exact hi0 z; rw [hi1] at z; exact absurd hin (Nat.not_lt.mpr z)) hd fun H1 locs1 h1 h2 h3 => ?_
  have hup : (va_up (fun x => (rs[x]?).map ad) i.toNatClampNeg (some (ad j))) = fun x => ((rs ++ [j])[x]?).map ad := by
    funext x
    rw [hi1]
    by_cases hx : x = rs.length
    · subst hx
      simp [va_up]
    · rcases Nat.lt_or_gt_of_ne hx with h | h
      · simp [va_up, hx, List.getElem?_append_left h]
      · have e1 : rs[x]? = none := List.getElem?_eq_none (Nat.le_of_lt h)
        have e2 : (rs ++ [j])[x]? = none := List.getElem?_eq_none (by simp; omega)
        simp only [va_up, if_neg hx, e1, e2]
  have hset : (qpic (V ++ .inr (2, .inl n, rs) :: t) cs ad q00).set V.length (ad V.length, .inl (cs 2, n, .inr (.inr (.inr (.inr (va_up (fun x => (rs[x]?).map ad) i.toNatClampNeg (some (ad j)))))))) = qpic (V ++ .inr (2, .inl n, rs ++ [j]) :: t) cs ad q00 := by
    rw [hup]
    exact qset_at (y := .inr (2, .inl n, rs ++ [j]))
  have h1' : va_P D vwCl (qpic (V ++ .inr (2, .inl n, rs ++ [j]) :: t) cs ad q00) H1 := by rw [← hset]; exact h1
  have h2' : va_D A (qpic (V ++ .inr (2, .inl n, rs ++ [j]) :: t) cs ad q00) := by rw [← hset]; exact h2
  have hjl : j < (V ++ .inr (2, .inl n, rs) :: t).length := (List.getElem?_eq_some_iff.mp hj).1
  refine kk p e s m args below meth c D cs ad A H1 locs1 cells slots la hi hC ⟨h1', h2', hW.2.2.1, h3, hW.2.2.2.2⟩ hL ⟨?_, by have := hw.2; simp only [List.length_append, List.length_cons] at this ⊢; exact this⟩
  have g1 := hw.1
  simp only [List.length_append, List.length_cons] at g1 hjl ⊢
  refine qwf_at g1 ?_
  have g2 := qwf_x g1
  simp only [qsw, List.all_append, List.all_cons, List.all_nil, Bool.and_true, Bool.and_eq_true, decide_eq_true_eq] at g2 ⊢
  exact ⟨g2, hjl⟩
theorem g_vret (hd : decode cc pc = .ok (.return_, 1)) : PWg l R cc nL own n0 U 0 0 pc ls [] U := by
  intro p e s m args below meth c D cs ad A H locs cells slots la hi hC hW hL hw
  have hlocks : meth.locks = false := hC.2.2.2.2.2.2.2
  exact W.vret hC.1 hC.2.1 (by rw [hC.2.2.2.1]) (fun t ht hw => ⟨⟨rfl, ad, fun _ _ => rfl, by rw [ht]; exact hW.1, va_K.moved hw.alike hW.2.2.1, hW.2.1⟩, hW.2.2.2.1.F ht⟩) hW.2.2.2.1.2.2 hd
/-- a constructor's contract -/
def qPreG (U : List qS) (D : va_G) (cs : Nat → ClassId) (ad : Nat → Nat) (sz : Nat) (S : State) : Prop := qPre U ROM D cs ad q00 sz S ∧ va_AO "SpoolHall$Script" S
def qMetG (l : Launch) (y : MethodName) (ws : List Cond) (rm : Room) (av : List Value) (U Uf : List qS) (kc ks : Nat) : Prop :=
  U.all (qsw U.length) = true → ∀ (D : va_G) (cs : Nat → ClassId) (ad : Nat → Nat) (sz : Nat), Met l y ws rm (va_Pc (av.map (qv ad)) (qPreG U D cs ad sz)) (qQ none (qBg Uf U.length D cs ad (va_A (qpic U cs ad q00) sz)) (va_A (qpic U cs ad q00) sz)) kc ks (va_A (qpic U cs ad q00) sz)
theorem g_met {y : MethodName} {av : List Value} (n1 : Nat) (hy : plainName y.cls = true) (hown : y.cls = own) (hnm : y.name = "<init>") (hn : (qent av).length ≤ nL) (hls : qent av ++ List.replicate n1 none = ls) (hR : kc ≤ R.cells ∧ ks ≤ R.slots) (k : PWg l R cc nL own U.length Uf kc ks 0 ls [] U) : qMetG l y (qws y cc nL none) R av U Uf kc ks := by
  intro hU D cs ad sz
  refine Met.ofW (cc := cc) (maxL := nL) (ret := none) hy rfl ?_
  intro p e s m args below meth c s₁ B hml hv
  obtain ⟨rfl, ⟨hsz, hP, hK, hD, hN, hRo⟩, hao⟩ := hv
  subst hsz
  have hts := atoms_spec (ws := qws y cc nL none) B.pre
  have hC : qC cc nL none own p s m ((av.map (qv ad)).toArray) meth c := ⟨B.exec, B.bytes, hml, B.returns, by rw [← hown]; exact findClass_of_methodNamed B.named, fun w hw => hts w (List.mem_cons_of_mem _ hw), hN, B.notSynchronized⟩
  have hl := lv_entry (av.map (qv ad)) (n := nL) (by rw [qsl_len]; exact hn)
  rw [lg_entry_eq]
  have hin : meth.name = "<init>" := by rw [← hnm]; exact (name_of_methodNamed B.named B.method).1
  have w := k p e s m _ below meth c D cs ad (va_A (qpic U cs ad q00) s.heap.size) s.heap [] 0 0 _ ⟨hin, hao⟩ hC ⟨hP, hD.self, hK, va_S.rf, fun q hq => Or.inr hq, hRo, by rw [Nat.zero_add]; exact hR.1, by rw [Nat.zero_add]; exact hR.2⟩ ⟨hl.1, hl.2.1, fun i v hi => by
    rw [← hls] at hi
    have := qent_at ad n1 av 0 i v hi
    rw [Nat.zero_add] at this
    exact hl.2.2 (i, qv ad v) this⟩ ⟨hU, Nat.le_refl _⟩
  rw [Nat.zero_add, Nat.zero_add] at w
  exact w
theorem qPreG_blind {D : va_G} {cs : Nat → ClassId} {ad : Nat → Nat} {av : List Value} {sz : Nat} : FrameBlind (va_Pc av (qPreG U D cs ad sz)) := by
  intro a S g mk hp
  obtain ⟨q0, ⟨q1, q2, q3, q4, q5, q6⟩, q7⟩ := hp
  exact ⟨q0, ⟨q1, q2, va_K.moved (u := S) (U := S.calling g mk a) (Vm.Alike.refl S.vm) q3, q4, qNT_same (s := S) (U := S.calling g mk a) rfl q5, trivial⟩, va_AO.moved (u := S) (U := S.calling g mk a) (Vm.Alike.refl S.vm) q7⟩
def qCalI (own : String) (idx : Nat) (y : MethodName) (cy : ByteArray) (nLy n : Nat) : Prop := qCal own idx y cy nLy none n ∧ y.name = "<init>" ∧ Cond.instanceMethod y ∈ qTT
theorem g_callI {y : MethodName} {cy : ByteArray} {nLy n idx b c1 s1 : Nat} {rm : Room} (as : List Value) {U1 : List qS} (hm : qMetG l y (qws y cy nLy none) rm (.ref b :: as) U U1 c1 s1) (hc : qCalI own idx y cy nLy n) (hn : as.length = n) (hrm : rm.cells = c1 ∧ rm.slots = s1) (hR : rm.frames + 1 ≤ R.frames ∧ 8 + (nLy + 11) + rm.locals ≤ R.locals) (hcat : (st.map fun v => v.category).sum ≤ 8) (hls : qlw U.length ls = true) (hst : st.all (qrl U.length) = true) (hwf : U1.all (qsw U1.length) = true) (hlen : U.length ≤ U1.length) (hd : decode cc pc = .ok (.invokespecial idx, 3)) (hp : pc + 3 = pc')
    (k : PWg l R cc nL own n0 Uf kc ks pc' ls st U1) : PWg l R cc nL own n0 Uf (kc + c1) (ks + s1) pc ls (as.reverse ++ .ref b :: st) U := by
  subst hp
  intro p e s m args below meth c D cs ad A H locs cells slots la hi hC hW hL hw
  obtain ⟨⟨h1, h2, h3, h4⟩, h5, h6⟩ := hc
  have hts := hC.2.2.2.2.2.1
  have hM := hm hw.1 D cs ad H.size
  have hpre : PreS s H (va_Pc ((Value.ref b :: as).map (qv ad)) (qPreG U D cs ad H.size)) (.ref (ad b) :: as.map (qv ad)) := ⟨qPreG_blind, fun S hS hw' => ⟨rfl, qPre_of qRokM hC.2.2.2.2.2.2.1 hW S hS hw', va_AO.moved hw'.alike hi.2⟩⟩
  have hstk : (F0 m pc la ((as.reverse ++ .ref b :: st).map (qv ad))).stack = (as.map (qv ad)).reverse ++ .ref (ad b) :: st.map (qv ad) := by
    show (as.reverse ++ .ref b :: st).map (qv ad) = _
    simp [qv]
  have hroom : 2 * (F0 m pc la ((as.reverse ++ .ref b :: st).map (qv ad))).monitorRoom + ((st.map (qv ad)).map fun v => v.category).sum ≤ 8 := by
    show 2 * 0 + _ ≤ 8
    rw [qv_cats]
    omega
  have hfit : cells + c1 ≤ R.cells ∧ slots + s1 ≤ R.slots := ⟨by have := hW.2.2.2.2.2.2.1; omega, by have := hW.2.2.2.2.2.2.2; omega⟩
  have hrun : ∃ aa, va_Run p l e R s m args below meth c H locs cells slots c1 s1 (F0 m pc la ((as.reverse ++ .ref b :: st).map (qv ad))) (st.map (qv ad)) (qQ none (qBg U1 U.length D cs ad (va_A (qpic U cs ad q00) H.size)) (va_A (qpic U cs ad q00) H.size) aa) (va_A (qpic U cs ad q00) H.size) := by
    rcases h4 with h4 | ⟨host, h4⟩
    · exact ⟨_, va_runI (n := n) ⟨hC.1, hC.2.1, hC.2.2.1, hC.2.2.2.2.1, hts⟩ hM ⟨callB_of n hts (qws_good h1) rfl hrm.1 hrm.2 (hts _ h2) (hts _ h4) h3 hR, h5, hts _ h6⟩ hpre rfl (by simpa using hn) hL.1 hstk hroom hd hfit⟩
    · exact ⟨_, va_runIN (n := n) ⟨hC.1, hC.2.1, hC.2.2.1, hC.2.2.2.2.1, hts⟩ hM ⟨va_cnB n hts (qws_good h1) rfl hrm.1 hrm.2 (hC.2.2.2.2.2.2.1 _ h4) (hts _ h2) h3 hR, h5, hts _ h6⟩ hpre rfl (by simpa using hn) hL.1 hstk hroom hd hfit⟩
  obtain ⟨aa, hr⟩ := hrun
  refine q_call hr hW.2.2.2.1 (fun q _ hq => qA_in hW q hq) (fun q hq => qA_in hW q hq) fun t H1 locs1 ht hvm hB hz1 hk1 hS1 => ?_
  obtain ⟨ad', hag, b1, b2, b3⟩ := hB
  rw [ht] at b1
  have w := k p e s m args below meth c D cs ad' A H1 locs1 (cells + c1) (slots + s1) la hi hC ⟨b1, b3.weaken (fun _ q _ h9 => qA_in hW q.1 h9), hW.2.2.1, hS1, hW.2.2.2.2.1, trivial, by have := hW.2.2.2.2.2.2.1; omega, by have := hW.2.2.2.2.2.2.2; omega⟩ (qlw_ad hag hls hL) ⟨hwf, Nat.le_trans hw.2 hlen⟩
  rw [show cells + c1 + kc = cells + (kc + c1) by omega, show slots + s1 + ks = slots + (ks + s1) by omega] at w
  have w2 := W_mono (MQ_mono (Qc' := qQ none (qBg Uf n0 D cs ad A) A) fun o t b => ⟨⟨b.1.1, qBg_ad (fun k hk => hag k (Nat.lt_of_lt_of_le hk hw.2)) b.1.2⟩, b.2⟩) w
  rw [qrls_ad hag hst] at w2
  exact w2
/-- an array made and put into a field -/
theorem g_blk {V t : List qS} {ci k idx N pc1 pc2 pc3 : Nat} {fs : List qF} {v : Int32} (harr : Cond.arrayClass .int ∈ qTT) (hg : qPutG own idx ci k) (hf : fs[k]? = some (.inr none)) (hl : ls[0]? = some (some (.ref V.length))) (hlw : qlw (V.length + 1) ls = true) (hv : ¬ v < 0) (hN : v.toNatClampNeg = N) (hB : N * 4 ≤ 536870912) (d0 : decode cc pc = .ok (.aload_n 0, 1)) (e0 : pc + 1 = pc1)
    (hpush : PWg l R cc nL own n0 Uf (kc + 1) (ks + N) pc2 ls [.int v, .ref V.length] (V ++ .inl (ci, fs) :: t) → PWg l R cc nL own n0 Uf (kc + 1) (ks + N) pc1 ls [.ref V.length] (V ++ .inl (ci, fs) :: t))
    (d2 : decode cc pc2 = .ok (.newarray .int, 2)) (e2 : pc2 + 2 = pc3) (d3 : decode cc pc3 = .ok (.putfield idx, 3)) (e3 : pc3 + 3 = pc')
    (kk : PWg l R cc nL own n0 Uf kc ks pc' ls [] (V ++ .inl (ci, fs.set k (.inr (some (V.length + (t.length + 1))))) :: (t ++ [.inr (0, .inl N, [])]))) : PWg l R cc nL own n0 Uf (kc + 1) (ks + N) pc ls [] (V ++ .inl (ci, fs) :: t) := by
  refine g_aload_n (k0 := 0) hl d0 e0 (hpush (g_newa harr hv hN hB ?_ ?_ d2 e2 ?_))
  · simp only [List.length_append, List.length_cons]
    refine List.all_eq_true.mpr fun o ho => ?_
    have h1 := List.all_eq_true.mp hlw o ho
    match o, h1 with
    | none, _ => rfl
    | some (.ref k), h1 => exact decide_eq_true (Nat.lt_of_lt_of_le (of_decide_eq_true h1) (by omega))
    | some (.int _), _ => rfl
    | some (.long _), _ => rfl
    | some (.float _), _ => rfl
    | some (.double _), _ => rfl
    | some .null, _ => rfl
    | some (.retAddr _), _ => rfl
  · simp [qrl]
  · have e : (V ++ .inl (ci, fs) :: t) ++ [.inr (0, .inl N, [])] = V ++ .inl (ci, fs) :: (t ++ [.inr (0, .inl N, [])]) := by simp
    have e' : (V ++ Sum.inl (ci, fs) :: t : List qS).length = V.length + (t.length + 1) := by simp
    rw [e, e']
    exact g_putr hg hf (by simp) d3 e3 kk
end QG
