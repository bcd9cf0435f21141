section QR
variable {ρ : Type} {U : List qS} {RO : qRO} {l : Launch} {R : Room} {cc : ByteArray} {nL : Nat} {ret : Option FieldType} {own : String} {E : ρ → Option Value × qH} {pc pc' : Nat} {ls : List (Option Value)} {st : List Value} {h : qH} {r : Option ρ}
/-- a step that touches the stack alone -/
theorem PW.go {st' : List Value} (k : PW U RO l R cc nL ret own E pc' ls st' h r) (f : ∀ (p : Program) (e : Env) (s : State) (m : MethodId) (args : Array Value) (below : List Frame) (meth : Method) (c : Code) (H : Heap) (locs : List Loc) (cells slots : Nat) (Q : State → Prop) (ad : Nat → Nat) (la : Array Slot), qC cc nL ret own p s m args meth c → qL ad la nL ls → W p l e R s m args below meth c H locs cells slots Q (F0 m pc' la (st'.map (qv ad))) → W p l e R s m args below meth c H locs cells slots Q (F0 m pc la (st.map (qv ad)))) : PW U RO l R cc nL ret own E pc ls st h r :=
  fun z hz p e s m args below meth c D cs ad A H locs cells slots la hC hW hL => f p e s m args below meth c H locs cells slots _ ad la hC hL (k z hz p e s m args below meth c D cs ad A H locs cells slots la hC hW hL)

theorem p_iconst {n : Int} {v : Int32} (hv : Int32.ofInt n = v) (hd : decode cc pc = .ok (.iconst n, 1)) (hp : pc + 1 = pc') (k : PW U RO l R cc nL ret own E pc' ls (.int v :: st) h r) : PW U RO l R cc nL ret own E pc ls (st) h r := by
  subst hp
  exact PW.go k fun p e s m args below meth c H locs cells slots Q ad la hC hL w => lv_iconst hC.1 hC.2.1 hd hv w
theorem p_bipush {n : Int} {v : Int32} (hv : (Int8.ofInt n).toInt32 = v) (hd : decode cc pc = .ok (.bipush n, 2)) (hp : pc + 2 = pc') (k : PW U RO l R cc nL ret own E pc' ls (.int v :: st) h r) : PW U RO l R cc nL ret own E pc ls (st) h r := by
  subst hp
  exact PW.go k fun p e s m args below meth c H locs cells slots Q ad la hC hL w => lv_bipush hC.1 hC.2.1 hd hv w
theorem p_sipush {n : Int} {v : Int32} (hv : (Int16.ofInt n).toInt32 = v) (hd : decode cc pc = .ok (.sipush n, 3)) (hp : pc + 3 = pc') (k : PW U RO l R cc nL ret own E pc' ls (.int v :: st) h r) : PW U RO l R cc nL ret own E pc ls (st) h r := by
  subst hp
  exact PW.go k fun p e s m args below meth c H locs cells slots Q ad la hC hL w => lv_sipush hC.1 hC.2.1 hd hv w
theorem p_iadd {x y : Int32} (hd : decode cc pc = .ok (.iadd, 1)) (hp : pc + 1 = pc') (k : PW U RO l R cc nL ret own E pc' ls (.int (x + y) :: st) h r) : PW U RO l R cc nL ret own E pc ls (.int y :: .int x :: st) h r := by
  subst hp
  exact PW.go k fun p e s m args below meth c H locs cells slots Q ad la hC hL w => lv_iadd hC.1 hC.2.1 hd w
theorem p_isub {x y : Int32} (hd : decode cc pc = .ok (.isub, 1)) (hp : pc + 1 = pc') (k : PW U RO l R cc nL ret own E pc' ls (.int (x - y) :: st) h r) : PW U RO l R cc nL ret own E pc ls (.int y :: .int x :: st) h r := by
  subst hp
  exact PW.go k fun p e s m args below meth c H locs cells slots Q ad la hC hL w => lv_isub hC.1 hC.2.1 hd w
theorem p_imul {x y : Int32} (hd : decode cc pc = .ok (.imul, 1)) (hp : pc + 1 = pc') (k : PW U RO l R cc nL ret own E pc' ls (.int (x * y) :: st) h r) : PW U RO l R cc nL ret own E pc ls (.int y :: .int x :: st) h r := by
  subst hp
  exact PW.go k fun p e s m args below meth c H locs cells slots Q ad la hC hL w => lv_imul hC.1 hC.2.1 hd w
theorem p_iand {x y : Int32} (hd : decode cc pc = .ok (.iand, 1)) (hp : pc + 1 = pc') (k : PW U RO l R cc nL ret own E pc' ls (.int (x &&& y) :: st) h r) : PW U RO l R cc nL ret own E pc ls (.int y :: .int x :: st) h r := by
  subst hp
  exact PW.go k fun p e s m args below meth c H locs cells slots Q ad la hC hL w => lv_iand hC.1 hC.2.1 hd w
theorem p_ior {x y : Int32} (hd : decode cc pc = .ok (.ior, 1)) (hp : pc + 1 = pc') (k : PW U RO l R cc nL ret own E pc' ls (.int (x ||| y) :: st) h r) : PW U RO l R cc nL ret own E pc ls (.int y :: .int x :: st) h r := by
  subst hp
  exact PW.go k fun p e s m args below meth c H locs cells slots Q ad la hC hL w => lv_ior hC.1 hC.2.1 hd w
theorem p_ixor {x y : Int32} (hd : decode cc pc = .ok (.ixor, 1)) (hp : pc + 1 = pc') (k : PW U RO l R cc nL ret own E pc' ls (.int (x ^^^ y) :: st) h r) : PW U RO l R cc nL ret own E pc ls (.int y :: .int x :: st) h r := by
  subst hp
  exact PW.go k fun p e s m args below meth c H locs cells slots Q ad la hC hL w => lv_ixor hC.1 hC.2.1 hd w
theorem p_ishl {x y : Int32} (hd : decode cc pc = .ok (.ishl, 1)) (hp : pc + 1 = pc') (k : PW U RO l R cc nL ret own E pc' ls (.int (x <<< (y &&& 31)) :: st) h r) : PW U RO l R cc nL ret own E pc ls (.int y :: .int x :: st) h r := by
  subst hp
  exact PW.go k fun p e s m args below meth c H locs cells slots Q ad la hC hL w => lv_ishl hC.1 hC.2.1 hd w
theorem p_ishr {x y : Int32} (hd : decode cc pc = .ok (.ishr, 1)) (hp : pc + 1 = pc') (k : PW U RO l R cc nL ret own E pc' ls (.int (x >>> (y &&& 31)) :: st) h r) : PW U RO l R cc nL ret own E pc ls (.int y :: .int x :: st) h r := by
  subst hp
  exact PW.go k fun p e s m args below meth c H locs cells slots Q ad la hC hL w => lv_ishr hC.1 hC.2.1 hd w
theorem p_iushr {x y : Int32} (hd : decode cc pc = .ok (.iushr, 1)) (hp : pc + 1 = pc') (k : PW U RO l R cc nL ret own E pc' ls (.int ((x.toUInt32 >>> (y.toUInt32 &&& Int32.toUInt32 31)).toInt32) :: st) h r) : PW U RO l R cc nL ret own E pc ls (.int y :: .int x :: st) h r := by
  subst hp
  exact PW.go k fun p e s m args below meth c H locs cells slots Q ad la hC hL w => lv_iushr hC.1 hC.2.1 hd rfl w
theorem p_ineg {x : Int32} (hd : decode cc pc = .ok (.ineg, 1)) (hp : pc + 1 = pc') (k : PW U RO l R cc nL ret own E pc' ls (.int (-x) :: st) h r) : PW U RO l R cc nL ret own E pc ls (.int x :: st) h r := by
  subst hp
  exact PW.go k fun p e s m args below meth c H locs cells slots Q ad la hC hL w => lv_ineg hC.1 hC.2.1 hd w
theorem p_ladd {x y : Int64} (hd : decode cc pc = .ok (.ladd, 1)) (hp : pc + 1 = pc') (k : PW U RO l R cc nL ret own E pc' ls (.long (x + y) :: st) h r) : PW U RO l R cc nL ret own E pc ls (.long y :: .long x :: st) h r := by
  subst hp
  exact PW.go k fun p e s m args below meth c H locs cells slots Q ad la hC hL w => lv_ladd hC.1 hC.2.1 hd w
theorem p_lmul {x y : Int64} (hd : decode cc pc = .ok (.lmul, 1)) (hp : pc + 1 = pc') (k : PW U RO l R cc nL ret own E pc' ls (.long (x * y) :: st) h r) : PW U RO l R cc nL ret own E pc ls (.long y :: .long x :: st) h r := by
  subst hp
  exact PW.go k fun p e s m args below meth c H locs cells slots Q ad la hC hL w => lv_lmul hC.1 hC.2.1 hd w
theorem p_land {x y : Int64} (hd : decode cc pc = .ok (.land, 1)) (hp : pc + 1 = pc') (k : PW U RO l R cc nL ret own E pc' ls (.long (x &&& y) :: st) h r) : PW U RO l R cc nL ret own E pc ls (.long y :: .long x :: st) h r := by
  subst hp
  exact PW.go k fun p e s m args below meth c H locs cells slots Q ad la hC hL w => lv_land hC.1 hC.2.1 hd w
theorem p_lor {x y : Int64} (hd : decode cc pc = .ok (.lor, 1)) (hp : pc + 1 = pc') (k : PW U RO l R cc nL ret own E pc' ls (.long (x ||| y) :: st) h r) : PW U RO l R cc nL ret own E pc ls (.long y :: .long x :: st) h r := by
  subst hp
  exact PW.go k fun p e s m args below meth c H locs cells slots Q ad la hC hL w => lv_lor hC.1 hC.2.1 hd w
theorem p_lushr {x : Int64} {y : Int32} (hd : decode cc pc = .ok (.lushr, 1)) (hp : pc + 1 = pc') (k : PW U RO l R cc nL ret own E pc' ls (.long ((x.toUInt64 >>> (y.toInt64.toUInt64 &&& Int64.toUInt64 63)).toInt64) :: st) h r) : PW U RO l R cc nL ret own E pc ls (.int y :: .long x :: st) h r := by
  subst hp
  exact PW.go k fun p e s m args below meth c H locs cells slots Q ad la hC hL w => lv_lushr hC.1 hC.2.1 hd rfl w
theorem p_i2l {x : Int32} (hd : decode cc pc = .ok (.i2l, 1)) (hp : pc + 1 = pc') (k : PW U RO l R cc nL ret own E pc' ls (.long x.toInt64 :: st) h r) : PW U RO l R cc nL ret own E pc ls (.int x :: st) h r := by
  subst hp
  exact PW.go k fun p e s m args below meth c H locs cells slots Q ad la hC hL w => lv_i2l hC.1 hC.2.1 hd rfl w
theorem p_l2i {x : Int64} (hd : decode cc pc = .ok (.l2i, 1)) (hp : pc + 1 = pc') (k : PW U RO l R cc nL ret own E pc' ls (.int x.toInt32 :: st) h r) : PW U RO l R cc nL ret own E pc ls (.long x :: st) h r := by
  subst hp
  exact PW.go k fun p e s m args below meth c H locs cells slots Q ad la hC hL w => lv_l2i hC.1 hC.2.1 hd rfl w
theorem p_dup {v : Value} (hv : v.category = 1) (hd : decode cc pc = .ok (.dup, 1)) (hp : pc + 1 = pc') (k : PW U RO l R cc nL ret own E pc' ls (v :: v :: st) h r) : PW U RO l R cc nL ret own E pc ls (v :: st) h r := by
  subst hp
  exact PW.go k fun p e s m args below meth c H locs cells slots Q ad la hC hL w => lv_dup hC.1 hC.2.1 hd (by rw [qv_cat]; exact hv) w
theorem p_pop {v : Value} (hv : v.category = 1) (hd : decode cc pc = .ok (.pop, 1)) (hp : pc + 1 = pc') (k : PW U RO l R cc nL ret own E pc' ls (st) h r) : PW U RO l R cc nL ret own E pc ls (v :: st) h r := by
  subst hp
  exact PW.go k fun p e s m args below meth c H locs cells slots Q ad la hC hL w => lv_pop hC.1 hC.2.1 hd (by rw [qv_cat]; exact hv) w
theorem p_dup2 {v w1 : Value} (hv : v.category = 1) (hw : w1.category = 1) (hd : decode cc pc = .ok (.dup2, 1)) (hp : pc + 1 = pc') (k : PW U RO l R cc nL ret own E pc' ls (v :: w1 :: v :: w1 :: st) h r) : PW U RO l R cc nL ret own E pc ls (v :: w1 :: st) h r := by
  subst hp
  exact PW.go k fun p e s m args below meth c H locs cells slots Q ad la hC hL w => lv_dup2_11 hC.1 hC.2.1 hd (by rw [qv_cat]; exact hv) (by rw [qv_cat]; exact hw) w
theorem p_idiv {x y : Int32} (hd : decode cc pc = .ok (.idiv, 1)) (hp : pc + 1 = pc') (k : ¬ y = 0 → PW U RO l R cc nL ret own E pc' ls (.int (x / y) :: st) h r) : PW U RO l R cc nL ret own E pc ls (.int y :: .int x :: st) h (qg (decide (¬ y = 0)) r) := by
  subst hp
  intro z hz
  obtain ⟨h1, h2⟩ := qg_some hz
  have hy : ¬ y = 0 := of_decide_eq_true h1
  exact PW.go (k hy) (fun p e s m args below meth c H locs cells slots Q ad la hC hL w => lv_idiv hC.1 hC.2.1 hd hy w) z h2
theorem p_irem {x y : Int32} (hd : decode cc pc = .ok (.irem, 1)) (hp : pc + 1 = pc') (k : ¬ y = 0 → PW U RO l R cc nL ret own E pc' ls (.int (x - x / y * y) :: st) h r) : PW U RO l R cc nL ret own E pc ls (.int y :: .int x :: st) h (qg (decide (¬ y = 0)) r) := by
  subst hp
  intro z hz
  obtain ⟨h1, h2⟩ := qg_some hz
  have hy : ¬ y = 0 := of_decide_eq_true h1
  exact PW.go (k hy) (fun p e s m args below meth c H locs cells slots Q ad la hC hL w => lv_irem hC.1 hC.2.1 hd hy w) z h2
theorem p_lrem {x y : Int64} (hd : decode cc pc = .ok (.lrem, 1)) (hp : pc + 1 = pc') (k : ¬ y = 0 → PW U RO l R cc nL ret own E pc' ls (.long (x - x / y * y) :: st) h r) : PW U RO l R cc nL ret own E pc ls (.long y :: .long x :: st) h (qg (decide (¬ y = 0)) r) := by
  subst hp
  intro z hz
  obtain ⟨h1, h2⟩ := qg_some hz
  have hy : ¬ y = 0 := of_decide_eq_true h1
  exact PW.go (k hy) (fun p e s m args below meth c H locs cells slots Q ad la hC hL w => lv_lrem hC.1 hC.2.1 hd hy w) z h2
theorem p_iload_n {k0 : Fin 4} {x : Int32} (hl : ls[(k0 : Nat)]? = some (some (.int x))) (hd : decode cc pc = .ok (.iload_n k0, 1)) (hp : pc + 1 = pc') (k : PW U RO l R cc nL ret own E pc' ls (.int x :: st) h r) : PW U RO l R cc nL ret own E pc ls (st) h r := by
  subst hp
  exact PW.go k fun p e s m args below meth c H locs cells slots Q ad la hC hL w => lv_iload_n hC.1 hC.2.1 hd rfl (hL.2.2 _ _ hl) w
theorem p_aload_n {k0 : Fin 4} {x : Nat} (hl : ls[(k0 : Nat)]? = some (some (.ref x))) (hd : decode cc pc = .ok (.aload_n k0, 1)) (hp : pc + 1 = pc') (k : PW U RO l R cc nL ret own E pc' ls (.ref x :: st) h r) : PW U RO l R cc nL ret own E pc ls (st) h r := by
  subst hp
  exact PW.go k fun p e s m args below meth c H locs cells slots Q ad la hC hL w => lv_aload_n hC.1 hC.2.1 hd rfl (hL.2.2 _ _ hl) w
theorem p_lload_n {k0 : Fin 4} {x : Int64} (hl : ls[(k0 : Nat)]? = some (some (.long x))) (hd : decode cc pc = .ok (.lload_n k0, 1)) (hp : pc + 1 = pc') (k : PW U RO l R cc nL ret own E pc' ls (.long x :: st) h r) : PW U RO l R cc nL ret own E pc ls (st) h r := by
  subst hp
  exact PW.go k fun p e s m args below meth c H locs cells slots Q ad la hC hL w => lv_lload_n hC.1 hC.2.1 hd rfl (hL.2.2 _ _ hl) w
theorem p_iload {i : Nat} {x : Int32} (hl : ls[i]? = some (some (.int x))) (hd : decode cc pc = .ok (.iload i, 2)) (hp : pc + 2 = pc') (k : PW U RO l R cc nL ret own E pc' ls (.int x :: st) h r) : PW U RO l R cc nL ret own E pc ls (st) h r := by
  subst hp
  exact PW.go k fun p e s m args below meth c H locs cells slots Q ad la hC hL w => lv_iload hC.1 hC.2.1 hd (hL.2.2 _ _ hl) w
theorem p_aload {i : Nat} {x : Nat} (hl : ls[i]? = some (some (.ref x))) (hd : decode cc pc = .ok (.aload i, 2)) (hp : pc + 2 = pc') (k : PW U RO l R cc nL ret own E pc' ls (.ref x :: st) h r) : PW U RO l R cc nL ret own E pc ls (st) h r := by
  subst hp
  exact PW.go k fun p e s m args below meth c H locs cells slots Q ad la hC hL w => lv_aload hC.1 hC.2.1 hd (hL.2.2 _ _ hl) w
/-- storing a value of one word: no long lies just below it -/
def q1 (ls : List (Option Value)) (i : Nat) : Prop := ∀ (j : Nat) (v : Value), j + 1 = i → ls[j]? = some (some v) → v.category = 1
theorem qL_store {ad : Nat → Nat} {la : Array Slot} {i : Nat} {v : Value} (hL : qL ad la nL ls) (hi : i < nL) (hc : v.category = 1) (h1 : q1 ls i) : ∃ la', storeLocals la i (qv ad v) = some la' ∧ qL ad la' nL (ls.set i (some v)) := by
  obtain ⟨la', e', h'⟩ := lv_store1 (ls := la) (nL := nL) (l := (List.range nL).filterMap fun j => match ls[j]? with
    | some (some v) => some (j, qv ad v)
    | _ => none) (i := i) (v := qv ad v) ⟨hL.1, hL.2.1, fun q hq => by
      obtain ⟨j, -, hj⟩ := List.mem_filterMap.mp hq
      split at hj
      next w hw => cases hj; exact hL.2.2 j w hw
      next => cases hj⟩ hi (by rw [qv_cat]; exact hc)
  refine ⟨la', e', h'.1, h'.2.1, fun j w hw => ?_⟩
  by_cases hj : j = i
  · subst hj
    have hlt : j < ls.length := by
      have := (List.getElem?_eq_some_iff.mp hw).1
      simpa using this
    rw [List.getElem?_set_self hlt] at hw
    cases hw
    exact h'.2.2 (j, qv ad v) List.mem_cons_self
  · rw [List.getElem?_set_ne (Ne.symm hj)] at hw
    have hlt : j < nL := by
      have := hL.2.2 j w hw
      rw [← hL.1]
      exact (Array.getElem?_eq_some_iff.mp this).1
    refine h'.2.2 (j, qv ad w) (List.mem_cons_of_mem _ (List.mem_filter.mpr ⟨List.mem_filterMap.mpr ⟨j, List.mem_range.mpr hlt, by rw [hw]⟩, ?_⟩))
    have hcat : j + 1 = i → w.category = 1 := fun z => h1 j w z hw
    by_cases hji : j + 1 = i
    · simp [hj, qv_cat, hcat hji]
    · simp [hj, hji]

theorem p_istore_n {k0 : Fin 4} {x : Int32} (hd : decode cc pc = .ok (.istore_n k0, 1)) (hp : pc + 1 = pc') (hi : (k0 : Nat) < nL) (h1 : q1 ls (k0 : Nat)) (k : PW U RO l R cc nL ret own E pc' (ls.set (k0 : Nat) (some (.int x))) st h r) : PW U RO l R cc nL ret own E pc ls (.int x :: st) h r := by
  subst hp
  intro z hz p e s m args below meth c D cs ad A H locs cells slots la hC hW hL
  obtain ⟨la', e', hL'⟩ := qL_store (v := .int x) hL hi rfl h1
  intro T hT X
  obtain ⟨t, a, b⟩ := k z hz p e s m args below meth c D cs ad A H locs cells slots la' hC hW hL' T hT X
  refine ⟨t, ?_, b⟩
  have e'' : storeLocals la (k0 : Nat) (qv ad (.int x)) = some la' := e'
  have hx := hC.1
  have hb := hC.2.1
  simp only [List.map_cons, qv] at e'' ⊢
  jvm_step X.here [X.here.top, ↓top_set X.here.top, hx, hb, hd, e'', Value.isRef]
  exact a
theorem p_istore {i : Nat} {x : Int32} (hd : decode cc pc = .ok (.istore i, 2)) (hp : pc + 2 = pc') (hi : i < nL) (h1 : q1 ls i) (k : PW U RO l R cc nL ret own E pc' (ls.set i (some (.int x))) st h r) : PW U RO l R cc nL ret own E pc ls (.int x :: st) h r := by
  subst hp
  intro z hz p e s m args below meth c D cs ad A H locs cells slots la hC hW hL
  obtain ⟨la', e', hL'⟩ := qL_store (v := .int x) hL hi rfl h1
  intro T hT X
  obtain ⟨t, a, b⟩ := k z hz p e s m args below meth c D cs ad A H locs cells slots la' hC hW hL' T hT X
  refine ⟨t, ?_, b⟩
  have e'' : storeLocals la i (qv ad (.int x)) = some la' := e'
  have hx := hC.1
  have hb := hC.2.1
  simp only [List.map_cons, qv] at e'' ⊢
  jvm_step X.here [X.here.top, ↓top_set X.here.top, hx, hb, hd, e'', Value.isRef]
  exact a
theorem p_astore_n {k0 : Fin 4} {x : Nat} (hd : decode cc pc = .ok (.astore_n k0, 1)) (hp : pc + 1 = pc') (hi : (k0 : Nat) < nL) (h1 : q1 ls (k0 : Nat)) (k : PW U RO l R cc nL ret own E pc' (ls.set (k0 : Nat) (some (.ref x))) st h r) : PW U RO l R cc nL ret own E pc ls (.ref x :: st) h r := by
  subst hp
  intro z hz p e s m args below meth c D cs ad A H locs cells slots la hC hW hL
  obtain ⟨la', e', hL'⟩ := qL_store (v := .ref x) hL hi rfl h1
  intro T hT X
  obtain ⟨t, a, b⟩ := k z hz p e s m args below meth c D cs ad A H locs cells slots la' hC hW hL' T hT X
  refine ⟨t, ?_, b⟩
  have e'' : storeLocals la (k0 : Nat) (qv ad (.ref x)) = some la' := e'
  have hx := hC.1
  have hb := hC.2.1
  simp only [List.map_cons, qv] at e'' ⊢
  jvm_step X.here [X.here.top, ↓top_set X.here.top, hx, hb, hd, e'', Value.isRef]
  exact a
theorem p_astore {i : Nat} {x : Nat} (hd : decode cc pc = .ok (.astore i, 2)) (hp : pc + 2 = pc') (hi : i < nL) (h1 : q1 ls i) (k : PW U RO l R cc nL ret own E pc' (ls.set i (some (.ref x))) st h r) : PW U RO l R cc nL ret own E pc ls (.ref x :: st) h r := by
  subst hp
  intro z hz p e s m args below meth c D cs ad A H locs cells slots la hC hW hL
  obtain ⟨la', e', hL'⟩ := qL_store (v := .ref x) hL hi rfl h1
  intro T hT X
  obtain ⟨t, a, b⟩ := k z hz p e s m args below meth c D cs ad A H locs cells slots la' hC hW hL' T hT X
  refine ⟨t, ?_, b⟩
  have e'' : storeLocals la i (qv ad (.ref x)) = some la' := e'
  have hx := hC.1
  have hb := hC.2.1
  simp only [List.map_cons, qv] at e'' ⊢
  jvm_step X.here [X.here.top, ↓top_set X.here.top, hx, hb, hd, e'', Value.isRef]
  exact a
theorem p_iinc {i : Nat} {n : Int} {x v : Int32} (hv : Int32.ofInt n = v) (hd : decode cc pc = .ok (.iinc i n, 3)) (hp : pc + 3 = pc') (hl : ls[i]? = some (some (.int x))) (hi : i < nL) (h1 : q1 ls i) (k : PW U RO l R cc nL ret own E pc' (ls.set i (some (.int (x + v)))) st h r) : PW U RO l R cc nL ret own E pc ls st h r := by
  subst hp
  subst hv
  intro z hz p e s m args below meth c D cs ad A H locs cells slots la hC hW hL
  obtain ⟨la', e', hL'⟩ := qL_store (v := .int (x + Int32.ofInt n)) hL hi rfl h1
  intro T hT X
  obtain ⟨t, a, b⟩ := k z hz p e s m args below meth c D cs ad A H locs cells slots la' hC hW hL' T hT X
  refine ⟨t, ?_, b⟩
  have e'' : storeLocals la i (.int (x + Int32.ofInt n)) = some la' := e'
  have hg : la[i]? = some (.val (.int x)) := hL.2.2 i _ hl
  have hx := hC.1
  have hb := hC.2.1
  jvm_step X.here [X.here.top, ↓top_set X.here.top, hx, hb, hd, hg, e'']
  exact a
theorem p_icmp_eq_t {x y : Int32} {off : Int} {tgt : Nat} (hd : decode cc pc = .ok (.if_icmp .eq off, 3)) (ht : (pc : Int) + off = (tgt : Int)) (hc : x = y) (k : PW U RO l R cc nL ret own E tgt ls st h r) : PW U RO l R cc nL ret own E pc ls (.int y :: .int x :: st) h r :=
  PW.go k fun p e s m args below meth c H locs cells slots Q ad la hC hL w => lv_icmp_eq hC.1 hC.2.1 hd ht (fun _ => w) (fun z => absurd hc z)
theorem p_icmp_eq_f {x y : Int32} {off : Int} (hd : decode cc pc = .ok (.if_icmp .eq off, 3)) {tgt : Nat} (ht : (pc : Int) + off = (tgt : Int)) (hp : pc + 3 = pc') (hc : ¬ x = y) (k : PW U RO l R cc nL ret own E pc' ls st h r) : PW U RO l R cc nL ret own E pc ls (.int y :: .int x :: st) h r := by
  subst hp
  exact PW.go k fun p e s m args below meth c H locs cells slots Q ad la hC hL w => lv_icmp_eq hC.1 hC.2.1 hd ht (fun z => absurd z hc) (fun _ => w)
theorem p_if_eq_t {x : Int32} {off : Int} {tgt : Nat} (hd : decode cc pc = .ok (.ifCond .eq off, 3)) (ht : (pc : Int) + off = (tgt : Int)) (hc : x = 0) (k : PW U RO l R cc nL ret own E tgt ls st h r) : PW U RO l R cc nL ret own E pc ls (.int x :: st) h r :=
  PW.go k fun p e s m args below meth c H locs cells slots Q ad la hC hL w => lv_if_eq hC.1 hC.2.1 hd ht (fun _ => w) (fun z => absurd hc z)
theorem p_if_eq_f {x : Int32} {off : Int} (hd : decode cc pc = .ok (.ifCond .eq off, 3)) {tgt : Nat} (ht : (pc : Int) + off = (tgt : Int)) (hp : pc + 3 = pc') (hc : ¬ x = 0) (k : PW U RO l R cc nL ret own E pc' ls st h r) : PW U RO l R cc nL ret own E pc ls (.int x :: st) h r := by
  subst hp
  exact PW.go k fun p e s m args below meth c H locs cells slots Q ad la hC hL w => lv_if_eq hC.1 hC.2.1 hd ht (fun z => absurd z hc) (fun _ => w)
theorem p_icmp_ne_t {x y : Int32} {off : Int} {tgt : Nat} (hd : decode cc pc = .ok (.if_icmp .ne off, 3)) (ht : (pc : Int) + off = (tgt : Int)) (hc : ¬ x = y) (k : PW U RO l R cc nL ret own E tgt ls st h r) : PW U RO l R cc nL ret own E pc ls (.int y :: .int x :: st) h r :=
  PW.go k fun p e s m args below meth c H locs cells slots Q ad la hC hL w => lv_icmp_ne hC.1 hC.2.1 hd ht (fun _ => w) (fun z => absurd z hc)
theorem p_icmp_ne_f {x y : Int32} {off : Int} (hd : decode cc pc = .ok (.if_icmp .ne off, 3)) {tgt : Nat} (ht : (pc : Int) + off = (tgt : Int)) (hp : pc + 3 = pc') (hc : x = y) (k : PW U RO l R cc nL ret own E pc' ls st h r) : PW U RO l R cc nL ret own E pc ls (.int y :: .int x :: st) h r := by
  subst hp
  exact PW.go k fun p e s m args below meth c H locs cells slots Q ad la hC hL w => lv_icmp_ne hC.1 hC.2.1 hd ht (fun z => absurd hc z) (fun _ => w)
theorem p_if_ne_t {x : Int32} {off : Int} {tgt : Nat} (hd : decode cc pc = .ok (.ifCond .ne off, 3)) (ht : (pc : Int) + off = (tgt : Int)) (hc : ¬ x = 0) (k : PW U RO l R cc nL ret own E tgt ls st h r) : PW U RO l R cc nL ret own E pc ls (.int x :: st) h r :=
  PW.go k fun p e s m args below meth c H locs cells slots Q ad la hC hL w => lv_if_ne hC.1 hC.2.1 hd ht (fun _ => w) (fun z => absurd z hc)
theorem p_if_ne_f {x : Int32} {off : Int} (hd : decode cc pc = .ok (.ifCond .ne off, 3)) {tgt : Nat} (ht : (pc : Int) + off = (tgt : Int)) (hp : pc + 3 = pc') (hc : x = 0) (k : PW U RO l R cc nL ret own E pc' ls st h r) : PW U RO l R cc nL ret own E pc ls (.int x :: st) h r := by
  subst hp
  exact PW.go k fun p e s m args below meth c H locs cells slots Q ad la hC hL w => lv_if_ne hC.1 hC.2.1 hd ht (fun z => absurd hc z) (fun _ => w)
theorem p_icmp_lt_t {x y : Int32} {off : Int} {tgt : Nat} (hd : decode cc pc = .ok (.if_icmp .lt off, 3)) (ht : (pc : Int) + off = (tgt : Int)) (hc : x < y) (k : PW U RO l R cc nL ret own E tgt ls st h r) : PW U RO l R cc nL ret own E pc ls (.int y :: .int x :: st) h r :=
  PW.go k fun p e s m args below meth c H locs cells slots Q ad la hC hL w => lv_icmp_lt hC.1 hC.2.1 hd ht (fun _ => w) (fun z => absurd hc z)
theorem p_icmp_lt_f {x y : Int32} {off : Int} (hd : decode cc pc = .ok (.if_icmp .lt off, 3)) {tgt : Nat} (ht : (pc : Int) + off = (tgt : Int)) (hp : pc + 3 = pc') (hc : ¬ x < y) (k : PW U RO l R cc nL ret own E pc' ls st h r) : PW U RO l R cc nL ret own E pc ls (.int y :: .int x :: st) h r := by
  subst hp
  exact PW.go k fun p e s m args below meth c H locs cells slots Q ad la hC hL w => lv_icmp_lt hC.1 hC.2.1 hd ht (fun z => absurd z hc) (fun _ => w)
theorem p_if_lt_t {x : Int32} {off : Int} {tgt : Nat} (hd : decode cc pc = .ok (.ifCond .lt off, 3)) (ht : (pc : Int) + off = (tgt : Int)) (hc : x < 0) (k : PW U RO l R cc nL ret own E tgt ls st h r) : PW U RO l R cc nL ret own E pc ls (.int x :: st) h r :=
  PW.go k fun p e s m args below meth c H locs cells slots Q ad la hC hL w => lv_if_lt hC.1 hC.2.1 hd ht (fun _ => w) (fun z => absurd hc z)
theorem p_if_lt_f {x : Int32} {off : Int} (hd : decode cc pc = .ok (.ifCond .lt off, 3)) {tgt : Nat} (ht : (pc : Int) + off = (tgt : Int)) (hp : pc + 3 = pc') (hc : ¬ x < 0) (k : PW U RO l R cc nL ret own E pc' ls st h r) : PW U RO l R cc nL ret own E pc ls (.int x :: st) h r := by
  subst hp
  exact PW.go k fun p e s m args below meth c H locs cells slots Q ad la hC hL w => lv_if_lt hC.1 hC.2.1 hd ht (fun z => absurd z hc) (fun _ => w)
theorem p_icmp_ge_t {x y : Int32} {off : Int} {tgt : Nat} (hd : decode cc pc = .ok (.if_icmp .ge off, 3)) (ht : (pc : Int) + off = (tgt : Int)) (hc : y ≤ x) (k : PW U RO l R cc nL ret own E tgt ls st h r) : PW U RO l R cc nL ret own E pc ls (.int y :: .int x :: st) h r :=
  PW.go k fun p e s m args below meth c H locs cells slots Q ad la hC hL w => lv_icmp_ge hC.1 hC.2.1 hd ht (fun _ => w) (fun z => absurd hc z)
theorem p_icmp_ge_f {x y : Int32} {off : Int} (hd : decode cc pc = .ok (.if_icmp .ge off, 3)) {tgt : Nat} (ht : (pc : Int) + off = (tgt : Int)) (hp : pc + 3 = pc') (hc : ¬ y ≤ x) (k : PW U RO l R cc nL ret own E pc' ls st h r) : PW U RO l R cc nL ret own E pc ls (.int y :: .int x :: st) h r := by
  subst hp
  exact PW.go k fun p e s m args below meth c H locs cells slots Q ad la hC hL w => lv_icmp_ge hC.1 hC.2.1 hd ht (fun z => absurd z hc) (fun _ => w)
theorem p_if_ge_t {x : Int32} {off : Int} {tgt : Nat} (hd : decode cc pc = .ok (.ifCond .ge off, 3)) (ht : (pc : Int) + off = (tgt : Int)) (hc : 0 ≤ x) (k : PW U RO l R cc nL ret own E tgt ls st h r) : PW U RO l R cc nL ret own E pc ls (.int x :: st) h r :=
  PW.go k fun p e s m args below meth c H locs cells slots Q ad la hC hL w => lv_if_ge hC.1 hC.2.1 hd ht (fun _ => w) (fun z => absurd hc z)
theorem p_if_ge_f {x : Int32} {off : Int} (hd : decode cc pc = .ok (.ifCond .ge off, 3)) {tgt : Nat} (ht : (pc : Int) + off = (tgt : Int)) (hp : pc + 3 = pc') (hc : ¬ 0 ≤ x) (k : PW U RO l R cc nL ret own E pc' ls st h r) : PW U RO l R cc nL ret own E pc ls (.int x :: st) h r := by
  subst hp
  exact PW.go k fun p e s m args below meth c H locs cells slots Q ad la hC hL w => lv_if_ge hC.1 hC.2.1 hd ht (fun z => absurd z hc) (fun _ => w)
theorem p_icmp_gt_t {x y : Int32} {off : Int} {tgt : Nat} (hd : decode cc pc = .ok (.if_icmp .gt off, 3)) (ht : (pc : Int) + off = (tgt : Int)) (hc : y < x) (k : PW U RO l R cc nL ret own E tgt ls st h r) : PW U RO l R cc nL ret own E pc ls (.int y :: .int x :: st) h r :=
  PW.go k fun p e s m args below meth c H locs cells slots Q ad la hC hL w => lv_icmp_gt hC.1 hC.2.1 hd ht (fun _ => w) (fun z => absurd hc z)
theorem p_icmp_gt_f {x y : Int32} {off : Int} (hd : decode cc pc = .ok (.if_icmp .gt off, 3)) {tgt : Nat} (ht : (pc : Int) + off = (tgt : Int)) (hp : pc + 3 = pc') (hc : ¬ y < x) (k : PW U RO l R cc nL ret own E pc' ls st h r) : PW U RO l R cc nL ret own E pc ls (.int y :: .int x :: st) h r := by
  subst hp
  exact PW.go k fun p e s m args below meth c H locs cells slots Q ad la hC hL w => lv_icmp_gt hC.1 hC.2.1 hd ht (fun z => absurd z hc) (fun _ => w)
theorem p_if_gt_t {x : Int32} {off : Int} {tgt : Nat} (hd : decode cc pc = .ok (.ifCond .gt off, 3)) (ht : (pc : Int) + off = (tgt : Int)) (hc : 0 < x) (k : PW U RO l R cc nL ret own E tgt ls st h r) : PW U RO l R cc nL ret own E pc ls (.int x :: st) h r :=
  PW.go k fun p e s m args below meth c H locs cells slots Q ad la hC hL w => lv_if_gt hC.1 hC.2.1 hd ht (fun _ => w) (fun z => absurd hc z)
theorem p_if_gt_f {x : Int32} {off : Int} (hd : decode cc pc = .ok (.ifCond .gt off, 3)) {tgt : Nat} (ht : (pc : Int) + off = (tgt : Int)) (hp : pc + 3 = pc') (hc : ¬ 0 < x) (k : PW U RO l R cc nL ret own E pc' ls st h r) : PW U RO l R cc nL ret own E pc ls (.int x :: st) h r := by
  subst hp
  exact PW.go k fun p e s m args below meth c H locs cells slots Q ad la hC hL w => lv_if_gt hC.1 hC.2.1 hd ht (fun z => absurd z hc) (fun _ => w)
theorem p_icmp_le_t {x y : Int32} {off : Int} {tgt : Nat} (hd : decode cc pc = .ok (.if_icmp .le off, 3)) (ht : (pc : Int) + off = (tgt : Int)) (hc : x ≤ y) (k : PW U RO l R cc nL ret own E tgt ls st h r) : PW U RO l R cc nL ret own E pc ls (.int y :: .int x :: st) h r :=
  PW.go k fun p e s m args below meth c H locs cells slots Q ad la hC hL w => lv_icmp_le hC.1 hC.2.1 hd ht (fun _ => w) (fun z => absurd hc z)
theorem p_icmp_le_f {x y : Int32} {off : Int} (hd : decode cc pc = .ok (.if_icmp .le off, 3)) {tgt : Nat} (ht : (pc : Int) + off = (tgt : Int)) (hp : pc + 3 = pc') (hc : ¬ x ≤ y) (k : PW U RO l R cc nL ret own E pc' ls st h r) : PW U RO l R cc nL ret own E pc ls (.int y :: .int x :: st) h r := by
  subst hp
  exact PW.go k fun p e s m args below meth c H locs cells slots Q ad la hC hL w => lv_icmp_le hC.1 hC.2.1 hd ht (fun z => absurd z hc) (fun _ => w)
theorem p_if_le_t {x : Int32} {off : Int} {tgt : Nat} (hd : decode cc pc = .ok (.ifCond .le off, 3)) (ht : (pc : Int) + off = (tgt : Int)) (hc : x ≤ 0) (k : PW U RO l R cc nL ret own E tgt ls st h r) : PW U RO l R cc nL ret own E pc ls (.int x :: st) h r :=
  PW.go k fun p e s m args below meth c H locs cells slots Q ad la hC hL w => lv_if_le hC.1 hC.2.1 hd ht (fun _ => w) (fun z => absurd hc z)
theorem p_if_le_f {x : Int32} {off : Int} (hd : decode cc pc = .ok (.ifCond .le off, 3)) {tgt : Nat} (ht : (pc : Int) + off = (tgt : Int)) (hp : pc + 3 = pc') (hc : ¬ x ≤ 0) (k : PW U RO l R cc nL ret own E pc' ls st h r) : PW U RO l R cc nL ret own E pc ls (.int x :: st) h r := by
  subst hp
  exact PW.go k fun p e s m args below meth c H locs cells slots Q ad la hC hL w => lv_if_le hC.1 hC.2.1 hd ht (fun z => absurd z hc) (fun _ => w)
theorem p_goto {off : Int} {tgt : Nat} (hd : decode cc pc = .ok (.goto off, 3)) (ht : (pc : Int) + off = (tgt : Int)) (k : PW U RO l R cc nL ret own E tgt ls st h r) : PW U RO l R cc nL ret own E pc ls st h r :=
  PW.go k fun p e s m args below meth c H locs cells slots Q ad la hC hL w => lv_goto hC.1 hC.2.1 hd ht w
theorem p_swO {dflt lo hi : Int} {offs : Array Int} {len : Nat} {x : Int32} {tgt : Nat} (hd : decode cc pc = .ok (.tableswitch dflt lo hi offs, len)) (hc : x.toInt < lo ∨ hi < x.toInt) (ht : (pc : Int) + dflt = (tgt : Int)) (k : PW U RO l R cc nL ret own E tgt ls st h r) : PW U RO l R cc nL ret own E pc ls (.int x :: st) h r :=
  PW.go k fun p e s m args below meth c H locs cells slots Q ad la hC hL w => lv_tableOut hC.1 hC.2.1 hd hc ht w
theorem p_swI {dflt lo hi : Int} {offs : Array Int} {len : Nat} {x v : Int32} {off : Int} {tgt : Nat} (hd : decode cc pc = .ok (.tableswitch dflt lo hi offs, len)) (hv : x = v) (h1 : ¬ v.toInt < lo) (h2 : ¬ hi < v.toInt) (ho : offs[(v.toInt - lo).toNat]? = some off) (ht : (pc : Int) + off = (tgt : Int)) (k : PW U RO l R cc nL ret own E tgt ls st h r) : PW U RO l R cc nL ret own E pc ls (.int x :: st) h r := by
  subst hv
  exact PW.go k fun p e s m args below meth c H locs cells slots Q ad la hC hL w => lv_tableIn hC.1 hC.2.1 hd h1 h2 ho ht w
theorem p_lk {dflt : Int} {ps : Array (Int × Int)} {len : Nat} {x : Int32} {off : Int} {tgt : Nat} (hd : decode cc pc = .ok (.lookupswitch dflt ps, len)) (hs : (ps.toList.zip (ps.toList.drop 1)).all (fun (a, next) => a.1 < next.1) = true) (ho : Op.lookupswitch.offset ps.toList dflt x.toInt = off) (ht : (pc : Int) + off = (tgt : Int)) (k : PW U RO l R cc nL ret own E tgt ls st h r) : PW U RO l R cc nL ret own E pc ls (.int x :: st) h r :=
  PW.go k fun p e s m args below meth c H locs cells slots Q ad la hC hL w => lv_lookup hC.1 hC.2.1 hd hs ho ht w
/-! names, choices, joins -/
theorem p_if {c : Prop} [Decidable c] {r1 r2 : Option ρ} (k1 : c → PW U RO l R cc nL ret own E pc ls st h r1) (k2 : ¬ c → PW U RO l R cc nL ret own E pc ls st h r2) : PW U RO l R cc nL ret own E pc ls st h (if c then r1 else r2) := by
  by_cases hc : c
  · rw [if_pos hc]; exact k1 hc
  · rw [if_neg hc]; exact k2 hc
theorem p_dia {α : Type} {c : Prop} [Decidable c] {a b : α} {kk : α → Option ρ} (k1 : c → PW U RO l R cc nL ret own E pc ls st h (qlt a kk)) (k2 : ¬ c → PW U RO l R cc nL ret own E pc ls st h (qlt b kk)) : PW U RO l R cc nL ret own E pc ls st h (qlt (if c then a else b) kk) := by
  by_cases hc : c
  · rw [if_pos hc]; exact k1 hc
  · rw [if_neg hc]; exact k2 hc
theorem p_nm {x : Int32} {kk : Int32 → Option ρ} (k : ∀ y : Int32, PW U RO l R cc nL ret own E pc ls (.int y :: st) h (kk y)) : PW U RO l R cc nL ret own E pc ls (.int x :: st) h (qlt x kk) := k x
theorem p_nmL {x : Int64} {kk : Int64 → Option ρ} (k : ∀ y : Int64, PW U RO l R cc nL ret own E pc ls (.long y :: st) h (kk y)) : PW U RO l R cc nL ret own E pc ls (.long x :: st) h (qlt x kk) := k x
theorem p_nmH {kk : qH → Option ρ} (k : ∀ h1 : qH, PW U RO l R cc nL ret own E pc ls st h1 (kk h1)) : PW U RO l R cc nL ret own E pc ls st h (qlt h kk) := k h
theorem p_vj {e : Int32} {kk : Int32 → Option ρ} (pcJ : Nat) (lsJ : List (Option Value)) (stJ : List Value) (J : ∀ v : Int32, PW U RO l R cc nL ret own E pcJ lsJ (.int v :: stJ) h (kk v)) (B : (∀ v : Int32, PW U RO l R cc nL ret own E pcJ lsJ (.int v :: stJ) h (qlt v kk)) → PW U RO l R cc nL ret own E pc ls st h (qlt e kk)) : PW U RO l R cc nL ret own E pc ls st h (qlt e kk) := B J
theorem p_jn {κ : Type} {K : κ} {F : κ → Option ρ} (P : κ → Prop) (J : P K) (B : ∀ j, P j → PW U RO l R cc nL ret own E pc ls st h (F j)) : PW U RO l R cc nL ret own E pc ls st h (qj K F) := B K J
/-- fewer locals -/
def qle : List (Option Value) → List (Option Value) → Prop
  | [], _ => True
  | none :: a, [] => qle a []
  | none :: a, _ :: b => qle a b
  | some _ :: _, [] => False
  | some v :: a, o :: b => o = some v ∧ qle a b
theorem qle_at : ∀ (a b : List (Option Value)), qle a b → ∀ (i : Nat) (v : Value), a[i]? = some (some v) → b[i]? = some (some v)
  | [], _, _, i, v, hi => by simp at hi
  | none :: a, [], hq, 0, v, hi => by simp at hi
  | none :: a, [], hq, i + 1, v, hi => by
    have := qle_at a [] hq i v (by simpa using hi)
    simp at this
  | none :: a, _ :: b, hq, 0, v, hi => by simp at hi
  | none :: a, _ :: b, hq, i + 1, v, hi => by simpa using qle_at a b hq i v (by simpa using hi)
  | some w :: a, [], hq, _, v, hi => hq.elim
  | some w :: a, o :: b, hq, 0, v, hi => by
    simp at hi
    subst hi
    simpa using hq.1
  | some w :: a, o :: b, hq, i + 1, v, hi => by simpa using qle_at a b hq.2 i v (by simpa using hi)
theorem p_wk {ls' : List (Option Value)} (hq : qle ls' ls) (k : PW U RO l R cc nL ret own E pc ls' st h r) : PW U RO l R cc nL ret own E pc ls st h r :=
  fun z hz p e s m args below meth c D cs ad A H locs cells slots la hC hW hL => k z hz p e s m args below meth c D cs ad A H locs cells slots la hC hW ⟨hL.1, hL.2.1, fun i v hi => hL.2.2 i v (qle_at _ _ hq i v hi)⟩
/-! constants of the pool -/
theorem p_ldc {idx : Nat} {v : Int32} (hw : Cond.constant own idx v ∈ qTT) (hd : decode cc pc = .ok (.ldc idx, 2)) (hp : pc + 2 = pc') (k : PW U RO l R cc nL ret own E pc' ls (.int v :: st) h r) : PW U RO l R cc nL ret own E pc ls st h r := by
  subst hp
  exact PW.go k fun p e s m args below meth c H locs cells slots Q ad la hC hL w => lv_ldc hC.1 hC.2.1 hC.2.2.2.2.1 (hC.2.2.2.2.2.1 _ hw) hd w
theorem p_ldcw {idx : Nat} {v : Int32} (hw : Cond.constant own idx v ∈ qTT) (hd : decode cc pc = .ok (.ldc_w idx, 3)) (hp : pc + 3 = pc') (k : PW U RO l R cc nL ret own E pc' ls (.int v :: st) h r) : PW U RO l R cc nL ret own E pc ls st h r := by
  subst hp
  exact PW.go k fun p e s m args below meth c H locs cells slots Q ad la hC hL w => lv_ldcw hC.1 hC.2.1 hC.2.2.2.2.1 (hC.2.2.2.2.2.1 _ hw) hd w
theorem p_ldc2 {idx : Nat} {v : Int64} (hw : Cond.constantLong own idx v ∈ qTT) (hd : decode cc pc = .ok (.ldc2_w idx, 3)) (hp : pc + 3 = pc') (k : PW U RO l R cc nL ret own E pc' ls (.long v :: st) h r) : PW U RO l R cc nL ret own E pc ls st h r := by
  subst hp
  exact PW.go k fun p e s m args below meth c H locs cells slots Q ad la hC hL w => lv_ldc2 hC.1 hC.2.1 hC.2.2.2.2.1 (hC.2.2.2.2.2.1 _ hw) hd w
end QR
