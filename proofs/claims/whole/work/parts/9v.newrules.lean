/-! ===== the same rules where the table's place may change ===== -/
section QN
variable {ρ : Type} {U : List qS} {RO : qRO} {l : Launch} {R : Room} {cc : ByteArray} {nL : Nat} {ret : Option FieldType} {own : String} {E : ρ → Option Value × qH} {pc pc' : Nat} {ls ls' : List (Option Value)} {st : List Value} {h : qH} {r : Option ρ} {kc ks : Nat}
def qBn (U : List qS) (D : va_G) (cs : Nat → ClassId) (ad : Nat → Nat) (A : Nat → Prop) (h : qH) (t : State) : Prop := ∃ ad' : Nat → Nat, (∀ k, k ≠ 50 → ad' k = ad k) ∧ qB U D cs ad' A h t
/-- a room with one array kept back -/
def qRm (R : Room) (kc ks : Nat) : Room := { R with cells := R.cells - kc, slots := R.slots - ks }
def PWn {ρ : Type} (U : List qS) (RO : qRO) (l : Launch) (R : Room) (kc ks : Nat) (cc : ByteArray) (nL : Nat) (ret : Option FieldType) (own : String) (E : ρ → Option Value × qH) (pc : Nat) (ls : List (Option Value)) (st : List Value) (h : qH) (r : Option ρ) : Prop :=
  ∀ z : ρ, r = some z → ∀ (p : Program) (e : Env) (s : State) (m : MethodId) (args : Array Value) (below : List Frame) (meth : Method) (c : Code) (D : va_G) (cs : Nat → ClassId) (ad : Nat → Nat) (A : Nat → Prop) (H : Heap) (locs : List Loc) (cells slots : Nat) (la : Array Slot),
    qC cc nL ret own p s m args meth c → qW U RO D cs ad A h s H locs (qRm R kc ks) cells slots → qL ad la nL ls →
    W p l e R s m args below meth c H locs cells slots (MQ below (qQ ((E z).1.map (qv ad)) (qBn U D cs ad A (E z).2) A) args s (cells + kc) (slots + ks) A) (F0 m pc la (st.map (qv ad)))
theorem PWn.go {st' : List Value} (k : PWn U RO l R kc ks cc nL ret own E pc' ls st' h r) (f : ∀ (p : Program) (e : Env) (s : State) (m : MethodId) (args : Array Value) (below : List Frame) (meth : Method) (c : Code) (H : Heap) (locs : List Loc) (cells slots : Nat) (Q : State → Prop) (ad : Nat → Nat) (la : Array Slot), qC cc nL ret own p s m args meth c → qL ad la nL ls → W p l e R s m args below meth c H locs cells slots Q (F0 m pc' la (st'.map (qv ad))) → W p l e R s m args below meth c H locs cells slots Q (F0 m pc la (st.map (qv ad)))) : PWn U RO l R kc ks cc nL ret own E pc ls st h r :=
  fun z hz p e s m args below meth c D cs ad A H locs cells slots la hC hW hL => f p e s m args below meth c H locs cells slots _ ad la hC hL (k z hz p e s m args below meth c D cs ad A H locs cells slots la hC hW hL)
theorem n_iconst {n : Int} {v : Int32} (hv : Int32.ofInt n = v) (hd : decode cc pc = .ok (.iconst n, 1)) (hp : pc + 1 = pc') (k : PWn U RO l R kc ks cc nL ret own E pc' ls (.int v :: st) h r) : PWn U RO l R kc ks cc nL ret own E pc ls (st) h r := by
  subst hp
  exact PWn.go k fun p e s m args below meth c H locs cells slots Q ad la hC hL w => lv_iconst hC.1 hC.2.1 hd hv w
theorem n_bipush {n : Int} {v : Int32} (hv : (Int8.ofInt n).toInt32 = v) (hd : decode cc pc = .ok (.bipush n, 2)) (hp : pc + 2 = pc') (k : PWn U RO l R kc ks cc nL ret own E pc' ls (.int v :: st) h r) : PWn U RO l R kc ks cc nL ret own E pc ls (st) h r := by
  subst hp
  exact PWn.go k fun p e s m args below meth c H locs cells slots Q ad la hC hL w => lv_bipush hC.1 hC.2.1 hd hv w
theorem n_sipush {n : Int} {v : Int32} (hv : (Int16.ofInt n).toInt32 = v) (hd : decode cc pc = .ok (.sipush n, 3)) (hp : pc + 3 = pc') (k : PWn U RO l R kc ks cc nL ret own E pc' ls (.int v :: st) h r) : PWn U RO l R kc ks cc nL ret own E pc ls (st) h r := by
  subst hp
  exact PWn.go k fun p e s m args below meth c H locs cells slots Q ad la hC hL w => lv_sipush hC.1 hC.2.1 hd hv w
theorem n_iadd {x y : Int32} (hd : decode cc pc = .ok (.iadd, 1)) (hp : pc + 1 = pc') (k : PWn U RO l R kc ks cc nL ret own E pc' ls (.int (x + y) :: st) h r) : PWn U RO l R kc ks cc nL ret own E pc ls (.int y :: .int x :: st) h r := by
  subst hp
  exact PWn.go k fun p e s m args below meth c H locs cells slots Q ad la hC hL w => lv_iadd hC.1 hC.2.1 hd w
theorem n_isub {x y : Int32} (hd : decode cc pc = .ok (.isub, 1)) (hp : pc + 1 = pc') (k : PWn U RO l R kc ks cc nL ret own E pc' ls (.int (x - y) :: st) h r) : PWn U RO l R kc ks cc nL ret own E pc ls (.int y :: .int x :: st) h r := by
  subst hp
  exact PWn.go k fun p e s m args below meth c H locs cells slots Q ad la hC hL w => lv_isub hC.1 hC.2.1 hd w
theorem n_imul {x y : Int32} (hd : decode cc pc = .ok (.imul, 1)) (hp : pc + 1 = pc') (k : PWn U RO l R kc ks cc nL ret own E pc' ls (.int (x * y) :: st) h r) : PWn U RO l R kc ks cc nL ret own E pc ls (.int y :: .int x :: st) h r := by
  subst hp
  exact PWn.go k fun p e s m args below meth c H locs cells slots Q ad la hC hL w => lv_imul hC.1 hC.2.1 hd w
theorem n_iand {x y : Int32} (hd : decode cc pc = .ok (.iand, 1)) (hp : pc + 1 = pc') (k : PWn U RO l R kc ks cc nL ret own E pc' ls (.int (x &&& y) :: st) h r) : PWn U RO l R kc ks cc nL ret own E pc ls (.int y :: .int x :: st) h r := by
  subst hp
  exact PWn.go k fun p e s m args below meth c H locs cells slots Q ad la hC hL w => lv_iand hC.1 hC.2.1 hd w
theorem n_ior {x y : Int32} (hd : decode cc pc = .ok (.ior, 1)) (hp : pc + 1 = pc') (k : PWn U RO l R kc ks cc nL ret own E pc' ls (.int (x ||| y) :: st) h r) : PWn U RO l R kc ks cc nL ret own E pc ls (.int y :: .int x :: st) h r := by
  subst hp
  exact PWn.go k fun p e s m args below meth c H locs cells slots Q ad la hC hL w => lv_ior hC.1 hC.2.1 hd w
theorem n_ixor {x y : Int32} (hd : decode cc pc = .ok (.ixor, 1)) (hp : pc + 1 = pc') (k : PWn U RO l R kc ks cc nL ret own E pc' ls (.int (x ^^^ y) :: st) h r) : PWn U RO l R kc ks cc nL ret own E pc ls (.int y :: .int x :: st) h r := by
  subst hp
  exact PWn.go k fun p e s m args below meth c H locs cells slots Q ad la hC hL w => lv_ixor hC.1 hC.2.1 hd w
theorem n_ishl {x y : Int32} (hd : decode cc pc = .ok (.ishl, 1)) (hp : pc + 1 = pc') (k : PWn U RO l R kc ks cc nL ret own E pc' ls (.int (x <<< (y &&& 31)) :: st) h r) : PWn U RO l R kc ks cc nL ret own E pc ls (.int y :: .int x :: st) h r := by
  subst hp
  exact PWn.go k fun p e s m args below meth c H locs cells slots Q ad la hC hL w => lv_ishl hC.1 hC.2.1 hd w
theorem n_ishr {x y : Int32} (hd : decode cc pc = .ok (.ishr, 1)) (hp : pc + 1 = pc') (k : PWn U RO l R kc ks cc nL ret own E pc' ls (.int (x >>> (y &&& 31)) :: st) h r) : PWn U RO l R kc ks cc nL ret own E pc ls (.int y :: .int x :: st) h r := by
  subst hp
  exact PWn.go k fun p e s m args below meth c H locs cells slots Q ad la hC hL w => lv_ishr hC.1 hC.2.1 hd w
theorem n_iushr {x y : Int32} (hd : decode cc pc = .ok (.iushr, 1)) (hp : pc + 1 = pc') (k : PWn U RO l R kc ks cc nL ret own E pc' ls (.int ((x.toUInt32 >>> (y.toUInt32 &&& Int32.toUInt32 31)).toInt32) :: st) h r) : PWn U RO l R kc ks cc nL ret own E pc ls (.int y :: .int x :: st) h r := by
  subst hp
  exact PWn.go k fun p e s m args below meth c H locs cells slots Q ad la hC hL w => lv_iushr hC.1 hC.2.1 hd rfl w
theorem n_ineg {x : Int32} (hd : decode cc pc = .ok (.ineg, 1)) (hp : pc + 1 = pc') (k : PWn U RO l R kc ks cc nL ret own E pc' ls (.int (-x) :: st) h r) : PWn U RO l R kc ks cc nL ret own E pc ls (.int x :: st) h r := by
  subst hp
  exact PWn.go k fun p e s m args below meth c H locs cells slots Q ad la hC hL w => lv_ineg hC.1 hC.2.1 hd w
theorem n_ladd {x y : Int64} (hd : decode cc pc = .ok (.ladd, 1)) (hp : pc + 1 = pc') (k : PWn U RO l R kc ks cc nL ret own E pc' ls (.long (x + y) :: st) h r) : PWn U RO l R kc ks cc nL ret own E pc ls (.long y :: .long x :: st) h r := by
  subst hp
  exact PWn.go k fun p e s m args below meth c H locs cells slots Q ad la hC hL w => lv_ladd hC.1 hC.2.1 hd w
theorem n_lmul {x y : Int64} (hd : decode cc pc = .ok (.lmul, 1)) (hp : pc + 1 = pc') (k : PWn U RO l R kc ks cc nL ret own E pc' ls (.long (x * y) :: st) h r) : PWn U RO l R kc ks cc nL ret own E pc ls (.long y :: .long x :: st) h r := by
  subst hp
  exact PWn.go k fun p e s m args below meth c H locs cells slots Q ad la hC hL w => lv_lmul hC.1 hC.2.1 hd w
theorem n_land {x y : Int64} (hd : decode cc pc = .ok (.land, 1)) (hp : pc + 1 = pc') (k : PWn U RO l R kc ks cc nL ret own E pc' ls (.long (x &&& y) :: st) h r) : PWn U RO l R kc ks cc nL ret own E pc ls (.long y :: .long x :: st) h r := by
  subst hp
  exact PWn.go k fun p e s m args below meth c H locs cells slots Q ad la hC hL w => lv_land hC.1 hC.2.1 hd w
theorem n_lor {x y : Int64} (hd : decode cc pc = .ok (.lor, 1)) (hp : pc + 1 = pc') (k : PWn U RO l R kc ks cc nL ret own E pc' ls (.long (x ||| y) :: st) h r) : PWn U RO l R kc ks cc nL ret own E pc ls (.long y :: .long x :: st) h r := by
  subst hp
  exact PWn.go k fun p e s m args below meth c H locs cells slots Q ad la hC hL w => lv_lor hC.1 hC.2.1 hd w
theorem n_lushr {x : Int64} {y : Int32} (hd : decode cc pc = .ok (.lushr, 1)) (hp : pc + 1 = pc') (k : PWn U RO l R kc ks cc nL ret own E pc' ls (.long ((x.toUInt64 >>> (y.toInt64.toUInt64 &&& Int64.toUInt64 63)).toInt64) :: st) h r) : PWn U RO l R kc ks cc nL ret own E pc ls (.int y :: .long x :: st) h r := by
  subst hp
  exact PWn.go k fun p e s m args below meth c H locs cells slots Q ad la hC hL w => lv_lushr hC.1 hC.2.1 hd rfl w
theorem n_i2l {x : Int32} (hd : decode cc pc = .ok (.i2l, 1)) (hp : pc + 1 = pc') (k : PWn U RO l R kc ks cc nL ret own E pc' ls (.long x.toInt64 :: st) h r) : PWn U RO l R kc ks cc nL ret own E pc ls (.int x :: st) h r := by
  subst hp
  exact PWn.go k fun p e s m args below meth c H locs cells slots Q ad la hC hL w => lv_i2l hC.1 hC.2.1 hd rfl w
theorem n_l2i {x : Int64} (hd : decode cc pc = .ok (.l2i, 1)) (hp : pc + 1 = pc') (k : PWn U RO l R kc ks cc nL ret own E pc' ls (.int x.toInt32 :: st) h r) : PWn U RO l R kc ks cc nL ret own E pc ls (.long x :: st) h r := by
  subst hp
  exact PWn.go k fun p e s m args below meth c H locs cells slots Q ad la hC hL w => lv_l2i hC.1 hC.2.1 hd rfl w
theorem n_dup {v : Value} (hv : v.category = 1) (hd : decode cc pc = .ok (.dup, 1)) (hp : pc + 1 = pc') (k : PWn U RO l R kc ks cc nL ret own E pc' ls (v :: v :: st) h r) : PWn U RO l R kc ks cc nL ret own E pc ls (v :: st) h r := by
  subst hp
  exact PWn.go k fun p e s m args below meth c H locs cells slots Q ad la hC hL w => lv_dup hC.1 hC.2.1 hd (by rw [qv_cat]; exact hv) w
theorem n_pop {v : Value} (hv : v.category = 1) (hd : decode cc pc = .ok (.pop, 1)) (hp : pc + 1 = pc') (k : PWn U RO l R kc ks cc nL ret own E pc' ls (st) h r) : PWn U RO l R kc ks cc nL ret own E pc ls (v :: st) h r := by
  subst hp
  exact PWn.go k fun p e s m args below meth c H locs cells slots Q ad la hC hL w => lv_pop hC.1 hC.2.1 hd (by rw [qv_cat]; exact hv) w
theorem n_dup2 {v w1 : Value} (hv : v.category = 1) (hw : w1.category = 1) (hd : decode cc pc = .ok (.dup2, 1)) (hp : pc + 1 = pc') (k : PWn U RO l R kc ks cc nL ret own E pc' ls (v :: w1 :: v :: w1 :: st) h r) : PWn U RO l R kc ks cc nL ret own E pc ls (v :: w1 :: st) h r := by
  subst hp
  exact PWn.go k fun p e s m args below meth c H locs cells slots Q ad la hC hL w => lv_dup2_11 hC.1 hC.2.1 hd (by rw [qv_cat]; exact hv) (by rw [qv_cat]; exact hw) w
theorem n_idiv {x y : Int32} (hd : decode cc pc = .ok (.idiv, 1)) (hp : pc + 1 = pc') (k : ¬ y = 0 → PWn U RO l R kc ks cc nL ret own E pc' ls (.int (x / y) :: st) h r) : PWn U RO l R kc ks cc nL ret own E pc ls (.int y :: .int x :: st) h (qg (decide (¬ y = 0)) r) := by
  subst hp
  intro z hz
  obtain ⟨h1, h2⟩ := qg_some hz
  have hy : ¬ y = 0 := of_decide_eq_true h1
  exact PWn.go (k hy) (fun p e s m args below meth c H locs cells slots Q ad la hC hL w => lv_idiv hC.1 hC.2.1 hd hy w) z h2
theorem n_irem {x y : Int32} (hd : decode cc pc = .ok (.irem, 1)) (hp : pc + 1 = pc') (k : ¬ y = 0 → PWn U RO l R kc ks cc nL ret own E pc' ls (.int (x - x / y * y) :: st) h r) : PWn U RO l R kc ks cc nL ret own E pc ls (.int y :: .int x :: st) h (qg (decide (¬ y = 0)) r) := by
  subst hp
  intro z hz
  obtain ⟨h1, h2⟩ := qg_some hz
  have hy : ¬ y = 0 := of_decide_eq_true h1
  exact PWn.go (k hy) (fun p e s m args below meth c H locs cells slots Q ad la hC hL w => lv_irem hC.1 hC.2.1 hd hy w) z h2
theorem n_lrem {x y : Int64} (hd : decode cc pc = .ok (.lrem, 1)) (hp : pc + 1 = pc') (k : ¬ y = 0 → PWn U RO l R kc ks cc nL ret own E pc' ls (.long (x - x / y * y) :: st) h r) : PWn U RO l R kc ks cc nL ret own E pc ls (.long y :: .long x :: st) h (qg (decide (¬ y = 0)) r) := by
  subst hp
  intro z hz
  obtain ⟨h1, h2⟩ := qg_some hz
  have hy : ¬ y = 0 := of_decide_eq_true h1
  exact PWn.go (k hy) (fun p e s m args below meth c H locs cells slots Q ad la hC hL w => lv_lrem hC.1 hC.2.1 hd hy w) z h2
theorem n_iload_n {k0 : Fin 4} {x : Int32} (hl : ls[(k0 : Nat)]? = some (some (.int x))) (hd : decode cc pc = .ok (.iload_n k0, 1)) (hp : pc + 1 = pc') (k : PWn U RO l R kc ks cc nL ret own E pc' ls (.int x :: st) h r) : PWn U RO l R kc ks cc nL ret own E pc ls (st) h r := by
  subst hp
  exact PWn.go k fun p e s m args below meth c H locs cells slots Q ad la hC hL w => lv_iload_n hC.1 hC.2.1 hd rfl (hL.2.2 _ _ hl) w
theorem n_aload_n {k0 : Fin 4} {x : Nat} (hl : ls[(k0 : Nat)]? = some (some (.ref x))) (hd : decode cc pc = .ok (.aload_n k0, 1)) (hp : pc + 1 = pc') (k : PWn U RO l R kc ks cc nL ret own E pc' ls (.ref x :: st) h r) : PWn U RO l R kc ks cc nL ret own E pc ls (st) h r := by
  subst hp
  exact PWn.go k fun p e s m args below meth c H locs cells slots Q ad la hC hL w => lv_aload_n hC.1 hC.2.1 hd rfl (hL.2.2 _ _ hl) w
theorem n_lload_n {k0 : Fin 4} {x : Int64} (hl : ls[(k0 : Nat)]? = some (some (.long x))) (hd : decode cc pc = .ok (.lload_n k0, 1)) (hp : pc + 1 = pc') (k : PWn U RO l R kc ks cc nL ret own E pc' ls (.long x :: st) h r) : PWn U RO l R kc ks cc nL ret own E pc ls (st) h r := by
  subst hp
  exact PWn.go k fun p e s m args below meth c H locs cells slots Q ad la hC hL w => lv_lload_n hC.1 hC.2.1 hd rfl (hL.2.2 _ _ hl) w
theorem n_iload {i : Nat} {x : Int32} (hl : ls[i]? = some (some (.int x))) (hd : decode cc pc = .ok (.iload i, 2)) (hp : pc + 2 = pc') (k : PWn U RO l R kc ks cc nL ret own E pc' ls (.int x :: st) h r) : PWn U RO l R kc ks cc nL ret own E pc ls (st) h r := by
  subst hp
  exact PWn.go k fun p e s m args below meth c H locs cells slots Q ad la hC hL w => lv_iload hC.1 hC.2.1 hd (hL.2.2 _ _ hl) w
theorem n_aload {i : Nat} {x : Nat} (hl : ls[i]? = some (some (.ref x))) (hd : decode cc pc = .ok (.aload i, 2)) (hp : pc + 2 = pc') (k : PWn U RO l R kc ks cc nL ret own E pc' ls (.ref x :: st) h r) : PWn U RO l R kc ks cc nL ret own E pc ls (st) h r := by
  subst hp
  exact PWn.go k fun p e s m args below meth c H locs cells slots Q ad la hC hL w => lv_aload hC.1 hC.2.1 hd (hL.2.2 _ _ hl) w
theorem n_istore_n {k0 : Fin 4} {x : Int32} (hd : decode cc pc = .ok (.istore_n k0, 1)) (hp : pc + 1 = pc') (hi : (k0 : Nat) < nL) (h1 : q1 ls (k0 : Nat)) (k : PWn U RO l R kc ks cc nL ret own E pc' (ls.set (k0 : Nat) (some (.int x))) st h r) : PWn U RO l R kc ks cc nL ret own E pc ls (.int x :: st) h r := by
  subst hp
  intro z hz p e s m args below meth c D cs ad A H locs cells slots la hC hW hL
  obtain ⟨la', e', hL'⟩ := qL_store (v := .int x) hL hi rfl h1
  intro T hT X
  obtain ⟨t, a, b⟩ := k z hz p e s m args below meth c D cs ad A H locs cells slots la' hC hW hL' T hT X
  refine ⟨t, ?_, b⟩
  have e'' : storeLocals la (k0 : Nat) (qv ad (.int x)) = some la' := e'
  have hx := hC.1
  have hb := hC.2.1
  simp only [List.map_cons, qv] at e'' ⊢
  jvm_step X.here [X.here.top, ↓top_set X.here.top, hx, hb, hd, e'', Value.isRef]
  exact a
theorem n_istore {i : Nat} {x : Int32} (hd : decode cc pc = .ok (.istore i, 2)) (hp : pc + 2 = pc') (hi : i < nL) (h1 : q1 ls i) (k : PWn U RO l R kc ks cc nL ret own E pc' (ls.set i (some (.int x))) st h r) : PWn U RO l R kc ks cc nL ret own E pc ls (.int x :: st) h r := by
  subst hp
  intro z hz p e s m args below meth c D cs ad A H locs cells slots la hC hW hL
  obtain ⟨la', e', hL'⟩ := qL_store (v := .int x) hL hi rfl h1
  intro T hT X
  obtain ⟨t, a, b⟩ := k z hz p e s m args below meth c D cs ad A H locs cells slots la' hC hW hL' T hT X
  refine ⟨t, ?_, b⟩
  have e'' : storeLocals la i (qv ad (.int x)) = some la' := e'
  have hx := hC.1
  have hb := hC.2.1
  simp only [List.map_cons, qv] at e'' ⊢
  jvm_step X.here [X.here.top, ↓top_set X.here.top, hx, hb, hd, e'', Value.isRef]
  exact a
theorem n_astore_n {k0 : Fin 4} {x : Nat} (hd : decode cc pc = .ok (.astore_n k0, 1)) (hp : pc + 1 = pc') (hi : (k0 : Nat) < nL) (h1 : q1 ls (k0 : Nat)) (k : PWn U RO l R kc ks cc nL ret own E pc' (ls.set (k0 : Nat) (some (.ref x))) st h r) : PWn U RO l R kc ks cc nL ret own E pc ls (.ref x :: st) h r := by
  subst hp
  intro z hz p e s m args below meth c D cs ad A H locs cells slots la hC hW hL
  obtain ⟨la', e', hL'⟩ := qL_store (v := .ref x) hL hi rfl h1
  intro T hT X
  obtain ⟨t, a, b⟩ := k z hz p e s m args below meth c D cs ad A H locs cells slots la' hC hW hL' T hT X
  refine ⟨t, ?_, b⟩
  have e'' : storeLocals la (k0 : Nat) (qv ad (.ref x)) = some la' := e'
  have hx := hC.1
  have hb := hC.2.1
  simp only [List.map_cons, qv] at e'' ⊢
  jvm_step X.here [X.here.top, ↓top_set X.here.top, hx, hb, hd, e'', Value.isRef]
  exact a
theorem n_astore {i : Nat} {x : Nat} (hd : decode cc pc = .ok (.astore i, 2)) (hp : pc + 2 = pc') (hi : i < nL) (h1 : q1 ls i) (k : PWn U RO l R kc ks cc nL ret own E pc' (ls.set i (some (.ref x))) st h r) : PWn U RO l R kc ks cc nL ret own E pc ls (.ref x :: st) h r := by
  subst hp
  intro z hz p e s m args below meth c D cs ad A H locs cells slots la hC hW hL
  obtain ⟨la', e', hL'⟩ := qL_store (v := .ref x) hL hi rfl h1
  intro T hT X
  obtain ⟨t, a, b⟩ := k z hz p e s m args below meth c D cs ad A H locs cells slots la' hC hW hL' T hT X
  refine ⟨t, ?_, b⟩
  have e'' : storeLocals la i (qv ad (.ref x)) = some la' := e'
  have hx := hC.1
  have hb := hC.2.1
  simp only [List.map_cons, qv] at e'' ⊢
  jvm_step X.here [X.here.top, ↓top_set X.here.top, hx, hb, hd, e'', Value.isRef]
  exact a
theorem n_iinc {i : Nat} {n : Int} {x v : Int32} (hv : Int32.ofInt n = v) (hd : decode cc pc = .ok (.iinc i n, 3)) (hp : pc + 3 = pc') (hl : ls[i]? = some (some (.int x))) (hi : i < nL) (h1 : q1 ls i) (k : PWn U RO l R kc ks cc nL ret own E pc' (ls.set i (some (.int (x + v)))) st h r) : PWn U RO l R kc ks cc nL ret own E pc ls st h r := by
  subst hp
  subst hv
  intro z hz p e s m args below meth c D cs ad A H locs cells slots la hC hW hL
  obtain ⟨la', e', hL'⟩ := qL_store (v := .int (x + Int32.ofInt n)) hL hi rfl h1
  intro T hT X
  obtain ⟨t, a, b⟩ := k z hz p e s m args below meth c D cs ad A H locs cells slots la' hC hW hL' T hT X
  refine ⟨t, ?_, b⟩
  have e'' : storeLocals la i (.int (x + Int32.ofInt n)) = some la' := e'
  have hg : la[i]? = some (.val (.int x)) := hL.2.2 i _ hl
  have hx := hC.1
  have hb := hC.2.1
  jvm_step X.here [X.here.top, ↓top_set X.here.top, hx, hb, hd, hg, e'']
  exact a
theorem n_icmp_eq_t {x y : Int32} {off : Int} {tgt : Nat} (hd : decode cc pc = .ok (.if_icmp .eq off, 3)) (ht : (pc : Int) + off = (tgt : Int)) (hc : x = y) (k : PWn U RO l R kc ks cc nL ret own E tgt ls st h r) : PWn U RO l R kc ks cc nL ret own E pc ls (.int y :: .int x :: st) h r :=
  PWn.go k fun p e s m args below meth c H locs cells slots Q ad la hC hL w => lv_icmp_eq hC.1 hC.2.1 hd ht (fun _ => w) (fun z => absurd hc z)
theorem n_icmp_eq_f {x y : Int32} {off : Int} (hd : decode cc pc = .ok (.if_icmp .eq off, 3)) {tgt : Nat} (ht : (pc : Int) + off = (tgt : Int)) (hp : pc + 3 = pc') (hc : ¬ x = y) (k : PWn U RO l R kc ks cc nL ret own E pc' ls st h r) : PWn U RO l R kc ks cc nL ret own E pc ls (.int y :: .int x :: st) h r := by
  subst hp
  exact PWn.go k fun p e s m args below meth c H locs cells slots Q ad la hC hL w => lv_icmp_eq hC.1 hC.2.1 hd ht (fun z => absurd z hc) (fun _ => w)
theorem n_if_eq_t {x : Int32} {off : Int} {tgt : Nat} (hd : decode cc pc = .ok (.ifCond .eq off, 3)) (ht : (pc : Int) + off = (tgt : Int)) (hc : x = 0) (k : PWn U RO l R kc ks cc nL ret own E tgt ls st h r) : PWn U RO l R kc ks cc nL ret own E pc ls (.int x :: st) h r :=
  PWn.go k fun p e s m args below meth c H locs cells slots Q ad la hC hL w => lv_if_eq hC.1 hC.2.1 hd ht (fun _ => w) (fun z => absurd hc z)
theorem n_if_eq_f {x : Int32} {off : Int} (hd : decode cc pc = .ok (.ifCond .eq off, 3)) {tgt : Nat} (ht : (pc : Int) + off = (tgt : Int)) (hp : pc + 3 = pc') (hc : ¬ x = 0) (k : PWn U RO l R kc ks cc nL ret own E pc' ls st h r) : PWn U RO l R kc ks cc nL ret own E pc ls (.int x :: st) h r := by
  subst hp
  exact PWn.go k fun p e s m args below meth c H locs cells slots Q ad la hC hL w => lv_if_eq hC.1 hC.2.1 hd ht (fun z => absurd z hc) (fun _ => w)
theorem n_icmp_ne_t {x y : Int32} {off : Int} {tgt : Nat} (hd : decode cc pc = .ok (.if_icmp .ne off, 3)) (ht : (pc : Int) + off = (tgt : Int)) (hc : ¬ x = y) (k : PWn U RO l R kc ks cc nL ret own E tgt ls st h r) : PWn U RO l R kc ks cc nL ret own E pc ls (.int y :: .int x :: st) h r :=
  PWn.go k fun p e s m args below meth c H locs cells slots Q ad la hC hL w => lv_icmp_ne hC.1 hC.2.1 hd ht (fun _ => w) (fun z => absurd z hc)
theorem n_icmp_ne_f {x y : Int32} {off : Int} (hd : decode cc pc = .ok (.if_icmp .ne off, 3)) {tgt : Nat} (ht : (pc : Int) + off = (tgt : Int)) (hp : pc + 3 = pc') (hc : x = y) (k : PWn U RO l R kc ks cc nL ret own E pc' ls st h r) : PWn U RO l R kc ks cc nL ret own E pc ls (.int y :: .int x :: st) h r := by
  subst hp
  exact PWn.go k fun p e s m args below meth c H locs cells slots Q ad la hC hL w => lv_icmp_ne hC.1 hC.2.1 hd ht (fun z => absurd hc z) (fun _ => w)
theorem n_if_ne_t {x : Int32} {off : Int} {tgt : Nat} (hd : decode cc pc = .ok (.ifCond .ne off, 3)) (ht : (pc : Int) + off = (tgt : Int)) (hc : ¬ x = 0) (k : PWn U RO l R kc ks cc nL ret own E tgt ls st h r) : PWn U RO l R kc ks cc nL ret own E pc ls (.int x :: st) h r :=
  PWn.go k fun p e s m args below meth c H locs cells slots Q ad la hC hL w => lv_if_ne hC.1 hC.2.1 hd ht (fun _ => w) (fun z => absurd z hc)
theorem n_if_ne_f {x : Int32} {off : Int} (hd : decode cc pc = .ok (.ifCond .ne off, 3)) {tgt : Nat} (ht : (pc : Int) + off = (tgt : Int)) (hp : pc + 3 = pc') (hc : x = 0) (k : PWn U RO l R kc ks cc nL ret own E pc' ls st h r) : PWn U RO l R kc ks cc nL ret own E pc ls (.int x :: st) h r := by
  subst hp
  exact PWn.go k fun p e s m args below meth c H locs cells slots Q ad la hC hL w => lv_if_ne hC.1 hC.2.1 hd ht (fun z => absurd hc z) (fun _ => w)
theorem n_icmp_lt_t {x y : Int32} {off : Int} {tgt : Nat} (hd : decode cc pc = .ok (.if_icmp .lt off, 3)) (ht : (pc : Int) + off = (tgt : Int)) (hc : x < y) (k : PWn U RO l R kc ks cc nL ret own E tgt ls st h r) : PWn U RO l R kc ks cc nL ret own E pc ls (.int y :: .int x :: st) h r :=
  PWn.go k fun p e s m args below meth c H locs cells slots Q ad la hC hL w => lv_icmp_lt hC.1 hC.2.1 hd ht (fun _ => w) (fun z => absurd hc z)
theorem n_icmp_lt_f {x y : Int32} {off : Int} (hd : decode cc pc = .ok (.if_icmp .lt off, 3)) {tgt : Nat} (ht : (pc : Int) + off = (tgt : Int)) (hp : pc + 3 = pc') (hc : ¬ x < y) (k : PWn U RO l R kc ks cc nL ret own E pc' ls st h r) : PWn U RO l R kc ks cc nL ret own E pc ls (.int y :: .int x :: st) h r := by
  subst hp
  exact PWn.go k fun p e s m args below meth c H locs cells slots Q ad la hC hL w => lv_icmp_lt hC.1 hC.2.1 hd ht (fun z => absurd z hc) (fun _ => w)
theorem n_if_lt_t {x : Int32} {off : Int} {tgt : Nat} (hd : decode cc pc = .ok (.ifCond .lt off, 3)) (ht : (pc : Int) + off = (tgt : Int)) (hc : x < 0) (k : PWn U RO l R kc ks cc nL ret own E tgt ls st h r) : PWn U RO l R kc ks cc nL ret own E pc ls (.int x :: st) h r :=
  PWn.go k fun p e s m args below meth c H locs cells slots Q ad la hC hL w => lv_if_lt hC.1 hC.2.1 hd ht (fun _ => w) (fun z => absurd hc z)
theorem n_if_lt_f {x : Int32} {off : Int} (hd : decode cc pc = .ok (.ifCond .lt off, 3)) {tgt : Nat} (ht : (pc : Int) + off = (tgt : Int)) (hp : pc + 3 = pc') (hc : ¬ x < 0) (k : PWn U RO l R kc ks cc nL ret own E pc' ls st h r) : PWn U RO l R kc ks cc nL ret own E pc ls (.int x :: st) h r := by
  subst hp
  exact PWn.go k fun p e s m args below meth c H locs cells slots Q ad la hC hL w => lv_if_lt hC.1 hC.2.1 hd ht (fun z => absurd z hc) (fun _ => w)
theorem n_icmp_ge_t {x y : Int32} {off : Int} {tgt : Nat} (hd : decode cc pc = .ok (.if_icmp .ge off, 3)) (ht : (pc : Int) + off = (tgt : Int)) (hc : y ≤ x) (k : PWn U RO l R kc ks cc nL ret own E tgt ls st h r) : PWn U RO l R kc ks cc nL ret own E pc ls (.int y :: .int x :: st) h r :=
  PWn.go k fun p e s m args below meth c H locs cells slots Q ad la hC hL w => lv_icmp_ge hC.1 hC.2.1 hd ht (fun _ => w) (fun z => absurd hc z)
theorem n_icmp_ge_f {x y : Int32} {off : Int} (hd : decode cc pc = .ok (.if_icmp .ge off, 3)) {tgt : Nat} (ht : (pc : Int) + off = (tgt : Int)) (hp : pc + 3 = pc') (hc : ¬ y ≤ x) (k : PWn U RO l R kc ks cc nL ret own E pc' ls st h r) : PWn U RO l R kc ks cc nL ret own E pc ls (.int y :: .int x :: st) h r := by
  subst hp
  exact PWn.go k fun p e s m args below meth c H locs cells slots Q ad la hC hL w => lv_icmp_ge hC.1 hC.2.1 hd ht (fun z => absurd z hc) (fun _ => w)
theorem n_if_ge_t {x : Int32} {off : Int} {tgt : Nat} (hd : decode cc pc = .ok (.ifCond .ge off, 3)) (ht : (pc : Int) + off = (tgt : Int)) (hc : 0 ≤ x) (k : PWn U RO l R kc ks cc nL ret own E tgt ls st h r) : PWn U RO l R kc ks cc nL ret own E pc ls (.int x :: st) h r :=
  PWn.go k fun p e s m args below meth c H locs cells slots Q ad la hC hL w => lv_if_ge hC.1 hC.2.1 hd ht (fun _ => w) (fun z => absurd hc z)
theorem n_if_ge_f {x : Int32} {off : Int} (hd : decode cc pc = .ok (.ifCond .ge off, 3)) {tgt : Nat} (ht : (pc : Int) + off = (tgt : Int)) (hp : pc + 3 = pc') (hc : ¬ 0 ≤ x) (k : PWn U RO l R kc ks cc nL ret own E pc' ls st h r) : PWn U RO l R kc ks cc nL ret own E pc ls (.int x :: st) h r := by
  subst hp
  exact PWn.go k fun p e s m args below meth c H locs cells slots Q ad la hC hL w => lv_if_ge hC.1 hC.2.1 hd ht (fun z => absurd z hc) (fun _ => w)
theorem n_icmp_gt_t {x y : Int32} {off : Int} {tgt : Nat} (hd : decode cc pc = .ok (.if_icmp .gt off, 3)) (ht : (pc : Int) + off = (tgt : Int)) (hc : y < x) (k : PWn U RO l R kc ks cc nL ret own E tgt ls st h r) : PWn U RO l R kc ks cc nL ret own E pc ls (.int y :: .int x :: st) h r :=
  PWn.go k fun p e s m args below meth c H locs cells slots Q ad la hC hL w => lv_icmp_gt hC.1 hC.2.1 hd ht (fun _ => w) (fun z => absurd hc z)
theorem n_icmp_gt_f {x y : Int32} {off : Int} (hd : decode cc pc = .ok (.if_icmp .gt off, 3)) {tgt : Nat} (ht : (pc : Int) + off = (tgt : Int)) (hp : pc + 3 = pc') (hc : ¬ y < x) (k : PWn U RO l R kc ks cc nL ret own E pc' ls st h r) : PWn U RO l R kc ks cc nL ret own E pc ls (.int y :: .int x :: st) h r := by
  subst hp
  exact PWn.go k fun p e s m args below meth c H locs cells slots Q ad la hC hL w => lv_icmp_gt hC.1 hC.2.1 hd ht (fun z => absurd z hc) (fun _ => w)
theorem n_if_gt_t {x : Int32} {off : Int} {tgt : Nat} (hd : decode cc pc = .ok (.ifCond .gt off, 3)) (ht : (pc : Int) + off = (tgt : Int)) (hc : 0 < x) (k : PWn U RO l R kc ks cc nL ret own E tgt ls st h r) : PWn U RO l R kc ks cc nL ret own E pc ls (.int x :: st) h r :=
  PWn.go k fun p e s m args below meth c H locs cells slots Q ad la hC hL w => lv_if_gt hC.1 hC.2.1 hd ht (fun _ => w) (fun z => absurd hc z)
theorem n_if_gt_f {x : Int32} {off : Int} (hd : decode cc pc = .ok (.ifCond .gt off, 3)) {tgt : Nat} (ht : (pc : Int) + off = (tgt : Int)) (hp : pc + 3 = pc') (hc : ¬ 0 < x) (k : PWn U RO l R kc ks cc nL ret own E pc' ls st h r) : PWn U RO l R kc ks cc nL ret own E pc ls (.int x :: st) h r := by
  subst hp
  exact PWn.go k fun p e s m args below meth c H locs cells slots Q ad la hC hL w => lv_if_gt hC.1 hC.2.1 hd ht (fun z => absurd z hc) (fun _ => w)
theorem n_icmp_le_t {x y : Int32} {off : Int} {tgt : Nat} (hd : decode cc pc = .ok (.if_icmp .le off, 3)) (ht : (pc : Int) + off = (tgt : Int)) (hc : x ≤ y) (k : PWn U RO l R kc ks cc nL ret own E tgt ls st h r) : PWn U RO l R kc ks cc nL ret own E pc ls (.int y :: .int x :: st) h r :=
  PWn.go k fun p e s m args below meth c H locs cells slots Q ad la hC hL w => lv_icmp_le hC.1 hC.2.1 hd ht (fun _ => w) (fun z => absurd hc z)
theorem n_icmp_le_f {x y : Int32} {off : Int} (hd : decode cc pc = .ok (.if_icmp .le off, 3)) {tgt : Nat} (ht : (pc : Int) + off = (tgt : Int)) (hp : pc + 3 = pc') (hc : ¬ x ≤ y) (k : PWn U RO l R kc ks cc nL ret own E pc' ls st h r) : PWn U RO l R kc ks cc nL ret own E pc ls (.int y :: .int x :: st) h r := by
  subst hp
  exact PWn.go k fun p e s m args below meth c H locs cells slots Q ad la hC hL w => lv_icmp_le hC.1 hC.2.1 hd ht (fun z => absurd z hc) (fun _ => w)
theorem n_if_le_t {x : Int32} {off : Int} {tgt : Nat} (hd : decode cc pc = .ok (.ifCond .le off, 3)) (ht : (pc : Int) + off = (tgt : Int)) (hc : x ≤ 0) (k : PWn U RO l R kc ks cc nL ret own E tgt ls st h r) : PWn U RO l R kc ks cc nL ret own E pc ls (.int x :: st) h r :=
  PWn.go k fun p e s m args below meth c H locs cells slots Q ad la hC hL w => lv_if_le hC.1 hC.2.1 hd ht (fun _ => w) (fun z => absurd hc z)
theorem n_if_le_f {x : Int32} {off : Int} (hd : decode cc pc = .ok (.ifCond .le off, 3)) {tgt : Nat} (ht : (pc : Int) + off = (tgt : Int)) (hp : pc + 3 = pc') (hc : ¬ x ≤ 0) (k : PWn U RO l R kc ks cc nL ret own E pc' ls st h r) : PWn U RO l R kc ks cc nL ret own E pc ls (.int x :: st) h r := by
  subst hp
  exact PWn.go k fun p e s m args below meth c H locs cells slots Q ad la hC hL w => lv_if_le hC.1 hC.2.1 hd ht (fun z => absurd z hc) (fun _ => w)
theorem n_goto {off : Int} {tgt : Nat} (hd : decode cc pc = .ok (.goto off, 3)) (ht : (pc : Int) + off = (tgt : Int)) (k : PWn U RO l R kc ks cc nL ret own E tgt ls st h r) : PWn U RO l R kc ks cc nL ret own E pc ls st h r :=
  PWn.go k fun p e s m args below meth c H locs cells slots Q ad la hC hL w => lv_goto hC.1 hC.2.1 hd ht w
theorem n_swO {dflt lo hi : Int} {offs : Array Int} {len : Nat} {x : Int32} {tgt : Nat} (hd : decode cc pc = .ok (.tableswitch dflt lo hi offs, len)) (hc : x.toInt < lo ∨ hi < x.toInt) (ht : (pc : Int) + dflt = (tgt : Int)) (k : PWn U RO l R kc ks cc nL ret own E tgt ls st h r) : PWn U RO l R kc ks cc nL ret own E pc ls (.int x :: st) h r :=
  PWn.go k fun p e s m args below meth c H locs cells slots Q ad la hC hL w => lv_tableOut hC.1 hC.2.1 hd hc ht w
theorem n_swI {dflt lo hi : Int} {offs : Array Int} {len : Nat} {x v : Int32} {off : Int} {tgt : Nat} (hd : decode cc pc = .ok (.tableswitch dflt lo hi offs, len)) (hv : x = v) (h1 : ¬ v.toInt < lo) (h2 : ¬ hi < v.toInt) (ho : offs[(v.toInt - lo).toNat]? = some off) (ht : (pc : Int) + off = (tgt : Int)) (k : PWn U RO l R kc ks cc nL ret own E tgt ls st h r) : PWn U RO l R kc ks cc nL ret own E pc ls (.int x :: st) h r := by
  subst hv
  exact PWn.go k fun p e s m args below meth c H locs cells slots Q ad la hC hL w => lv_tableIn hC.1 hC.2.1 hd h1 h2 ho ht w
theorem n_lk {dflt : Int} {ps : Array (Int × Int)} {len : Nat} {x : Int32} {off : Int} {tgt : Nat} (hd : decode cc pc = .ok (.lookupswitch dflt ps, len)) (hs : (ps.toList.zip (ps.toList.drop 1)).all (fun (a, next) => a.1 < next.1) = true) (ho : Op.lookupswitch.offset ps.toList dflt x.toInt = off) (ht : (pc : Int) + off = (tgt : Int)) (k : PWn U RO l R kc ks cc nL ret own E tgt ls st h r) : PWn U RO l R kc ks cc nL ret own E pc ls (.int x :: st) h r :=
  PWn.go k fun p e s m args below meth c H locs cells slots Q ad la hC hL w => lv_lookup hC.1 hC.2.1 hd hs ho ht w
/-! names, choices, joins -/
theorem n_if {c : Prop} [Decidable c] {r1 r2 : Option ρ} (k1 : c → PWn U RO l R kc ks cc nL ret own E pc ls st h r1) (k2 : ¬ c → PWn U RO l R kc ks cc nL ret own E pc ls st h r2) : PWn U RO l R kc ks cc nL ret own E pc ls st h (if c then r1 else r2) := by
  by_cases hc : c
  · rw [if_pos hc]; exact k1 hc
  · rw [if_neg hc]; exact k2 hc
theorem n_dia {α : Type} {c : Prop} [Decidable c] {a b : α} {kk : α → Option ρ} (k1 : c → PWn U RO l R kc ks cc nL ret own E pc ls st h (qlt a kk)) (k2 : ¬ c → PWn U RO l R kc ks cc nL ret own E pc ls st h (qlt b kk)) : PWn U RO l R kc ks cc nL ret own E pc ls st h (qlt (if c then a else b) kk) := by
  by_cases hc : c
  · rw [if_pos hc]; exact k1 hc
  · rw [if_neg hc]; exact k2 hc
theorem n_nm {x : Int32} {kk : Int32 → Option ρ} (k : ∀ y : Int32, PWn U RO l R kc ks cc nL ret own E pc ls (.int y :: st) h (kk y)) : PWn U RO l R kc ks cc nL ret own E pc ls (.int x :: st) h (qlt x kk) := k x
theorem n_nmL {x : Int64} {kk : Int64 → Option ρ} (k : ∀ y : Int64, PWn U RO l R kc ks cc nL ret own E pc ls (.long y :: st) h (kk y)) : PWn U RO l R kc ks cc nL ret own E pc ls (.long x :: st) h (qlt x kk) := k x
theorem n_nmH {kk : qH → Option ρ} (k : ∀ h1 : qH, PWn U RO l R kc ks cc nL ret own E pc ls st h1 (kk h1)) : PWn U RO l R kc ks cc nL ret own E pc ls st h (qlt h kk) := k h
theorem n_vj {e : Int32} {kk : Int32 → Option ρ} (pcJ : Nat) (lsJ : List (Option Value)) (stJ : List Value) (J : ∀ v : Int32, PWn U RO l R kc ks cc nL ret own E pcJ lsJ (.int v :: stJ) h (kk v)) (B : (∀ v : Int32, PWn U RO l R kc ks cc nL ret own E pcJ lsJ (.int v :: stJ) h (qlt v kk)) → PWn U RO l R kc ks cc nL ret own E pc ls st h (qlt e kk)) : PWn U RO l R kc ks cc nL ret own E pc ls st h (qlt e kk) := B J
theorem n_jn {κ : Type} {K : κ} {F : κ → Option ρ} (P : κ → Prop) (J : P K) (B : ∀ j, P j → PWn U RO l R kc ks cc nL ret own E pc ls st h (F j)) : PWn U RO l R kc ks cc nL ret own E pc ls st h (qj K F) := B K J
theorem n_wk {ls' : List (Option Value)} (hq : qle ls' ls) (k : PWn U RO l R kc ks cc nL ret own E pc ls' st h r) : PWn U RO l R kc ks cc nL ret own E pc ls st h r :=
  fun z hz p e s m args below meth c D cs ad A H locs cells slots la hC hW hL => k z hz p e s m args below meth c D cs ad A H locs cells slots la hC hW ⟨hL.1, hL.2.1, fun i v hi => hL.2.2 i v (qle_at _ _ hq i v hi)⟩
/-! constants of the pool -/
theorem n_ldc {idx : Nat} {v : Int32} (hw : Cond.constant own idx v ∈ qTT) (hd : decode cc pc = .ok (.ldc idx, 2)) (hp : pc + 2 = pc') (k : PWn U RO l R kc ks cc nL ret own E pc' ls (.int v :: st) h r) : PWn U RO l R kc ks cc nL ret own E pc ls st h r := by
  subst hp
  exact PWn.go k fun p e s m args below meth c H locs cells slots Q ad la hC hL w => lv_ldc hC.1 hC.2.1 hC.2.2.2.2.1 (hC.2.2.2.2.2.1 _ hw) hd w
theorem n_ldcw {idx : Nat} {v : Int32} (hw : Cond.constant own idx v ∈ qTT) (hd : decode cc pc = .ok (.ldc_w idx, 3)) (hp : pc + 3 = pc') (k : PWn U RO l R kc ks cc nL ret own E pc' ls (.int v :: st) h r) : PWn U RO l R kc ks cc nL ret own E pc ls st h r := by
  subst hp
  exact PWn.go k fun p e s m args below meth c H locs cells slots Q ad la hC hL w => lv_ldcw hC.1 hC.2.1 hC.2.2.2.2.1 (hC.2.2.2.2.2.1 _ hw) hd w
theorem n_ldc2 {idx : Nat} {v : Int64} (hw : Cond.constantLong own idx v ∈ qTT) (hd : decode cc pc = .ok (.ldc2_w idx, 3)) (hp : pc + 3 = pc') (k : PWn U RO l R kc ks cc nL ret own E pc' ls (.long v :: st) h r) : PWn U RO l R kc ks cc nL ret own E pc ls st h r := by
  subst hp
  exact PWn.go k fun p e s m args below meth c H locs cells slots Q ad la hC hL w => lv_ldc2 hC.1 hC.2.1 hC.2.2.2.2.1 (hC.2.2.2.2.2.1 _ hw) hd w
theorem n_get {idx ci k a : Nat} {fs : List qF} {f : qF} (hg : qGet own idx ci k) (hs : U[a]? = some (.inl (ci, fs))) (hf : fs[k]? = some f) (hd : decode cc pc = .ok (.getfield idx, 3)) (hp : pc + 3 = pc') (kk : PWn U RO l R kc ks cc nL ret own E pc' ls (qfa h a k f :: st) h r) : PWn U RO l R kc ks cc nL ret own E pc ls (.ref a :: st) h r := by
  subst hp
  intro z hz p e s m args below meth c D cs ad A H locs cells slots la hC hW hL
  have w := kk z hz p e s m args below meth c D cs ad A H locs cells slots la hC hW hL
  obtain ⟨C, T, N, hc, hk, hin, hlk⟩ := hg
  have he := qpic_get (cs := cs) (ad := ad) (h := h) hs
  have hv : (fs.mapIdx (qfv ad (h.1 a) (h.2 a)))[k]? = some (qv ad (qfa h a k f)) := by rw [qfa_qv]; simp [hf]
  rcases hlk with hlk | ⟨host, hlk⟩
  · exact va_get hC.1 hC.2.1 hC.2.2.2.2.2.1 hin hC.2.2.2.2.1 hW.2.2.1 hW.1 a he hc k hk (hC.2.2.2.2.2.1 _ hlk) (fun _ h9 => h9) hv hd w
  · exact va_getN hC.1 hC.2.1 hC.2.2.2.2.2.1 hin hC.2.2.2.2.1 hW.2.2.1 hW.1 a he hc k hk (va_Nw.use rfl (hC.2.2.2.2.2.2.1 _ hlk)) (fun _ h9 => h9) hv hd w
theorem n_geti {idx ci k a : Nat} {fs : List qF} (hg : qGet own idx ci k) (hs : U[a]? = some (.inl (ci, fs))) (hf : fs[k]? = some (.inl 0)) (hd : decode cc pc = .ok (.getfield idx, 3)) (hp : pc + 3 = pc') (kk : PWn U RO l R kc ks cc nL ret own E pc' ls (.int (h.1 a k) :: st) h r) : PWn U RO l R kc ks cc nL ret own E pc ls (.ref a :: st) h r := n_get hg hs hf hd hp kk
theorem n_getl {idx ci k a : Nat} {fs : List qF} (hg : qGet own idx ci k) (hs : U[a]? = some (.inl (ci, fs))) (hf : fs[k]? = some (.inl 1)) (hd : decode cc pc = .ok (.getfield idx, 3)) (hp : pc + 3 = pc') (kk : PWn U RO l R kc ks cc nL ret own E pc' ls (.long (h.2 a) :: st) h r) : PWn U RO l R kc ks cc nL ret own E pc ls (.ref a :: st) h r := n_get hg hs hf hd hp kk
theorem n_getr {idx ci k a b : Nat} {fs : List qF} (hg : qGet own idx ci k) (hs : U[a]? = some (.inl (ci, fs))) (hf : fs[k]? = some (.inr (some b))) (hd : decode cc pc = .ok (.getfield idx, 3)) (hp : pc + 3 = pc') (kk : PWn U RO l R kc ks cc nL ret own E pc' ls (.ref b :: st) h r) : PWn U RO l R kc ks cc nL ret own E pc ls (.ref a :: st) h r := n_get hg hs hf hd hp kk
theorem n_put {idx ci k a : Nat} {fs : List qF} {f : qF} {v : Value} {ty : FieldType} {h' : qH} (hg : qPut own idx ci k ty) (hs : U[a]? = some (.inl (ci, fs))) (hf : fs[k]? = some f) (hn : ∀ ad, narrow ty (qv ad v) = qv ad v) (hfit : ∀ ad, fits ty (qv ad v) = true) (hv : ∀ ad, qfv ad (h'.1 a) (h'.2 a) k f = qv ad v) (ho : ∀ ad (j : Nat) (g : qF), fs[j]? = some g → j ≠ k → qfv ad (h'.1 a) (h'.2 a) j g = qfv ad (h.1 a) (h.2 a) j g) (hq : ∀ cs ad, (qpic U cs ad h).set a (ad a, qcell cs ad h' a (.inl (ci, fs))) = qpic U cs ad h') (hd : decode cc pc = .ok (.putfield idx, 3)) (hp : pc + 3 = pc') (kk : PWn U RO l R kc ks cc nL ret own E pc' ls st h' r) : PWn U RO l R kc ks cc nL ret own E pc ls (v :: .ref a :: st) h r := by
  subst hp
  intro z hz p e s m args below meth c D cs ad A H locs cells slots la hC hW hL
  obtain ⟨C, T, N, ty0, hc, hk, hin, hty, hnm, hfin, hpd, hlk⟩ := hg
  have he := qpic_get (cs := cs) (ad := ad) (h := h) hs
  have hlen : k < (fs.mapIdx (qfv ad (h.1 a) (h.2 a))).length := by
    have := (List.getElem?_eq_some_iff.mp hf).1
    simpa using this
  have hset : (qpic U cs ad h).set a (ad a, .inr (ci, (fs.mapIdx (qfv ad (h.1 a) (h.2 a))).set k (qv ad v))) = qpic U cs ad h' := by
    rw [← hq cs ad, qset_map ad (h.1 a) (h'.1 a) (h.2 a) (h'.2 a) fs k f (qv ad v) hf (hv ad) (ho ad)]
    rfl
  have fin : ∀ (H1 : Heap) (locs1 : List Loc), va_P D vwCl ((qpic U cs ad h).set a (ad a, .inr (ci, (fs.mapIdx (qfv ad (h.1 a) (h.2 a))).set k (qv ad v)))) H1 → va_D A ((qpic U cs ad h).set a (ad a, .inr (ci, (fs.mapIdx (qfv ad (h.1 a) (h.2 a))).set k (qv ad v)))) → va_S A s.heap H1 locs1 → W p l e R s m args below meth c H1 locs1 cells slots (MQ below (qQ ((E z).1.map (qv ad)) (qBn U D cs ad A (E z).2) A) args s (cells + kc) (slots + ks) A) (F0 m (pc + 3) la (st.map (qv ad))) := by
    intro H1 locs1 h1 h2 h3
    rw [hset] at h1 h2
    exact kk z hz p e s m args below meth c D cs ad A H1 locs1 cells slots la hC ⟨h1, h2, hW.2.2.1, h3, hW.2.2.2.2⟩ hL
  rcases hlk with hlk | ⟨host, hlk⟩
  · exact va_put hC.1 hC.2.1 hC.2.2.2.2.2.1 hin ty0 hty hnm hC.2.2.2.2.1 hW.2.2.1 hW.1 hW.2.1 hW.2.2.2.1 a he hc k hk (hC.2.2.2.2.2.1 _ hlk) (fun _ h9 => h9) hfin hpd (hn ad) (hfit ad) hlen hd fin
  · exact va_putN hC.1 hC.2.1 hC.2.2.2.2.2.1 hin ty0 hty hnm hC.2.2.2.2.1 hW.2.2.1 hW.1 hW.2.1 hW.2.2.2.1 a he hc k hk (va_Nw.use rfl (hC.2.2.2.2.2.2.1 _ hlk)) (fun _ h9 => h9) hfin hpd (hn ad) (hfit ad) hlen hd fin
theorem n_puti {idx ci k a : Nat} {fs : List qF} {x : Int32} (hU : qok U) (hg : qPut own idx ci k .int) (hs : U[a]? = some (.inl (ci, fs))) (hf : fs[k]? = some (.inl 0)) (hd : decode cc pc = .ok (.putfield idx, 3)) (hp : pc + 3 = pc') (kk : PWn U RO l R kc ks cc nL ret own E pc' ls st (qw h a k x) r) : PWn U RO l R kc ks cc nL ret own E pc ls (.int x :: .ref a :: st) h r :=
  n_put hg hs hf (fun _ => rfl) (fun _ => rfl) (fun _ => congrArg Value.int (qw_at h a k x)) (fun _ _ _ _ hj => qfv_row hj) (fun _ _ => qpic_row hU hs) hd hp kk
theorem n_putz {idx ci k a : Nat} {fs : List qF} {x : Int32} (hU : qok U) (hx : narrow .boolean (.int x) = .int x ∧ fits .boolean (.int x) = true) (hg : qPut own idx ci k .boolean) (hs : U[a]? = some (.inl (ci, fs))) (hf : fs[k]? = some (.inl 0)) (hd : decode cc pc = .ok (.putfield idx, 3)) (hp : pc + 3 = pc') (kk : PWn U RO l R kc ks cc nL ret own E pc' ls st (qw h a k x) r) : PWn U RO l R kc ks cc nL ret own E pc ls (.int x :: .ref a :: st) h r :=
  n_put hg hs hf (fun _ => hx.1) (fun _ => hx.2) (fun _ => congrArg Value.int (qw_at h a k x)) (fun _ _ _ _ hj => qfv_row hj) (fun _ _ => qpic_row hU hs) hd hp kk
theorem n_putl {idx ci k a : Nat} {fs : List qF} {x : Int64} (hg : qPut own idx ci k .long) (hs : U[a]? = some (.inl (ci, fs))) (hf : fs[k]? = some (.inl 1)) (h1 : ∀ j n, fs[j]? = some (.inl (n + 1)) → j = k) (hd : decode cc pc = .ok (.putfield idx, 3)) (hp : pc + 3 = pc') (kk : PWn U RO l R kc ks cc nL ret own E pc' ls st (qlg h a x) r) : PWn U RO l R kc ks cc nL ret own E pc ls (.long x :: .ref a :: st) h r :=
  n_put hg hs hf (fun _ => rfl) (fun _ => rfl) (fun _ => by show Value.long (if a = a then x else h.2 a) = _; rw [if_pos rfl]; rfl) (fun ad j g hj hne => by
    match g, hj with
    | .inl 0, _ => rfl
    | .inl (n + 1), hj => exact absurd (h1 j n hj) hne
    | .inr none, _ => rfl
    | .inr (some b), _ => rfl) (fun _ _ => qpic_lg hs) hd hp kk
/-! arrays -/
theorem n_iald {a : Nat} {L : Nat ⊕ Nat} {rs : List Nat} {i : Int32} (hs : U[a]? = some (.inr (0, L, rs))) (hd : decode cc pc = .ok (.iaload, 1)) (hp : pc + 1 = pc') (kk : qin i (qlen h L) = true → PWn U RO l R kc ks cc nL ret own E pc' ls (.int (h.1 a (ix i)) :: st) h r) : PWn U RO l R kc ks cc nL ret own E pc ls (.int i :: .ref a :: st) h (qg (qin i (qlen h L)) r) := by
  subst hp
  intro z hz p e s m args below meth c D cs ad A H locs cells slots la hC hW hL
  obtain ⟨h1, h2⟩ := qg_some hz
  exact va_iald hC.1 hC.2.1 hW.2.2.1 hW.1 a 0 (qpic_arr hs (by decide)) rfl (qin_vp h1) hd (kk h1 z h2 p e s m args below meth c D cs ad A H locs cells slots la hC hW hL)
theorem n_zald {a : Nat} {L : Nat ⊕ Nat} {rs : List Nat} {i : Int32} (hs : U[a]? = some (.inr (1, L, rs))) (hd : decode cc pc = .ok (.baload, 1)) (hp : pc + 1 = pc') (kk : qin i (qlen h L) = true → PWn U RO l R kc ks cc nL ret own E pc' ls (.int (h.1 a (ix i)) :: st) h r) : PWn U RO l R kc ks cc nL ret own E pc ls (.int i :: .ref a :: st) h (qg (qin i (qlen h L)) r) := by
  subst hp
  intro z hz p e s m args below meth c D cs ad A H locs cells slots la hC hW hL
  obtain ⟨h1, h2⟩ := qg_some hz
  exact va_zald hC.1 hC.2.1 hW.2.2.1 hW.1 a 1 (qpic_arr hs (by decide)) rfl (qin_vp h1) hd (kk h1 z h2 p e s m args below meth c D cs ad A H locs cells slots la hC hW hL)
theorem n_aald {a : Nat} {L : Nat ⊕ Nat} {rs : List Nat} {i : Int32} (hs : U[a]? = some (.inr (2, L, rs))) (hl : qlen h L = rs.length) (hd : decode cc pc = .ok (.aaload, 1)) (hp : pc + 1 = pc') (kk : qin i rs.length = true → PWn U RO l R kc ks cc nL ret own E pc' ls (.ref (rs.getD (ix i) 0) :: st) h r) : PWn U RO l R kc ks cc nL ret own E pc ls (.int i :: .ref a :: st) h (qg (qin i rs.length) r) := by
  subst hp
  intro z hz p e s m args below meth c D cs ad A H locs cells slots la hC hW hL
  obtain ⟨h1, h2⟩ := qg_some hz
  refine va_aldq hC.1 hC.2.1 hW.2.2.1 hW.1 a 2 (qpic_arrR hs) rfl (by rw [hl]; exact qin_vp h1) hd ?_
  have w := kk h1 z h2 p e s m args below meth c D cs ad A H locs cells slots la hC hW hL
  have hlt : i.toNatClampNeg < rs.length := Nat.not_le.mp fun q => qin_vp h1 (Or.inr q)
  have e : va_rf ((rs[i.toNatClampNeg]?).map ad) = qv ad (.ref (rs.getD (ix i) 0)) := by
    simp [hlt, va_rf, qv]
  rw [e]
  exact w
theorem n_iast {a : Nat} {L : Nat ⊕ Nat} {rs : List Nat} {i x : Int32} (hU : qok U) (hs : U[a]? = some (.inr (0, L, rs))) (hd : decode cc pc = .ok (.iastore, 1)) (hp : pc + 1 = pc') (kk : qin i (qlen h L) = true → PWn U RO l R kc ks cc nL ret own E pc' ls st (qw h a (ix i) x) r) : PWn U RO l R kc ks cc nL ret own E pc ls (.int x :: .int i :: .ref a :: st) h (qg (qin i (qlen h L)) r) := by
  subst hp
  intro z hz p e s m args below meth c D cs ad A H locs cells slots la hC hW hL
  obtain ⟨h1, h2⟩ := qg_some hz
  refine va_iast hC.1 hC.2.1 hW.2.2.1 hW.1 hW.2.1 hW.2.2.2.1 a 0 (qpic_arr hs (by decide)) rfl (qin_vp h1) hd fun H1 locs1 g1 g2 g3 => ?_
  rw [← qcell_arr (cs := cs) (ad := ad) (h := h) (f := upd (h.1 a) (i.toNatClampNeg) x) hU hs (by decide), qpic_row hU hs] at g1 g2
  exact kk h1 z h2 p e s m args below meth c D cs ad A H1 locs1 cells slots la hC ⟨g1, g2, hW.2.2.1, g3, hW.2.2.2.2⟩ hL
theorem n_zast {a : Nat} {L : Nat ⊕ Nat} {rs : List Nat} {i x : Int32} (hU : qok U) (hx : vp_nar .boolean x = x) (hs : U[a]? = some (.inr (1, L, rs))) (hd : decode cc pc = .ok (.bastore, 1)) (hp : pc + 1 = pc') (kk : qin i (qlen h L) = true → PWn U RO l R kc ks cc nL ret own E pc' ls st (qw h a (ix i) x) r) : PWn U RO l R kc ks cc nL ret own E pc ls (.int x :: .int i :: .ref a :: st) h (qg (qin i (qlen h L)) r) := by
  subst hp
  intro z hz p e s m args below meth c D cs ad A H locs cells slots la hC hW hL
  obtain ⟨h1, h2⟩ := qg_some hz
  refine va_zast hC.1 hC.2.1 hW.2.2.1 hW.1 hW.2.1 hW.2.2.2.1 a 1 (qpic_arr hs (by decide)) rfl (qin_vp h1) hd fun H1 locs1 g1 g2 g3 => ?_
  rw [hx, ← qcell_arr (cs := cs) (ad := ad) (h := h) (f := upd (h.1 a) (i.toNatClampNeg) x) hU hs (by decide), qpic_row hU hs] at g1 g2
  exact kk h1 z h2 p e s m args below meth c D cs ad A H1 locs1 cells slots la hC ⟨g1, g2, hW.2.2.1, g3, hW.2.2.2.2⟩ hL
theorem n_alen {a t : Nat} {L : Nat ⊕ Nat} {rs : List Nat} (hs : U[a]? = some (.inr (t, L, rs))) (ht : t < 2) (hd : decode cc pc = .ok (.arraylength, 1)) (hp : pc + 1 = pc') (kk : PWn U RO l R kc ks cc nL ret own E pc' ls (.int (nI (qlen h L)) :: st) h r) : PWn U RO l R kc ks cc nL ret own E pc ls (.ref a :: st) h r := by
  subst hp
  intro z hz p e s m args below meth c D cs ad A H locs cells slots la hC hW hL
  have w := kk z hz p e s m args below meth c D cs ad A H locs cells slots la hC hW hL
  rcases (show t = 0 ∨ t = 1 by omega) with rfl | rfl
  · exact va_alen hC.1 hC.2.1 hW.2.2.1 hW.1 a 0 (qpic_arr hs (by decide)) (ty := .int) rfl (v := nI (qlen h L)) rfl hd w
  · exact va_alen hC.1 hC.2.1 hW.2.2.1 hW.1 a 1 (qpic_arr hs (by decide)) (ty := .boolean) rfl (v := nI (qlen h L)) rfl hd w
/-! returns -/
theorem n_callX {ρ' : Type} {f : Option ρ'} {E' : ρ' → Option Value × qH} {kk : ρ' → Option ρ} {st0 : List Value} (hp : pc + 3 = pc')
    (hrun : ∀ z', f = some z' → ∀ (p : Program) (e : Env) (s : State) (m : MethodId) (args : Array Value) (below : List Frame) (meth : Method) (c : Code) (D : va_G) (cs : Nat → ClassId) (ad : Nat → Nat) (A : Nat → Prop) (H : Heap) (locs : List Loc) (cells slots : Nat) (la : Array Slot), qC cc nL ret own p s m args meth c → qW U RO D cs ad A h s H locs (qRm R kc ks) cells slots → qL ad la nL ls →
      ∃ aa, va_Run p l e R s m args below meth c H locs cells slots 0 0 (F0 m pc la (st0.map (qv ad))) (st.map (qv ad)) (qQ ((E' z').1.map (qv ad)) (qB U D cs ad (va_A (qpic U cs ad h) H.size) (E' z').2) (va_A (qpic U cs ad h) H.size) aa) (va_A (qpic U cs ad h) H.size))
    (k : ∀ z', PWn U RO l R kc ks cc nL ret own E pc' ls ((E' z').1.toList ++ st) (E' z').2 (kk z')) : PWn U RO l R kc ks cc nL ret own E pc ls st0 h (f.bind kk) := by
  subst hp
  intro z hz p e s m args below meth c D cs ad A H locs cells slots la hC hW hL
  cases hf : f with
  | none => rw [hf] at hz; cases hz
  | some z' =>
    rw [hf] at hz
    obtain ⟨aa, hr⟩ := hrun z' hf p e s m args below meth c D cs ad A H locs cells slots la hC hW hL
    refine q_call hr hW.2.2.2.1 (fun q _ hq => qA_in hW q hq) (fun q hq => qA_in hW q hq) fun t H1 locs1 ht hvm hB hz1 hk1 hS1 => ?_
    obtain ⟨b1, b2, b3⟩ := hB
    rw [ht] at b1
    have w := k z' z hz p e s m args below meth c D cs ad A H1 locs1 cells slots la hC ⟨b1, b3.weaken (fun _ q _ h9 => qA_in hW q.1 h9), hW.2.2.1, hS1, hW.2.2.2.2⟩ hL
    have es : ((E' z').1.map (qv ad)).toList ++ st.map (qv ad) = ((E' z').1.toList ++ st).map (qv ad) := by
      cases (E' z').1 <;> rfl
    rw [es]
    exact w
theorem n_callV {ρ' : Type} {f : qH → Option ρ'} {E' : qH → ρ' → Option Value × qH} {kk : ρ' → Option ρ} {y : MethodName} {cy : ByteArray} {nLy n idx ci b : Nat} {ry : Option FieldType} {rm : Room} {as : List Value} {fs : List qF} (hRO : qRok RO)
    (hm : qMet U RO l y (qws y cy nLy ry) rm (.ref b :: as) f E') (hc : qCalV own idx y cy nLy ry n) (hs : U[b]? = some (.inl (ci, fs))) (hci : (vwCl[ci]?).map (fun q => q.1) = some y.cls) (hn : as.length = n) (hrm : rm.cells = 0 ∧ rm.slots = 0) (hR : rm.frames + 1 ≤ R.frames ∧ 8 + (nLy + 11) + rm.locals ≤ R.locals) (hcat : (st.map fun v => v.category).sum ≤ 8) (hd : decode cc pc = .ok (.invokevirtual idx, 3)) (hp : pc + 3 = pc')
    (k : ∀ z', PWn U RO l R kc ks cc nL ret own E pc' ls ((E' h z').1.toList ++ st) (E' h z').2 (kk z')) : PWn U RO l R kc ks cc nL ret own E pc ls (as.reverse ++ .ref b :: st) h ((f h).bind kk) := by
  refine n_callX (E' := E' h) hp (fun z' hz' p e s m args below meth c D cs ad A H locs cells slots la hC hW hL => ?_) k
  obtain ⟨⟨h1, h2, h3, h4⟩, h5, h6⟩ := hc
  have hts := hC.2.2.2.2.2.1
  have hM := hm D cs ad h z' H.size hz'
  obtain ⟨q, hq1, hq2⟩ : ∃ q : vw_C, vwCl[ci]? = some q ∧ q.1 = y.cls := by
    cases hv : vwCl[ci]? with
    | none => rw [hv] at hci; cases hci
    | some q => rw [hv] at hci; exact ⟨q, rfl, Option.some.inj hci⟩
  have hrecv : ∃ cell : Cell, H[ad b]? = some cell ∧ cell.vm.isStatics = false ∧ s.vm.findClass y.cls = some cell.cls := by
    rw [← hq2]
    exact va_recv hW.2.2.1 hW.1 hq1 (qpic_get hs)
  have hpre : PreV s H y.cls (ad b) (va_Pc ((Value.ref b :: as).map (qv ad)) (qPre U RO D cs ad h H.size)) (as.map (qv ad)) := ⟨qPre_blind hRO, hrecv, fun S hS hw => ⟨rfl, qPre_of hRO hC.2.2.2.2.2.2.1 hW S hS hw⟩⟩
  have hstk : (F0 m pc la ((as.reverse ++ .ref b :: st).map (qv ad))).stack = (as.map (qv ad)).reverse ++ .ref (ad b) :: st.map (qv ad) := by
    show (as.reverse ++ .ref b :: st).map (qv ad) = _
    simp [qv]
  have hroom : 2 * (F0 m pc la ((as.reverse ++ .ref b :: st).map (qv ad))).monitorRoom + ((st.map (qv ad)).map fun v => v.category).sum ≤ 8 := by
    show 2 * 0 + _ ≤ 8
    rw [qv_cats]
    omega
  have hfit : cells + 0 ≤ R.cells ∧ slots + 0 ≤ R.slots := ⟨Nat.le_trans hW.2.2.2.2.2.2.1 (Nat.sub_le _ _), Nat.le_trans hW.2.2.2.2.2.2.2 (Nat.sub_le _ _)⟩
  rcases h4 with h4 | ⟨host, h4⟩
  · exact ⟨_, va_runV (n := n) ⟨hC.1, hC.2.1, hC.2.2.1, hC.2.2.2.2.1, hts⟩ hM ⟨callB_of n hts (qws_good h1) rfl hrm.1 hrm.2 (hts _ h2) (hts _ h4) h3 hR, hts _ h5, hts _ h6⟩ hpre rfl (by simpa using hn) hL.1 hstk hroom hd hfit⟩
  · exact ⟨_, va_runVN (n := n) ⟨hC.1, hC.2.1, hC.2.2.1, hC.2.2.2.2.1, hts⟩ hM ⟨va_cnB n hts (qws_good h1) rfl hrm.1 hrm.2 (hC.2.2.2.2.2.2.1 _ h4) (hts _ h2) h3 hR, hts _ h5, hts _ h6⟩ hpre rfl (by simpa using hn) hL.1 hstk hroom hd hfit⟩
theorem n_callS {ρ' : Type} {f : qH → Option ρ'} {E' : qH → ρ' → Option Value × qH} {kk : ρ' → Option ρ} {y : MethodName} {cy : ByteArray} {nLy n idx : Nat} {ry : Option FieldType} {rm : Room} {as : List Value} (hRO : qRok RO)
    (hm : qMet U RO l y (qws y cy nLy ry) rm as f E') (hc : qCalS own idx y cy nLy ry n) (hn : as.length = n) (hrm : rm.cells = 0 ∧ rm.slots = 0) (hR : rm.frames + 1 ≤ R.frames ∧ 8 + (nLy + 11) + rm.locals ≤ R.locals) (hcat : (st.map fun v => v.category).sum ≤ 8) (hd : decode cc pc = .ok (.invokestatic idx, 3)) (hp : pc + 3 = pc')
    (k : ∀ z', PWn U RO l R kc ks cc nL ret own E pc' ls ((E' h z').1.toList ++ st) (E' h z').2 (kk z')) : PWn U RO l R kc ks cc nL ret own E pc ls (as.reverse ++ st) h ((f h).bind kk) := by
  refine n_callX (E' := E' h) hp (fun z' hz' p e s m args below meth c D cs ad A H locs cells slots la hC hW hL => ?_) k
  obtain ⟨⟨h1, h2, h3, h4⟩, h5⟩ := hc
  have hts := hC.2.2.2.2.2.1
  have hM := hm D cs ad h z' H.size hz'
  have hpre : PreS s H (va_Pc (as.map (qv ad)) (qPre U RO D cs ad h H.size)) (as.map (qv ad)) := ⟨qPre_blind hRO, fun S hS hw => ⟨rfl, qPre_of hRO hC.2.2.2.2.2.2.1 hW S hS hw⟩⟩
  have hstk : (F0 m pc la ((as.reverse ++ st).map (qv ad))).stack = (as.map (qv ad)).reverse ++ st.map (qv ad) := by
    show (as.reverse ++ st).map (qv ad) = _
    simp
  have hroom : 2 * (F0 m pc la ((as.reverse ++ st).map (qv ad))).monitorRoom + ((st.map (qv ad)).map fun v => v.category).sum ≤ 8 := by
    show 2 * 0 + _ ≤ 8
    rw [qv_cats]
    omega
  have hfit : cells + 0 ≤ R.cells ∧ slots + 0 ≤ R.slots := ⟨Nat.le_trans hW.2.2.2.2.2.2.1 (Nat.sub_le _ _), Nat.le_trans hW.2.2.2.2.2.2.2 (Nat.sub_le _ _)⟩
  rcases h4 with h4 | ⟨host, h4⟩
  · exact ⟨_, va_runS (n := n) ⟨hC.1, hC.2.1, hC.2.2.1, hC.2.2.2.2.1, hts⟩ hM ⟨callB_of n hts (qws_good h1) rfl hrm.1 hrm.2 (hts _ h2) (hts _ h4) h3 hR, hts _ h5⟩ hpre rfl (by simpa using hn) hL.1 hstk hroom hd hfit⟩
  · exact ⟨_, va_runSN (n := n) ⟨hC.1, hC.2.1, hC.2.2.1, hC.2.2.2.2.1, hts⟩ hM ⟨va_cnB n hts (qws_good h1) rfl hrm.1 hrm.2 (hC.2.2.2.2.2.2.1 _ h4) (hts _ h2) h3 hR, hts _ h5, trivial⟩ hpre rfl (by simpa using hn) hL.1 hstk hroom hd hfit⟩
/-! the kinds of answers: a reader's int, a writer's int, a writer -/
theorem n_callVr {f : qH → Option Int32} {kk : Int32 → Option ρ} {y : MethodName} {cy : ByteArray} {nLy n idx ci b : Nat} {ry : Option FieldType} {rm : Room} (as : List Value) {fs : List qF} (hRO : qRok RO) (hm : qMet U RO l y (qws y cy nLy ry) rm (.ref b :: as) f qEr) (hc : qCalV own idx y cy nLy ry n) (hs : U[b]? = some (.inl (ci, fs))) (hci : (vwCl[ci]?).map (fun q => q.1) = some y.cls) (hn : as.length = n) (hrm : rm.cells = 0 ∧ rm.slots = 0) (hR : rm.frames + 1 ≤ R.frames ∧ 8 + (nLy + 11) + rm.locals ≤ R.locals) (hcat : (st.map fun v => v.category).sum ≤ 8) (hd : decode cc pc = .ok (.invokevirtual idx, 3)) (hp : pc + 3 = pc')
    (k : ∀ z : Int32, PWn U RO l R kc ks cc nL ret own E pc' ls (.int z :: st) h (kk z)) : PWn U RO l R kc ks cc nL ret own E pc ls (as.reverse ++ .ref b :: st) h ((f h).bind kk) := n_callV hRO hm hc hs hci hn hrm hR hcat hd hp k
theorem n_callVw {f : qH → Option (Int32 × qH)} {kk : Int32 × qH → Option ρ} {y : MethodName} {cy : ByteArray} {nLy n idx ci b : Nat} {ry : Option FieldType} {rm : Room} (as : List Value) {fs : List qF} (hRO : qRok RO) (hm : qMet U RO l y (qws y cy nLy ry) rm (.ref b :: as) f qEw) (hc : qCalV own idx y cy nLy ry n) (hs : U[b]? = some (.inl (ci, fs))) (hci : (vwCl[ci]?).map (fun q => q.1) = some y.cls) (hn : as.length = n) (hrm : rm.cells = 0 ∧ rm.slots = 0) (hR : rm.frames + 1 ≤ R.frames ∧ 8 + (nLy + 11) + rm.locals ≤ R.locals) (hcat : (st.map fun v => v.category).sum ≤ 8) (hd : decode cc pc = .ok (.invokevirtual idx, 3)) (hp : pc + 3 = pc')
    (k : ∀ (z : Int32) (h1 : qH), PWn U RO l R kc ks cc nL ret own E pc' ls (.int z :: st) h1 (kk (z, h1))) : PWn U RO l R kc ks cc nL ret own E pc ls (as.reverse ++ .ref b :: st) h ((f h).bind kk) := n_callV hRO hm hc hs hci hn hrm hR hcat hd hp fun z => k z.1 z.2
theorem n_callVv {f : qH → Option qH} {kk : qH → Option ρ} {y : MethodName} {cy : ByteArray} {nLy n idx ci b : Nat} {ry : Option FieldType} {rm : Room} (as : List Value) {fs : List qF} (hRO : qRok RO) (hm : qMet U RO l y (qws y cy nLy ry) rm (.ref b :: as) f qEv) (hc : qCalV own idx y cy nLy ry n) (hs : U[b]? = some (.inl (ci, fs))) (hci : (vwCl[ci]?).map (fun q => q.1) = some y.cls) (hn : as.length = n) (hrm : rm.cells = 0 ∧ rm.slots = 0) (hR : rm.frames + 1 ≤ R.frames ∧ 8 + (nLy + 11) + rm.locals ≤ R.locals) (hcat : (st.map fun v => v.category).sum ≤ 8) (hd : decode cc pc = .ok (.invokevirtual idx, 3)) (hp : pc + 3 = pc')
    (k : ∀ h1 : qH, PWn U RO l R kc ks cc nL ret own E pc' ls st h1 (kk h1)) : PWn U RO l R kc ks cc nL ret own E pc ls (as.reverse ++ .ref b :: st) h ((f h).bind kk) := n_callV hRO hm hc hs hci hn hrm hR hcat hd hp k
theorem n_callSr {f : qH → Option Int32} {kk : Int32 → Option ρ} {y : MethodName} {cy : ByteArray} {nLy n idx : Nat} {ry : Option FieldType} {rm : Room} (as : List Value) (hRO : qRok RO) (hm : qMet U RO l y (qws y cy nLy ry) rm as f qEr) (hc : qCalS own idx y cy nLy ry n) (hn : as.length = n) (hrm : rm.cells = 0 ∧ rm.slots = 0) (hR : rm.frames + 1 ≤ R.frames ∧ 8 + (nLy + 11) + rm.locals ≤ R.locals) (hcat : (st.map fun v => v.category).sum ≤ 8) (hd : decode cc pc = .ok (.invokestatic idx, 3)) (hp : pc + 3 = pc')
    (k : ∀ z : Int32, PWn U RO l R kc ks cc nL ret own E pc' ls (.int z :: st) h (kk z)) : PWn U RO l R kc ks cc nL ret own E pc ls (as.reverse ++ st) h ((f h).bind kk) := n_callS hRO hm hc hn hrm hR hcat hd hp k
/-! the entry -/
theorem n_copy {idx a0 a : Nat} {L0 L1 : Nat ⊕ Nat} {rs0 rs1 : List Nat} {sp dp n : Int32} (hU : qok U) (hm : qCpy own idx) (hs0 : U[a0]? = some (.inr (0, L0, rs0))) (hs1 : U[a]? = some (.inr (0, L1, rs1))) (hR : 1 ≤ R.frames ∧ (st.map fun v => v.category).sum + (nativeFrameWords "java/lang/System" "arraycopy" 5 + 11) ≤ R.locals) (hd : decode cc pc = .ok (.invokestatic idx, 3)) (hp : pc + 3 = pc')
    (k : PWn U RO l R kc ks cc nL ret own E pc' ls st (qrow h a (va_cpy (h.1 a0) (h.1 a) (ix sp) (ix dp) (ix n))) r) : PWn U RO l R kc ks cc nL ret own E pc ls (.int n :: .int dp :: .ref a :: .int sp :: .ref a0 :: st) h (qg (qcp sp dp n (qlen h L0) (qlen h L1)) r) := by
  subst hp
  intro z hz p e s m args below meth c D cs ad A H locs cells slots la hC hW hL
  obtain ⟨h1, h2⟩ := qg_some hz
  simp only [qcp, Bool.and_eq_true, decide_eq_true_eq] at h1
  obtain ⟨⟨⟨⟨g1, g2⟩, g3⟩, g4⟩, g5⟩ := h1
  have hts := hC.2.2.2.2.2.1
  refine va_copyi hC.1 hC.2.1 (hC.2.2.1.trans hL.1.symm) hC.2.2.2.2.1 (hts _ hm.1) (hts _ hm.2.1) (hts _ hm.2.2.1) (hts _ hm.2.2.2) hW.2.2.1 hW.1 hW.2.1 hW.2.2.2.1 a0 a 0 0 (qpic_arr hs0 (by decide)) (qpic_arr hs1 (by decide)) rfl rfl rfl g1 g2 g3 g4 g5 (fun _ _ => rfl) hR.1 (by rw [qv_cats]; exact hR.2) hd fun H1 locs1 f1 f2 f3 => ?_
  rw [← qcell_arr (cs := cs) (ad := ad) (h := h) hU hs1 (by decide), qpic_row hU hs1] at f1 f2
  exact k z h2 p e s m args below meth c D cs ad A H1 locs1 cells slots la hC ⟨f1, f2, hW.2.2.1, f3, hW.2.2.2.2⟩ hL
theorem n_is_n {k0 : Fin 4} {x : Int32} (hd : decode cc pc = .ok (.istore_n k0, 1)) (hp : pc + 1 = pc') (hi : Nat.blt (k0 : Nat) nL = true) (h1 : q1b ls (k0 : Nat) = true) (hl : ls.set (k0 : Nat) (some (.int x)) = ls') (k : PWn U RO l R kc ks cc nL ret own E pc' ls' st h r) : PWn U RO l R kc ks cc nL ret own E pc ls (.int x :: st) h r := n_istore_n hd hp (blt_of hi) (q1_of h1) (hl ▸ k)
theorem n_is {i : Nat} {x : Int32} (hd : decode cc pc = .ok (.istore i, 2)) (hp : pc + 2 = pc') (hi : Nat.blt i nL = true) (h1 : q1b ls i = true) (hl : ls.set i (some (.int x)) = ls') (k : PWn U RO l R kc ks cc nL ret own E pc' ls' st h r) : PWn U RO l R kc ks cc nL ret own E pc ls (.int x :: st) h r := n_istore hd hp (blt_of hi) (q1_of h1) (hl ▸ k)
theorem n_as_n {k0 : Fin 4} {x : Nat} (hd : decode cc pc = .ok (.astore_n k0, 1)) (hp : pc + 1 = pc') (hi : Nat.blt (k0 : Nat) nL = true) (h1 : q1b ls (k0 : Nat) = true) (hl : ls.set (k0 : Nat) (some (.ref x)) = ls') (k : PWn U RO l R kc ks cc nL ret own E pc' ls' st h r) : PWn U RO l R kc ks cc nL ret own E pc ls (.ref x :: st) h r := n_astore_n hd hp (blt_of hi) (q1_of h1) (hl ▸ k)
theorem n_isN_n {k0 : Fin 4} {x : Int32} {lf : Int32 → List (Option Value)} {kk : Int32 → Option ρ} (hd : decode cc pc = .ok (.istore_n k0, 1)) (hp : pc + 1 = pc') (hi : Nat.blt (k0 : Nat) nL = true) (h1 : q1b ls (k0 : Nat) = true) (hl : ∀ y, ls.set (k0 : Nat) (some (.int y)) = lf y) (k : ∀ y, PWn U RO l R kc ks cc nL ret own E pc' (lf y) st h (kk y)) : PWn U RO l R kc ks cc nL ret own E pc ls (.int x :: st) h (qlt x kk) := n_istore_n hd hp (blt_of hi) (q1_of h1) (hl x ▸ k x)
theorem n_isN {i : Nat} {x : Int32} {lf : Int32 → List (Option Value)} {kk : Int32 → Option ρ} (hd : decode cc pc = .ok (.istore i, 2)) (hp : pc + 2 = pc') (hi : Nat.blt i nL = true) (h1 : q1b ls i = true) (hl : ∀ y, ls.set i (some (.int y)) = lf y) (k : ∀ y, PWn U RO l R kc ks cc nL ret own E pc' (lf y) st h (kk y)) : PWn U RO l R kc ks cc nL ret own E pc ls (.int x :: st) h (qlt x kk) := n_istore hd hp (blt_of hi) (q1_of h1) (hl x ▸ k x)
theorem n_iiN {i : Nat} {n : Int} {x v : Int32} {lf : Int32 → List (Option Value)} {kk : Int32 → Option ρ} (hv : Int32.ofInt n = v) (hd : decode cc pc = .ok (.iinc i n, 3)) (hp : pc + 3 = pc') (hg : ls[i]? = some (some (.int x))) (hi : Nat.blt i nL = true) (h1 : q1b ls i = true) (hl : ∀ y, ls.set i (some (.int y)) = lf y) (k : ∀ y, PWn U RO l R kc ks cc nL ret own E pc' (lf y) st h (kk y)) : PWn U RO l R kc ks cc nL ret own E pc ls st h (qlt (x + v) kk) := n_iinc hv hd hp hg (blt_of hi) (q1_of h1) (hl (x + v) ▸ k (x + v))
theorem n_ialdK {a : Nat} {L : Nat ⊕ Nat} {rs : List Nat} {i : Int32} {j : Nat} (hs : U[a]? = some (.inr (0, L, rs))) (hj : ix i = j) (hq : qin i (qlen h L) = true) (hd : decode cc pc = .ok (.iaload, 1)) (hp : pc + 1 = pc') (kk : PWn U RO l R kc ks cc nL ret own E pc' ls (.int (h.1 a j) :: st) h r) : PWn U RO l R kc ks cc nL ret own E pc ls (.int i :: .ref a :: st) h r := by
  subst hj
  have := n_iald (r := r) hs hd hp (fun _ => kk)
  rw [hq] at this
  exact this
theorem n_iastK {a : Nat} {L : Nat ⊕ Nat} {rs : List Nat} {i x : Int32} {j : Nat} (hU : qok U) (hs : U[a]? = some (.inr (0, L, rs))) (hj : ix i = j) (hq : qin i (qlen h L) = true) (hd : decode cc pc = .ok (.iastore, 1)) (hp : pc + 1 = pc') (kk : PWn U RO l R kc ks cc nL ret own E pc' ls st (qw h a j x) r) : PWn U RO l R kc ks cc nL ret own E pc ls (.int x :: .int i :: .ref a :: st) h r := by
  subst hj
  have := n_iast (r := r) hU hs hd hp (fun _ => kk)
  rw [hq] at this
  exact this
theorem n_cVw {f : qH → Option (Int32 × qH)} {kk : Int32 → qH → Option ρ} {y : MethodName} {cy : ByteArray} {nLy n idx ci b : Nat} {ry : Option FieldType} {rm : Room} (as : List Value) {fs : List qF} (hRO : qRok RO) (hm : qMet U RO l y (qws y cy nLy ry) rm (.ref b :: as) f qEw) (hc : qCalV own idx y cy nLy ry n) (hs : U[b]? = some (.inl (ci, fs))) (hci : (vwCl[ci]?).map (fun q => q.1) = some y.cls) (hn : as.length = n) (hrm : rm.cells = 0 ∧ rm.slots = 0) (hR : rm.frames + 1 ≤ R.frames ∧ 8 + (nLy + 11) + rm.locals ≤ R.locals) (hcat : (st.map fun v => v.category).sum ≤ 8) (hd : decode cc pc = .ok (.invokevirtual idx, 3)) (hp : pc + 3 = pc')
    (k : ∀ (z : Int32) (h1 : qH), PWn U RO l R kc ks cc nL ret own E pc' ls (.int z :: st) h1 (kk z h1)) : PWn U RO l R kc ks cc nL ret own E pc ls (as.reverse ++ .ref b :: st) h (qb2 (f h) kk) := n_callV hRO hm hc hs hci hn hrm hR hcat hd hp fun z => k z.1 z.2
theorem n_none : PWn U RO l R kc ks cc nL ret own E pc ls st h (none : Option ρ) := fun z hz => by cases hz
theorem qBn_of {D : va_G} {cs : Nat → ClassId} {ad : Nat → Nat} {A : Nat → Prop} {t : State} (b : qB U D cs ad A h t) : qBn U D cs ad A h t := ⟨ad, fun _ _ => rfl, b⟩
theorem PW.n (k : PW U RO l R cc nL ret own E pc ls st h r) : PWn U RO l R kc ks cc nL ret own E pc ls st h r := by
  intro z hz p e s m args below meth c D cs ad A H locs cells slots la hC hW hL T hT X
  obtain ⟨t, a, o, b1, b2, b3, L, b4, b5⟩ := k z hz p e s m args below meth c D cs ad A H locs cells slots la hC ⟨hW.1, hW.2.1, hW.2.2.1, hW.2.2.2.1, hW.2.2.2.2.1, hW.2.2.2.2.2.1, Nat.le_trans hW.2.2.2.2.2.2.1 (Nat.sub_le _ _), Nat.le_trans hW.2.2.2.2.2.2.2 (Nat.sub_le _ _)⟩ hL T hT X
  exact ⟨t, a, o, b1, b2, ⟨⟨b3.1.1, qBn_of b3.1.2⟩, b3.2⟩, L, ⟨b4.1, b4.2.1, b4.2.2.mono (by omega) (by omega)⟩, b5⟩
theorem n_iret {v : Int32} {z : ρ} (hr : ret = some .int) (hz : E z = (some (.int v), h)) (hd : decode cc pc = .ok (.ireturn, 1)) : PWn U RO l R kc ks cc nL ret own E pc ls [.int v] h (some z) := (p_iret hr hz hd).n
end QN
