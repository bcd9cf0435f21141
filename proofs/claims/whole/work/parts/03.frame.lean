/-! ===== THE PURE WORLD: abstract addresses, a store of ints, and the judgement PW over it ===== -/
def qv (ad : Nat → Nat) (v : Value) : Value := match v with
  | .ref k => .ref (ad k)
  | v => v
theorem qv_cat (ad : Nat → Nat) (v : Value) : (qv ad v).category = v.category := by cases v <;> rfl
theorem qv_cats (ad : Nat → Nat) (l : List Value) : ((l.map (qv ad)).map fun v => v.category).sum = (l.map fun v => v.category).sum := by
  induction l with
  | nil => rfl
  | cons v t ih => simp only [List.map_cons, List.sum_cons, qv_cat, ih]
/-- the store: ints (fields and elements) by cell and place, longs by cell -/
abbrev qH : Type := (Nat → Nat → Int32) × (Nat → Int64)
/-- a field: .inl 0 an int, .inl 1 a long, .inr a reference -/
abbrev qF : Type := Nat ⊕ Option Nat
/-- a cell: an object (class, fields), or an array (kind: 0 int, 1 boolean, 2 references; length; the references) -/
abbrev qS : Type := (Nat × List qF) ⊕ (Nat × (Nat ⊕ Nat) × List Nat)
def qfv (ad : Nat → Nat) (row : Nat → Int32) (lg : Int64) (j : Nat) (f : qF) : Value := match f with
  | .inl 0 => .int (row j)
  | .inl _ => .long lg
  | .inr none => .null
  | .inr (some k) => .ref (ad k)
def qlen (h : qH) (L : Nat ⊕ Nat) : Nat := match L with
  | .inl n => n
  | .inr a => (h.1 a 0).toNatClampNeg
def qcell (cs : Nat → ClassId) (ad : Nat → Nat) (h : qH) (k : Nat) (s : qS) : va_E := match s with
  | .inl (ci, fs) => .inr (ci, fs.mapIdx (qfv ad (h.1 k) (h.2 k)))
  | .inr (t, L, rs) => .inl (cs t, qlen h L, if t = 2 then .inr (.inr (.inr (.inr (fun j => (rs[j]?).map ad)))) else .inl (h.1 k))
def qpic (U : List qS) (cs : Nat → ClassId) (ad : Nat → Nat) (h : qH) : va_W := U.mapIdx (fun k s => (ad k, qcell cs ad h k s))
/-- lengths that vary stand beyond the cells -/
def qok (U : List qS) : Prop := ∀ (k t a : Nat) (rs : List Nat), U[k]? = some (.inr (t, .inr a, rs)) → U.length ≤ a
def qrow (h : qH) (a : Nat) (f : Nat → Int32) : qH := (fun b => if b = a then f else h.1 b, h.2)
def qlg (h : qH) (a : Nat) (x : Int64) : qH := (h.1, fun b => if b = a then x else h.2 b)
abbrev qw (h : qH) (a j : Nat) (x : Int32) : qH := qrow h a (upd (h.1 a) j x)
abbrev ix (i : Int32) : Nat := i.toNatClampNeg
def qin (i : Int32) (n : Nat) : Bool := decide (¬ i < 0) && decide (i.toNatClampNeg < n)
def qg {ρ : Type} (b : Bool) (r : Option ρ) : Option ρ := match b with
  | true => r
  | false => none
def qlt {α ρ : Type} (x : α) (k : α → Option ρ) : Option ρ := k x
def qj {κ ρ : Type} (K : κ) (F : κ → Option ρ) : Option ρ := F K
theorem qg_some {ρ : Type} {b : Bool} {r : Option ρ} {z : ρ} (h : qg b r = some z) : b = true ∧ r = some z := by
  cases b with
  | true => exact ⟨rfl, h⟩
  | false => cases h
theorem qin_vp {i : Int32} {n : Nat} (h : qin i n = true) : vp_in i n := by
  simp only [qin, Bool.and_eq_true, decide_eq_true_eq] at h
  intro q
  rcases q with q | q
  · exact h.1 q
  · omega
theorem qpic_get {U : List qS} {cs : Nat → ClassId} {ad : Nat → Nat} {h : qH} {k : Nat} {s : qS} (hs : U[k]? = some s) : (qpic U cs ad h)[k]? = some (ad k, qcell cs ad h k s) := by
  simp [qpic, hs]
theorem qlen_row {U : List qS} {h : qH} {a k t : Nat} {L : Nat ⊕ Nat} {rs : List Nat} {f : Nat → Int32} (hU : qok U) (hk : U[k]? = some (.inr (t, L, rs))) (ha : a < U.length) : qlen (qrow h a f) L = qlen h L := by
  cases L with
  | inl n => rfl
  | inr b =>
    have := hU k t b rs hk
    show ((if b = a then f else h.1 b) 0).toNatClampNeg = _
    rw [if_neg (by omega)]
    rfl
theorem qcell_row {U : List qS} {cs : Nat → ClassId} {ad : Nat → Nat} {h : qH} {a k : Nat} {s : qS} {f : Nat → Int32} (hU : qok U) (hk : U[k]? = some s) (ha : a < U.length) (hne : k ≠ a) : qcell cs ad (qrow h a f) k s = qcell cs ad h k s := by
  have e1 : (qrow h a f).1 k = h.1 k := if_neg hne
  have e2 : (qrow h a f).2 k = h.2 k := rfl
  match s, hk with
  | .inl (ci, fs), _ => simp only [qcell, e1, e2]
  | .inr (t, L, rs), hk => simp only [qcell, e1, qlen_row hU hk ha]
theorem qcell_lg {cs : Nat → ClassId} {ad : Nat → Nat} {h : qH} {a k : Nat} {s : qS} {x : Int64} (hne : k ≠ a) : qcell cs ad (qlg h a x) k s = qcell cs ad h k s := by
  have e1 : (qlg h a x).2 k = h.2 k := if_neg hne
  have e2 : (qlg h a x).1 = h.1 := rfl
  match s with
  | .inl (ci, fs) => simp only [qcell, e1, e2]
  | .inr (t, .inl n, rs) => simp only [qcell, e2, qlen]
  | .inr (t, .inr b, rs) => simp only [qcell, e2, qlen]
theorem qpic_set {U : List qS} {cs : Nat → ClassId} {ad : Nat → Nat} {h h' : qH} {a : Nat} {s : qS} (hs : U[a]? = some s) (hq : ∀ (k : Nat) (s' : qS), U[k]? = some s' → k ≠ a → qcell cs ad h' k s' = qcell cs ad h k s') : (qpic U cs ad h).set a (ad a, qcell cs ad h' a s) = qpic U cs ad h' := by
  apply List.ext_getElem?
  intro k
  have hl : a < (qpic U cs ad h).length := by
    have := (List.getElem?_eq_some_iff.mp hs).1
    simpa [qpic] using this
  by_cases hk : k = a
  · subst hk
    rw [List.getElem?_set_self hl, qpic_get hs]
  · rw [List.getElem?_set_ne (Ne.symm hk)]
    cases hu : U[k]? with
    | none => simp [qpic, hu]
    | some s' => rw [qpic_get hu, qpic_get hu, hq k s' hu hk]
theorem qpic_row {U : List qS} {cs : Nat → ClassId} {ad : Nat → Nat} {h : qH} {a : Nat} {s : qS} {f : Nat → Int32} (hU : qok U) (hs : U[a]? = some s) : (qpic U cs ad h).set a (ad a, qcell cs ad (qrow h a f) a s) = qpic U cs ad (qrow h a f) :=
  qpic_set hs fun _ _ hk hne => qcell_row hU hk (List.getElem?_eq_some_iff.mp hs).1 hne
theorem qpic_lg {U : List qS} {cs : Nat → ClassId} {ad : Nat → Nat} {h : qH} {a : Nat} {s : qS} {x : Int64} (hs : U[a]? = some s) : (qpic U cs ad h).set a (ad a, qcell cs ad (qlg h a x) a s) = qpic U cs ad (qlg h a x) :=
  qpic_set hs fun _ _ _ hne => qcell_lg hne
/-- the words that every method has, and the words of nest mates -/
def qTT : List Cond := lw_tbl.filter goodWord
def qnest : Cond → Bool
  | .fieldLinkNest .. => true
  | .methodLinkNest .. => true
  | _ => false
def qNT : List Cond := lw_tbl.filter qnest
theorem qTT_in {w : Cond} (i : Nat) (h : lw_tbl[i]? = some w) (hg : goodWord w = true) : w ∈ qTT := List.mem_filter.mpr ⟨List.mem_of_getElem? h, hg⟩
theorem qNT_in {w : Cond} (i : Nat) (h : lw_tbl[i]? = some w) (hg : qnest w = true) : w ∈ qNT := List.mem_filter.mpr ⟨List.mem_of_getElem? h, hg⟩
theorem qNT_warm {s U : State} (hW : s.WarmedH U.vm) (h : ∀ w ∈ qNT, va_Nw w s) : ∀ w ∈ qNT, va_Nw w U := by
  intro w hw
  have h1 := h w hw
  have h2 := (List.mem_filter.mp hw).2
  match w, h2 with
  | .fieldLinkNest _ _ _ _ _ _, _ => exact va_Nw.warmF hW h1
  | .methodLinkNest _ _ _ _, _ => exact va_Nw.warmM hW h1
theorem qNT_same {s U : State} (hW : s.vm = U.vm) (h : ∀ w ∈ qNT, va_Nw w s) : ∀ w ∈ qNT, va_Nw w U := by
  intro w hw
  have h1 := h w hw
  have h2 := (List.mem_filter.mp hw).2
  match w, h2 with
  | .fieldLinkNest _ _ _ _ _ _, _ => exact va_Nw.same rfl hW h1
  | .methodLinkNest _ _ _ _, _ => exact va_Nw.same rfl hW h1
def qws (y : MethodName) (cc : ByteArray) (nL : Nat) (ret : Option FieldType) : List Cond := Cond.code y cc nL ret :: qTT
theorem qws_good {y : MethodName} {cc : ByteArray} {nL : Nat} {ret : Option FieldType} (h : Cond.code y cc nL ret ∈ qTT) : GoodIn qTT (qws y cc nL ret) := by
  intro w hw
  have hm : w ∈ qTT := by
    rcases List.mem_cons.mp hw with rfl | h1
    · exact h
    · exact h1
  exact ⟨hm, good_of_word (List.mem_filter.mp hm).2⟩
/-- what is only read: a world that the statement gives, by the cells at the start -/
abbrev qRO : Type := (Nat → Nat) → (Nat → Prop) → State → Prop
def qRok (RO : qRO) : Prop := (∀ ad A B s, (∀ q, B q → A q) → RO ad A s → RO ad B s) ∧ ∀ ad A (s U : State), (∀ q, q < s.heap.size → ¬ A q → U.heap[q]? = s.heap[q]?) → s.WarmedH U.vm → RO ad A s → RO ad A U
def qtys (cs : Nat → ClassId) : List (ClassId × FieldType) := [(cs 0, .int), (cs 1, .boolean), (cs 2, .object "SpoolHall$Script")]
/-- how a method ends -/
def qQ (v : Option Value) (B : State → Prop) (A : Nat → Prop) : Array Value → State → Outcome → State → Prop := fun _ st oc t => (oc = .returned v ∧ B t) ∧ va_F A st t
def qB (U : List qS) (D : va_G) (cs : Nat → ClassId) (ad : Nat → Nat) (A : Nat → Prop) (h : qH) (t : State) : Prop := va_P D vwCl (qpic U cs ad h) t.heap ∧ va_K D vwCl (qtys cs) t ∧ va_D A (qpic U cs ad h)
/-- how a method begins -/
def qPre (U : List qS) (RO : qRO) (D : va_G) (cs : Nat → ClassId) (ad : Nat → Nat) (h : qH) (sz : Nat) (S : State) : Prop := S.heap.size = sz ∧ va_P D vwCl (qpic U cs ad h) S.heap ∧ va_K D vwCl (qtys cs) S ∧ va_D (fun _ => True) (qpic U cs ad h) ∧ (∀ w ∈ qNT, va_Nw w S) ∧ RO ad (va_A (qpic U cs ad h) sz) S
/-- a method's contract: it answers r, where r answers -/
def qMet {ρ : Type} (U : List qS) (RO : qRO) (l : Launch) (y : MethodName) (ws : List Cond) (rm : Room) (av : List Value) (r : qH → Option ρ) (E : qH → ρ → Option Value × qH) : Prop :=
  ∀ (D : va_G) (cs : Nat → ClassId) (ad : Nat → Nat) (h : qH) (z : ρ) (sz : Nat), r h = some z →
    Met l y ws rm (va_Pc (av.map (qv ad)) (qPre U RO D cs ad h sz)) (qQ ((E h z).1.map (qv ad)) (qB U D cs ad (va_A (qpic U cs ad h) sz) (E h z).2) (va_A (qpic U cs ad h) sz)) 0 0 (va_A (qpic U cs ad h) sz)
/-- the fixed things of a walk -/
def qC (cc : ByteArray) (nL : Nat) (ret : Option FieldType) (own : String) (p : Program) (s : State) (m : MethodId) (args : Array Value) (meth : Method) (c : Code) : Prop :=
  p.tables.exec = Jvm.exec ∧ c.code = cc ∧ c.maxLocals = nL ∧ meth.sig.returnType = ret ∧ s.vm.findClass own = some m.cls ∧ (∀ w ∈ qTT, w.before args s = true) ∧ (∀ w ∈ qNT, va_Nw w s) ∧ meth.locks = false
/-- the world of a walk -/
def qW (U : List qS) (RO : qRO) (D : va_G) (cs : Nat → ClassId) (ad : Nat → Nat) (A : Nat → Prop) (h : qH) (s : State) (H : Heap) (locs : List Loc) (R : Room) (cells slots : Nat) : Prop :=
  va_P D vwCl (qpic U cs ad h) H ∧ va_D A (qpic U cs ad h) ∧ va_K D vwCl (qtys cs) s ∧ va_S A s.heap H locs ∧ (∀ q, s.heap.size ≤ q → A q) ∧ RO ad A s ∧ cells ≤ R.cells ∧ slots ≤ R.slots
/-- the locals of a walk -/
def qL (ad : Nat → Nat) (la : Array Slot) (nL : Nat) (ls : List (Option Value)) : Prop := la.size = nL ∧ lv_wf la ∧ ∀ (i : Nat) (v : Value), ls[i]? = some (some v) → la[i]? = some (.val (qv ad v))
def PW {ρ : Type} (U : List qS) (RO : qRO) (l : Launch) (R : Room) (cc : ByteArray) (nL : Nat) (ret : Option FieldType) (own : String) (E : ρ → Option Value × qH) (pc : Nat) (ls : List (Option Value)) (st : List Value) (h : qH) (r : Option ρ) : Prop :=
  ∀ z : ρ, r = some z → ∀ (p : Program) (e : Env) (s : State) (m : MethodId) (args : Array Value) (below : List Frame) (meth : Method) (c : Code) (D : va_G) (cs : Nat → ClassId) (ad : Nat → Nat) (A : Nat → Prop) (H : Heap) (locs : List Loc) (cells slots : Nat) (la : Array Slot),
    qC cc nL ret own p s m args meth c → qW U RO D cs ad A h s H locs R cells slots → qL ad la nL ls →
    W p l e R s m args below meth c H locs cells slots (MQ below (qQ ((E z).1.map (qv ad)) (qB U D cs ad A (E z).2) A) args s cells slots A) (F0 m pc la (st.map (qv ad)))
