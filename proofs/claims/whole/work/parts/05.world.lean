section QX
variable {ρ : Type} {U : List qS} {RO : qRO} {l : Launch} {R : Room} {cc : ByteArray} {nL : Nat} {ret : Option FieldType} {own : String} {E : ρ → Option Value × qH} {pc pc' : Nat} {ls : List (Option Value)} {st : List Value} {h : qH} {r : Option ρ}
/-- a field's row of the tables, for reading -/
def qGet (own : String) (idx ci k : Nat) : Prop := ∃ (C : String) (T : u_T) (N : Nat), vwCl[ci]? = some (C, T, N) ∧ k < N ∧ (∀ w ∈ u_ws C T N, w ∈ qTT) ∧ (Cond.fieldLink own idx (T k).1 (T k).2.1 (T k).2.2.1 ∈ qTT ∨ ∃ host : String, Cond.fieldLinkNest own idx (T k).1 (T k).2.1 (T k).2.2.1 host ∈ qNT)
/-- for writing -/
def qPut (own : String) (idx ci k : Nat) (ty : FieldType) : Prop := ∃ (C : String) (T : u_T) (N : Nat) (ty0 : Nat → FieldType), vwCl[ci]? = some (C, T, N) ∧ k < N ∧ (∀ w ∈ u_ws C T N, w ∈ qTT) ∧ (∀ k, k < N → parseFieldDescriptor (T k).2.2.1 = some (ty0 k)) ∧ (∀ a, a < N → ∀ b, b < N → a ≠ b → (T a).2.1 ≠ (T b).2.1) ∧ (T k).2.2.2 = false ∧ parseFieldDescriptor (T k).2.2.1 = some ty ∧ (Cond.fieldLink own idx (T k).1 (T k).2.1 (T k).2.2.1 ∈ qTT ∨ ∃ host : String, Cond.fieldLinkNest own idx (T k).1 (T k).2.1 (T k).2.2.1 host ∈ qNT)
def qfa (h : qH) (a k : Nat) (f : qF) : Value := match f with
  | .inl 0 => .int (h.1 a k)
  | .inl _ => .long (h.2 a)
  | .inr none => .null
  | .inr (some j) => .ref j
theorem qfa_qv (ad : Nat → Nat) (h : qH) (a k : Nat) (f : qF) : qv ad (qfa h a k f) = qfv ad (h.1 a) (h.2 a) k f := by
  match f with
  | .inl 0 => rfl
  | .inl (n + 1) => rfl
  | .inr none => rfl
  | .inr (some j) => rfl
theorem p_get {idx ci k a : Nat} {fs : List qF} {f : qF} (hg : qGet own idx ci k) (hs : U[a]? = some (.inl (ci, fs))) (hf : fs[k]? = some f) (hd : decode cc pc = .ok (.getfield idx, 3)) (hp : pc + 3 = pc') (kk : PW U RO l R cc nL ret own E pc' ls (qfa h a k f :: st) h r) : PW U RO l R cc nL ret own E pc ls (.ref a :: st) h r := by
  subst hp
  intro z hz p e s m args below meth c D cs ad A H locs cells slots la hC hW hL
  have w := kk z hz p e s m args below meth c D cs ad A H locs cells slots la hC hW hL
  obtain ⟨C, T, N, hc, hk, hin, hlk⟩ := hg
  have he := qpic_get (cs := cs) (ad := ad) (h := h) hs
  have hv : (fs.mapIdx (qfv ad (h.1 a) (h.2 a)))[k]? = some (qv ad (qfa h a k f)) := by rw [qfa_qv]; simp [hf]
  rcases hlk with hlk | ⟨host, hlk⟩
  · exact va_get hC.1 hC.2.1 hC.2.2.2.2.2.1 hin hC.2.2.2.2.1 hW.2.2.1 hW.1 a he hc k hk (hC.2.2.2.2.2.1 _ hlk) (fun _ h9 => h9) hv hd w
  · exact va_getN hC.1 hC.2.1 hC.2.2.2.2.2.1 hin hC.2.2.2.2.1 hW.2.2.1 hW.1 a he hc k hk (va_Nw.use rfl (hC.2.2.2.2.2.2.1 _ hlk)) (fun _ h9 => h9) hv hd w
theorem p_geti {idx ci k a : Nat} {fs : List qF} (hg : qGet own idx ci k) (hs : U[a]? = some (.inl (ci, fs))) (hf : fs[k]? = some (.inl 0)) (hd : decode cc pc = .ok (.getfield idx, 3)) (hp : pc + 3 = pc') (kk : PW U RO l R cc nL ret own E pc' ls (.int (h.1 a k) :: st) h r) : PW U RO l R cc nL ret own E pc ls (.ref a :: st) h r := p_get hg hs hf hd hp kk
theorem p_getl {idx ci k a : Nat} {fs : List qF} (hg : qGet own idx ci k) (hs : U[a]? = some (.inl (ci, fs))) (hf : fs[k]? = some (.inl 1)) (hd : decode cc pc = .ok (.getfield idx, 3)) (hp : pc + 3 = pc') (kk : PW U RO l R cc nL ret own E pc' ls (.long (h.2 a) :: st) h r) : PW U RO l R cc nL ret own E pc ls (.ref a :: st) h r := p_get hg hs hf hd hp kk
theorem p_getr {idx ci k a b : Nat} {fs : List qF} (hg : qGet own idx ci k) (hs : U[a]? = some (.inl (ci, fs))) (hf : fs[k]? = some (.inr (some b))) (hd : decode cc pc = .ok (.getfield idx, 3)) (hp : pc + 3 = pc') (kk : PW U RO l R cc nL ret own E pc' ls (.ref b :: st) h r) : PW U RO l R cc nL ret own E pc ls (.ref a :: st) h r := p_get hg hs hf hd hp kk
theorem qset_map (ad : Nat → Nat) (row row' : Nat → Int32) (lg lg' : Int64) (fs : List qF) (k : Nat) (f : qF) (v : Value) (hf : fs[k]? = some f) (hv : qfv ad row' lg' k f = v) (ho : ∀ (j : Nat) (g : qF), fs[j]? = some g → j ≠ k → qfv ad row' lg' j g = qfv ad row lg j g) : (fs.mapIdx (qfv ad row lg)).set k v = fs.mapIdx (qfv ad row' lg') := by
  apply List.ext_getElem?
  intro j
  have hl : k < fs.length := (List.getElem?_eq_some_iff.mp hf).1
  by_cases hj : j = k
  · subst hj
    rw [List.getElem?_set_self (by simpa using hl)]
    simp [hf, hv]
  · rw [List.getElem?_set_ne (Ne.symm hj)]
    cases hg : fs[j]? with
    | none => simp [hg]
    | some g => simp [hg, ho j g hg hj]
theorem p_put {idx ci k a : Nat} {fs : List qF} {f : qF} {v : Value} {ty : FieldType} {h' : qH} (hg : qPut own idx ci k ty) (hs : U[a]? = some (.inl (ci, fs))) (hf : fs[k]? = some f) (hn : ∀ ad, narrow ty (qv ad v) = qv ad v) (hfit : ∀ ad, fits ty (qv ad v) = true) (hv : ∀ ad, qfv ad (h'.1 a) (h'.2 a) k f = qv ad v) (ho : ∀ ad (j : Nat) (g : qF), fs[j]? = some g → j ≠ k → qfv ad (h'.1 a) (h'.2 a) j g = qfv ad (h.1 a) (h.2 a) j g) (hq : ∀ cs ad, (qpic U cs ad h).set a (ad a, qcell cs ad h' a (.inl (ci, fs))) = qpic U cs ad h') (hd : decode cc pc = .ok (.putfield idx, 3)) (hp : pc + 3 = pc') (kk : PW U RO l R cc nL ret own E pc' ls st h' r) : PW U RO l R cc nL ret own E pc ls (v :: .ref a :: st) h r := by
  subst hp
  intro z hz p e s m args below meth c D cs ad A H locs cells slots la hC hW hL
  obtain ⟨C, T, N, ty0, hc, hk, hin, hty, hnm, hfin, hpd, hlk⟩ := hg
  have he := qpic_get (cs := cs) (ad := ad) (h := h) hs
  have hlen : k < (fs.mapIdx (qfv ad (h.1 a) (h.2 a))).length := by
    have := (List.getElem?_eq_some_iff.mp hf).1
    simpa using this
  have hset : (qpic U cs ad h).set a (ad a, .inr (ci, (fs.mapIdx (qfv ad (h.1 a) (h.2 a))).set k (qv ad v))) = qpic U cs ad h' := by
    rw [← hq cs ad, qset_map ad (h.1 a) (h'.1 a) (h.2 a) (h'.2 a) fs k f (qv ad v) hf (hv ad) (ho ad)]
    rfl
  have fin : ∀ (H1 : Heap) (locs1 : List Loc), va_P D vwCl ((qpic U cs ad h).set a (ad a, .inr (ci, (fs.mapIdx (qfv ad (h.1 a) (h.2 a))).set k (qv ad v)))) H1 → va_D A ((qpic U cs ad h).set a (ad a, .inr (ci, (fs.mapIdx (qfv ad (h.1 a) (h.2 a))).set k (qv ad v)))) → va_S A s.heap H1 locs1 → W p l e R s m args below meth c H1 locs1 cells slots (MQ below (qQ ((E z).1.map (qv ad)) (qB U D cs ad A (E z).2) A) args s cells slots A) (F0 m (pc + 3) la (st.map (qv ad))) := by
    intro H1 locs1 h1 h2 h3
    rw [hset] at h1 h2
    exact kk z hz p e s m args below meth c D cs ad A H1 locs1 cells slots la hC ⟨h1, h2, hW.2.2.1, h3, hW.2.2.2.2⟩ hL
  rcases hlk with hlk | ⟨host, hlk⟩
  · exact va_put hC.1 hC.2.1 hC.2.2.2.2.2.1 hin ty0 hty hnm hC.2.2.2.2.1 hW.2.2.1 hW.1 hW.2.1 hW.2.2.2.1 a he hc k hk (hC.2.2.2.2.2.1 _ hlk) (fun _ h9 => h9) hfin hpd (hn ad) (hfit ad) hlen hd fin
  · exact va_putN hC.1 hC.2.1 hC.2.2.2.2.2.1 hin ty0 hty hnm hC.2.2.2.2.1 hW.2.2.1 hW.1 hW.2.1 hW.2.2.2.1 a he hc k hk (va_Nw.use rfl (hC.2.2.2.2.2.2.1 _ hlk)) (fun _ h9 => h9) hfin hpd (hn ad) (hfit ad) hlen hd fin
theorem qfv_row {ad : Nat → Nat} {h : qH} {a k j : Nat} {x : Int32} {g : qF} (hj : j ≠ k) : qfv ad ((qw h a k x).1 a) ((qw h a k x).2 a) j g = qfv ad (h.1 a) (h.2 a) j g := by
  have e : (qw h a k x).1 a j = h.1 a j := by
    show (if a = a then upd (h.1 a) k x else h.1 a) j = _
    rw [if_pos rfl]
    exact if_neg hj
  match g with
  | .inl 0 => exact congrArg Value.int e
  | .inl (n + 1) => rfl
  | .inr none => rfl
  | .inr (some b) => rfl
theorem qw_at (h : qH) (a k : Nat) (x : Int32) : (qw h a k x).1 a k = x := by
  show (if a = a then upd (h.1 a) k x else h.1 a) k = _
  rw [if_pos rfl]
  exact if_pos rfl
theorem p_puti {idx ci k a : Nat} {fs : List qF} {x : Int32} (hU : qok U) (hg : qPut own idx ci k .int) (hs : U[a]? = some (.inl (ci, fs))) (hf : fs[k]? = some (.inl 0)) (hd : decode cc pc = .ok (.putfield idx, 3)) (hp : pc + 3 = pc') (kk : PW U RO l R cc nL ret own E pc' ls st (qw h a k x) r) : PW U RO l R cc nL ret own E pc ls (.int x :: .ref a :: st) h r :=
  p_put hg hs hf (fun _ => rfl) (fun _ => rfl) (fun _ => congrArg Value.int (qw_at h a k x)) (fun _ _ _ _ hj => qfv_row hj) (fun _ _ => qpic_row hU hs) hd hp kk
theorem p_putz {idx ci k a : Nat} {fs : List qF} {x : Int32} (hU : qok U) (hx : narrow .boolean (.int x) = .int x ∧ fits .boolean (.int x) = true) (hg : qPut own idx ci k .boolean) (hs : U[a]? = some (.inl (ci, fs))) (hf : fs[k]? = some (.inl 0)) (hd : decode cc pc = .ok (.putfield idx, 3)) (hp : pc + 3 = pc') (kk : PW U RO l R cc nL ret own E pc' ls st (qw h a k x) r) : PW U RO l R cc nL ret own E pc ls (.int x :: .ref a :: st) h r :=
  p_put hg hs hf (fun _ => hx.1) (fun _ => hx.2) (fun _ => congrArg Value.int (qw_at h a k x)) (fun _ _ _ _ hj => qfv_row hj) (fun _ _ => qpic_row hU hs) hd hp kk
/-- a long field: the object has one -/
theorem p_putl {idx ci k a : Nat} {fs : List qF} {x : Int64} (hg : qPut own idx ci k .long) (hs : U[a]? = some (.inl (ci, fs))) (hf : fs[k]? = some (.inl 1)) (h1 : ∀ j n, fs[j]? = some (.inl (n + 1)) → j = k) (hd : decode cc pc = .ok (.putfield idx, 3)) (hp : pc + 3 = pc') (kk : PW U RO l R cc nL ret own E pc' ls st (qlg h a x) r) : PW U RO l R cc nL ret own E pc ls (.long x :: .ref a :: st) h r :=
  p_put hg hs hf (fun _ => rfl) (fun _ => rfl) (fun _ => by show Value.long (if a = a then x else h.2 a) = _; rw [if_pos rfl]; rfl) (fun ad j g hj hne => by
    match g, hj with
    | .inl 0, _ => rfl
    | .inl (n + 1), hj => exact absurd (h1 j n hj) hne
    | .inr none, _ => rfl
    | .inr (some b), _ => rfl) (fun _ _ => qpic_lg hs) hd hp kk
/-! arrays -/
theorem qpic_arr {cs : Nat → ClassId} {ad : Nat → Nat} {a t : Nat} {L : Nat ⊕ Nat} {rs : List Nat} (hs : U[a]? = some (.inr (t, L, rs))) (ht : t ≠ 2) : (qpic U cs ad h)[a]? = some (ad a, .inl (cs t, qlen h L, .inl (h.1 a))) := by
  rw [qpic_get hs]
  simp [qcell, ht]
theorem qpic_arrR {cs : Nat → ClassId} {ad : Nat → Nat} {a : Nat} {L : Nat ⊕ Nat} {rs : List Nat} (hs : U[a]? = some (.inr (2, L, rs))) : (qpic U cs ad h)[a]? = some (ad a, .inl (cs 2, qlen h L, .inr (.inr (.inr (.inr (fun j => (rs[j]?).map ad)))))) := by
  rw [qpic_get hs]
  simp [qcell]
theorem p_iald {a : Nat} {L : Nat ⊕ Nat} {rs : List Nat} {i : Int32} (hs : U[a]? = some (.inr (0, L, rs))) (hd : decode cc pc = .ok (.iaload, 1)) (hp : pc + 1 = pc') (kk : qin i (qlen h L) = true → PW U RO l R cc nL ret own E pc' ls (.int (h.1 a (ix i)) :: st) h r) : PW U RO l R cc nL ret own E pc ls (.int i :: .ref a :: st) h (qg (qin i (qlen h L)) r) := by
  subst hp
  intro z hz p e s m args below meth c D cs ad A H locs cells slots la hC hW hL
  obtain ⟨h1, h2⟩ := qg_some hz
  exact va_iald hC.1 hC.2.1 hW.2.2.1 hW.1 a 0 (qpic_arr hs (by decide)) rfl (qin_vp h1) hd (kk h1 z h2 p e s m args below meth c D cs ad A H locs cells slots la hC hW hL)
theorem p_zald {a : Nat} {L : Nat ⊕ Nat} {rs : List Nat} {i : Int32} (hs : U[a]? = some (.inr (1, L, rs))) (hd : decode cc pc = .ok (.baload, 1)) (hp : pc + 1 = pc') (kk : qin i (qlen h L) = true → PW U RO l R cc nL ret own E pc' ls (.int (h.1 a (ix i)) :: st) h r) : PW U RO l R cc nL ret own E pc ls (.int i :: .ref a :: st) h (qg (qin i (qlen h L)) r) := by
  subst hp
  intro z hz p e s m args below meth c D cs ad A H locs cells slots la hC hW hL
  obtain ⟨h1, h2⟩ := qg_some hz
  exact va_zald hC.1 hC.2.1 hW.2.2.1 hW.1 a 1 (qpic_arr hs (by decide)) rfl (qin_vp h1) hd (kk h1 z h2 p e s m args below meth c D cs ad A H locs cells slots la hC hW hL)
theorem p_aald {a : Nat} {L : Nat ⊕ Nat} {rs : List Nat} {i : Int32} (hs : U[a]? = some (.inr (2, L, rs))) (hl : qlen h L = rs.length) (hd : decode cc pc = .ok (.aaload, 1)) (hp : pc + 1 = pc') (kk : qin i rs.length = true → PW U RO l R cc nL ret own E pc' ls (.ref (rs.getD (ix i) 0) :: st) h r) : PW U RO l R cc nL ret own E pc ls (.int i :: .ref a :: st) h (qg (qin i rs.length) r) := by
  subst hp
  intro z hz p e s m args below meth c D cs ad A H locs cells slots la hC hW hL
  obtain ⟨h1, h2⟩ := qg_some hz
  refine va_aldq hC.1 hC.2.1 hW.2.2.1 hW.1 a 2 (qpic_arrR hs) rfl (by rw [hl]; exact qin_vp h1) hd ?_
  have w := kk h1 z h2 p e s m args below meth c D cs ad A H locs cells slots la hC hW hL
  have hlt : i.toNatClampNeg < rs.length := Nat.not_le.mp fun q => qin_vp h1 (Or.inr q)
  have e : va_rf ((rs[i.toNatClampNeg]?).map ad) = qv ad (.ref (rs.getD (ix i) 0)) := by
    simp [hlt, va_rf, qv]
  rw [e]
  exact w
theorem qcell_arr {cs : Nat → ClassId} {ad : Nat → Nat} {a t : Nat} {L : Nat ⊕ Nat} {rs : List Nat} {f : Nat → Int32} (hU : qok U) (hs : U[a]? = some (.inr (t, L, rs))) (ht : t ≠ 2) : qcell cs ad (qrow h a f) a (.inr (t, L, rs)) = .inl (cs t, qlen h L, .inl f) := by
  have e : (qrow h a f).1 a = f := if_pos rfl
  simp only [qcell, e, qlen_row hU hs (List.getElem?_eq_some_iff.mp hs).1, if_neg ht]
theorem p_iast {a : Nat} {L : Nat ⊕ Nat} {rs : List Nat} {i x : Int32} (hU : qok U) (hs : U[a]? = some (.inr (0, L, rs))) (hd : decode cc pc = .ok (.iastore, 1)) (hp : pc + 1 = pc') (kk : qin i (qlen h L) = true → PW U RO l R cc nL ret own E pc' ls st (qw h a (ix i) x) r) : PW U RO l R cc nL ret own E pc ls (.int x :: .int i :: .ref a :: st) h (qg (qin i (qlen h L)) r) := by
  subst hp
  intro z hz p e s m args below meth c D cs ad A H locs cells slots la hC hW hL
  obtain ⟨h1, h2⟩ := qg_some hz
  refine va_iast hC.1 hC.2.1 hW.2.2.1 hW.1 hW.2.1 hW.2.2.2.1 a 0 (qpic_arr hs (by decide)) rfl (qin_vp h1) hd fun H1 locs1 g1 g2 g3 => ?_
  rw [← qcell_arr (cs := cs) (ad := ad) (h := h) (f := upd (h.1 a) (i.toNatClampNeg) x) hU hs (by decide), qpic_row hU hs] at g1 g2
  exact kk h1 z h2 p e s m args below meth c D cs ad A H1 locs1 cells slots la hC ⟨g1, g2, hW.2.2.1, g3, hW.2.2.2.2⟩ hL
theorem p_zast {a : Nat} {L : Nat ⊕ Nat} {rs : List Nat} {i x : Int32} (hU : qok U) (hx : vp_nar .boolean x = x) (hs : U[a]? = some (.inr (1, L, rs))) (hd : decode cc pc = .ok (.bastore, 1)) (hp : pc + 1 = pc') (kk : qin i (qlen h L) = true → PW U RO l R cc nL ret own E pc' ls st (qw h a (ix i) x) r) : PW U RO l R cc nL ret own E pc ls (.int x :: .int i :: .ref a :: st) h (qg (qin i (qlen h L)) r) := by
  subst hp
  intro z hz p e s m args below meth c D cs ad A H locs cells slots la hC hW hL
  obtain ⟨h1, h2⟩ := qg_some hz
  refine va_zast hC.1 hC.2.1 hW.2.2.1 hW.1 hW.2.1 hW.2.2.2.1 a 1 (qpic_arr hs (by decide)) rfl (qin_vp h1) hd fun H1 locs1 g1 g2 g3 => ?_
  rw [hx, ← qcell_arr (cs := cs) (ad := ad) (h := h) (f := upd (h.1 a) (i.toNatClampNeg) x) hU hs (by decide), qpic_row hU hs] at g1 g2
  exact kk h1 z h2 p e s m args below meth c D cs ad A H1 locs1 cells slots la hC ⟨g1, g2, hW.2.2.1, g3, hW.2.2.2.2⟩ hL
theorem p_alen {a t : Nat} {L : Nat ⊕ Nat} {rs : List Nat} (hs : U[a]? = some (.inr (t, L, rs))) (ht : t < 2) (hd : decode cc pc = .ok (.arraylength, 1)) (hp : pc + 1 = pc') (kk : PW U RO l R cc nL ret own E pc' ls (.int (nI (qlen h L)) :: st) h r) : PW U RO l R cc nL ret own E pc ls (.ref a :: st) h r := by
  subst hp
  intro z hz p e s m args below meth c D cs ad A H locs cells slots la hC hW hL
  have w := kk z hz p e s m args below meth c D cs ad A H locs cells slots la hC hW hL
  rcases (show t = 0 ∨ t = 1 by omega) with rfl | rfl
  · exact va_alen hC.1 hC.2.1 hW.2.2.1 hW.1 a 0 (qpic_arr hs (by decide)) (ty := .int) rfl (v := nI (qlen h L)) rfl hd w
  · exact va_alen hC.1 hC.2.1 hW.2.2.1 hW.1 a 1 (qpic_arr hs (by decide)) (ty := .boolean) rfl (v := nI (qlen h L)) rfl hd w
/-! returns -/
theorem qend {v : Option Value} {h' : qH} {s : State} {args : Array Value} {D : va_G} {cs : Nat → ClassId} {ad : Nat → Nat} {A : Nat → Prop} {H : Heap} {locs : List Loc} {cells slots : Nat} (hW : qW U RO D cs ad A h' s H locs R cells slots) (t : State) (ht : t.heap = H) (hw : s.WarmedH t.vm) : qQ v (qB U D cs ad A h') A args s (.returned v) t :=
  ⟨⟨rfl, by rw [ht]; exact hW.1, va_K.moved hw.alike hW.2.2.1, hW.2.1⟩, hW.2.2.2.1.F ht⟩
theorem p_iret {v : Int32} {z : ρ} (hr : ret = some .int) (hz : E z = (some (.int v), h)) (hd : decode cc pc = .ok (.ireturn, 1)) : PW U RO l R cc nL ret own E pc ls [.int v] h (some z) := by
  intro z' hz' p e s m args below meth c D cs ad A H locs cells slots la hC hW hL
  cases hz'
  rw [hz]
  have hlocks : meth.locks = false := hC.2.2.2.2.2.2.2
  exact W.iret (v := v) hC.1 hC.2.1 (by rw [hC.2.2.2.1, hr]) (fun t ht hw => qend hW t ht hw) hW.2.2.2.1.2.2 hd
theorem p_zret {v : Int32} {z : ρ} (hr : ret = some .boolean) (hv : narrow .boolean (.int v) = .int v) (hz : E z = (some (.int v), h)) (hd : decode cc pc = .ok (.ireturn, 1)) : PW U RO l R cc nL ret own E pc ls [.int v] h (some z) := by
  intro z' hz' p e s m args below meth c D cs ad A H locs cells slots la hC hW hL
  cases hz'
  rw [hz]
  have hlocks : meth.locks = false := hC.2.2.2.2.2.2.2
  exact W.zret (v := v) (ty := .boolean) hC.1 hC.2.1 (by rw [hC.2.2.2.1, hr]) hv (fun t ht hw => qend hW t ht hw) hW.2.2.2.1.2.2 hd
def qbo (v : Int32) : Bool := decide (v = 0) || decide (v = 1)
theorem p_zretG {v : Int32} {z : ρ} (hr : ret = some .boolean) (hz : E z = (some (.int v), h)) (hd : decode cc pc = .ok (.ireturn, 1)) : PW U RO l R cc nL ret own E pc ls [.int v] h (qg (qbo v) (some z)) := by
  intro z' hz'
  obtain ⟨h1, h2⟩ := qg_some hz'
  refine p_zret hr ?_ hz hd z' h2
  simp only [qbo, Bool.or_eq_true, decide_eq_true_eq] at h1
  rcases h1 with rfl | rfl <;> decide
theorem p_vret {z : ρ} (hr : ret = none) (hz : E z = (none, h)) (hd : decode cc pc = .ok (.return_, 1)) : PW U RO l R cc nL ret own E pc ls [] h (some z) := by
  intro z' hz' p e s m args below meth c D cs ad A H locs cells slots la hC hW hL
  cases hz'
  rw [hz]
  have hlocks : meth.locks = false := hC.2.2.2.2.2.2.2
  exact W.vret hC.1 hC.2.1 (by rw [hC.2.2.2.1, hr]) (fun t ht hw => qend hW t ht hw) hW.2.2.2.1.2.2 hd
end QX
