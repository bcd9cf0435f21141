/-! ===== a new table: 'newarray int; putfield table' ===== -/
def qr5 (v : Value) : Bool := match v with
  | .ref k => decide (k ≠ 50)
  | _ => true
def ql5 (ls : List (Option Value)) : Bool := ls.all (fun o => match o with
  | some v => qr5 v
  | none => true)
theorem qr5_ad {ad ad' : Nat → Nat} (h : ∀ k, k ≠ 50 → ad' k = ad k) {v : Value} (hv : qr5 v = true) : qv ad' v = qv ad v := by
  cases v with
  | ref k => exact congrArg Value.ref (h k (of_decide_eq_true hv))
  | _ => rfl
theorem qr5s_ad {ad ad' : Nat → Nat} (h : ∀ k, k ≠ 50 → ad' k = ad k) {st : List Value} (hv : st.all qr5 = true) : st.map (qv ad') = st.map (qv ad) := by
  apply List.map_congr_left
  intro v hm
  exact qr5_ad h (List.all_eq_true.mp hv v hm)
theorem ql5_ad {ad ad' : Nat → Nat} {nL : Nat} {la : Array Slot} {ls : List (Option Value)} (h : ∀ k, k ≠ 50 → ad' k = ad k) (hl : ql5 ls = true) (hL : qL ad la nL ls) : qL ad' la nL ls := by
  refine ⟨hL.1, hL.2.1, fun i v hi => ?_⟩
  have h1 := List.all_eq_true.mp hl _ (List.mem_of_getElem? hi)
  rw [qr5_ad h h1]
  exact hL.2.2 i v hi
theorem ROX_ad {ad ad' : Nat → Nat} {A : Nat → Prop} {s : State} (h : ∀ k, k ≠ 50 → ad' k = ad k) (hR : ROX ad A s) : ROX ad' A s := by
  have e1 : (fun i => ad' (210 + i)) = fun i => ad (210 + i) := by funext i; exact h _ (by omega)
  have e2 : (fun i => ad' (220 + i)) = fun i => ad (220 + i) := by funext i; exact h _ (by omega)
  refine ⟨fun k nm xs hk => ?_, fun k i tx hk => ?_, ?_, hR.2.2.2⟩
  · rw [h (200 + k) (by omega)]
    exact hR.1 k nm xs hk
  · rw [h (210 + k) (by omega)]
    exact hR.2.1 k i tx hk
  · rw [e1, e2]
    exact hR.2.2.1
/-- the store with a new table of N cells -/
def q50 (N : Nat) (h : qH) : qH := (fun b => if b = 50 then (fun _ => 0) else if b = 100 then (fun _ => nI N) else h.1 b, h.2)
def qch5 (k : Nat) (s : qS) : Bool := match s with
  | .inl (_, fs) => (List.range fs.length).all (fun j => match fs[j]? with
    | some (.inr (some b)) => decide (b ≠ 50) || (decide (k = 43) && decide (j = 9))
    | _ => true)
  | .inr (_, L, rs) => (decide (k = 50) || (match L with
    | .inl _ => true
    | .inr _ => false)) && rs.all (fun b => decide (b ≠ 50))
theorem qch5_all : (List.range 85).all (fun k => match UX[k]? with
  | some s => qch5 k s
  | none => false) = true := by decide +kernel
theorem qch5_at {k : Nat} {s : qS} (hk : UX[k]? = some s) : qch5 k s = true := by
  have h1 : k < 85 := (List.getElem?_eq_some_iff.mp hk).1
  have h2 := List.all_eq_true.mp qch5_all k (List.mem_range.mpr h1)
  rw [hk] at h2
  exact h2
theorem q50_row {N k : Nat} {h : qH} (h1 : k ≠ 50) (h2 : k < 85) : (q50 N h).1 k = h.1 k := by
  show (if k = 50 then _ else if k = 100 then _ else h.1 k) = _
  rw [if_neg h1, if_neg (by omega)]
theorem q50_cell {cs : Nat → ClassId} {ad ad' : Nat → Nat} {N k : Nat} {h : qH} {s : qS} (hag : ∀ k, k ≠ 50 → ad' k = ad k) (hk : UX[k]? = some s) (h1 : k ≠ 50) (h2 : k ≠ 43) : qcell cs ad' (q50 N h) k s = qcell cs ad h k s := by
  have hl : k < 85 := (List.getElem?_eq_some_iff.mp hk).1
  have hc := qch5_at hk
  have er := q50_row (N := N) (h := h) h1 hl
  match s, hc with
  | .inl (ci, fs), hc =>
    simp only [qcell, er]
    congr 2
    apply List.ext_getElem?
    intro j
    simp only [List.getElem?_mapIdx]
    cases hj : fs[j]? with
    | none => rfl
    | some f =>
      have h3 := List.all_eq_true.mp hc j (List.mem_range.mpr (List.getElem?_eq_some_iff.mp hj).1)
      rw [hj] at h3
      match f, h3 with
      | .inl 0, _ => rfl
      | .inl (_ + 1), _ => rfl
      | .inr none, _ => rfl
      | .inr (some b), h3 =>
        have hb : b ≠ 50 := by
          simp only [h2, decide_false, Bool.false_and, Bool.or_false, decide_eq_true_eq] at h3
          exact h3
        show some (Value.ref (ad' b)) = some (Value.ref (ad b))
        rw [hag b hb]
  | .inr (t, L, rs), hc =>
    simp only [qch5, h1, decide_false, Bool.false_or, Bool.and_eq_true] at hc
    have el : qlen (q50 N h) L = qlen h L := by
      match L, hc.1 with
      | .inl n, _ => rfl
    have e : (fun j : Nat => (rs[j]?).map ad') = fun j : Nat => (rs[j]?).map ad := by
      funext j
      cases hj : rs[j]? with
      | none => rfl
      | some b => exact congrArg some (hag b (of_decide_eq_true (List.all_eq_true.mp hc.2 b (List.mem_of_getElem? hj))))
    simp only [qcell, el, er, e]
def q43f : List qF := [.inr (some 6), .inl 0, .inl 0, .inr (some 44), .inr (some 45), .inr (some 46), .inr (some 47), .inr (some 48), .inr (some 49), .inr (some 50)]
theorem q50_43 {cs : Nat → ClassId} {ad ad' : Nat → Nat} {N q : Nat} {h : qH} (hag : ∀ k, k ≠ 50 → ad' k = ad k) (hq : ad' 50 = q) : qcell cs ad' (q50 N h) 43 (.inl (2, q43f)) = .inr (2, (q43f.mapIdx (qfv ad (h.1 43) (h.2 43))).set 9 (.ref q)) := by
  have er := q50_row (N := N) (h := h) (k := 43) (by decide) (by decide)
  subst hq
  show Sum.inr (2, [Value.ref (ad' 6), .int ((q50 N h).1 43 1), .int ((q50 N h).1 43 2), .ref (ad' 44), .ref (ad' 45), .ref (ad' 46), .ref (ad' 47), .ref (ad' 48), .ref (ad' 49), .ref (ad' 50)]) = Sum.inr (2, [Value.ref (ad 6), .int (h.1 43 1), .int (h.1 43 2), .ref (ad 44), .ref (ad 45), .ref (ad 46), .ref (ad 47), .ref (ad 48), .ref (ad 49), .ref (ad' 50)])
  rw [er, hag 6 (by decide), hag 44 (by decide), hag 45 (by decide), hag 46 (by decide), hag 47 (by decide), hag 48 (by decide), hag 49 (by decide)]
def q5i (k : Nat) : Nat := if k = 50 then 85 else k
theorem q50_sub {cs : Nat → ClassId} {ad ad' : Nat → Nat} {N q : Nat} {h : qH} (hag : ∀ k, k ≠ 50 → ad' k = ad k) (hq : ad' 50 = q) (hN : N < 2 ^ 31) (k : Nat) (x : Nat × va_E) (hx : (qpic UX cs ad' (q50 N h))[k]? = some x) :
    (((qpic UX cs ad h ++ [(q, .inl (cs 0, N, .inl fun _ => 0))]) : va_W).set 43 (ad 43, .inr (2, (q43f.mapIdx (qfv ad (h.1 43) (h.2 43))).set 9 (.ref q))))[q5i k]? = some x := by
  have hlen : (qpic UX cs ad h).length = 85 := by simp [qpic]; rfl
  cases hu : UX[k]? with
  | none => simp [qpic, hu] at hx
  | some s =>
    have hk : k < 85 := (List.getElem?_eq_some_iff.mp hu).1
    rw [qpic_get hu] at hx
    cases hx
    by_cases h50 : k = 50
    · subst h50
      have : s = .inr (0, .inr 100, []) := Option.some.inj (hu.symm.trans uX_50)
      subst this
      show (List.set _ 43 _)[85]? = _
      rw [List.getElem?_set_ne (by decide), List.getElem?_append_right (by omega), hlen]
      show some (q, _) = some (ad' 50, Sum.inl (cs 0, (nI N).toNatClampNeg, Sum.inl (fun _ => (0 : Int32))))
      rw [hq, show (nI N).toNatClampNeg = N from ix_nI hN]
    · rw [show q5i k = k from if_neg h50]
      by_cases h43 : k = 43
      · subst h43
        have : s = .inl (2, q43f) := Option.some.inj (hu.symm.trans uX_43)
        subst this
        rw [List.getElem?_set_self (by simp [hlen]), q50_43 hag hq, hag 43 h50]
      · rw [List.getElem?_set_ne (Ne.symm h43), List.getElem?_append_left (by omega), qpic_get hu, hag k h50, q50_cell hag hu h50 h43]
section QT
variable {ρ : Type} {l : Launch} {R : Room} {cc : ByteArray} {nL : Nat} {ret : Option FieldType} {own : String} {E : ρ → Option Value × qH} {pc pc' : Nat} {ls ls' : List (Option Value)} {st : List Value} {h h' : qH} {r : Option ρ} {kc ks : Nat}
/-- behind the change: on with PW, at the new places -/
theorem n_to {z : ρ} {p : Program} {e : Env} {s : State} {m : MethodId} {args : Array Value} {below : List Frame} {meth : Method} {c : Code} {D : va_G} {cs : Nat → ClassId} {ad ad' : Nat → Nat} {A : Nat → Prop} {H : Heap} {locs : List Loc} {cells slots : Nat} {la : Array Slot} (k : PW UX ROX l R cc nL ret own E pc ls st h r) (hz : r = some z) (hag : ∀ k, k ≠ 50 → ad' k = ad k) (hls : ql5 ls = true) (hst : st.all qr5 = true) (hE : (E z).1.toList.all qr5 = true) (hC : qC cc nL ret own p s m args meth c) (hW : qW UX ROX D cs ad' A h s H locs R cells slots) (hL : qL ad la nL ls) :
    W p l e R s m args below meth c H locs cells slots (MQ below (qQ ((E z).1.map (qv ad)) (qBn UX D cs ad A (E z).2) A) args s cells slots A) (F0 m pc la (st.map (qv ad))) := by
  have w := k z hz p e s m args below meth c D cs ad' A H locs cells slots la hC hW (ql5_ad hag hls hL)
  rw [qr5s_ad hag hst] at w
  have ev : (E z).1.map (qv ad') = (E z).1.map (qv ad) := by
    cases h1 : (E z).1 with
    | none => rfl
    | some v =>
      rw [h1] at hE
      simp only [Option.toList, List.all_cons, List.all_nil, Bool.and_true] at hE
      exact congrArg some (qr5_ad hag hE)
  rw [ev] at w
  exact W_mono (MQ_mono fun o t b => ⟨⟨b.1.1, ad', hag, b.1.2⟩, b.2⟩) w
def qnw (v : Int32) (N : Nat) : Bool := decide (¬ v < 0) && decide (v.toNatClampNeg = N)
theorem n_newt {N idx : Nat} {v : Int32} (harr : Cond.arrayClass .int ∈ qTT) (hg : qPut own idx 2 9 (.array .int)) (hB : N * 4 ≤ 536870912) (hR : 1 ≤ R.cells ∧ N ≤ R.slots) (hls : ql5 ls = true) (hst : st.all qr5 = true) (hE : ∀ z, (E z).1.toList.all qr5 = true) (d1 : decode cc pc = .ok (.newarray .int, 2)) (d2 : decode cc (pc + 2) = .ok (.putfield idx, 3)) (hp : pc + 5 = pc')
    (k : PW UX ROX l R cc nL ret own E pc' ls st (q50 N h) r) : PWn UX ROX l R 1 N cc nL ret own E pc ls (.int v :: .ref 43 :: st) h (qg (qnw v N) r) := by
  subst hp
  intro z hz p e s m args below meth c D cs ad A H locs cells slots la hC hW hL
  obtain ⟨hv, hz⟩ := qg_some hz
  simp only [qnw, Bool.and_eq_true, decide_eq_true_eq] at hv
  obtain ⟨hv, hN⟩ := hv
  have hc1 : cells ≤ R.cells - 1 := hW.2.2.2.2.2.2.1
  have hc2 : slots ≤ R.slots - N := hW.2.2.2.2.2.2.2
  refine va_newa (atype := .int) hC.1 hC.2.1 (hC.2.2.2.2.2.1 _ harr) rfl hW.2.2.1 hW.1 hW.2.1 hW.2.2.2.1 hW.2.2.2.2.1 (n := v) (N' := N) (a0 := (N, .inl fun _ => 0)) (fun _ => rfl) hv hN hB (by omega) (by omega) d1 fun q cA H1 hK1 hP1 hD1 hS1 => ?_
  have e1 := (hW.2.2.1.2 0 (cs 0, .int) rfl).2
  have e2 := (hK1.2 3 (cA, .int) rfl).2
  have hcA : cA = cs 0 := Option.some.inj (Eq.trans (Eq.symm e2) e1)
  subst hcA
  obtain ⟨C, T, Nf, ty0, hc, hk, hin, hty, hnm, hfin, hpd, hlk⟩ := hg
  obtain ⟨ad', hq, hag⟩ : ∃ ad' : Nat → Nat, ad' 50 = q ∧ ∀ k, k ≠ 50 → ad' k = ad k := ⟨fun k => if k = 50 then q else ad k, if_pos rfl, fun k hk => if_neg hk⟩
  have hlen : (qpic UX cs ad h).length = 85 := by simp [qpic]; rfl
  have he : (qpic UX cs ad h ++ [(q, .inl (cs 0, N, .inl fun _ => 0))] : va_W)[43]? = some (ad 43, .inr (2, q43f.mapIdx (qfv ad (h.1 43) (h.2 43)))) := by
    rw [List.getElem?_append_left (by rw [hlen]; decide), qpic_get uX_43]
    rfl
  have fin : ∀ (H2 : Heap) (locs1 : List Loc), va_P D vwCl ((qpic UX cs ad h ++ [(q, .inl (cs 0, N, .inl fun _ => 0))] : va_W).set 43 (ad 43, .inr (2, (q43f.mapIdx (qfv ad (h.1 43) (h.2 43))).set 9 (.ref q)))) H2 → va_D A ((qpic UX cs ad h ++ [(q, .inl (cs 0, N, .inl fun _ => 0))] : va_W).set 43 (ad 43, .inr (2, (q43f.mapIdx (qfv ad (h.1 43) (h.2 43))).set 9 (.ref q)))) → va_S A s.heap H2 locs1 →
      W p l e R s m args below meth c H2 locs1 (cells + 1) (slots + N) (MQ below (qQ ((E z).1.map (qv ad)) (qBn UX D cs ad A (E z).2) A) args s (cells + 1) (slots + N) A) (F0 m (pc + 2 + 3) la (st.map (qv ad))) := by
    intro H2 locs1 h1 h2 h3
    have hsub := q50_sub (cs := cs) (h := h) hag hq (show N < 2 ^ 31 by omega)
    have hP2 : va_P D vwCl (qpic UX cs ad' (q50 N h)) H2 := fun k x hx => h1 (q5i k) x (hsub k x hx)
    have hD2 : va_D A (qpic UX cs ad' (q50 N h)) := by
      refine ⟨fun i j p q hi hj hne => ?_, fun k x hx => h2.2 (q5i k) x (hsub k x hx)⟩
      have hij := h2.1 (q5i i) (q5i j) p q (hsub i p hi) (hsub j q hj) hne
      have li : i < 85 := by
        have := (List.getElem?_eq_some_iff.mp hi).1
        simp [qpic] at this
        exact this
      have lj : j < 85 := by
        have := (List.getElem?_eq_some_iff.mp hj).1
        simp [qpic] at this
        exact this
      unfold q5i at hij
      split at hij <;> split at hij <;> omega
    exact n_to k hz hag hls hst (hE z) hC ⟨hP2, hD2, hW.2.2.1, h3, hW.2.2.2.2.1, ROX_ad hag hW.2.2.2.2.2.1, by omega, by omega⟩ hL
  rcases hlk with hlk | ⟨host, hlk⟩
  · exact va_put hC.1 hC.2.1 hC.2.2.2.2.2.1 hin ty0 hty hnm hC.2.2.2.2.1 hW.2.2.1 hP1 hD1 hS1 43 he hc 9 hk (hC.2.2.2.2.2.1 _ hlk) (fun _ h9 => h9) hfin hpd rfl rfl (Nat.le_of_ble_eq_true rfl) d2 fin
  · exact va_putN hC.1 hC.2.1 hC.2.2.2.2.2.1 hin ty0 hty hnm hC.2.2.2.2.1 hW.2.2.1 hP1 hD1 hS1 43 he hc 9 hk (va_Nw.use rfl (hC.2.2.2.2.2.2.1 _ hlk)) (fun _ h9 => h9) hfin hpd rfl rfl (Nat.le_of_ble_eq_true rfl) d2 fin
/-- the contract of a method that may make the table anew -/
def qMetN {ρ : Type} (l : Launch) (y : MethodName) (ws : List Cond) (rm : Room) (av : List Value) (r : qH → Option ρ) (E : qH → ρ → Option Value × qH) (kc ks : Nat) : Prop :=
  ∀ (D : va_G) (cs : Nat → ClassId) (ad : Nat → Nat) (h : qH) (z : ρ) (sz : Nat), r h = some z →
    Met l y ws rm (va_Pc (av.map (qv ad)) (qPre UX ROX D cs ad h sz)) (qQ ((E h z).1.map (qv ad)) (qBn UX D cs ad (va_A (qpic UX cs ad h) sz) (E h z).2) (va_A (qpic UX cs ad h) sz)) kc ks (va_A (qpic UX cs ad h) sz)
theorem n_met {y : MethodName} {av : List Value} {f : qH → Option ρ} {E' : qH → ρ → Option Value × qH} (n0 : Nat) (hy : plainName y.cls = true) (hown : y.cls = own) (hn : (qent av).length ≤ nL) (hls : qent av ++ List.replicate n0 none = ls) (k : ∀ h, PWn UX ROX l R kc ks cc nL ret own (E' h) 0 ls [] h (f h)) : qMetN l y (qws y cc nL ret) R av f E' kc ks := by
  intro D cs ad h z sz hz
  refine Met.ofW (cc := cc) (maxL := nL) (ret := ret) hy rfl ?_
  intro p e s m args below meth c s₁ B hml hv
  obtain ⟨rfl, hsz, hP, hK, hD, hN, hRo⟩ := hv
  subst hsz
  have hts := atoms_spec (ws := qws y cc nL ret) B.pre
  have hC : qC cc nL ret own p s m ((av.map (qv ad)).toArray) meth c := ⟨B.exec, B.bytes, hml, B.returns, by rw [← hown]; exact findClass_of_methodNamed B.named, fun w hw => hts w (List.mem_cons_of_mem _ hw), hN, B.notSynchronized⟩
  have hl := lv_entry (av.map (qv ad)) (n := nL) (by rw [qsl_len]; exact hn)
  rw [lg_entry_eq]
  have w := k h z hz p e s m _ below meth c D cs ad _ s.heap [] 0 0 _ hC ⟨hP, hD.self, hK, va_S.rf, fun q hq => Or.inr hq, hRo, Nat.zero_le _, Nat.zero_le _⟩ ⟨hl.1, hl.2.1, fun i v hi => by
    rw [← hls] at hi
    have := qent_at ad n0 av 0 i v hi
    rw [Nat.zero_add] at this
    exact hl.2.2 (i, qv ad v) this⟩
  rw [Nat.zero_add, Nat.zero_add] at w
  exact w
theorem n_callN {ρ' : Type} {f : qH → Option ρ'} {E' : qH → ρ' → Option Value × qH} {kk : ρ' → Option ρ} {y : MethodName} {cy : ByteArray} {nLy n idx ci b : Nat} {ry : Option FieldType} {rm : Room} (as : List Value) {fs : List qF} (hm : qMetN l y (qws y cy nLy ry) rm (.ref b :: as) f E' kc ks) (hc : qCalV own idx y cy nLy ry n) (hs : UX[b]? = some (.inl (ci, fs))) (hci : (vwCl[ci]?).map (fun q => q.1) = some y.cls) (hn : as.length = n) (hrm : rm.cells = kc ∧ rm.slots = ks) (hR : rm.frames + 1 ≤ R.frames ∧ 8 + (nLy + 11) + rm.locals ≤ R.locals) (hRc : kc ≤ R.cells ∧ ks ≤ R.slots) (hcat : (st.map fun v => v.category).sum ≤ 8) (hls : ql5 ls = true) (hst : st.all qr5 = true) (hE' : ∀ z, (E' h z).1.toList.all qr5 = true) (hE : ∀ z, (E z).1.toList.all qr5 = true) (hd : decode cc pc = .ok (.invokevirtual idx, 3)) (hp : pc + 3 = pc')
    (k : ∀ z', PW UX ROX l R cc nL ret own E pc' ls ((E' h z').1.toList ++ st) (E' h z').2 (kk z')) : PWn UX ROX l R kc ks cc nL ret own E pc ls (as.reverse ++ .ref b :: st) h ((f h).bind kk) := by
  subst hp
  intro z hz p e s m args below meth c D cs ad A H locs cells slots la hC hW hL
  cases hf : f h with
  | none => rw [hf] at hz; cases hz
  | some z' =>
    rw [hf] at hz
    obtain ⟨⟨h1, h2, h3, h4⟩, h5, h6⟩ := hc
    have hts := hC.2.2.2.2.2.1
    have hM := hm D cs ad h z' H.size hf
    have hc1 : cells ≤ R.cells - kc := hW.2.2.2.2.2.2.1
    have hc2 : slots ≤ R.slots - ks := hW.2.2.2.2.2.2.2
    have hW' : qW UX ROX D cs ad A h s H locs R cells slots := ⟨hW.1, hW.2.1, hW.2.2.1, hW.2.2.2.1, hW.2.2.2.2.1, hW.2.2.2.2.2.1, by omega, by omega⟩
    obtain ⟨q, hq1, hq2⟩ : ∃ q : vw_C, vwCl[ci]? = some q ∧ q.1 = y.cls := by
      cases hv : vwCl[ci]? with
      | none => rw [hv] at hci; cases hci
      | some q => rw [hv] at hci; exact ⟨q, rfl, Option.some.inj hci⟩
    have hrecv : ∃ cell : Cell, H[ad b]? = some cell ∧ cell.vm.isStatics = false ∧ s.vm.findClass y.cls = some cell.cls := by
      rw [← hq2]
      exact va_recv hW.2.2.1 hW.1 hq1 (qpic_get hs)
    have hpre : PreV s H y.cls (ad b) (va_Pc ((Value.ref b :: as).map (qv ad)) (qPre UX ROX D cs ad h H.size)) (as.map (qv ad)) := ⟨qPre_blind qRokX, hrecv, fun S hS hw => ⟨rfl, qPre_of qRokX hC.2.2.2.2.2.2.1 hW' S hS hw⟩⟩
    have hstk : (F0 m pc la ((as.reverse ++ .ref b :: st).map (qv ad))).stack = (as.map (qv ad)).reverse ++ .ref (ad b) :: st.map (qv ad) := by
      show (as.reverse ++ .ref b :: st).map (qv ad) = _
      simp [qv]
    have hroom : 2 * (F0 m pc la ((as.reverse ++ .ref b :: st).map (qv ad))).monitorRoom + ((st.map (qv ad)).map fun v => v.category).sum ≤ 8 := by
      show 2 * 0 + _ ≤ 8
      rw [qv_cats]
      omega
    have hfit : cells + kc ≤ R.cells ∧ slots + ks ≤ R.slots := ⟨by omega, by omega⟩
    have hrun : ∃ aa, va_Run p l e R s m args below meth c H locs cells slots kc ks (F0 m pc la ((as.reverse ++ .ref b :: st).map (qv ad))) (st.map (qv ad)) (qQ ((E' h z').1.map (qv ad)) (qBn UX D cs ad (va_A (qpic UX cs ad h) H.size) (E' h z').2) (va_A (qpic UX cs ad h) H.size) aa) (va_A (qpic UX cs ad h) H.size) := by
      rcases h4 with h4 | ⟨host, h4⟩
      · exact ⟨_, va_runV (n := n) ⟨hC.1, hC.2.1, hC.2.2.1, hC.2.2.2.2.1, hts⟩ hM ⟨callB_of n hts (qws_good h1) rfl hrm.1 hrm.2 (hts _ h2) (hts _ h4) h3 hR, hts _ h5, hts _ h6⟩ hpre rfl (by simpa using hn) hL.1 hstk hroom hd hfit⟩
      · exact ⟨_, va_runVN (n := n) ⟨hC.1, hC.2.1, hC.2.2.1, hC.2.2.2.2.1, hts⟩ hM ⟨va_cnB n hts (qws_good h1) rfl hrm.1 hrm.2 (hC.2.2.2.2.2.2.1 _ h4) (hts _ h2) h3 hR, hts _ h5, hts _ h6⟩ hpre rfl (by simpa using hn) hL.1 hstk hroom hd hfit⟩
    obtain ⟨aa, hr⟩ := hrun
    refine q_call hr hW.2.2.2.1 (fun q _ hq => qA_in hW' q hq) (fun q hq => qA_in hW' q hq) fun t H1 locs1 ht hvm hB hz1 hk1 hS1 => ?_
    obtain ⟨ad', hag, b1, b2, b3⟩ := hB
    rw [ht] at b1
    have es : ((E' h z').1.map (qv ad)).toList ++ st.map (qv ad) = ((E' h z').1.toList ++ st).map (qv ad) := by
      cases (E' h z').1 <;> rfl
    rw [es]
    exact n_to (k z') hz hag hls (by rw [List.all_append, Bool.and_eq_true]; exact ⟨hE' z', hst⟩) (hE z) hC ⟨b1, b3.weaken (fun _ q _ h9 => qA_in hW' q.1 h9), hW.2.2.1, hS1, hW.2.2.2.2.1, ROX_ad hag hW.2.2.2.2.2.1, hfit.1, hfit.2⟩ hL
end QT
