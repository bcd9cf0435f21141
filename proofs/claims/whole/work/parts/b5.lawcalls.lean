/-! ===== the law's turns of tape and of least ===== -/
theorem cal_RL_144 : qCalV RL 144 yX8_least cX8_least 2 (some .int) 1 := ⟨⟨qTT_in 1078 (by decide +kernel) rfl, qTT_in 128 (by decide +kernel) rfl, ⟨by decide, by decide, by decide +kernel⟩, Or.inl (qTT_in 1075 (by decide +kernel) rfl)⟩, qTT_in 1076 (by decide +kernel) rfl, qTT_in 1077 (by decide +kernel) rfl⟩
theorem cal_RL_147 : qCalV RL 147 yX9_least cX9_least 2 (some .int) 1 := ⟨⟨qTT_in 1833 (by decide +kernel) rfl, qTT_in 137 (by decide +kernel) rfl, ⟨by decide, by decide, by decide +kernel⟩, Or.inl (qTT_in 1830 (by decide +kernel) rfl)⟩, qTT_in 1831 (by decide +kernel) rfl, qTT_in 1832 (by decide +kernel) rfl⟩
theorem cal_RL_47 : qCalV RL 47 yX9_tape cX9_tape 3 (some .int) 2 := ⟨⟨qTT_in 1785 (by decide +kernel) rfl, qTT_in 137 (by decide +kernel) rfl, ⟨by decide, by decide, by decide +kernel⟩, Or.inl (qTT_in 1782 (by decide +kernel) rfl)⟩, qTT_in 1783 (by decide +kernel) rfl, qTT_in 1784 (by decide +kernel) rfl⟩
theorem cal_RL_48 : qCalV RL 48 yX9_thrown cX9_thrown 1 (some .int) 0 := ⟨⟨qTT_in 1397 (by decide +kernel) rfl, qTT_in 137 (by decide +kernel) rfl, ⟨by decide, by decide, by decide +kernel⟩, Or.inl (qTT_in 1394 (by decide +kernel) rfl)⟩, qTT_in 1395 (by decide +kernel) rfl, qTT_in 1396 (by decide +kernel) rfl⟩
theorem stT : Cond.methodLink RL 42 yL_tape ∈ qTT ∧ Cond.static yL_tape ∈ qTT ∧ Cond.initialized RL ∈ qTT := ⟨qTT_in 1202 (by decide +kernel) rfl, qTT_in 1203 (by decide +kernel) rfl, qTT_in 127 (by decide +kernel) rfl⟩
theorem gT : GoodIn qTT (va_wsS RL 42 yL_tape wsT) := by
  intro w hw
  have hm : w ∈ qTT := by
    simp only [va_wsS, List.mem_append, List.mem_cons, List.not_mem_nil, or_false] at hw
    rcases hw with (rfl | rfl | rfl) | (rfl | hw)
    · exact stT.1
    · exact stT.2.1
    · exact stT.2.2
    · exact cwT
    · exact hw
  exact ⟨hm, good_of_word (List.mem_filter.mp hm).2⟩
section LT
variable {p : Program} {l : Launch} {e : Env} {s : State} {m : MethodId} {below : List Frame} {meth : Method} {c : Code} {b L : Nat} {xs : Nat → Int32} {D : va_G} {cs : Nat → ClassId} {xl : List (Nat × Value)} {i pc pc' : Nat} {st : List Value} {hx hm : qH} {ov : Nat → Int64} {C S B : Nat}
theorem lp_tape {p1 p2 k : Int32} {mc ms : Nat} {ov' : Nat → Int64} (K : LC p l s m meth c b L xs D cs) (hM' : ∀ (ad : Nat → Nat) (o sz : Nat), Met l yL_tape wsT (R_LT mc ms) (va_Pc [.ref (ad 0), .int p1, .int p2, .ref o] (ltPre D cs ad hx o ov sz)) (qQ (some (.int k)) (fun t => va_P D vwCl (ltW cs ad hx o ov') t.heap ∧ va_D (va_A (ltW cs ad hx o ov) sz) (ltW cs ad hx o ov')) (va_A (ltW cs ad hx o ov) sz)) mc ms (va_A (ltW cs ad hx o ov) sz)) (hCS : C + mc ≤ 601024 ∧ S + ms ≤ 7293034) (hd : decode code pc = .ok (.invokestatic 42, 3)) (hp : pc + 3 = pc')
    (kk : LPt p l e s m below meth c b D cs xl i pc' [.int k] hx hm ov' (C + mc) (S + ms)) : LPt p l e s m below meth c b D cs xl i pc [.ref 3, .int p2, .int p1, .ref 1] hx hm ov C S := by
  subst hp
  intro adx adm o H locs cells slots la hW hl hcc hss
  obtain ⟨⟨hPx, hDx⟩, ⟨hPm, hDm⟩, ⟨hPo, hDo⟩, ⟨d1, d2, d3⟩, hS, hRO⟩ := hW
  have hPw : va_P D vwCl (ltW cs adx hx o ov) H := va_P.app hPx hPo
  have hDw : va_D (lA s) (ltW cs adx hx o ov) := va_Dapp hDx hDo d2
  have hA : ∀ q, va_A (ltW cs adx hx o ov) H.size q → lA s q := by
    intro q hq
    rcases hq with ⟨k, x, hk⟩ | hq
    · exact hDw.2 k (q, x) hk
    · exact Nat.le_trans hS.1 hq
  have hts := K.tt
  have hpre : PreS s H (va_Pc [.ref (adx 0), .int p1, .int p2, .ref o] (ltPre D cs adx hx o ov H.size)) [.ref (adx 0), .int p1, .int p2, .ref o] := by
    refine ⟨fun a S g mk hp => ?_, fun S hSh hw => ⟨rfl, by rw [hSh], by rw [hSh]; exact hPw, va_K.moved hw.alike K.2.2.2.1, hDw.weaken (fun _ _ _ _ => trivial), qNT_warm hw K.2.2.1, qRokX.1 adx (lA s) _ S hA (qRokX.2 adx (lA s) s S (fun q h1 h2 => by rw [hSh]; exact hS.2.1 q h1 h2) hw hRO), K.2.2.2.2.2.2.2.mv hA (fun q h1 h2 => by rw [hSh]; exact hS.2.1 q h1 h2) hw⟩⟩
    obtain ⟨q0, q1, q2, q3, q4, q5, q6, q7⟩ := hp
    exact ⟨q0, q1, q2, va_K.moved (u := S) (U := S.calling g mk a) (Vm.Alike.refl S.vm) q3, q4, qNT_same (s := S) (U := S.calling g mk a) rfl q5, qRokX.2 adx _ S (S.calling g mk a) (fun _ _ _ => rfl) (State.WarmedH.refl S) q6, q7.mv (fun _ z => z) (fun _ _ _ => rfl) (State.WarmedH.refl S)⟩
  have hr := vx_runSW (n := 4) (As := [.ref (adx 0), .int p1, .int p2, .ref o]) (rest := []) (e := e) (below := below) (meth := meth) (H := H) (locs := locs) (cells := cells) (slots := slots) (g := F0 m pc la [.ref o, .int p2, .int p1, .ref (adx 0)]) ⟨K.1.1, K.1.2.1, K.1.2.2.1, K.1.2.2.2, hts⟩ (hM' adx o H.size) (vx_cwSW (R := room_1) 4 hts gT rfl rfl rfl (by decide +kernel) ⟨Nat.le_of_ble_eq_true rfl, Nat.le_of_ble_eq_true rfl⟩) hpre rfl rfl hl.1 rfl (Nat.le_of_ble_eq_true rfl) hd ⟨Nat.le_trans (Nat.add_le_add_right hcc mc) hCS.1, Nat.le_trans (Nat.add_le_add_right hss ms) hCS.2⟩
  refine q_call hr hS (fun q _ hq => hA q hq) hA fun t H1 locs1 ht hvm hB hz1 hk1 hS1 => ?_
  obtain ⟨b1, b3⟩ := hB
  rw [ht] at b1
  have hdm : dis (ltW cs adx hx o ov) (qpic UM cs adm hm) := by
    intro i j p q hi hj e
    have hi : (qpic UX cs adx hx ++ lO cs o ov)[i]? = some p := hi
    rcases Nat.lt_or_ge i (qpic UX cs adx hx).length with h | h
    · rw [List.getElem?_append_left h] at hi
      exact d1 _ _ p q hi hj e
    · rw [List.getElem?_append_right h] at hi
      exact d3 _ _ q p hj hi e.symm
  have hdm' := fr_dis hPm hdm b3
  exact kk adx adm o H1 locs1 (cells + mc) (slots + ms) la ⟨⟨va_Pl b1, va_Dl (b3.weaken (fun _ q _ h9 => hA q.1 h9))⟩, ⟨fr_P hPm hdm hk1, hDm⟩, ⟨va_Pr b1, va_Dr (b3.weaken (fun _ q _ h9 => hA q.1 h9))⟩, ⟨fun i j p q hi hj e => hdm' i j p q (by show (qpic UX cs adx hx ++ lO cs o ov')[i]? = _; rw [List.getElem?_append_left (List.getElem?_eq_some_iff.mp hi).1]; exact hi) hj e, va_Dd b3, fun i j p q hi hj e => hdm' ((qpic UX cs adx hx).length + j) i q p (by show (qpic UX cs adx hx ++ lO cs o ov')[_]? = _; rw [List.getElem?_append_right (Nat.le_add_right _ _), Nat.add_sub_cancel_left]; exact hj) hi e.symm⟩, hS1, hRO⟩ hl (Nat.add_le_add_right hcc mc) (Nat.add_le_add_right hss ms)
theorem lp_is5 (K : LC p l s m meth c b L xs D cs) {v : Int32} (hd : decode code pc = .ok (.istore 5, 2)) (hp : pc + 2 = pc') (kk : LPt p l e s m below meth c b D cs [(5, .int v)] i pc' st hx hm ov C S) : LPt p l e s m below meth c b D cs [] i pc (.int v :: st) hx hm ov C S := by
  subst hp
  intro adx adm o H locs cells slots la hW hl hc hs
  have hl : lv_has la 7 [(0, .ref b), (1, .ref (adx 0)), (2, .ref (adm 0)), (3, .ref o), (4, .int (nI i))] := hl
  refine lv_istore (lv' := [(5, .int v), (0, .ref b), (1, .ref (adx 0)), (2, .ref (adm 0)), (3, .ref o), (4, .int (nI i))]) K.1.1 K.1.2.1 hd hl (by decide) rfl (fun la2 hl2 => kk adx adm o H locs cells slots la2 hW ⟨hl2.1, hl2.2.1, fun q hq => hl2.2.2 q ?_⟩ hc hs)
  simp only [List.cons_append, List.nil_append, List.mem_cons, List.not_mem_nil, or_false] at hq ⊢
  rcases hq with h | h | h | h | h | h <;> simp [h]
theorem lp_is6 (K : LC p l s m meth c b L xs D cs) {v k : Int32} (hd : decode code pc = .ok (.istore 6, 2)) (hp : pc + 2 = pc') (kk : LPt p l e s m below meth c b D cs [(5, .int k), (6, .int v)] i pc' st hx hm ov C S) : LPt p l e s m below meth c b D cs [(5, .int k)] i pc (.int v :: st) hx hm ov C S := by
  subst hp
  intro adx adm o H locs cells slots la hW hl hc hs
  have hl : lv_has la 7 [(0, .ref b), (1, .ref (adx 0)), (2, .ref (adm 0)), (3, .ref o), (4, .int (nI i)), (5, .int k)] := hl
  refine lv_istore (lv' := [(6, .int v), (0, .ref b), (1, .ref (adx 0)), (2, .ref (adm 0)), (3, .ref o), (4, .int (nI i)), (5, .int k)]) K.1.1 K.1.2.1 hd hl (by decide) rfl (fun la2 hl2 => kk adx adm o H locs cells slots la2 hW ⟨hl2.1, hl2.2.1, fun q hq => hl2.2.2 q ?_⟩ hc hs)
  simp only [List.cons_append, List.nil_append, List.mem_cons, List.not_mem_nil, or_false] at hq ⊢
  rcases hq with h | h | h | h | h | h | h <;> simp [h]
theorem lp_il {j : Nat} {v : Int32} (K : LC p l s m meth c b L xs D cs) (hj : (j, .int v) ∈ xl) (hd : decode code pc = .ok (.iload j, 2)) (hp : pc + 2 = pc') (kk : LPt p l e s m below meth c b D cs xl i pc' (.int v :: st) hx hm ov C S) : LPt p l e s m below meth c b D cs xl i pc st hx hm ov C S := by
  subst hp
  intro adx adm o H locs cells slots la hW hl hc hs
  exact lv_iload K.1.1 K.1.2.1 hd (hl.2.2 (j, .int v) (List.mem_append_right _ hj)) (kk adx adm o H locs cells slots la hW hl hc hs)
theorem lp_ne_t (K : LC p l s m meth c b L xs D cs) {v : Int32} {off : Int} {tgt : Nat} (hv : ¬ v = 0) (hd : decode code pc = .ok (.ifCond .ne off, 3)) (ht : (pc : Int) + off = (tgt : Int)) (kk : LPt p l e s m below meth c b D cs xl i tgt st hx hm ov C S) : LPt p l e s m below meth c b D cs xl i pc (.int v :: st) hx hm ov C S :=
  lp_go kk fun H locs cells slots Q la ad w => lv_if_ne K.1.1 K.1.2.1 hd ht (fun _ => w) (fun z => absurd z hv)
theorem lp_ne_f (K : LC p l s m meth c b L xs D cs) {off : Int} {tgt : Nat} (hd : decode code pc = .ok (.ifCond .ne off, 3)) (ht : (pc : Int) + off = (tgt : Int)) (hp : pc + 3 = pc') (kk : LPt p l e s m below meth c b D cs xl i pc' st hx hm ov C S) : LPt p l e s m below meth c b D cs xl i pc (.int 0 :: st) hx hm ov C S := by
  subst hp
  exact lp_go kk fun H locs cells slots Q la ad w => lv_if_ne K.1.1 K.1.2.1 hd ht (fun z => absurd rfl z) (fun _ => w)
theorem lp_eq0 (K : LC p l s m meth c b L xs D cs) {off : Int} {tgt : Nat} (hd : decode code pc = .ok (.ifCond .eq off, 3)) (ht : (pc : Int) + off = (tgt : Int)) (kk : LPt p l e s m below meth c b D cs xl i tgt st hx hm ov C S) : LPt p l e s m below meth c b D cs xl i pc (.int 0 :: st) hx hm ov C S :=
  lp_go kk fun H locs cells slots Q la ad w => lv_if_eq K.1.1 K.1.2.1 hd ht (fun _ => w) (fun z => absurd rfl z)
theorem lp_gt (K : LC p l s m meth c b L xs D cs) {off : Int} {tgt : Nat} (hd : decode code pc = .ok (.goto off, 3)) (ht : (pc : Int) + off = (tgt : Int)) (kk : LPt p l e s m below meth c b D cs xl i tgt st hx hm ov C S) : LPt p l e s m below meth c b D cs xl i pc st hx hm ov C S :=
  lp_go kk fun H locs cells slots Q la ad w => lv_goto K.1.1 K.1.2.1 hd ht w
theorem lp_ic (K : LC p l s m meth c b L xs D cs) {n : Int} {v : Int32} (hv : Int32.ofInt n = v) (hd : decode code pc = .ok (.iconst n, 1)) (hp : pc + 1 = pc') (kk : LPt p l e s m below meth c b D cs xl i pc' (.int v :: st) hx hm ov C S) : LPt p l e s m below meth c b D cs xl i pc st hx hm ov C S := by
  subst hp
  exact lp_go kk fun H locs cells slots Q la ad w => lv_iconst K.1.1 K.1.2.1 hd hv w
theorem lp_lald (K : LC p l s m meth c b L xs D cs) (hd : decode code pc = .ok (.laload, 1)) (hp : pc + 1 = pc') (kk : LPt p l e s m below meth c b D cs xl i pc' (.long (ov 0) :: st) hx hm ov C S) : LPt p l e s m below meth c b D cs xl i pc (.int 0 :: .ref 3 :: st) hx hm ov C S := by
  subst hp
  intro adx adm o H locs cells slots la hW hl hc hs
  exact va_lald K.1.1 K.1.2.1 K.2.2.2.1 hW.2.2.1.1 0 3 (a := o) (f := ov) rfl rfl (i := 0) (by intro z; rcases z with z | z; exact absurd z (by decide); exact absurd z (by decide)) hd (kk adx adm o H locs cells slots la hW hl hc hs)
theorem lp_lcmp (K : LC p l s m meth c b L xs D cs) {x : Int64} (hd : decode code pc = .ok (.lcmp, 1)) (hp : pc + 1 = pc') (kk : LPt p l e s m below meth c b D cs xl i pc' (.int 0 :: st) hx hm ov C S) : LPt p l e s m below meth c b D cs xl i pc (.long x :: .long x :: st) hx hm ov C S := by
  subst hp
  refine lp_go kk fun H locs cells slots Q la ad w => W.lcmp K.1.1 K.1.2.1 hd ?_
  rw [show lg_cmp x x = 0 by simp [lg_cmp]]
  exact w
theorem lc_5 (K : LC p l s m meth c b L xs D cs) (hi : i + 6 ≤ L) (hCS : C + 1 ≤ 601024 ∧ S + 6 ≤ 7293034) (h : WW B hx hm) (kk : ∀ hm' ov', WW (B + 40) hx hm' → LPt p l e s m below meth c b D cs [] i 1522 [] hx hm' ov' (C + 1) (S + 6)) : LPt p l e s m below meth c b D cs [] i 401 [] hx hm ov C S := by
  refine lp_al1 K dL_law_401 rfl ?_
  refine lp_scr K hi (j := 1) (by decide) (by decide) dL_law_402 rfl dL_law_403 rfl dL_law_405 rfl dL_law_406 rfl dL_law_407 rfl ?_
  refine lp_scr K hi (j := 2) (by decide) (by decide) dL_law_408 rfl dL_law_409 rfl dL_law_411 rfl dL_law_412 rfl dL_law_413 rfl ?_
  refine lp_al3 K dL_law_414 rfl ?_
  have tail : ∀ (k v : Int32) (hm' : qH) (ov' : Nat → Int64) (C' S' : Nat), C' ≤ 601024 ∧ S' ≤ 7293034 → f9_tape (xs (i + 1)) (xs (i + 2)) hm = some (v, hm') → hm'.1 0 0 = k → (¬ k = 0 ∨ (k = 0 ∧ ov' 0 = v.toInt64)) → LPt p l e s m below meth c b D cs [] i 1522 [] hx hm' ov' C' S' → LPt p l e s m below meth c b D cs [] i 418 [.int k] hx hm ov' C' S' := by
    intro k v hm' ov' C' S' hCS' e2 hk hko kk'
    refine lp_is5 K dL_law_418 rfl ?_
    refine lp_al2 K dL_law_420 rfl ?_
    refine lp_scr K hi (j := 1) (by decide) (by decide) dL_law_421 rfl dL_law_422 rfl dL_law_424 rfl dL_law_425 rfl dL_law_426 rfl ?_
    refine lp_scr K hi (j := 2) (by decide) (by decide) dL_law_427 rfl dL_law_428 rfl dL_law_430 rfl dL_law_431 rfl dL_law_432 rfl ?_
    refine lp_callM (st := []) [.int (xs (i + 1)), .int (xs (i + 2))] K (fun _ => rfl) (m9_tape l (xs (i + 1)) (xs (i + 2))) e2 rfl cal_RL_47 rfl rfl ⟨rfl, rfl⟩ ⟨Nat.le_of_ble_eq_true rfl, Nat.le_of_ble_eq_true rfl⟩ (Nat.le_of_ble_eq_true rfl) hCS' dL_law_433 rfl ?_
    refine lp_is6 K dL_law_436 rfl ?_
    refine lp_al2 K dL_law_438 rfl ?_
    refine lp_callM (st := []) [] K (fun _ => rfl) (m9_thrown l) (z := hm'.1 0 0) rfl rfl cal_RL_48 rfl rfl ⟨rfl, rfl⟩ ⟨Nat.le_of_ble_eq_true rfl, Nat.le_of_ble_eq_true rfl⟩ (Nat.le_of_ble_eq_true rfl) hCS' dL_law_439 rfl ?_
    refine lp_il (j := 5) (v := k) K (by simp) dL_law_442 rfl ?_
    rw [hk]
    refine lp_eq (tgt := 449) K dL_law_444 (by decide) ?_
    refine lp_il (j := 5) (v := k) K (by simp) dL_law_449 rfl ?_
    rcases hko with hko | ⟨hko, ho⟩
    · refine lp_ne_t (tgt := 466) K hko dL_law_451 (by decide) ?_
      exact lp_gt (tgt := 1522) K dL_law_466 (by decide) (lp_drop kk')
    · subst hko
      refine lp_ne_f (tgt := 466) K dL_law_451 (by decide) rfl ?_
      refine lp_al3 K dL_law_454 rfl (lp_ic (v := 0) K (by decide) dL_law_455 rfl (lp_lald K dL_law_456 rfl ?_))
      refine lp_il (j := 6) (v := v) K (by simp) dL_law_457 rfl (lp_i2l K dL_law_459 rfl ?_)
      rw [ho]
      refine lp_lcmp K dL_law_460 rfl (lp_eq0 (tgt := 466) K dL_law_461 (by decide) ?_)
      exact lp_gt (tgt := 1522) K dL_law_466 (by decide) (lp_drop kk')
  rcases h.tape (xs (i + 1)) (xs (i + 2)) with ⟨v, hm', e1, e2, e0, w⟩ | ⟨hno, hm', e2, e0, w⟩
  · refine lp_tape (k := 0) (mc := 0) (ms := 0) K (fun ad o sz => mL_tapeA l (xs (i + 1)) (xs (i + 2)) v D cs ad hx o ov sz e1) ⟨by omega, by omega⟩ dL_law_415 rfl ?_
    refine tail 0 v hm' _ C S ⟨by omega, by omega⟩ e2 e0 (Or.inr ⟨rfl, rfl⟩) ?_
    exact fun adx adm o H locs cells slots la hW hl hc hs => kk hm' _ (w.mono (by omega)) adx adm o H locs cells slots la hW hl (by omega) (by omega)
  · refine lp_tape (k := 1) (mc := 1) (ms := 6) K (fun ad o sz => mL_tapeB l K.2.2.2.2.2.2.1 (xs (i + 1)) (xs (i + 2)) D cs ad hx o ov sz hno) hCS dL_law_415 rfl ?_
    exact tail 1 0 hm' _ (C + 1) (S + 6) hCS e2 e0 (Or.inl q1f) (kk hm' _ (w.mono (by omega)))
/-- a call that may make the table anew -/
theorem lp_callN {ρ' : Type} {N : Nat} {f : qH → Option ρ'} {E' : qH → ρ' → Option Value × qH} {z : ρ'} {y : MethodName} {cy : ByteArray} {nLy n idx : Nat} {ry : Option FieldType} {rm : Room} {v : Int32} {hx' : qH} (as : List Value) (K : LC p l s m meth c b L xs D cs) (has : ∀ ad, as.map (qv ad) = as) (hm' : qMetN l y (qws y cy nLy ry) rm (.ref 0 :: as) f E' 1 N) (hz : f hx = some z) (hE : E' hx z = (some (.int v), hx')) (hc : qCalV RL idx y cy nLy ry n) (hcl : RX8 = y.cls) (hn : as.length = n) (hrm : rm.cells = 1 ∧ rm.slots = N) (hR : rm.frames + 1 ≤ room_1.frames ∧ 8 + (nLy + 11) + rm.locals ≤ room_1.locals) (hcat : (st.map fun v => v.category).sum ≤ 8) (hCS : C + 1 ≤ 601024 ∧ S + N ≤ 7293034) (hd : decode code pc = .ok (.invokevirtual idx, 3)) (hp : pc + 3 = pc')
    (kk : LPt p l e s m below meth c b D cs xl i pc' (.int v :: st) hx' hm ov (C + 1) (S + N)) : LPt p l e s m below meth c b D cs xl i pc (as.reverse ++ .ref 1 :: st) hx hm ov C S := by
  subst hp
  intro adx adm o H locs cells slots la hW hl hcc hss
  obtain ⟨⟨hPx, hDx⟩, ⟨hPm, hDm⟩, ⟨hPo, hDo⟩, ⟨d1, d2, d3⟩, hS, hRO⟩ := hW
  obtain ⟨hA, hpre⟩ := lw_pre qRokX K hPx hDx hS hRO
  obtain ⟨⟨h1, h2, h3, h4⟩, h5, h6⟩ := hc
  have hts := K.tt
  have hM := hm' D cs adx hx z H.size hz
  have hrecv : ∃ cell : Cell, H[adx 0]? = some cell ∧ cell.vm.isStatics = false ∧ s.vm.findClass y.cls = some cell.cls := by
    rw [← hcl]
    exact va_recv (q := (RX8, TX8, 20)) K.2.2.2.1 hPx rfl (qpic_get uX_0)
  have hpv : PreV s H y.cls (adx 0) (va_Pc ((Value.ref 0 :: as).map (qv adx)) (qPre UX ROX D cs adx hx H.size)) as := ⟨qPre_blind qRokX, hrecv, fun S hSh hw => ⟨by rw [List.map_cons, has]; rfl, hpre S hSh hw⟩⟩
  have hstk : (F0 m pc la ((as.reverse ++ .ref 1 :: st).map (qv (vl b (adx 0) (adm 0) o)))).stack = as.reverse ++ .ref (adx 0) :: st.map (qv (vl b (adx 0) (adm 0) o)) := by
    show (as.reverse ++ .ref 1 :: st).map (qv (vl b (adx 0) (adm 0) o)) = _
    rw [List.map_append, List.map_reverse, has]
    rfl
  have hroom : 2 * (F0 m pc la ((as.reverse ++ .ref 1 :: st).map (qv (vl b (adx 0) (adm 0) o)))).monitorRoom + ((st.map (qv (vl b (adx 0) (adm 0) o))).map fun v => v.category).sum ≤ 8 := by
    show 2 * 0 + _ ≤ 8
    rw [qv_cats]
    omega
  have hfit : cells + 1 ≤ room_1.cells ∧ slots + N ≤ room_1.slots := ⟨Nat.le_trans (Nat.add_le_add_right hcc 1) hCS.1, Nat.le_trans (Nat.add_le_add_right hss N) hCS.2⟩
  have hrun : ∃ aa, va_Run p l e room_1 s m #[Value.ref b] below meth c H locs cells slots 1 N (F0 m pc la ((as.reverse ++ .ref 1 :: st).map (qv (vl b (adx 0) (adm 0) o)))) (st.map (qv (vl b (adx 0) (adm 0) o))) (qQ ((E' hx z).1.map (qv adx)) (qBn UX D cs adx (va_A (qpic UX cs adx hx) H.size) (E' hx z).2) (va_A (qpic UX cs adx hx) H.size) aa) (va_A (qpic UX cs adx hx) H.size) := by
    rcases h4 with h4 | ⟨host, h4⟩
    · exact ⟨_, va_runV (n := n) ⟨K.1.1, K.1.2.1, K.1.2.2.1, K.1.2.2.2, hts⟩ hM ⟨callB_of n hts (qws_good h1) rfl hrm.1 hrm.2 (hts _ h2) (hts _ h4) h3 hR, hts _ h5, hts _ h6⟩ hpv rfl hn hl.1 hstk hroom hd hfit⟩
    · exact ⟨_, va_runVN (n := n) ⟨K.1.1, K.1.2.1, K.1.2.2.1, K.1.2.2.2, hts⟩ hM ⟨va_cnB n hts (qws_good h1) rfl hrm.1 hrm.2 (K.2.2.1 _ h4) (hts _ h2) h3 hR, hts _ h5, hts _ h6⟩ hpv rfl hn hl.1 hstk hroom hd hfit⟩
  obtain ⟨aa, hr⟩ := hrun
  rw [hE] at hr
  refine q_call hr hS (fun q _ hq => hA q hq) hA fun t H1 locs1 ht hvm hB hz1 hk1 hS1 => ?_
  obtain ⟨ad', hag, b1, -, b3⟩ := hB
  rw [ht] at b1
  have e0 : ad' 0 = adx 0 := hag 0 (by decide)
  have w := kk ad' adm o H1 locs1 (cells + 1) (slots + N) la ⟨⟨b1, b3.weaken (fun _ q _ h9 => hA q.1 h9)⟩, ⟨fr_P hPm d1 hk1, hDm⟩, ⟨fr_P hPo d2 hk1, hDo⟩, ⟨fr_dis hPm d1 b3, fr_dis hPo d2 b3, d3⟩, hS1, ROX_ad hag hRO⟩ (by rw [e0]; exact hl) (Nat.add_le_add_right hcc 1) (Nat.add_le_add_right hss N)
  rw [e0] at w
  exact w
theorem lc_28 (K : LC p l s m meth c b L xs D cs) (hi : i + 6 ≤ L) (h : WW B hx hm) (tl : TL (ix (hx.1 100 0))) {C0 S0 : Nat} (hCS : C0 + 1 ≤ 601024 ∧ S0 + 2 * 49152 ≤ 7293034) (kk : ∀ hx' hm' S', WW (B + 40) hx' hm' → TL (ix (hx'.1 100 0)) → S' ≤ S0 + 2 * ix (hx'.1 100 0) → LPt p l e s m below meth c b D cs xl i 1522 [] hx' hm' ov (C0 + 1) S') : LPt p l e s m below meth c b D cs xl i 1123 [] hx hm ov C0 (S0 + 2 * ix (hx.1 100 0)) := by
  refine lp_al1 K dL_law_1123 rfl ?_
  refine lp_scr K hi (j := 1) (by decide) (by decide) dL_law_1124 rfl dL_law_1125 rfl dL_law_1127 rfl dL_law_1128 rfl dL_law_1129 rfl ?_
  have hle := tl.le
  have tail : ∀ (v : Int32) (hx' hm' : qH) (C' S' : Nat), C' ≤ 601024 ∧ S' ≤ 7293034 → f9_least (xs (i + 1)) hm = some (v, hm') → LPt p l e s m below meth c b D cs xl i 1522 [] hx' hm' ov C' S' → LPt p l e s m below meth c b D cs xl i 1133 [.int v] hx' hm ov C' S' := by
    intro v hx' hm' C' S' hCS' e2 kk'
    refine lp_al2 K dL_law_1133 rfl ?_
    refine lp_scr K hi (j := 1) (by decide) (by decide) dL_law_1134 rfl dL_law_1135 rfl dL_law_1137 rfl dL_law_1138 rfl dL_law_1139 rfl ?_
    refine lp_callM (st := [.int v]) [.int (xs (i + 1))] K (fun _ => rfl) (m9_least l (xs (i + 1))) e2 rfl cal_RL_147 rfl rfl ⟨rfl, rfl⟩ ⟨Nat.le_of_ble_eq_true rfl, Nat.le_of_ble_eq_true rfl⟩ (Nat.le_of_ble_eq_true rfl) hCS' dL_law_1140 rfl ?_
    exact lp_eq K dL_law_1143 (by decide) kk'
  rcases h.least (xs (i + 1)) tl with ⟨v, hx', hm', e1, e2, w⟩ | ⟨N, tN, h2, v, hx', hm', e1, e2, w, eN⟩
  · refine lp_callX (st := []) [.int (xs (i + 1))] K (fun _ => rfl) (m8_least l (xs (i + 1))) e1 rfl cal_RL_144 rfl rfl ⟨rfl, rfl⟩ ⟨Nat.le_of_ble_eq_true rfl, Nat.le_of_ble_eq_true rfl⟩ (Nat.le_of_ble_eq_true rfl) ⟨by omega, by omega⟩ dL_law_1130 rfl (fun h100 => ?_)
    refine tail v hx' hm' _ _ ⟨by omega, by omega⟩ e2 ?_
    intro adx adm o H locs cells slots la hW hl hc hs
    exact kk hx' hm' _ (w.mono (by omega)) (by rw [h100]; exact tl) (by rw [h100]; exact Nat.le_refl _) adx adm o H locs cells slots la hW hl (by omega) hs
  · have hN := tN.le
    refine lp_callN (st := []) (N := N) [.int (xs (i + 1))] K (fun _ => rfl) (m8_lsn l N hN (xs (i + 1))) e1 rfl cal_RL_144 rfl rfl ⟨rfl, rfl⟩ ⟨Nat.le_of_ble_eq_true rfl, Nat.le_of_ble_eq_true rfl⟩ (Nat.le_of_ble_eq_true rfl) ⟨by omega, by omega⟩ dL_law_1130 rfl ?_
    refine tail v hx' hm' _ _ ⟨by omega, by omega⟩ e2 ?_
    exact kk hx' hm' _ (w.mono (by omega)) (by rw [eN]; exact tN) (by rw [eN]; omega)
end LT
