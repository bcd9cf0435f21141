/-! ===== what the statement gives of the start ===== -/
theorem ins0 : Cond.instantiable RX0 2 ∈ qTT := qTT_in 159 (by decide +kernel) rfl
theorem ins1 : Cond.instantiable RX1 2 ∈ qTT := qTT_in 416 (by decide +kernel) rfl
theorem ins2 : Cond.instantiable RX2 10 ∈ qTT := qTT_in 279 (by decide +kernel) rfl
theorem ins3 : Cond.instantiable RX3 3 ∈ qTT := qTT_in 399 (by decide +kernel) rfl
theorem ins4 : Cond.instantiable RX4 10 ∈ qTT := qTT_in 201 (by decide +kernel) rfl
theorem ins5 : Cond.instantiable RX5 6 ∈ qTT := qTT_in 175 (by decide +kernel) rfl
theorem ins6 : Cond.instantiable RX6 4 ∈ qTT := qTT_in 255 (by decide +kernel) rfl
theorem ins7 : Cond.instantiable RX7 18 ∈ qTT := qTT_in 317 (by decide +kernel) rfl
theorem ins8 : Cond.instantiable RX8 20 ∈ qTT := qTT_in 151 (by decide +kernel) rfl
theorem ins9 : Cond.instantiable RX9 35 ∈ qTT := qTT_in 1282 (by decide +kernel) rfl
theorem arrJ : Cond.arrayClass .long ∈ qTT := qTT_in 1950 (by decide +kernel) rfl
theorem ovS : Cond.arrayOver (.object "SpoolHall$Script") ∈ lw_tbl := List.mem_of_getElem? (i := 254) (by decide +kernel)
theorem caN : Cond.castable "java/util/NoSuchElementException" "java/util/NoSuchElementException" ∈ lw_tbl := List.mem_of_getElem? (i := 1212) (by decide +kernel)
theorem ly_ITEM_LOWS : Cond.laysStatic "SpoolHall" "ITEM_LOWS" "[I" ∈ lw_tbl := List.mem_of_getElem? (i := 640) (by decide +kernel)
theorem ly_ITEM_HIGHS : Cond.laysStatic "SpoolHall" "ITEM_HIGHS" "[I" ∈ lw_tbl := List.mem_of_getElem? (i := 642) (by decide +kernel)
theorem ly_ITEM_DEFAULTS : Cond.laysStatic "SpoolHall" "ITEM_DEFAULTS" "[I" ∈ lw_tbl := List.mem_of_getElem? (i := 517) (by decide +kernel)
theorem ly_CLAUSE_ITEMS : Cond.laysStatic "SpoolHall" "CLAUSE_ITEMS" "[I" ∈ lw_tbl := List.mem_of_getElem? (i := 632) (by decide +kernel)
theorem ly_STEP_FORMS : Cond.laysStatic "SpoolHall" "STEP_FORMS" "[I" ∈ lw_tbl := List.mem_of_getElem? (i := 673) (by decide +kernel)
theorem ly_CS : Cond.laysStatic "java/lang/String" "COMPACT_STRINGS" "Z" ∈ lw_tbl := List.mem_of_getElem? (i := 554) (by decide +kernel)
theorem ly_US : Cond.laysStatic Bundle.tN "UNASSIGNED_STACK" Bundle.steD ∈ lw_tbl := List.mem_of_getElem? (i := 1237) (by decide +kernel)
theorem ly_SS : Cond.laysStatic Bundle.tN "SUPPRESSED_SENTINEL" Bundle.listD ∈ lw_tbl := List.mem_of_getElem? (i := 1239) (by decide +kernel)
theorem in_SH : Cond.initialized "SpoolHall" ∈ lw_tbl := List.mem_of_getElem? (i := 128) (by decide +kernel)
theorem in_Str : Cond.initialized "java/lang/String" ∈ lw_tbl := List.mem_of_getElem? (i := 139) (by decide +kernel)
theorem in_Thr : Cond.initialized Bundle.tN ∈ lw_tbl := List.mem_of_getElem? (i := 145) (by decide +kernel)
theorem sr_55 : Cond.stringRef "SpoolHall$Reader" 55 "stf" ∈ lw_tbl := List.mem_of_getElem? (i := 529) (by decide +kernel)
theorem sr_93 : Cond.stringRef "SpoolHall$Reader" 93 "ndlwmagikutb" ∈ lw_tbl := List.mem_of_getElem? (i := 638) (by decide +kernel)
theorem sr_116 : Cond.stringRef "SpoolHall$Reader" 116 "aswdmuclrpx" ∈ lw_tbl := List.mem_of_getElem? (i := 671) (by decide +kernel)
theorem sr_163 : Cond.stringRef "SpoolHall" 163 "no such tape, or nothing such of it" ∈ lw_tbl := List.mem_of_getElem? (i := 1249) (by decide +kernel)
theorem deN : ∀ x ∈ nseDecl, Cond.declares x ∈ lw_tbl := by
  intro x hx
  simp only [nseDecl, List.mem_cons, List.not_mem_nil, or_false] at hx
  rcases hx with rfl | rfl | rfl
  · exact List.mem_of_getElem? (i := 1214) (by decide +kernel)
  · exact List.mem_of_getElem? (i := 1216) (by decide +kernel)
  · exact List.mem_of_getElem? (i := 1218) (by decide +kernel)
abbrev gvL : List Cond := flatC (Jvm.Cond.and given_1 narrow_1)
theorem gv_ITEM_LOWS : (decide (Cond.arrayOf (.static "SpoolHall" "ITEM_LOWS" "[I") .int ∈ gvL) && decide (Cond.eq (.length (.static "SpoolHall" "ITEM_LOWS" "[I")) (.int (Int32.ofNat 12)) ∈ gvL) && (List.range 12).all (fun j => decide (Cond.eq (.elem (.static "SpoolHall" "ITEM_LOWS" "[I") (.int (Int32.ofNat j))) (.int (((stL[0]?).getD ("", [])).2.getD j 0)) ∈ gvL))) = true := by decide +kernel
theorem gv_ITEM_HIGHS : (decide (Cond.arrayOf (.static "SpoolHall" "ITEM_HIGHS" "[I") .int ∈ gvL) && decide (Cond.eq (.length (.static "SpoolHall" "ITEM_HIGHS" "[I")) (.int (Int32.ofNat 12)) ∈ gvL) && (List.range 12).all (fun j => decide (Cond.eq (.elem (.static "SpoolHall" "ITEM_HIGHS" "[I") (.int (Int32.ofNat j))) (.int (((stL[1]?).getD ("", [])).2.getD j 0)) ∈ gvL))) = true := by decide +kernel
theorem gv_ITEM_DEFAULTS : (decide (Cond.arrayOf (.static "SpoolHall" "ITEM_DEFAULTS" "[I") .int ∈ gvL) && decide (Cond.eq (.length (.static "SpoolHall" "ITEM_DEFAULTS" "[I")) (.int (Int32.ofNat 12)) ∈ gvL) && (List.range 12).all (fun j => decide (Cond.eq (.elem (.static "SpoolHall" "ITEM_DEFAULTS" "[I") (.int (Int32.ofNat j))) (.int (((stL[2]?).getD ("", [])).2.getD j 0)) ∈ gvL))) = true := by decide +kernel
theorem gv_CLAUSE_ITEMS : (decide (Cond.arrayOf (.static "SpoolHall" "CLAUSE_ITEMS" "[I") .int ∈ gvL) && decide (Cond.eq (.length (.static "SpoolHall" "CLAUSE_ITEMS" "[I")) (.int (Int32.ofNat 4)) ∈ gvL) && (List.range 4).all (fun j => decide (Cond.eq (.elem (.static "SpoolHall" "CLAUSE_ITEMS" "[I") (.int (Int32.ofNat j))) (.int (((stL[3]?).getD ("", [])).2.getD j 0)) ∈ gvL))) = true := by decide +kernel
theorem gv_STEP_FORMS : (decide (Cond.arrayOf (.static "SpoolHall" "STEP_FORMS" "[I") .int ∈ gvL) && decide (Cond.eq (.length (.static "SpoolHall" "STEP_FORMS" "[I")) (.int (Int32.ofNat 11)) ∈ gvL) && (List.range 11).all (fun j => decide (Cond.eq (.elem (.static "SpoolHall" "STEP_FORMS" "[I") (.int (Int32.ofNat j))) (.int (((stL[4]?).getD ("", [])).2.getD j 0)) ∈ gvL))) = true := by decide +kernel
def kTm (i : Nat) : Term := .string "SpoolHall$Reader" ([55, 93, 116].getD i 0)
theorem gv_str : (List.range 3).all (fun i => decide (Cond.exactly (kTm i) "java/lang/String" ∈ gvL) && decide (Cond.eq (.field (kTm i) "java/lang/String" "coder" "B") (.int 0) ∈ gvL) && decide (Cond.arrayOf (.field (kTm i) "java/lang/String" "value" "[B") .byte ∈ gvL) && decide (Cond.eq (.length (.field (kTm i) "java/lang/String" "value" "[B")) (.int (Int32.ofNat (([3, 12, 11] : List Nat).getD i 0))) ∈ gvL) && (List.range (([3, 12, 11] : List Nat).getD i 0)).all (fun j => decide (Cond.eq (.elem (.field (kTm i) "java/lang/String" "value" "[B") (.int (Int32.ofNat j))) (.int ((skB.getD i []).getD j 0)) ∈ gvL)) && (List.range 3).all (fun j => decide (i = j) || decide (Cond.not (Cond.eq (kTm i) (kTm j)) ∈ gvL) || decide (Cond.not (Cond.eq (kTm j) (kTm i)) ∈ gvL))) = true := by decide +kernel
theorem gv_x : (decide (Cond.eq (.static "java/lang/String" "COMPACT_STRINGS" "Z") (.int 1) ∈ gvL) && decide (Cond.isRef (.static Bundle.tN "UNASSIGNED_STACK" Bundle.steD) ∈ gvL) && decide (Cond.isRef (.static Bundle.tN "SUPPRESSED_SENTINEL" Bundle.listD) ∈ gvL) && decide (Cond.exactly (.string "SpoolHall" 163) "java/lang/String" ∈ gvL)) = true := by decide +kernel
section LI
variable {p : Program} {l : Launch} {s : State} {m : MethodId} {meth : Method} {c : Code} {b L : Nat} {xs : Nat → Int32}
theorem gv_tab {n : String} {N : Nat} {ys : List Int32} (hN : N < 2 ^ 31) (hly : Cond.laysStatic "SpoolHall" n "[I" ∈ lw_tbl) (hts : ∀ w ∈ lw_tbl, w.before #[Value.ref b] s = true) (hgv : ∀ w ∈ gvL, w.before #[Value.ref b] s = true) (h : (decide (Cond.arrayOf (.static "SpoolHall" n "[I") .int ∈ gvL) && decide (Cond.eq (.length (.static "SpoolHall" n "[I")) (.int (Int32.ofNat N)) ∈ gvL) && (List.range N).all (fun j => decide (Cond.eq (.elem (.static "SpoolHall" n "[I") (.int (Int32.ofNat j))) (.int (ys.getD j 0)) ∈ gvL))) = true) : ∃ t : Nat, va_Z "SpoolHall" n "[I" (.ref t) (lA s) s s.heap ∧ va_T .int t N (fun j => .int (ys.getD j 0)) (lA s) s s.heap := by
  simp only [Bool.and_eq_true, decide_eq_true_eq] at h
  obtain ⟨⟨h1, h2⟩, h3⟩ := h
  have hA : ∀ a : Nat, a < s.heap.size → ¬ lA s a := fun a ha => Nat.not_le.mpr ha
  obtain ⟨t, e, hT⟩ := va_Tof (f := fun j => .int (ys.getD j 0)) (A := lA s) hN (hgv _ h1) (va_eqt (hgv _ h2)) (fun j hj => va_eqt (hgv _ (of_decide_eq_true (List.all_eq_true.mp h3 j (List.mem_range.mpr hj))))) hA
  exact ⟨t, va_Zof (hts _ hly) (hts _ in_SH) e hA, hT⟩
theorem li_RO (hts : ∀ w ∈ lw_tbl, w.before #[Value.ref b] s = true) (hgv : ∀ w ∈ gvL, w.before #[Value.ref b] s = true) : ∃ rx : Nat → Nat, ∀ ad : Nat → Nat, (∀ k, 200 ≤ k → ad k = rx k) → ROX ad (lA s) s := by
  have hA : ∀ a : Nat, a < s.heap.size → ¬ lA s a := fun a ha => Nat.not_le.mpr ha
  obtain ⟨t0, z0, w0⟩ := gv_tab (by decide) ly_ITEM_LOWS hts hgv gv_ITEM_LOWS
  obtain ⟨t1, z1, w1⟩ := gv_tab (by decide) ly_ITEM_HIGHS hts hgv gv_ITEM_HIGHS
  obtain ⟨t2, z2, w2⟩ := gv_tab (by decide) ly_ITEM_DEFAULTS hts hgv gv_ITEM_DEFAULTS
  obtain ⟨t3, z3, w3⟩ := gv_tab (by decide) ly_CLAUSE_ITEMS hts hgv gv_CLAUSE_ITEMS
  obtain ⟨t4, z4, w4⟩ := gv_tab (by decide) ly_STEP_FORMS hts hgv gv_STEP_FORMS
  have hstr : ∀ i, i < 3 → _ := fun i hi => List.all_eq_true.mp gv_str i (List.mem_range.mpr hi)
  simp only [Bool.and_eq_true, decide_eq_true_eq] at hstr
  obtain ⟨adK, adV, hS, hK⟩ := vk_Sof (N := 3) (tm := kTm) (len := [3, 12, 11]) (byt := skB) (A := lA s) (args := #[Value.ref b]) (s := s) (fun i hi => by
      match i, hi with
      | 0, _ => decide
      | 1, _ => decide
      | 2, _ => decide) (fun i hi => hgv _ (hstr i hi).1.1.1.1.1) (fun i hi => hgv _ (hstr i hi).1.1.1.1.2) (fun i hi => hgv _ (hstr i hi).1.1.1.2) (fun i hi => hgv _ (hstr i hi).1.1.2) (fun i hi j hj => hgv _ (of_decide_eq_true (List.all_eq_true.mp (hstr i hi).1.2 j (List.mem_range.mpr hj)))) (fun i j hi hj hne => by
      have := List.all_eq_true.mp (hstr i hi).2 j (List.mem_range.mpr hj)
      simp only [Bool.or_eq_true, decide_eq_true_eq] at this
      rcases this with (h | h) | h
      · exact absurd h hne
      · exact Or.inl (hgv _ h)
      · exact Or.inr (hgv _ h)) hA
  have hx := gv_x
  simp only [Bool.and_eq_true, decide_eq_true_eq] at hx
  refine ⟨fun k => if k < 210 then [t0, t1, t2, t3, t4].getD (k - 200) 0 else if k < 220 then adK (k - 210) else adV (k - 220), fun ad had => ⟨fun k nm ys hk => ?_, fun k i tx hk => ?_, ?_, va_Zof (hts _ ly_CS) (hts _ in_Str) (va_eqt (hgv _ hx.1.1.1)) hA⟩⟩
  · match k, hk with
    | 0, hk => cases hk; rw [had 200 (by decide)]; exact ⟨z0, w0⟩
    | 1, hk => cases hk; rw [had 201 (by decide)]; exact ⟨z1, w1⟩
    | 2, hk => cases hk; rw [had 202 (by decide)]; exact ⟨z2, w2⟩
    | 3, hk => cases hk; rw [had 203 (by decide)]; exact ⟨z3, w3⟩
    | 4, hk => cases hk; rw [had 204 (by decide)]; exact ⟨z4, w4⟩
    | k + 5, hk => simp [stL] at hk
  · match k, hk with
    | 0, hk => cases hk; rw [had 210 (by decide)]; exact vk_R.of (hts _ sr_55) (hK 0 (by decide))
    | 1, hk => cases hk; rw [had 211 (by decide)]; exact vk_R.of (hts _ sr_93) (hK 1 (by decide))
    | 2, hk => cases hk; rw [had 212 (by decide)]; exact vk_R.of (hts _ sr_116) (hK 2 (by decide))
    | k + 3, hk => simp [skL] at hk
  · have e1 : ∀ i, i < 3 → ad (210 + i) = adK i := fun i hi => by
      rw [had (210 + i) (by omega)]
      show (if 210 + i < 210 then _ else if 210 + i < 220 then adK (210 + i - 210) else adV (210 + i - 220)) = adK i
      rw [if_neg (by omega), if_pos (by omega), Nat.add_sub_cancel_left]
    have e2 : ∀ i, i < 3 → ad (220 + i) = adV i := fun i hi => by
      rw [had (220 + i) (by omega)]
      show (if 220 + i < 210 then _ else if 220 + i < 220 then adK (220 + i - 210) else adV (220 + i - 220)) = adV i
      rw [if_neg (by omega), if_neg (by omega), Nat.add_sub_cancel_left]
    refine ⟨fun i hi => ?_, fun i j hi hj e => hS.2 i j hi hj (by rw [← e1 i hi, ← e1 j hj]; exact e)⟩
    show va_O _ (ad (210 + i)) _ _ _ ∧ va_OF _ _ _ _ (ad (210 + i)) _ _ _ ∧ va_OF _ _ _ (.ref (ad (220 + i))) (ad (210 + i)) _ _ _ ∧ va_T _ (ad (220 + i)) _ _ _ _ _
    rw [e1 i hi, e2 i hi]
    exact hS.1 i hi
theorem li_XR (hts : ∀ w ∈ lw_tbl, w.before #[Value.ref b] s = true) (hgv : ∀ w ∈ gvL, w.before #[Value.ref b] s = true) : XR (lA s) s := by
  have hA : ∀ a : Nat, a < s.heap.size → ¬ lA s a := fun a ha => Nat.not_le.mpr ha
  have hx := gv_x
  simp only [Bool.and_eq_true, decide_eq_true_eq] at hx
  obtain ⟨a, -, -, -, q1, -⟩ := Cond.exactly_spec (hgv _ hx.2)
  exact ⟨fun x hx => va_Nw.of rfl (hts _ (deN x hx)), ⟨a, vk_R.of (hts _ sr_163) q1⟩, va_Nw.of rfl (hts _ caN), vx_Zqof (hts _ ly_US) (hts _ in_Thr) (hgv _ hx.1.1.2) hA, vx_Zqof (hts _ ly_SS) (hts _ in_Thr) (hgv _ hx.1.2) hA⟩
theorem li_K (hts : ∀ w ∈ lw_tbl, w.before #[Value.ref b] s = true) : ∃ (D : va_G) (cs : Nat → ClassId), va_K D vwCl (qtys cs ++ [(cs 3, .long)]) s := by
  have htt : ∀ w ∈ qTT, w.before #[Value.ref b] s = true := fun w hw => hts w (List.mem_filter.mp hw).1
  have hc : ∀ k : Nat, ∃ x : ClassId × (Nat → Nat), ∀ q : vw_C, vwCl[k]? = some q → u_Kn s q.1 q.2.1 q.2.2 x.1 x.2 := by
    intro k
    match k with
    | 0 => obtain ⟨x, y, h⟩ := u_known (C := RX0) (T := TX0) (N := 2) htt inq0 (htt _ ins0); exact ⟨(x, y), fun q hq => by cases hq; exact h⟩
    | 1 => obtain ⟨x, y, h⟩ := u_known (C := RX1) (T := TX1) (N := 2) htt inq1 (htt _ ins1); exact ⟨(x, y), fun q hq => by cases hq; exact h⟩
    | 2 => obtain ⟨x, y, h⟩ := u_known (C := RX2) (T := TX2) (N := 10) htt inq2 (htt _ ins2); exact ⟨(x, y), fun q hq => by cases hq; exact h⟩
    | 3 => obtain ⟨x, y, h⟩ := u_known (C := RX3) (T := TX3) (N := 3) htt inq3 (htt _ ins3); exact ⟨(x, y), fun q hq => by cases hq; exact h⟩
    | 4 => obtain ⟨x, y, h⟩ := u_known (C := RX4) (T := TX4) (N := 10) htt inq4 (htt _ ins4); exact ⟨(x, y), fun q hq => by cases hq; exact h⟩
    | 5 => obtain ⟨x, y, h⟩ := u_known (C := RX5) (T := TX5) (N := 6) htt inq5 (htt _ ins5); exact ⟨(x, y), fun q hq => by cases hq; exact h⟩
    | 6 => obtain ⟨x, y, h⟩ := u_known (C := RX6) (T := TX6) (N := 4) htt inq6 (htt _ ins6); exact ⟨(x, y), fun q hq => by cases hq; exact h⟩
    | 7 => obtain ⟨x, y, h⟩ := u_known (C := RX7) (T := TX7) (N := 18) htt inq7 (htt _ ins7); exact ⟨(x, y), fun q hq => by cases hq; exact h⟩
    | 8 => obtain ⟨x, y, h⟩ := u_known (C := RX8) (T := TX8) (N := 20) htt inq8 (htt _ ins8); exact ⟨(x, y), fun q hq => by cases hq; exact h⟩
    | 9 => obtain ⟨x, y, h⟩ := u_known (C := RX9) (T := TX9) (N := 35) htt inq9 (htt _ ins9); exact ⟨(x, y), fun q hq => by cases hq; exact h⟩
    | k + 10 => exact ⟨(0, fun _ => 0), fun q hq => by simp [vwCl] at hq⟩
  obtain ⟨c0, k0, m0, f0, g0, i0⟩ := Cond.arrayClass_spec (htt _ arrI)
  obtain ⟨c1, k1, m1, f1, g1, i1⟩ := Cond.arrayClass_spec (htt _ arrZ)
  obtain ⟨m2, c2, k2, e2, -, f2, g2, i2⟩ := Cond.arrayOver_spec (hts _ ovS)
  obtain ⟨c3, k3, m3, f3, g3, i3⟩ := Cond.arrayClass_spec (htt _ arrJ)
  refine ⟨(fun k => (Classical.choose (hc k)).1, fun k => (Classical.choose (hc k)).2), fun j => match j with | 0 => c0 | 1 => c1 | 2 => c2 | _ => c3, fun k q hk => Classical.choose_spec (hc k) q hk, fun k q hk => ?_⟩
  match k, hk with
  | 0, hk => cases hk; exact ⟨fun n z => ⟨fun k h => (by cases h), k0, g0, m0, i0⟩, f0⟩
  | 1, hk => cases hk; exact ⟨fun n z => ⟨fun k h => (by cases h), k1, g1, m1, i1⟩, f1⟩
  | 2, hk => cases hk; exact ⟨fun n z => ⟨fun k h => (by cases h), k2, f2, m2, g2⟩, k2, m2, f2, g2, e2, i2⟩
  | 3, hk => cases hk; exact ⟨fun n z => ⟨fun k h => (by cases h), k3, g3, m3, i3⟩, f3⟩
  | k + 4, hk => simp [qtys] at hk
theorem qNT_of (hts : ∀ w ∈ lw_tbl, w.before #[Value.ref b] s = true) : ∀ w ∈ qNT, va_Nw w s := by
  intro w hw
  have h1 := hts w (List.mem_filter.mp hw).1
  have h2 := (List.mem_filter.mp hw).2
  match w, h2 with
  | .fieldLinkNest _ _ _ _ _ _, _ => exact va_Nw.of rfl h1
  | .methodLinkNest _ _ _ _, _ => exact va_Nw.of rfl h1
theorem law_init (hflags : l.flags = flags0) (hL : L ≤ 3072) (C0 : lw_At p s m meth c b L xs) : ∃ (D : va_G) (cs : Nat → ClassId) (rx : Nat → Nat), LC p l s m meth c b L xs D cs ∧ ∀ ad : Nat → Nat, (∀ k, 200 ≤ k → ad k = rx k) → ROX ad (lA s) s := by
  obtain ⟨hx, hb, hr, hml, hown, hts, hX, hbl, hlocks, hgv⟩ := C0
  have hgv := flat_of_before _ hgv
  obtain ⟨D, cs, hK⟩ := li_K hts
  obtain ⟨rx, hRO⟩ := li_RO hts hgv
  exact ⟨D, cs, rx, ⟨⟨hx, hb, hml, hown⟩, hts, qNT_of hts, hK, ⟨hX, hbl, hL⟩, ⟨hlocks, hr⟩, by unfold Launch.stackTraces; rw [hflags]; decide, li_XR hts hgv⟩, hRO⟩
end LI
