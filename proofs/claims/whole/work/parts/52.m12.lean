noncomputable def f9_emptyOnes_L4 (h : qH) (k : Int32 → Int32 → Option (Int32)) : Nat → Int32 → Int32 → Option (Int32)
  | 0, _, _ => none
  | n + 1, x1, x2 =>
    if (h.1 0 12) ≤ x2 then (
      k x1 x2)
    else (
      qg (qin ((16 : Int32) + x2) 353) <|
      qlt (if (h.1 9 (ix ((16 : Int32) + x2))) = 0 then ((1 : Int32) <<< (x2 &&& 31)) else (0 : Int32)) fun (x5 : Int32) =>
      qlt (x1 ||| x5) fun (x6 : Int32) =>
      qlt (x2 + (1 : Int32)) fun (x7 : Int32) =>
      f9_emptyOnes_L4 h k n x6 x7)
set_option maxRecDepth 100000 in
set_option maxHeartbeats 4000000 in
theorem w9_emptyOnes_L4 (l : Launch) (h : qH) {k : Int32 → Int32 → Option (Int32)} (hk : ∀ (x1 : Int32) (x2 : Int32), PW UM ROM l R9_emptyOnes cX9_emptyOnes 3 (some .int) RX9 (qEr h) 40 [some (.ref 0), some (.int x1), some (.int x2)] [] h (k x1 x2)) : ∀ (n : Nat) (x1 : Int32) (x2 : Int32), PW UM ROM l R9_emptyOnes cX9_emptyOnes 3 (some .int) RX9 (qEr h) 4 [some (.ref 0), some (.int x1), some (.int x2)] [] h (f9_emptyOnes_L4 h k n x1 x2) := by
  intro n
  induction n with
  | zero => intro _ _; exact p_none
  | succ n ih =>
    intro x1 x2
    unfold f9_emptyOnes_L4
    refine p_iload_n rfl dX9_emptyOnes_4 rfl ?_
    refine p_aload_n rfl dX9_emptyOnes_5 rfl ?_
    refine p_geti qg_RX9_153 uM_0 rfl dX9_emptyOnes_6 rfl ?_
    refine p_if (fun c3 => ?_) (fun c3 => ?_)
    · refine p_icmp_ge_t (tgt := 40) dX9_emptyOnes_9 (by decide) c3 ?_
      exact hk x1 x2
    · refine p_icmp_ge_f (tgt := 40) dX9_emptyOnes_9 (by decide) rfl c3 ?_
      refine p_iload_n rfl dX9_emptyOnes_12 rfl ?_
      refine p_aload_n rfl dX9_emptyOnes_13 rfl ?_
      refine p_getr qg_RX9_34 uM_0 rfl dX9_emptyOnes_14 rfl ?_
      refine p_bipush (v := (16 : Int32)) kbipush_16 dX9_emptyOnes_17 rfl ?_
      refine p_iload_n rfl dX9_emptyOnes_19 rfl ?_
      refine p_iadd dX9_emptyOnes_20 rfl ?_
      refine p_iald uM_9 dX9_emptyOnes_21 rfl (fun _ => ?_)
      refine p_vj 32 [some (.ref 0), some (.int x1), some (.int x2)] [.int x1] (fun x5 => ?_) (fun J => ?_)
      · refine p_ior dX9_emptyOnes_32 rfl ?_
        refine p_isN_n (lf := fun x6 => [some (.ref 0), some (.int x6), some (.int x2)]) dX9_emptyOnes_33 rfl rfl rfl (fun _ => rfl) (fun x6 => ?_)
        refine p_iiN (v := (1 : Int32)) (lf := fun x7 => [some (.ref 0), some (.int x6), some (.int x7)]) kiconst_1 dX9_emptyOnes_34 rfl rfl rfl rfl (fun _ => rfl) (fun x7 => ?_)
        refine p_goto (tgt := 4) dX9_emptyOnes_37 (by decide) ?_
        exact ih x6 x7
      · refine p_dia (fun c4 => ?_) (fun c4 => ?_)
        · refine p_if_ne_f (tgt := 31) dX9_emptyOnes_22 (by decide) rfl c4 ?_
          refine p_iconst (v := (1 : Int32)) kiconst_1 dX9_emptyOnes_25 rfl ?_
          refine p_iload_n rfl dX9_emptyOnes_26 rfl ?_
          refine p_ishl dX9_emptyOnes_27 rfl ?_
          refine p_goto (tgt := 32) dX9_emptyOnes_28 (by decide) ?_
          exact J _
        · refine p_if_ne_t (tgt := 31) dX9_emptyOnes_22 (by decide) c4 ?_
          refine p_iconst (v := (0 : Int32)) kiconst_0 dX9_emptyOnes_31 rfl ?_
          exact J _
noncomputable def f9_emptyOnes (h : qH) : Option (Int32) :=
  f9_emptyOnes_L4 h (fun (x8 : Int32) (x9 : Int32) =>
    some x8) qN (0 : Int32) (0 : Int32)
set_option maxRecDepth 100000 in
set_option maxHeartbeats 4000000 in
theorem m9_emptyOnes (l : Launch) : qMet UM ROM l yX9_emptyOnes (qws yX9_emptyOnes cX9_emptyOnes 3 (some .int)) R9_emptyOnes [.ref 0] f9_emptyOnes qEr := by
  refine q_met (own := RX9) 2 (by decide) rfl (Nat.le_of_ble_eq_true rfl) (ls := [some (.ref 0), none, none]) rfl fun h => ?_
  unfold f9_emptyOnes
  refine p_iconst (v := (0 : Int32)) kiconst_0 dX9_emptyOnes_0 rfl ?_
  refine p_is_n (ls' := [some (.ref 0), some (.int (0 : Int32)), none]) dX9_emptyOnes_1 rfl rfl rfl rfl ?_
  refine p_iconst (v := (0 : Int32)) kiconst_0 dX9_emptyOnes_2 rfl ?_
  refine p_is_n (ls' := [some (.ref 0), some (.int (0 : Int32)), some (.int (0 : Int32))]) dX9_emptyOnes_3 rfl rfl rfl rfl ?_
  refine w9_emptyOnes_L4 l h (fun x8 x9 => ?_) qN _ _
  refine p_iload_n rfl dX9_emptyOnes_40 rfl ?_
  exact p_iret rfl rfl dX9_emptyOnes_41
noncomputable def f9_most (p1 : Int32) (h : qH) : Option (Int32) :=
  (f9_isHall h).bind fun (z1 : Int32) =>
  if z1 = 0 then (
    some (-1000000 : Int32))
  else (
    (f9_in p1 (0 : Int32) (10 : Int32) h).bind fun (z3 : Int32) =>
    if z3 = 0 then (
      some (-1000000 : Int32))
    else (
      if p1 = (0 : Int32) then (
        some (h.1 9 170))
      else (
        if p1 = (1 : Int32) then (
        some (h.1 9 169))
      else (
        if p1 = (2 : Int32) then (
        (f9_driven h).bind fun (z8 : Int32) =>
        some z8)
      else (
        if p1 = (3 : Int32) then (
        (f9_weakOnes h).bind fun (z10 : Int32) =>
        some z10)
      else (
        if p1 = (4 : Int32) then (
        (f9_heldMany h).bind fun (z12 : Int32) =>
        some z12)
      else (
        if p1 = (5 : Int32) then (
        (f9_knownMany h).bind fun (z14 : Int32) =>
        some z14)
      else (
        if p1 = (6 : Int32) then (
        (f9_askedOfAll h).bind fun (z16 : Int32) =>
        some z16)
      else (
        if p1 = (7 : Int32) then (
        (f9_mendedOfAll h).bind fun (z18 : Int32) =>
        some z18)
      else (
        if p1 = (8 : Int32) then (
        (f9_roomiest h).bind fun (z20 : Int32) =>
        some z20)
      else (
        if p1 = (9 : Int32) then (
        (f9_oldest h).bind fun (z22 : Int32) =>
        some z22)
      else (
        (f9_emptyOnes h).bind fun (z23 : Int32) =>
        some z23))))))))))))
set_option maxRecDepth 100000 in
set_option maxHeartbeats 4000000 in
theorem m9_most (l : Launch) (p1 : Int32) : qMet UM ROM l yX9_most (qws yX9_most cX9_most 2 (some .int)) R9_most [.ref 0, .int p1] (f9_most p1) qEr := by
  refine q_met (own := RX9) 0 (by decide) rfl (Nat.le_of_ble_eq_true rfl) (ls := [some (.ref 0), some (.int p1)]) rfl fun h => ?_
  unfold f9_most
  refine p_aload_n rfl dX9_most_0 rfl ?_
  refine p_callVr (f := f9_isHall) (st := []) [] qRokM (m9_isHall l) cal_RX9_156 uM_0 rfl rfl ⟨rfl, rfl⟩ ⟨Nat.le_of_ble_eq_true rfl, Nat.le_of_ble_eq_true rfl⟩ (Nat.le_of_ble_eq_true rfl) dX9_most_1 rfl (fun z1 => ?_)
  refine p_if (fun c2 => ?_) (fun c2 => ?_)
  · refine p_if_eq_t (tgt := 17) dX9_most_4 (by decide) c2 ?_
    refine p_ldcw (v := (-1000000 : Int32)) kcRX9_363 dX9_most_17 rfl ?_
    exact p_iret rfl rfl dX9_most_20
  · refine p_if_eq_f (tgt := 17) dX9_most_4 (by decide) rfl c2 ?_
    refine p_iload_n rfl dX9_most_7 rfl ?_
    refine p_iconst (v := (0 : Int32)) kiconst_0 dX9_most_8 rfl ?_
    refine p_bipush (v := (10 : Int32)) kbipush_10 dX9_most_9 rfl ?_
    refine p_callSr (f := f9_in p1 (0 : Int32) (10 : Int32)) (st := []) [.int p1, .int (0 : Int32), .int (10 : Int32)] qRokM (m9_in l p1 (0 : Int32) (10 : Int32)) cal_RX9_76 rfl ⟨rfl, rfl⟩ ⟨Nat.le_of_ble_eq_true rfl, Nat.le_of_ble_eq_true rfl⟩ (Nat.le_of_ble_eq_true rfl) dX9_most_11 rfl (fun z3 => ?_)
    refine p_if (fun c4 => ?_) (fun c4 => ?_)
    · refine p_if_ne_f (tgt := 21) dX9_most_14 (by decide) rfl c4 ?_
      refine p_ldcw (v := (-1000000 : Int32)) kcRX9_363 dX9_most_17 rfl ?_
      exact p_iret rfl rfl dX9_most_20
    · refine p_if_ne_t (tgt := 21) dX9_most_14 (by decide) c4 ?_
      refine p_iload_n rfl dX9_most_21 rfl ?_
      refine p_if (fun c5 => ?_) (fun c5 => ?_)
      · refine p_swI (v := (0 : Int32)) (tgt := 76) dX9_most_22 c5 (by decide) (by decide) rfl (by decide) ?_
        refine p_aload_n rfl dX9_most_76 rfl ?_
        refine p_getr qg_RX9_34 uM_0 rfl dX9_most_77 rfl ?_
        refine p_sipush (v := (170 : Int32)) ksipush_170 dX9_most_80 rfl ?_
        refine p_ialdK uM_9 kix_170 kqin_170_353 dX9_most_83 rfl ?_
        exact p_iret rfl rfl dX9_most_84
      · refine p_if (fun c6 => ?_) (fun c6 => ?_)
        · refine p_swI (v := (1 : Int32)) (tgt := 85) dX9_most_22 c6 (by decide) (by decide) rfl (by decide) ?_
          refine p_aload_n rfl dX9_most_85 rfl ?_
          refine p_getr qg_RX9_34 uM_0 rfl dX9_most_86 rfl ?_
          refine p_sipush (v := (169 : Int32)) ksipush_169 dX9_most_89 rfl ?_
          refine p_ialdK uM_9 kix_169 kqin_169_353 dX9_most_92 rfl ?_
          exact p_iret rfl rfl dX9_most_93
        · refine p_if (fun c7 => ?_) (fun c7 => ?_)
          · refine p_swI (v := (2 : Int32)) (tgt := 94) dX9_most_22 c7 (by decide) (by decide) rfl (by decide) ?_
            refine p_aload_n rfl dX9_most_94 rfl ?_
            refine p_callVr (f := f9_driven) (st := []) [] qRokM (m9_driven l) cal_RX9_419 uM_0 rfl rfl ⟨rfl, rfl⟩ ⟨Nat.le_of_ble_eq_true rfl, Nat.le_of_ble_eq_true rfl⟩ (Nat.le_of_ble_eq_true rfl) dX9_most_95 rfl (fun z8 => ?_)
            exact p_iret rfl rfl dX9_most_98
          · refine p_if (fun c9 => ?_) (fun c9 => ?_)
            · refine p_swI (v := (3 : Int32)) (tgt := 99) dX9_most_22 c9 (by decide) (by decide) rfl (by decide) ?_
              refine p_aload_n rfl dX9_most_99 rfl ?_
              refine p_callVr (f := f9_weakOnes) (st := []) [] qRokM (m9_weakOnes l) cal_RX9_271 uM_0 rfl rfl ⟨rfl, rfl⟩ ⟨Nat.le_of_ble_eq_true rfl, Nat.le_of_ble_eq_true rfl⟩ (Nat.le_of_ble_eq_true rfl) dX9_most_100 rfl (fun z10 => ?_)
              exact p_iret rfl rfl dX9_most_103
            · refine p_if (fun c11 => ?_) (fun c11 => ?_)
              · refine p_swI (v := (4 : Int32)) (tgt := 104) dX9_most_22 c11 (by decide) (by decide) rfl (by decide) ?_
                refine p_aload_n rfl dX9_most_104 rfl ?_
                refine p_callVr (f := f9_heldMany) (st := []) [] qRokM (m9_heldMany l) cal_RX9_422 uM_0 rfl rfl ⟨rfl, rfl⟩ ⟨Nat.le_of_ble_eq_true rfl, Nat.le_of_ble_eq_true rfl⟩ (Nat.le_of_ble_eq_true rfl) dX9_most_105 rfl (fun z12 => ?_)
                exact p_iret rfl rfl dX9_most_108
              · refine p_if (fun c13 => ?_) (fun c13 => ?_)
                · refine p_swI (v := (5 : Int32)) (tgt := 109) dX9_most_22 c13 (by decide) (by decide) rfl (by decide) ?_
                  refine p_aload_n rfl dX9_most_109 rfl ?_
                  refine p_callVr (f := f9_knownMany) (st := []) [] qRokM (m9_knownMany l) cal_RX9_286 uM_0 rfl rfl ⟨rfl, rfl⟩ ⟨Nat.le_of_ble_eq_true rfl, Nat.le_of_ble_eq_true rfl⟩ (Nat.le_of_ble_eq_true rfl) dX9_most_110 rfl (fun z14 => ?_)
                  exact p_iret rfl rfl dX9_most_113
                · refine p_if (fun c15 => ?_) (fun c15 => ?_)
                  · refine p_swI (v := (6 : Int32)) (tgt := 114) dX9_most_22 c15 (by decide) (by decide) rfl (by decide) ?_
                    refine p_aload_n rfl dX9_most_114 rfl ?_
                    refine p_callVr (f := f9_askedOfAll) (st := []) [] qRokM (m9_askedOfAll l) cal_RX9_292 uM_0 rfl rfl ⟨rfl, rfl⟩ ⟨Nat.le_of_ble_eq_true rfl, Nat.le_of_ble_eq_true rfl⟩ (Nat.le_of_ble_eq_true rfl) dX9_most_115 rfl (fun z16 => ?_)
                    exact p_iret rfl rfl dX9_most_118
                  · refine p_if (fun c17 => ?_) (fun c17 => ?_)
                    · refine p_swI (v := (7 : Int32)) (tgt := 119) dX9_most_22 c17 (by decide) (by decide) rfl (by decide) ?_
                      refine p_aload_n rfl dX9_most_119 rfl ?_
                      refine p_callVr (f := f9_mendedOfAll) (st := []) [] qRokM (m9_mendedOfAll l) cal_RX9_425 uM_0 rfl rfl ⟨rfl, rfl⟩ ⟨Nat.le_of_ble_eq_true rfl, Nat.le_of_ble_eq_true rfl⟩ (Nat.le_of_ble_eq_true rfl) dX9_most_120 rfl (fun z18 => ?_)
                      exact p_iret rfl rfl dX9_most_123
                    · refine p_if (fun c19 => ?_) (fun c19 => ?_)
                      · refine p_swI (v := (8 : Int32)) (tgt := 124) dX9_most_22 c19 (by decide) (by decide) rfl (by decide) ?_
                        refine p_aload_n rfl dX9_most_124 rfl ?_
                        refine p_callVr (f := f9_roomiest) (st := []) [] qRokM (m9_roomiest l) cal_RX9_428 uM_0 rfl rfl ⟨rfl, rfl⟩ ⟨Nat.le_of_ble_eq_true rfl, Nat.le_of_ble_eq_true rfl⟩ (Nat.le_of_ble_eq_true rfl) dX9_most_125 rfl (fun z20 => ?_)
                        exact p_iret rfl rfl dX9_most_128
                      · refine p_if (fun c21 => ?_) (fun c21 => ?_)
                        · refine p_swI (v := (9 : Int32)) (tgt := 129) dX9_most_22 c21 (by decide) (by decide) rfl (by decide) ?_
                          refine p_aload_n rfl dX9_most_129 rfl ?_
                          refine p_callVr (f := f9_oldest) (st := []) [] qRokM (m9_oldest l) cal_RX9_215 uM_0 rfl rfl ⟨rfl, rfl⟩ ⟨Nat.le_of_ble_eq_true rfl, Nat.le_of_ble_eq_true rfl⟩ (Nat.le_of_ble_eq_true rfl) dX9_most_130 rfl (fun z22 => ?_)
                          exact p_iret rfl rfl dX9_most_133
                        · refine p_swO (tgt := 134) dX9_most_22 (by
                              have c5' := lv_neT c5 (a := 0) (by decide)
                              have c6' := lv_neT c6 (a := 1) (by decide)
                              have c7' := lv_neT c7 (a := 2) (by decide)
                              have c9' := lv_neT c9 (a := 3) (by decide)
                              have c11' := lv_neT c11 (a := 4) (by decide)
                              have c13' := lv_neT c13 (a := 5) (by decide)
                              have c15' := lv_neT c15 (a := 6) (by decide)
                              have c17' := lv_neT c17 (a := 7) (by decide)
                              have c19' := lv_neT c19 (a := 8) (by decide)
                              have c21' := lv_neT c21 (a := 9) (by decide)
                              omega) (by decide) ?_
                          refine p_aload_n rfl dX9_most_134 rfl ?_
                          refine p_callVr (f := f9_emptyOnes) (st := []) [] qRokM (m9_emptyOnes l) cal_RX9_431 uM_0 rfl rfl ⟨rfl, rfl⟩ ⟨Nat.le_of_ble_eq_true rfl, Nat.le_of_ble_eq_true rfl⟩ (Nat.le_of_ble_eq_true rfl) dX9_most_135 rfl (fun z23 => ?_)
                          exact p_iret rfl rfl dX9_most_138
noncomputable def f9_image_L11 (k : Int32 → qH → Option (Int32 × qH)) : Nat → Int32 → qH → Option (Int32 × qH)
  | 0, _, _ => none
  | n + 1, x3, h4 =>
    if (353 : Int32) ≤ x3 then (
      k x3 h4)
    else (
      qg (qin x3 353) <|
      qg (qin x3 353) <|
      qlt (qw h4 18 (ix x3) (h4.1 9 (ix x3))) fun (h6 : qH) =>
      qlt (x3 + (1 : Int32)) fun (x7 : Int32) =>
      f9_image_L11 k n x7 h6)
set_option maxRecDepth 100000 in
set_option maxHeartbeats 4000000 in
theorem w9_image_L11 (l : Launch) (h0 : qH) {k : Int32 → qH → Option (Int32 × qH)} (hk : ∀ (x3 : Int32) (h4 : qH), PW UM ROM l R9_image cX9_image 2 (some .int) RX9 (qEw h0) 36 [some (.ref 0), some (.int x3)] [] h4 (k x3 h4)) : ∀ (n : Nat) (x3 : Int32) (h4 : qH), PW UM ROM l R9_image cX9_image 2 (some .int) RX9 (qEw h0) 11 [some (.ref 0), some (.int x3)] [] h4 (f9_image_L11 k n x3 h4) := by
  intro n
  induction n with
  | zero => intro _ _; exact p_none
  | succ n ih =>
    intro x3 h4
    unfold f9_image_L11
    refine p_iload_n rfl dX9_image_11 rfl ?_
    refine p_sipush (v := (353 : Int32)) ksipush_353 dX9_image_12 rfl ?_
    refine p_if (fun c5 => ?_) (fun c5 => ?_)
    · refine p_icmp_ge_t (tgt := 36) dX9_image_15 (by decide) c5 ?_
      exact hk x3 h4
    · refine p_icmp_ge_f (tgt := 36) dX9_image_15 (by decide) rfl c5 ?_
      refine p_aload_n rfl dX9_image_18 rfl ?_
      refine p_getr qg_RX9_62 uM_0 rfl dX9_image_19 rfl ?_
      refine p_iload_n rfl dX9_image_22 rfl ?_
      refine p_aload_n rfl dX9_image_23 rfl ?_
      refine p_getr qg_RX9_34 uM_0 rfl dX9_image_24 rfl ?_
      refine p_iload_n rfl dX9_image_27 rfl ?_
      refine p_iald uM_9 dX9_image_28 rfl (fun _ => ?_)
      refine p_iast qokM uM_18 dX9_image_29 rfl (fun _ => ?_)
      refine p_nmH (fun h6 => ?_)
      refine p_iiN (v := (1 : Int32)) (lf := fun x7 => [some (.ref 0), some (.int x7)]) kiconst_1 dX9_image_30 rfl rfl rfl rfl (fun _ => rfl) (fun x7 => ?_)
      refine p_goto (tgt := 11) dX9_image_33 (by decide) ?_
      exact ih x7 h6
noncomputable def f9_image (h : qH) : Option (Int32 × qH) :=
  (f9_isHall h).bind fun (z1 : Int32) =>
  if z1 = 0 then (
    some ((-1 : Int32), h))
  else (
    f9_image_L11 (fun (x8 : Int32) (h9 : qH) =>
      qlt (qw h9 0 34 (1 : Int32)) fun (h10 : qH) =>
      some ((h10.1 9 170), h10)) qN (0 : Int32) h)
set_option maxRecDepth 100000 in
set_option maxHeartbeats 4000000 in
theorem m9_image (l : Launch) : qMet UM ROM l yX9_image (qws yX9_image cX9_image 2 (some .int)) R9_image [.ref 0] f9_image qEw := by
  refine q_met (own := RX9) 1 (by decide) rfl (Nat.le_of_ble_eq_true rfl) (ls := [some (.ref 0), none]) rfl fun h => ?_
  unfold f9_image
  show PW UM ROM l R9_image cX9_image 2 (some .int) RX9 (qEw h) 0 [some (.ref 0), none] [] h _
  refine p_aload_n rfl dX9_image_0 rfl ?_
  refine p_callVr (f := f9_isHall) (st := []) [] qRokM (m9_isHall l) cal_RX9_156 uM_0 rfl rfl ⟨rfl, rfl⟩ ⟨Nat.le_of_ble_eq_true rfl, Nat.le_of_ble_eq_true rfl⟩ (Nat.le_of_ble_eq_true rfl) dX9_image_1 rfl (fun z1 => ?_)
  refine p_if (fun c2 => ?_) (fun c2 => ?_)
  · refine p_if_ne_f (tgt := 9) dX9_image_4 (by decide) rfl c2 ?_
    refine p_iconst (v := (-1 : Int32)) kiconst_m1 dX9_image_7 rfl ?_
    exact p_iret rfl rfl dX9_image_8
  · refine p_if_ne_t (tgt := 9) dX9_image_4 (by decide) c2 ?_
    refine p_iconst (v := (0 : Int32)) kiconst_0 dX9_image_9 rfl ?_
    refine p_is_n (ls' := [some (.ref 0), some (.int (0 : Int32))]) dX9_image_10 rfl rfl rfl rfl ?_
    refine w9_image_L11 l h (fun x8 h9 => ?_) qN _ _
    refine p_aload_n rfl dX9_image_36 rfl ?_
    refine p_iconst (v := (1 : Int32)) kiconst_1 dX9_image_37 rfl ?_
    refine p_putz qokM kz_1 qp_RX9_181 uM_0 rfl dX9_image_38 rfl ?_
    refine p_nmH (fun h10 => ?_)
    refine p_aload_n rfl dX9_image_41 rfl ?_
    refine p_getr qg_RX9_34 uM_0 rfl dX9_image_42 rfl ?_
    refine p_sipush (v := (170 : Int32)) ksipush_170 dX9_image_45 rfl ?_
    refine p_ialdK uM_9 kix_170 kqin_170_353 dX9_image_48 rfl ?_
    exact p_iret rfl rfl dX9_image_49
noncomputable def f9_back_L11 (k : Int32 → qH → Option (Int32 × qH)) : Nat → Int32 → qH → Option (Int32 × qH)
  | 0, _, _ => none
  | n + 1, x2, h3 =>
    if (353 : Int32) ≤ x2 then (
      k x2 h3)
    else (
      qg (qin x2 353) <|
      qg (qin x2 353) <|
      qlt (qw h3 9 (ix x2) (h3.1 18 (ix x2))) fun (h5 : qH) =>
      qlt (x2 + (1 : Int32)) fun (x6 : Int32) =>
      f9_back_L11 k n x6 h5)
set_option maxRecDepth 100000 in
set_option maxHeartbeats 4000000 in
theorem w9_back_L11 (l : Launch) (h0 : qH) {k : Int32 → qH → Option (Int32 × qH)} (hk : ∀ (x2 : Int32) (h3 : qH), PW UM ROM l R9_back cX9_back 2 (some .int) RX9 (qEw h0) 36 [some (.ref 0), some (.int x2)] [] h3 (k x2 h3)) : ∀ (n : Nat) (x2 : Int32) (h3 : qH), PW UM ROM l R9_back cX9_back 2 (some .int) RX9 (qEw h0) 11 [some (.ref 0), some (.int x2)] [] h3 (f9_back_L11 k n x2 h3) := by
  intro n
  induction n with
  | zero => intro _ _; exact p_none
  | succ n ih =>
    intro x2 h3
    unfold f9_back_L11
    refine p_iload_n rfl dX9_back_11 rfl ?_
    refine p_sipush (v := (353 : Int32)) ksipush_353 dX9_back_12 rfl ?_
    refine p_if (fun c4 => ?_) (fun c4 => ?_)
    · refine p_icmp_ge_t (tgt := 36) dX9_back_15 (by decide) c4 ?_
      exact hk x2 h3
    · refine p_icmp_ge_f (tgt := 36) dX9_back_15 (by decide) rfl c4 ?_
      refine p_aload_n rfl dX9_back_18 rfl ?_
      refine p_getr qg_RX9_34 uM_0 rfl dX9_back_19 rfl ?_
      refine p_iload_n rfl dX9_back_22 rfl ?_
      refine p_aload_n rfl dX9_back_23 rfl ?_
      refine p_getr qg_RX9_62 uM_0 rfl dX9_back_24 rfl ?_
      refine p_iload_n rfl dX9_back_27 rfl ?_
      refine p_iald uM_18 dX9_back_28 rfl (fun _ => ?_)
      refine p_iast qokM uM_9 dX9_back_29 rfl (fun _ => ?_)
      refine p_nmH (fun h5 => ?_)
      refine p_iiN (v := (1 : Int32)) (lf := fun x6 => [some (.ref 0), some (.int x6)]) kiconst_1 dX9_back_30 rfl rfl rfl rfl (fun _ => rfl) (fun x6 => ?_)
      refine p_goto (tgt := 11) dX9_back_33 (by decide) ?_
      exact ih x6 h5
noncomputable def f9_back (h : qH) : Option (Int32 × qH) :=
  if (h.1 0 34) = 0 then (
    some ((-1 : Int32), h))
  else (
    f9_back_L11 (fun (x7 : Int32) (h8 : qH) =>
      qlt (qw h8 0 23 (0 : Int32)) fun (h9 : qH) =>
      some ((h9.1 9 170), h9)) qN (0 : Int32) h)
set_option maxRecDepth 100000 in
set_option maxHeartbeats 4000000 in
theorem m9_back (l : Launch) : qMet UM ROM l yX9_back (qws yX9_back cX9_back 2 (some .int)) R9_back [.ref 0] f9_back qEw := by
  refine q_met (own := RX9) 1 (by decide) rfl (Nat.le_of_ble_eq_true rfl) (ls := [some (.ref 0), none]) rfl fun h => ?_
  unfold f9_back
  show PW UM ROM l R9_back cX9_back 2 (some .int) RX9 (qEw h) 0 [some (.ref 0), none] [] h _
  refine p_aload_n rfl dX9_back_0 rfl ?_
  refine p_geti qg_RX9_181 uM_0 rfl dX9_back_1 rfl ?_
  refine p_if (fun c1 => ?_) (fun c1 => ?_)
  · refine p_if_ne_f (tgt := 9) dX9_back_4 (by decide) rfl c1 ?_
    refine p_iconst (v := (-1 : Int32)) kiconst_m1 dX9_back_7 rfl ?_
    exact p_iret rfl rfl dX9_back_8
  · refine p_if_ne_t (tgt := 9) dX9_back_4 (by decide) c1 ?_
    refine p_iconst (v := (0 : Int32)) kiconst_0 dX9_back_9 rfl ?_
    refine p_is_n (ls' := [some (.ref 0), some (.int (0 : Int32))]) dX9_back_10 rfl rfl rfl rfl ?_
    refine w9_back_L11 l h (fun x7 h8 => ?_) qN _ _
    refine p_aload_n rfl dX9_back_36 rfl ?_
    refine p_iconst (v := (0 : Int32)) kiconst_0 dX9_back_37 rfl ?_
    refine p_puti qokM qp_RX9_178 uM_0 rfl dX9_back_38 rfl ?_
    refine p_nmH (fun h9 => ?_)
    refine p_aload_n rfl dX9_back_41 rfl ?_
    refine p_getr qg_RX9_34 uM_0 rfl dX9_back_42 rfl ?_
    refine p_sipush (v := (170 : Int32)) ksipush_170 dX9_back_45 rfl ?_
    refine p_ialdK uM_9 kix_170 kqin_170_353 dX9_back_48 rfl ?_
    exact p_iret rfl rfl dX9_back_49
noncomputable def f9_count (p1 : Int32) (h : qH) : Option (Int32) :=
  if p1 = (0 : Int32) then (
    some (h.1 0 12))
  else (
    if p1 = (1 : Int32) then (
    some (h.1 0 15))
  else (
    if p1 = (2 : Int32) then (
    some (h.1 0 2))
  else (
    if p1 = (3 : Int32) then (
    some (h.1 9 172))
  else (
    if p1 = (4 : Int32) then (
    some (h.1 0 23))
  else (
    if p1 = (5 : Int32) then (
    some (h.1 9 168))
  else (
    some (-1000000 : Int32)))))))
set_option maxRecDepth 100000 in
set_option maxHeartbeats 4000000 in
theorem m9_count (l : Launch) (p1 : Int32) : qMet UM ROM l yX9_count (qws yX9_count cX9_count 2 (some .int)) R9_count [.ref 0, .int p1] (f9_count p1) qEr := by
  refine q_met (own := RX9) 0 (by decide) rfl (Nat.le_of_ble_eq_true rfl) (ls := [some (.ref 0), some (.int p1)]) rfl fun h => ?_
  unfold f9_count
  refine p_iload_n rfl dX9_count_0 rfl ?_
  refine p_if (fun c1 => ?_) (fun c1 => ?_)
  · refine p_swI (v := (0 : Int32)) (tgt := 40) dX9_count_1 c1 (by decide) (by decide) rfl (by decide) ?_
    refine p_aload_n rfl dX9_count_40 rfl ?_
    refine p_geti qg_RX9_153 uM_0 rfl dX9_count_41 rfl ?_
    exact p_iret rfl rfl dX9_count_44
  · refine p_if (fun c2 => ?_) (fun c2 => ?_)
    · refine p_swI (v := (1 : Int32)) (tgt := 45) dX9_count_1 c2 (by decide) (by decide) rfl (by decide) ?_
      refine p_aload_n rfl dX9_count_45 rfl ?_
      refine p_geti qg_RX9_188 uM_0 rfl dX9_count_46 rfl ?_
      exact p_iret rfl rfl dX9_count_49
    · refine p_if (fun c3 => ?_) (fun c3 => ?_)
      · refine p_swI (v := (2 : Int32)) (tgt := 50) dX9_count_1 c3 (by decide) (by decide) rfl (by decide) ?_
        refine p_aload_n rfl dX9_count_50 rfl ?_
        refine p_geti qg_RX9_73 uM_0 rfl dX9_count_51 rfl ?_
        exact p_iret rfl rfl dX9_count_54
      · refine p_if (fun c4 => ?_) (fun c4 => ?_)
        · refine p_swI (v := (3 : Int32)) (tgt := 55) dX9_count_1 c4 (by decide) (by decide) rfl (by decide) ?_
          refine p_aload_n rfl dX9_count_55 rfl ?_
          refine p_getr qg_RX9_34 uM_0 rfl dX9_count_56 rfl ?_
          refine p_sipush (v := (172 : Int32)) ksipush_172 dX9_count_59 rfl ?_
          refine p_ialdK uM_9 kix_172 kqin_172_353 dX9_count_62 rfl ?_
          exact p_iret rfl rfl dX9_count_63
        · refine p_if (fun c5 => ?_) (fun c5 => ?_)
          · refine p_swI (v := (4 : Int32)) (tgt := 64) dX9_count_1 c5 (by decide) (by decide) rfl (by decide) ?_
            refine p_aload_n rfl dX9_count_64 rfl ?_
            refine p_geti qg_RX9_178 uM_0 rfl dX9_count_65 rfl ?_
            exact p_iret rfl rfl dX9_count_68
          · refine p_if (fun c6 => ?_) (fun c6 => ?_)
            · refine p_swI (v := (5 : Int32)) (tgt := 69) dX9_count_1 c6 (by decide) (by decide) rfl (by decide) ?_
              refine p_aload_n rfl dX9_count_69 rfl ?_
              refine p_getr qg_RX9_34 uM_0 rfl dX9_count_70 rfl ?_
              refine p_sipush (v := (168 : Int32)) ksipush_168 dX9_count_73 rfl ?_
              refine p_ialdK uM_9 kix_168 kqin_168_353 dX9_count_76 rfl ?_
              exact p_iret rfl rfl dX9_count_77
            · refine p_swO (tgt := 78) dX9_count_1 (by
                  have c1' := lv_neT c1 (a := 0) (by decide)
                  have c2' := lv_neT c2 (a := 1) (by decide)
                  have c3' := lv_neT c3 (a := 2) (by decide)
                  have c4' := lv_neT c4 (a := 3) (by decide)
                  have c5' := lv_neT c5 (a := 4) (by decide)
                  have c6' := lv_neT c6 (a := 5) (by decide)
                  omega) (by decide) ?_
              refine p_ldcw (v := (-1000000 : Int32)) kcRX9_363 dX9_count_78 rfl ?_
              exact p_iret rfl rfl dX9_count_81
