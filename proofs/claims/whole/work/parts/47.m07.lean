noncomputable def f9_whyRescue_L16 (z3 : Int32) (h : qH) (k : Int32 → Option (Int32)) : Nat → Int32 → Option (Int32)
  | 0, _ => none
  | n + 1, x4 =>
    if (h.1 0 12) ≤ x4 then (
      k x4)
    else (
      (f9_has z3 x4 h).bind fun (z6 : Int32) =>
      if z6 = 0 then (
        qlt (x4 + (1 : Int32)) fun (x8 : Int32) =>
        f9_whyRescue_L16 z3 h k n x8)
      else (
        (f9_targetOf x4 h).bind fun (z9 : Int32) =>
        if z9 = (-1 : Int32) then (
          qlt (x4 + (1 : Int32)) fun (x11 : Int32) =>
          f9_whyRescue_L16 z3 h k n x11)
        else (
          some (-1 : Int32))))
set_option maxRecDepth 100000 in
set_option maxHeartbeats 4000000 in
theorem w9_whyRescue_L16 (l : Launch) (z3 : Int32) (h : qH) {k : Int32 → Option (Int32)} (hk : ∀ (x4 : Int32), PW UM ROM l R9_whyRescue cX9_whyRescue 3 (some .int) RX9 (qEr h) 49 [some (.ref 0), some (.int z3), some (.int x4)] [] h (k x4)) : ∀ (n : Nat) (x4 : Int32), PW UM ROM l R9_whyRescue cX9_whyRescue 3 (some .int) RX9 (qEr h) 16 [some (.ref 0), some (.int z3), some (.int x4)] [] h (f9_whyRescue_L16 z3 h k n x4) := by
  intro n
  induction n with
  | zero => intro _; exact p_none
  | succ n ih =>
    intro x4
    unfold f9_whyRescue_L16
    refine p_iload_n rfl dX9_whyRescue_16 rfl ?_
    refine p_aload_n rfl dX9_whyRescue_17 rfl ?_
    refine p_geti qg_RX9_153 uM_0 rfl dX9_whyRescue_18 rfl ?_
    refine p_if (fun c5 => ?_) (fun c5 => ?_)
    · refine p_icmp_ge_t (tgt := 49) dX9_whyRescue_21 (by decide) c5 ?_
      exact hk x4
    · refine p_icmp_ge_f (tgt := 49) dX9_whyRescue_21 (by decide) rfl c5 ?_
      refine p_iload_n rfl dX9_whyRescue_24 rfl ?_
      refine p_iload_n rfl dX9_whyRescue_25 rfl ?_
      refine p_callSr (f := f9_has z3 x4) (st := []) [.int z3, .int x4] qRokM (m9_has l z3 x4) cal_RX9_111 rfl ⟨rfl, rfl⟩ ⟨Nat.le_of_ble_eq_true rfl, Nat.le_of_ble_eq_true rfl⟩ (Nat.le_of_ble_eq_true rfl) dX9_whyRescue_26 rfl (fun z6 => ?_)
      refine p_if (fun c7 => ?_) (fun c7 => ?_)
      · refine p_if_eq_t (tgt := 43) dX9_whyRescue_29 (by decide) c7 ?_
        refine p_iiN (v := (1 : Int32)) (lf := fun x8 => [some (.ref 0), some (.int z3), some (.int x8)]) kiconst_1 dX9_whyRescue_43 rfl rfl rfl rfl (fun _ => rfl) (fun x8 => ?_)
        refine p_goto (tgt := 16) dX9_whyRescue_46 (by decide) ?_
        exact ih x8
      · refine p_if_eq_f (tgt := 43) dX9_whyRescue_29 (by decide) rfl c7 ?_
        refine p_aload_n rfl dX9_whyRescue_32 rfl ?_
        refine p_iload_n rfl dX9_whyRescue_33 rfl ?_
        refine p_callVr (f := f9_targetOf x4) (st := []) [.int x4] qRokM (m9_targetOf l x4) cal_RX9_274 uM_0 rfl rfl ⟨rfl, rfl⟩ ⟨Nat.le_of_ble_eq_true rfl, Nat.le_of_ble_eq_true rfl⟩ (Nat.le_of_ble_eq_true rfl) dX9_whyRescue_34 rfl (fun z9 => ?_)
        refine p_iconst (v := (-1 : Int32)) kiconst_m1 dX9_whyRescue_37 rfl ?_
        refine p_if (fun c10 => ?_) (fun c10 => ?_)
        · refine p_icmp_eq_t (tgt := 43) dX9_whyRescue_38 (by decide) c10 ?_
          refine p_iiN (v := (1 : Int32)) (lf := fun x11 => [some (.ref 0), some (.int z3), some (.int x11)]) kiconst_1 dX9_whyRescue_43 rfl rfl rfl rfl (fun _ => rfl) (fun x11 => ?_)
          refine p_goto (tgt := 16) dX9_whyRescue_46 (by decide) ?_
          exact ih x11
        · refine p_icmp_eq_f (tgt := 43) dX9_whyRescue_38 (by decide) rfl c10 ?_
          refine p_iconst (v := (-1 : Int32)) kiconst_m1 dX9_whyRescue_41 rfl ?_
          exact p_iret rfl rfl dX9_whyRescue_42
noncomputable def f9_whyRescue (h : qH) : Option (Int32) :=
  (f9_isHall h).bind fun (z1 : Int32) =>
  if z1 = 0 then (
    some (0 : Int32))
  else (
    (f9_weakOnes h).bind fun (z3 : Int32) =>
    f9_whyRescue_L16 z3 h (fun (x12 : Int32) =>
      some (2 : Int32)) qN (0 : Int32))
set_option maxRecDepth 100000 in
set_option maxHeartbeats 4000000 in
theorem m9_whyRescue (l : Launch) : qMet UM ROM l yX9_whyRescue (qws yX9_whyRescue cX9_whyRescue 3 (some .int)) R9_whyRescue [.ref 0] f9_whyRescue qEr := by
  refine q_met (own := RX9) 2 (by decide) rfl (Nat.le_of_ble_eq_true rfl) (ls := [some (.ref 0), none, none]) rfl fun h => ?_
  unfold f9_whyRescue
  refine p_aload_n rfl dX9_whyRescue_0 rfl ?_
  refine p_callVr (f := f9_isHall) (st := []) [] qRokM (m9_isHall l) cal_RX9_156 uM_0 rfl rfl ⟨rfl, rfl⟩ ⟨Nat.le_of_ble_eq_true rfl, Nat.le_of_ble_eq_true rfl⟩ (Nat.le_of_ble_eq_true rfl) dX9_whyRescue_1 rfl (fun z1 => ?_)
  refine p_if (fun c2 => ?_) (fun c2 => ?_)
  · refine p_if_ne_f (tgt := 9) dX9_whyRescue_4 (by decide) rfl c2 ?_
    refine p_iconst (v := (0 : Int32)) kiconst_0 dX9_whyRescue_7 rfl ?_
    exact p_iret rfl rfl dX9_whyRescue_8
  · refine p_if_ne_t (tgt := 9) dX9_whyRescue_4 (by decide) c2 ?_
    refine p_aload_n rfl dX9_whyRescue_9 rfl ?_
    refine p_callVr (f := f9_weakOnes) (st := []) [] qRokM (m9_weakOnes l) cal_RX9_271 uM_0 rfl rfl ⟨rfl, rfl⟩ ⟨Nat.le_of_ble_eq_true rfl, Nat.le_of_ble_eq_true rfl⟩ (Nat.le_of_ble_eq_true rfl) dX9_whyRescue_10 rfl (fun z3 => ?_)
    refine p_is_n (ls' := [some (.ref 0), some (.int z3), none]) dX9_whyRescue_13 rfl rfl rfl rfl ?_
    refine p_iconst (v := (0 : Int32)) kiconst_0 dX9_whyRescue_14 rfl ?_
    refine p_is_n (ls' := [some (.ref 0), some (.int z3), some (.int (0 : Int32))]) dX9_whyRescue_15 rfl rfl rfl rfl ?_
    refine w9_whyRescue_L16 l z3 h (fun x12 => ?_) qN _
    refine p_iconst (v := (2 : Int32)) kiconst_2 dX9_whyRescue_49 rfl ?_
    exact p_iret rfl rfl dX9_whyRescue_50
noncomputable def f9_whyNot (p1 : Int32) (p2 : Int32) (p3 : Int32) (h : qH) : Option (Int32) :=
  if p1 = (0 : Int32) then (
    (f9_whyAsk p2 h).bind fun (z2 : Int32) =>
    some z2)
  else (
    if p1 = (1 : Int32) then (
    (f9_isHall h).bind fun (z4 : Int32) =>
    qj (fun (x5 : Int32) =>
      some x5) fun j6 =>
    if z4 = 0 then (
      j6 (0 : Int32))
    else (
      (f9_nextTape h).bind fun (z9 : Int32) =>
      if z9 = (-1 : Int32) then (
        j6 (2 : Int32))
      else (
        j6 (-1 : Int32))))
  else (
    if p1 = (2 : Int32) then (
    (f9_whyWrite p2 p3 h).bind fun (z12 : Int32) =>
    some z12)
  else (
    if p1 = (3 : Int32) then (
    (f9_isHeld p2 h).bind fun (z14 : Int32) =>
    qlt (if z14 = 0 then (0 : Int32) else (-1 : Int32)) fun (x16 : Int32) =>
    some x16)
  else (
    if p1 = (4 : Int32) then (
    (f9_isTape p2 h).bind fun (z18 : Int32) =>
    qj (fun (x19 : Int32) =>
      some x19) fun j20 =>
    if z18 = 0 then (
      j20 (0 : Int32))
    else (
      (f9_isDriven p2 h).bind fun (z23 : Int32) =>
      if z23 = 0 then (
        j20 (-1 : Int32))
      else (
        j20 (2 : Int32))))
  else (
    if p1 = (5 : Int32) then (
    (f9_isTape p2 h).bind fun (z26 : Int32) =>
    qj (fun (x27 : Int32) =>
      some x27) fun j28 =>
    if z26 = 0 then (
      j28 (0 : Int32))
    else (
      (f9_isDriven p2 h).bind fun (z31 : Int32) =>
      if z31 = 0 then (
        j28 (2 : Int32))
      else (
        j28 (-1 : Int32))))
  else (
    if p1 = (6 : Int32) then (
    (f9_whyCopy p2 p3 h).bind fun (z34 : Int32) =>
    some z34)
  else (
    if p1 = (7 : Int32) then (
    (f9_isHall h).bind fun (z36 : Int32) =>
    qj (fun (x37 : Int32) =>
      some x37) fun j38 =>
    if z36 = 0 then (
      j38 (0 : Int32))
    else (
      (f9_knownMany h).bind fun (z41 : Int32) =>
      if z41 = 0 then (
        j38 (2 : Int32))
      else (
        j38 (-1 : Int32))))
  else (
    if p1 = (8 : Int32) then (
    (f9_isTape p2 h).bind fun (z44 : Int32) =>
    qlt (if z44 = 0 then (0 : Int32) else (-1 : Int32)) fun (x46 : Int32) =>
    some x46)
  else (
    if p1 = (9 : Int32) then (
    (f9_isHall h).bind fun (z48 : Int32) =>
    qj (fun (x49 : Int32) =>
      some x49) fun j50 =>
    if z48 = 0 then (
      j50 (0 : Int32))
    else (
      (f9_in p2 (1 : Int32) (99 : Int32) h).bind fun (z53 : Int32) =>
      if z53 = 0 then (
        j50 (1 : Int32))
      else (
        j50 (-1 : Int32))))
  else (
    (f9_whyRescue h).bind fun (z55 : Int32) =>
    some z55))))))))))
set_option maxRecDepth 100000 in
set_option maxHeartbeats 4000000 in
theorem m9_whyNot (l : Launch) (p1 : Int32) (p2 : Int32) (p3 : Int32) : qMet UM ROM l yX9_whyNot (qws yX9_whyNot cX9_whyNot 4 (some .int)) R9_whyNot [.ref 0, .int p1, .int p2, .int p3] (f9_whyNot p1 p2 p3) qEr := by
  refine q_met (own := RX9) 0 (by decide) rfl (Nat.le_of_ble_eq_true rfl) (ls := [some (.ref 0), some (.int p1), some (.int p2), some (.int p3)]) rfl fun h => ?_
  unfold f9_whyNot
  refine p_iload_n rfl dX9_whyNot_0 rfl ?_
  refine p_if (fun c1 => ?_) (fun c1 => ?_)
  · refine p_swI (v := (0 : Int32)) (tgt := 56) dX9_whyNot_1 c1 (by decide) (by decide) rfl (by decide) ?_
    refine p_aload_n rfl dX9_whyNot_56 rfl ?_
    refine p_iload_n rfl dX9_whyNot_57 rfl ?_
    refine p_callVr (f := f9_whyAsk p2) (st := []) [.int p2] qRokM (m9_whyAsk l p2) cal_RX9_295 uM_0 rfl rfl ⟨rfl, rfl⟩ ⟨Nat.le_of_ble_eq_true rfl, Nat.le_of_ble_eq_true rfl⟩ (Nat.le_of_ble_eq_true rfl) dX9_whyNot_58 rfl (fun z2 => ?_)
    exact p_iret rfl rfl dX9_whyNot_61
  · refine p_if (fun c3 => ?_) (fun c3 => ?_)
    · refine p_swI (v := (1 : Int32)) (tgt := 62) dX9_whyNot_1 c3 (by decide) (by decide) rfl (by decide) ?_
      refine p_aload_n rfl dX9_whyNot_62 rfl ?_
      refine p_callVr (f := f9_isHall) (st := []) [] qRokM (m9_isHall l) cal_RX9_156 uM_0 rfl rfl ⟨rfl, rfl⟩ ⟨Nat.le_of_ble_eq_true rfl, Nat.le_of_ble_eq_true rfl⟩ (Nat.le_of_ble_eq_true rfl) dX9_whyNot_63 rfl (fun z4 => ?_)
      refine p_jn (fun j6 => ∀ (x5 : Int32), PW UM ROM l R9_whyNot cX9_whyNot 4 (some .int) RX9 (qEr h) 86 [some (.ref 0), some (.int p1), some (.int p2), some (.int p3)] [.int x5] h (j6 x5)) (fun x5 => ?_) (fun j6 J7 => ?_)
      · exact p_iret rfl rfl dX9_whyNot_86
      · refine p_if (fun c8 => ?_) (fun c8 => ?_)
        · refine p_if_ne_f (tgt := 73) dX9_whyNot_66 (by decide) rfl c8 ?_
          refine p_iconst (v := (0 : Int32)) kiconst_0 dX9_whyNot_69 rfl ?_
          refine p_goto (tgt := 86) dX9_whyNot_70 (by decide) ?_
          exact J7 (0 : Int32)
        · refine p_if_ne_t (tgt := 73) dX9_whyNot_66 (by decide) c8 ?_
          refine p_aload_n rfl dX9_whyNot_73 rfl ?_
          refine p_callVr (f := f9_nextTape) (st := []) [] qRokM (m9_nextTape l) cal_RX9_250 uM_0 rfl rfl ⟨rfl, rfl⟩ ⟨Nat.le_of_ble_eq_true rfl, Nat.le_of_ble_eq_true rfl⟩ (Nat.le_of_ble_eq_true rfl) dX9_whyNot_74 rfl (fun z9 => ?_)
          refine p_iconst (v := (-1 : Int32)) kiconst_m1 dX9_whyNot_77 rfl ?_
          refine p_if (fun c10 => ?_) (fun c10 => ?_)
          · refine p_icmp_ne_f (tgt := 85) dX9_whyNot_78 (by decide) rfl c10 ?_
            refine p_iconst (v := (2 : Int32)) kiconst_2 dX9_whyNot_81 rfl ?_
            refine p_goto (tgt := 86) dX9_whyNot_82 (by decide) ?_
            exact J7 (2 : Int32)
          · refine p_icmp_ne_t (tgt := 85) dX9_whyNot_78 (by decide) c10 ?_
            refine p_iconst (v := (-1 : Int32)) kiconst_m1 dX9_whyNot_85 rfl ?_
            exact J7 (-1 : Int32)
    · refine p_if (fun c11 => ?_) (fun c11 => ?_)
      · refine p_swI (v := (2 : Int32)) (tgt := 87) dX9_whyNot_1 c11 (by decide) (by decide) rfl (by decide) ?_
        refine p_aload_n rfl dX9_whyNot_87 rfl ?_
        refine p_iload_n rfl dX9_whyNot_88 rfl ?_
        refine p_iload_n rfl dX9_whyNot_89 rfl ?_
        refine p_callVr (f := f9_whyWrite p2 p3) (st := []) [.int p2, .int p3] qRokM (m9_whyWrite l p2 p3) cal_RX9_298 uM_0 rfl rfl ⟨rfl, rfl⟩ ⟨Nat.le_of_ble_eq_true rfl, Nat.le_of_ble_eq_true rfl⟩ (Nat.le_of_ble_eq_true rfl) dX9_whyNot_90 rfl (fun z12 => ?_)
        exact p_iret rfl rfl dX9_whyNot_93
      · refine p_if (fun c13 => ?_) (fun c13 => ?_)
        · refine p_swI (v := (3 : Int32)) (tgt := 94) dX9_whyNot_1 c13 (by decide) (by decide) rfl (by decide) ?_
          refine p_aload_n rfl dX9_whyNot_94 rfl ?_
          refine p_iload_n rfl dX9_whyNot_95 rfl ?_
          refine p_callVr (f := f9_isHeld p2) (st := []) [.int p2] qRokM (m9_isHeld l p2) cal_RX9_289 uM_0 rfl rfl ⟨rfl, rfl⟩ ⟨Nat.le_of_ble_eq_true rfl, Nat.le_of_ble_eq_true rfl⟩ (Nat.le_of_ble_eq_true rfl) dX9_whyNot_96 rfl (fun z14 => ?_)
          refine p_vj 107 [some (.ref 0), some (.int p1), some (.int p2), some (.int p3)] [] (fun x16 => ?_) (fun J => ?_)
          · exact p_iret rfl rfl dX9_whyNot_107
          · refine p_dia (fun c15 => ?_) (fun c15 => ?_)
            · refine p_if_eq_t (tgt := 106) dX9_whyNot_99 (by decide) c15 ?_
              refine p_iconst (v := (0 : Int32)) kiconst_0 dX9_whyNot_106 rfl ?_
              exact J _
            · refine p_if_eq_f (tgt := 106) dX9_whyNot_99 (by decide) rfl c15 ?_
              refine p_iconst (v := (-1 : Int32)) kiconst_m1 dX9_whyNot_102 rfl ?_
              refine p_goto (tgt := 107) dX9_whyNot_103 (by decide) ?_
              exact J _
        · refine p_if (fun c17 => ?_) (fun c17 => ?_)
          · refine p_swI (v := (4 : Int32)) (tgt := 108) dX9_whyNot_1 c17 (by decide) (by decide) rfl (by decide) ?_
            refine p_aload_n rfl dX9_whyNot_108 rfl ?_
            refine p_iload_n rfl dX9_whyNot_109 rfl ?_
            refine p_callVr (f := f9_isTape p2) (st := []) [.int p2] qRokM (m9_isTape l p2) cal_RX9_169 uM_0 rfl rfl ⟨rfl, rfl⟩ ⟨Nat.le_of_ble_eq_true rfl, Nat.le_of_ble_eq_true rfl⟩ (Nat.le_of_ble_eq_true rfl) dX9_whyNot_110 rfl (fun z18 => ?_)
            refine p_jn (fun j20 => ∀ (x19 : Int32), PW UM ROM l R9_whyNot cX9_whyNot 4 (some .int) RX9 (qEr h) 133 [some (.ref 0), some (.int p1), some (.int p2), some (.int p3)] [.int x19] h (j20 x19)) (fun x19 => ?_) (fun j20 J21 => ?_)
            · exact p_iret rfl rfl dX9_whyNot_133
            · refine p_if (fun c22 => ?_) (fun c22 => ?_)
              · refine p_if_ne_f (tgt := 120) dX9_whyNot_113 (by decide) rfl c22 ?_
                refine p_iconst (v := (0 : Int32)) kiconst_0 dX9_whyNot_116 rfl ?_
                refine p_goto (tgt := 133) dX9_whyNot_117 (by decide) ?_
                exact J21 (0 : Int32)
              · refine p_if_ne_t (tgt := 120) dX9_whyNot_113 (by decide) c22 ?_
                refine p_aload_n rfl dX9_whyNot_120 rfl ?_
                refine p_iload_n rfl dX9_whyNot_121 rfl ?_
                refine p_callVr (f := f9_isDriven p2) (st := []) [.int p2] qRokM (m9_isDriven l p2) cal_RX9_209 uM_0 rfl rfl ⟨rfl, rfl⟩ ⟨Nat.le_of_ble_eq_true rfl, Nat.le_of_ble_eq_true rfl⟩ (Nat.le_of_ble_eq_true rfl) dX9_whyNot_122 rfl (fun z23 => ?_)
                refine p_if (fun c24 => ?_) (fun c24 => ?_)
                · refine p_if_eq_t (tgt := 132) dX9_whyNot_125 (by decide) c24 ?_
                  refine p_iconst (v := (-1 : Int32)) kiconst_m1 dX9_whyNot_132 rfl ?_
                  exact J21 (-1 : Int32)
                · refine p_if_eq_f (tgt := 132) dX9_whyNot_125 (by decide) rfl c24 ?_
                  refine p_iconst (v := (2 : Int32)) kiconst_2 dX9_whyNot_128 rfl ?_
                  refine p_goto (tgt := 133) dX9_whyNot_129 (by decide) ?_
                  exact J21 (2 : Int32)
          · refine p_if (fun c25 => ?_) (fun c25 => ?_)
            · refine p_swI (v := (5 : Int32)) (tgt := 134) dX9_whyNot_1 c25 (by decide) (by decide) rfl (by decide) ?_
              refine p_aload_n rfl dX9_whyNot_134 rfl ?_
              refine p_iload_n rfl dX9_whyNot_135 rfl ?_
              refine p_callVr (f := f9_isTape p2) (st := []) [.int p2] qRokM (m9_isTape l p2) cal_RX9_169 uM_0 rfl rfl ⟨rfl, rfl⟩ ⟨Nat.le_of_ble_eq_true rfl, Nat.le_of_ble_eq_true rfl⟩ (Nat.le_of_ble_eq_true rfl) dX9_whyNot_136 rfl (fun z26 => ?_)
              refine p_jn (fun j28 => ∀ (x27 : Int32), PW UM ROM l R9_whyNot cX9_whyNot 4 (some .int) RX9 (qEr h) 159 [some (.ref 0), some (.int p1), some (.int p2), some (.int p3)] [.int x27] h (j28 x27)) (fun x27 => ?_) (fun j28 J29 => ?_)
              · exact p_iret rfl rfl dX9_whyNot_159
              · refine p_if (fun c30 => ?_) (fun c30 => ?_)
                · refine p_if_ne_f (tgt := 146) dX9_whyNot_139 (by decide) rfl c30 ?_
                  refine p_iconst (v := (0 : Int32)) kiconst_0 dX9_whyNot_142 rfl ?_
                  refine p_goto (tgt := 159) dX9_whyNot_143 (by decide) ?_
                  exact J29 (0 : Int32)
                · refine p_if_ne_t (tgt := 146) dX9_whyNot_139 (by decide) c30 ?_
                  refine p_aload_n rfl dX9_whyNot_146 rfl ?_
                  refine p_iload_n rfl dX9_whyNot_147 rfl ?_
                  refine p_callVr (f := f9_isDriven p2) (st := []) [.int p2] qRokM (m9_isDriven l p2) cal_RX9_209 uM_0 rfl rfl ⟨rfl, rfl⟩ ⟨Nat.le_of_ble_eq_true rfl, Nat.le_of_ble_eq_true rfl⟩ (Nat.le_of_ble_eq_true rfl) dX9_whyNot_148 rfl (fun z31 => ?_)
                  refine p_if (fun c32 => ?_) (fun c32 => ?_)
                  · refine p_if_eq_t (tgt := 158) dX9_whyNot_151 (by decide) c32 ?_
                    refine p_iconst (v := (2 : Int32)) kiconst_2 dX9_whyNot_158 rfl ?_
                    exact J29 (2 : Int32)
                  · refine p_if_eq_f (tgt := 158) dX9_whyNot_151 (by decide) rfl c32 ?_
                    refine p_iconst (v := (-1 : Int32)) kiconst_m1 dX9_whyNot_154 rfl ?_
                    refine p_goto (tgt := 159) dX9_whyNot_155 (by decide) ?_
                    exact J29 (-1 : Int32)
            · refine p_if (fun c33 => ?_) (fun c33 => ?_)
              · refine p_swI (v := (6 : Int32)) (tgt := 160) dX9_whyNot_1 c33 (by decide) (by decide) rfl (by decide) ?_
                refine p_aload_n rfl dX9_whyNot_160 rfl ?_
                refine p_iload_n rfl dX9_whyNot_161 rfl ?_
                refine p_iload_n rfl dX9_whyNot_162 rfl ?_
                refine p_callVr (f := f9_whyCopy p2 p3) (st := []) [.int p2, .int p3] qRokM (m9_whyCopy l p2 p3) cal_RX9_301 uM_0 rfl rfl ⟨rfl, rfl⟩ ⟨Nat.le_of_ble_eq_true rfl, Nat.le_of_ble_eq_true rfl⟩ (Nat.le_of_ble_eq_true rfl) dX9_whyNot_163 rfl (fun z34 => ?_)
                exact p_iret rfl rfl dX9_whyNot_166
              · refine p_if (fun c35 => ?_) (fun c35 => ?_)
                · refine p_swI (v := (7 : Int32)) (tgt := 167) dX9_whyNot_1 c35 (by decide) (by decide) rfl (by decide) ?_
                  refine p_aload_n rfl dX9_whyNot_167 rfl ?_
                  refine p_callVr (f := f9_isHall) (st := []) [] qRokM (m9_isHall l) cal_RX9_156 uM_0 rfl rfl ⟨rfl, rfl⟩ ⟨Nat.le_of_ble_eq_true rfl, Nat.le_of_ble_eq_true rfl⟩ (Nat.le_of_ble_eq_true rfl) dX9_whyNot_168 rfl (fun z36 => ?_)
                  refine p_jn (fun j38 => ∀ (x37 : Int32), PW UM ROM l R9_whyNot cX9_whyNot 4 (some .int) RX9 (qEr h) 190 [some (.ref 0), some (.int p1), some (.int p2), some (.int p3)] [.int x37] h (j38 x37)) (fun x37 => ?_) (fun j38 J39 => ?_)
                  · exact p_iret rfl rfl dX9_whyNot_190
                  · refine p_if (fun c40 => ?_) (fun c40 => ?_)
                    · refine p_if_ne_f (tgt := 178) dX9_whyNot_171 (by decide) rfl c40 ?_
                      refine p_iconst (v := (0 : Int32)) kiconst_0 dX9_whyNot_174 rfl ?_
                      refine p_goto (tgt := 190) dX9_whyNot_175 (by decide) ?_
                      exact J39 (0 : Int32)
                    · refine p_if_ne_t (tgt := 178) dX9_whyNot_171 (by decide) c40 ?_
                      refine p_aload_n rfl dX9_whyNot_178 rfl ?_
                      refine p_callVr (f := f9_knownMany) (st := []) [] qRokM (m9_knownMany l) cal_RX9_286 uM_0 rfl rfl ⟨rfl, rfl⟩ ⟨Nat.le_of_ble_eq_true rfl, Nat.le_of_ble_eq_true rfl⟩ (Nat.le_of_ble_eq_true rfl) dX9_whyNot_179 rfl (fun z41 => ?_)
                      refine p_if (fun c42 => ?_) (fun c42 => ?_)
                      · refine p_if_ne_f (tgt := 189) dX9_whyNot_182 (by decide) rfl c42 ?_
                        refine p_iconst (v := (2 : Int32)) kiconst_2 dX9_whyNot_185 rfl ?_
                        refine p_goto (tgt := 190) dX9_whyNot_186 (by decide) ?_
                        exact J39 (2 : Int32)
                      · refine p_if_ne_t (tgt := 189) dX9_whyNot_182 (by decide) c42 ?_
                        refine p_iconst (v := (-1 : Int32)) kiconst_m1 dX9_whyNot_189 rfl ?_
                        exact J39 (-1 : Int32)
                · refine p_if (fun c43 => ?_) (fun c43 => ?_)
                  · refine p_swI (v := (8 : Int32)) (tgt := 191) dX9_whyNot_1 c43 (by decide) (by decide) rfl (by decide) ?_
                    refine p_aload_n rfl dX9_whyNot_191 rfl ?_
                    refine p_iload_n rfl dX9_whyNot_192 rfl ?_
                    refine p_callVr (f := f9_isTape p2) (st := []) [.int p2] qRokM (m9_isTape l p2) cal_RX9_169 uM_0 rfl rfl ⟨rfl, rfl⟩ ⟨Nat.le_of_ble_eq_true rfl, Nat.le_of_ble_eq_true rfl⟩ (Nat.le_of_ble_eq_true rfl) dX9_whyNot_193 rfl (fun z44 => ?_)
                    refine p_vj 204 [some (.ref 0), some (.int p1), some (.int p2), some (.int p3)] [] (fun x46 => ?_) (fun J => ?_)
                    · exact p_iret rfl rfl dX9_whyNot_204
                    · refine p_dia (fun c45 => ?_) (fun c45 => ?_)
                      · refine p_if_eq_t (tgt := 203) dX9_whyNot_196 (by decide) c45 ?_
                        refine p_iconst (v := (0 : Int32)) kiconst_0 dX9_whyNot_203 rfl ?_
                        exact J _
                      · refine p_if_eq_f (tgt := 203) dX9_whyNot_196 (by decide) rfl c45 ?_
                        refine p_iconst (v := (-1 : Int32)) kiconst_m1 dX9_whyNot_199 rfl ?_
                        refine p_goto (tgt := 204) dX9_whyNot_200 (by decide) ?_
                        exact J _
                  · refine p_if (fun c47 => ?_) (fun c47 => ?_)
                    · refine p_swI (v := (9 : Int32)) (tgt := 205) dX9_whyNot_1 c47 (by decide) (by decide) rfl (by decide) ?_
                      refine p_aload_n rfl dX9_whyNot_205 rfl ?_
                      refine p_callVr (f := f9_isHall) (st := []) [] qRokM (m9_isHall l) cal_RX9_156 uM_0 rfl rfl ⟨rfl, rfl⟩ ⟨Nat.le_of_ble_eq_true rfl, Nat.le_of_ble_eq_true rfl⟩ (Nat.le_of_ble_eq_true rfl) dX9_whyNot_206 rfl (fun z48 => ?_)
                      refine p_jn (fun j50 => ∀ (x49 : Int32), PW UM ROM l R9_whyNot cX9_whyNot 4 (some .int) RX9 (qEr h) 231 [some (.ref 0), some (.int p1), some (.int p2), some (.int p3)] [.int x49] h (j50 x49)) (fun x49 => ?_) (fun j50 J51 => ?_)
                      · exact p_iret rfl rfl dX9_whyNot_231
                      · refine p_if (fun c52 => ?_) (fun c52 => ?_)
                        · refine p_if_ne_f (tgt := 216) dX9_whyNot_209 (by decide) rfl c52 ?_
                          refine p_iconst (v := (0 : Int32)) kiconst_0 dX9_whyNot_212 rfl ?_
                          refine p_goto (tgt := 231) dX9_whyNot_213 (by decide) ?_
                          exact J51 (0 : Int32)
                        · refine p_if_ne_t (tgt := 216) dX9_whyNot_209 (by decide) c52 ?_
                          refine p_iload_n rfl dX9_whyNot_216 rfl ?_
                          refine p_iconst (v := (1 : Int32)) kiconst_1 dX9_whyNot_217 rfl ?_
                          refine p_bipush (v := (99 : Int32)) kbipush_99 dX9_whyNot_218 rfl ?_
                          refine p_callSr (f := f9_in p2 (1 : Int32) (99 : Int32)) (st := []) [.int p2, .int (1 : Int32), .int (99 : Int32)] qRokM (m9_in l p2 (1 : Int32) (99 : Int32)) cal_RX9_76 rfl ⟨rfl, rfl⟩ ⟨Nat.le_of_ble_eq_true rfl, Nat.le_of_ble_eq_true rfl⟩ (Nat.le_of_ble_eq_true rfl) dX9_whyNot_220 rfl (fun z53 => ?_)
                          refine p_if (fun c54 => ?_) (fun c54 => ?_)
                          · refine p_if_eq_t (tgt := 230) dX9_whyNot_223 (by decide) c54 ?_
                            refine p_iconst (v := (1 : Int32)) kiconst_1 dX9_whyNot_230 rfl ?_
                            exact J51 (1 : Int32)
                          · refine p_if_eq_f (tgt := 230) dX9_whyNot_223 (by decide) rfl c54 ?_
                            refine p_iconst (v := (-1 : Int32)) kiconst_m1 dX9_whyNot_226 rfl ?_
                            refine p_goto (tgt := 231) dX9_whyNot_227 (by decide) ?_
                            exact J51 (-1 : Int32)
                    · refine p_swO (tgt := 232) dX9_whyNot_1 (by
                          have c1' := lv_neT c1 (a := 0) (by decide)
                          have c3' := lv_neT c3 (a := 1) (by decide)
                          have c11' := lv_neT c11 (a := 2) (by decide)
                          have c13' := lv_neT c13 (a := 3) (by decide)
                          have c17' := lv_neT c17 (a := 4) (by decide)
                          have c25' := lv_neT c25 (a := 5) (by decide)
                          have c33' := lv_neT c33 (a := 6) (by decide)
                          have c35' := lv_neT c35 (a := 7) (by decide)
                          have c43' := lv_neT c43 (a := 8) (by decide)
                          have c47' := lv_neT c47 (a := 9) (by decide)
                          omega) (by decide) ?_
                      refine p_aload_n rfl dX9_whyNot_232 rfl ?_
                      refine p_callVr (f := f9_whyRescue) (st := []) [] qRokM (m9_whyRescue l) cal_RX9_304 uM_0 rfl rfl ⟨rfl, rfl⟩ ⟨Nat.le_of_ble_eq_true rfl, Nat.le_of_ble_eq_true rfl⟩ (Nat.le_of_ble_eq_true rfl) dX9_whyNot_233 rfl (fun z55 => ?_)
                      exact p_iret rfl rfl dX9_whyNot_236
noncomputable def f9_keep_L54 (k : Int32 → qH → Option (qH)) : Nat → Int32 → qH → Option (qH)
  | 0, _, _ => none
  | n + 1, x4, h5 =>
    if (353 : Int32) ≤ x4 then (
      k x4 h5)
    else (
      qg (qin x4 353) <|
      qg (qin (((353 : Int32) * (h5.1 0 23)) + x4) 14120) <|
      qlt (qw h5 13 (ix (((353 : Int32) * (h5.1 0 23)) + x4)) (h5.1 9 (ix x4))) fun (h7 : qH) =>
      qlt (x4 + (1 : Int32)) fun (x8 : Int32) =>
      f9_keep_L54 k n x8 h7)
set_option maxRecDepth 100000 in
set_option maxHeartbeats 4000000 in
theorem w9_keep_L54 (l : Launch) (h0 : qH) {k : Int32 → qH → Option (qH)} (hk : ∀ (x4 : Int32) (h5 : qH), PW UM ROM l R9_keep cX9_keep 2 none RX9 (qEv h0) 88 [some (.ref 0), some (.int x4)] [] h5 (k x4 h5)) : ∀ (n : Nat) (x4 : Int32) (h5 : qH), PW UM ROM l R9_keep cX9_keep 2 none RX9 (qEv h0) 54 [some (.ref 0), some (.int x4)] [] h5 (f9_keep_L54 k n x4 h5) := by
  intro n
  induction n with
  | zero => intro _ _; exact p_none
  | succ n ih =>
    intro x4 h5
    unfold f9_keep_L54
    refine p_iload_n rfl dX9_keep_54 rfl ?_
    refine p_sipush (v := (353 : Int32)) ksipush_353 dX9_keep_55 rfl ?_
    refine p_if (fun c6 => ?_) (fun c6 => ?_)
    · refine p_icmp_ge_t (tgt := 88) dX9_keep_58 (by decide) c6 ?_
      exact hk x4 h5
    · refine p_icmp_ge_f (tgt := 88) dX9_keep_58 (by decide) rfl c6 ?_
      refine p_aload_n rfl dX9_keep_61 rfl ?_
      refine p_getr qg_RX9_46 uM_0 rfl dX9_keep_62 rfl ?_
      refine p_sipush (v := (353 : Int32)) ksipush_353 dX9_keep_65 rfl ?_
      refine p_aload_n rfl dX9_keep_68 rfl ?_
      refine p_geti qg_RX9_178 uM_0 rfl dX9_keep_69 rfl ?_
      refine p_imul dX9_keep_72 rfl ?_
      refine p_iload_n rfl dX9_keep_73 rfl ?_
      refine p_iadd dX9_keep_74 rfl ?_
      refine p_aload_n rfl dX9_keep_75 rfl ?_
      refine p_getr qg_RX9_34 uM_0 rfl dX9_keep_76 rfl ?_
      refine p_iload_n rfl dX9_keep_79 rfl ?_
      refine p_iald uM_9 dX9_keep_80 rfl (fun _ => ?_)
      refine p_iast qokM uM_13 dX9_keep_81 rfl (fun _ => ?_)
      refine p_nmH (fun h7 => ?_)
      refine p_iiN (v := (1 : Int32)) (lf := fun x8 => [some (.ref 0), some (.int x8)]) kiconst_1 dX9_keep_82 rfl rfl rfl rfl (fun _ => rfl) (fun x8 => ?_)
      refine p_goto (tgt := 54) dX9_keep_85 (by decide) ?_
      exact ih x8 h7
noncomputable def f9_keep_L13 (k : Int32 → qH → Option (qH)) : Nat → Int32 → qH → Option (qH)
  | 0, _, _ => none
  | n + 1, x13, h14 =>
    if (14120 : Int32) ≤ x13 then (
      k x13 h14)
    else (
      qg (qin x13 14120) <|
      qg (qin (x13 - (353 : Int32)) 14120) <|
      qlt (qw h14 13 (ix (x13 - (353 : Int32))) (h14.1 13 (ix x13))) fun (h16 : qH) =>
      qlt (x13 + (1 : Int32)) fun (x17 : Int32) =>
      f9_keep_L13 k n x17 h16)
set_option maxRecDepth 100000 in
set_option maxHeartbeats 4000000 in
theorem w9_keep_L13 (l : Launch) (h0 : qH) {k : Int32 → qH → Option (qH)} (hk : ∀ (x13 : Int32) (h14 : qH), PW UM ROM l R9_keep cX9_keep 2 none RX9 (qEv h0) 42 [some (.ref 0), some (.int x13)] [] h14 (k x13 h14)) : ∀ (n : Nat) (x13 : Int32) (h14 : qH), PW UM ROM l R9_keep cX9_keep 2 none RX9 (qEv h0) 13 [some (.ref 0), some (.int x13)] [] h14 (f9_keep_L13 k n x13 h14) := by
  intro n
  induction n with
  | zero => intro _ _; exact p_none
  | succ n ih =>
    intro x13 h14
    unfold f9_keep_L13
    refine p_iload_n rfl dX9_keep_13 rfl ?_
    refine p_sipush (v := (14120 : Int32)) ksipush_14120 dX9_keep_14 rfl ?_
    refine p_if (fun c15 => ?_) (fun c15 => ?_)
    · refine p_icmp_ge_t (tgt := 42) dX9_keep_17 (by decide) c15 ?_
      exact hk x13 h14
    · refine p_icmp_ge_f (tgt := 42) dX9_keep_17 (by decide) rfl c15 ?_
      refine p_aload_n rfl dX9_keep_20 rfl ?_
      refine p_getr qg_RX9_46 uM_0 rfl dX9_keep_21 rfl ?_
      refine p_iload_n rfl dX9_keep_24 rfl ?_
      refine p_sipush (v := (353 : Int32)) ksipush_353 dX9_keep_25 rfl ?_
      refine p_isub dX9_keep_28 rfl ?_
      refine p_aload_n rfl dX9_keep_29 rfl ?_
      refine p_getr qg_RX9_46 uM_0 rfl dX9_keep_30 rfl ?_
      refine p_iload_n rfl dX9_keep_33 rfl ?_
      refine p_iald uM_13 dX9_keep_34 rfl (fun _ => ?_)
      refine p_iast qokM uM_13 dX9_keep_35 rfl (fun _ => ?_)
      refine p_nmH (fun h16 => ?_)
      refine p_iiN (v := (1 : Int32)) (lf := fun x17 => [some (.ref 0), some (.int x17)]) kiconst_1 dX9_keep_36 rfl rfl rfl rfl (fun _ => rfl) (fun x17 => ?_)
      refine p_goto (tgt := 13) dX9_keep_39 (by decide) ?_
      exact ih x17 h16
noncomputable def f9_keep (h : qH) : Option (qH) :=
  qj (fun (h1 : qH) =>
    f9_keep_L54 (fun (x9 : Int32) (h10 : qH) =>
      qlt (qw h10 0 23 ((h10.1 0 23) + (1 : Int32))) fun (h11 : qH) =>
      some h11) qN (0 : Int32) h1) fun j2 =>
  if (h.1 0 23) = (40 : Int32) then (
    f9_keep_L13 (fun (x18 : Int32) (h19 : qH) =>
      qlt (qw h19 0 23 ((h19.1 0 23) - (1 : Int32))) fun (h20 : qH) =>
      j2 h20) qN (353 : Int32) h)
  else (
    j2 h)
set_option maxRecDepth 100000 in
set_option maxHeartbeats 4000000 in
theorem m9_keep (l : Launch) : qMet UM ROM l yX9_keep (qws yX9_keep cX9_keep 2 none) R9_keep [.ref 0] f9_keep qEv := by
  refine q_met (own := RX9) 1 (by decide) rfl (Nat.le_of_ble_eq_true rfl) (ls := [some (.ref 0), none]) rfl fun h => ?_
  unfold f9_keep
  show PW UM ROM l R9_keep cX9_keep 2 none RX9 (qEv h) 0 [some (.ref 0), none] [] h _
  refine p_aload_n rfl dX9_keep_0 rfl ?_
  refine p_geti qg_RX9_178 uM_0 rfl dX9_keep_1 rfl ?_
  refine p_bipush (v := (40 : Int32)) kbipush_40 dX9_keep_4 rfl ?_
  refine p_jn (fun j2 => ∀ (h1 : qH), PW UM ROM l R9_keep cX9_keep 2 none RX9 (qEv h) 52 [some (.ref 0), none] [] h1 (j2 h1)) (fun h1 => ?_) (fun j2 J3 => ?_)
  · refine p_iconst (v := (0 : Int32)) kiconst_0 dX9_keep_52 rfl ?_
    refine p_is_n (ls' := [some (.ref 0), some (.int (0 : Int32))]) dX9_keep_53 rfl rfl rfl rfl ?_
    refine w9_keep_L54 l h (fun x9 h10 => ?_) qN _ _
    refine p_aload_n rfl dX9_keep_88 rfl ?_
    refine p_dup rfl dX9_keep_89 rfl ?_
    refine p_geti qg_RX9_178 uM_0 rfl dX9_keep_90 rfl ?_
    refine p_iconst (v := (1 : Int32)) kiconst_1 dX9_keep_93 rfl ?_
    refine p_iadd dX9_keep_94 rfl ?_
    refine p_puti qokM qp_RX9_178 uM_0 rfl dX9_keep_95 rfl ?_
    refine p_nmH (fun h11 => ?_)
    exact p_vret rfl rfl dX9_keep_98
  · refine p_if (fun c12 => ?_) (fun c12 => ?_)
    · refine p_icmp_ne_f (tgt := 52) dX9_keep_6 (by decide) rfl c12 ?_
      refine p_sipush (v := (353 : Int32)) ksipush_353 dX9_keep_9 rfl ?_
      refine p_is_n (ls' := [some (.ref 0), some (.int (353 : Int32))]) dX9_keep_12 rfl rfl rfl rfl ?_
      refine w9_keep_L13 l h (fun x18 h19 => ?_) qN _ _
      refine p_aload_n rfl dX9_keep_42 rfl ?_
      refine p_dup rfl dX9_keep_43 rfl ?_
      refine p_geti qg_RX9_178 uM_0 rfl dX9_keep_44 rfl ?_
      refine p_iconst (v := (1 : Int32)) kiconst_1 dX9_keep_47 rfl ?_
      refine p_isub dX9_keep_48 rfl ?_
      refine p_puti qokM qp_RX9_178 uM_0 rfl dX9_keep_49 rfl ?_
      refine p_nmH (fun h20 => ?_)
      exact p_wk (ls' := [some (.ref 0), none]) ⟨rfl, trivial⟩ (J3 h20)
    · refine p_icmp_ne_t (tgt := 52) dX9_keep_6 (by decide) c12 ?_
      exact J3 h
noncomputable def f9_note_L16 (p1 : Int32) (p2 : Int32) (p3 : Int32) (k : Int32 → qH → Option (qH)) : Nat → Int32 → qH → Option (qH)
  | 0, _, _ => none
  | n + 1, x10, h11 =>
    if (180 : Int32) ≤ x10 then (
      k x10 h11)
    else (
      qg (qin ((173 : Int32) + x10) 353) <|
      qg (qin (((173 : Int32) + x10) - (3 : Int32)) 353) <|
      qlt (qw h11 9 (ix (((173 : Int32) + x10) - (3 : Int32))) (h11.1 9 (ix ((173 : Int32) + x10)))) fun (h13 : qH) =>
      qlt (x10 + (1 : Int32)) fun (x14 : Int32) =>
      f9_note_L16 p1 p2 p3 k n x14 h13)
set_option maxRecDepth 100000 in
set_option maxHeartbeats 4000000 in
theorem w9_note_L16 (l : Launch) (h0 : qH) (p1 : Int32) (p2 : Int32) (p3 : Int32) {k : Int32 → qH → Option (qH)} (hk : ∀ (x10 : Int32) (h11 : qH), PW UM ROM l R9_note cX9_note 5 none RX9 (qEv h0) 54 [some (.ref 0), some (.int p1), some (.int p2), some (.int p3), some (.int x10)] [] h11 (k x10 h11)) : ∀ (n : Nat) (x10 : Int32) (h11 : qH), PW UM ROM l R9_note cX9_note 5 none RX9 (qEv h0) 16 [some (.ref 0), some (.int p1), some (.int p2), some (.int p3), some (.int x10)] [] h11 (f9_note_L16 p1 p2 p3 k n x10 h11) := by
  intro n
  induction n with
  | zero => intro _ _; exact p_none
  | succ n ih =>
    intro x10 h11
    unfold f9_note_L16
    refine p_iload rfl dX9_note_16 rfl ?_
    refine p_sipush (v := (180 : Int32)) ksipush_180 dX9_note_18 rfl ?_
    refine p_if (fun c12 => ?_) (fun c12 => ?_)
    · refine p_icmp_ge_t (tgt := 54) dX9_note_21 (by decide) c12 ?_
      exact hk x10 h11
    · refine p_icmp_ge_f (tgt := 54) dX9_note_21 (by decide) rfl c12 ?_
      refine p_aload_n rfl dX9_note_24 rfl ?_
      refine p_getr qg_RX9_34 uM_0 rfl dX9_note_25 rfl ?_
      refine p_sipush (v := (173 : Int32)) ksipush_173 dX9_note_28 rfl ?_
      refine p_iload rfl dX9_note_31 rfl ?_
      refine p_iadd dX9_note_33 rfl ?_
      refine p_iconst (v := (3 : Int32)) kiconst_3 dX9_note_34 rfl ?_
      refine p_isub dX9_note_35 rfl ?_
      refine p_aload_n rfl dX9_note_36 rfl ?_
      refine p_getr qg_RX9_34 uM_0 rfl dX9_note_37 rfl ?_
      refine p_sipush (v := (173 : Int32)) ksipush_173 dX9_note_40 rfl ?_
      refine p_iload rfl dX9_note_43 rfl ?_
      refine p_iadd dX9_note_45 rfl ?_
      refine p_iald uM_9 dX9_note_46 rfl (fun _ => ?_)
      refine p_iast qokM uM_9 dX9_note_47 rfl (fun _ => ?_)
      refine p_nmH (fun h13 => ?_)
      refine p_iiN (v := (1 : Int32)) (lf := fun x14 => [some (.ref 0), some (.int p1), some (.int p2), some (.int p3), some (.int x14)]) kiconst_1 dX9_note_48 rfl rfl rfl rfl (fun _ => rfl) (fun x14 => ?_)
      refine p_goto (tgt := 16) dX9_note_51 (by decide) ?_
      exact ih x14 h13
noncomputable def f9_note (p1 : Int32) (p2 : Int32) (p3 : Int32) (h : qH) : Option (qH) :=
  qj (fun (h1 : qH) =>
    qlt ((173 : Int32) + ((3 : Int32) * (h1.1 9 172))) fun (x4 : Int32) =>
    qg (qin x4 353) <|
    qlt (qw h1 9 (ix x4) p1) fun (h5 : qH) =>
    qg (qin (x4 + (1 : Int32)) 353) <|
    qlt (qw h5 9 (ix (x4 + (1 : Int32))) p2) fun (h6 : qH) =>
    qg (qin (x4 + (2 : Int32)) 353) <|
    qlt (qw h6 9 (ix (x4 + (2 : Int32))) p3) fun (h7 : qH) =>
    qlt (qw h7 9 172 ((h7.1 9 172) + (1 : Int32))) fun (h8 : qH) =>
    some h8) fun j2 =>
  if (h.1 9 172) = (60 : Int32) then (
    f9_note_L16 p1 p2 p3 (fun (x15 : Int32) (h16 : qH) =>
      qlt (qw h16 9 172 ((h16.1 9 172) - (1 : Int32))) fun (h17 : qH) =>
      j2 h17) qN (3 : Int32) h)
  else (
    j2 h)
set_option maxRecDepth 100000 in
set_option maxHeartbeats 4000000 in
theorem m9_note (l : Launch) (p1 : Int32) (p2 : Int32) (p3 : Int32) : qMet UM ROM l yX9_note (qws yX9_note cX9_note 5 none) R9_note [.ref 0, .int p1, .int p2, .int p3] (f9_note p1 p2 p3) qEv := by
  refine q_met (own := RX9) 1 (by decide) rfl (Nat.le_of_ble_eq_true rfl) (ls := [some (.ref 0), some (.int p1), some (.int p2), some (.int p3), none]) rfl fun h => ?_
  unfold f9_note
  show PW UM ROM l R9_note cX9_note 5 none RX9 (qEv h) 0 [some (.ref 0), some (.int p1), some (.int p2), some (.int p3), none] [] h _
  refine p_aload_n rfl dX9_note_0 rfl ?_
  refine p_getr qg_RX9_34 uM_0 rfl dX9_note_1 rfl ?_
  refine p_sipush (v := (172 : Int32)) ksipush_172 dX9_note_4 rfl ?_
  refine p_ialdK uM_9 kix_172 kqin_172_353 dX9_note_7 rfl ?_
  refine p_bipush (v := (60 : Int32)) kbipush_60 dX9_note_8 rfl ?_
  refine p_jn (fun j2 => ∀ (h1 : qH), PW UM ROM l R9_note cX9_note 5 none RX9 (qEv h) 66 [some (.ref 0), some (.int p1), some (.int p2), some (.int p3), none] [] h1 (j2 h1)) (fun h1 => ?_) (fun j2 J3 => ?_)
  · refine p_sipush (v := (173 : Int32)) ksipush_173 dX9_note_66 rfl ?_
    refine p_iconst (v := (3 : Int32)) kiconst_3 dX9_note_69 rfl ?_
    refine p_aload_n rfl dX9_note_70 rfl ?_
    refine p_getr qg_RX9_34 uM_0 rfl dX9_note_71 rfl ?_
    refine p_sipush (v := (172 : Int32)) ksipush_172 dX9_note_74 rfl ?_
    refine p_ialdK uM_9 kix_172 kqin_172_353 dX9_note_77 rfl ?_
    refine p_imul dX9_note_78 rfl ?_
    refine p_iadd dX9_note_79 rfl ?_
    refine p_isN (lf := fun x4 => [some (.ref 0), some (.int p1), some (.int p2), some (.int p3), some (.int x4)]) dX9_note_80 rfl rfl rfl (fun _ => rfl) (fun x4 => ?_)
    refine p_aload_n rfl dX9_note_82 rfl ?_
    refine p_getr qg_RX9_34 uM_0 rfl dX9_note_83 rfl ?_
    refine p_iload rfl dX9_note_86 rfl ?_
    refine p_iload_n rfl dX9_note_88 rfl ?_
    refine p_iast qokM uM_9 dX9_note_89 rfl (fun _ => ?_)
    refine p_nmH (fun h5 => ?_)
    refine p_aload_n rfl dX9_note_90 rfl ?_
    refine p_getr qg_RX9_34 uM_0 rfl dX9_note_91 rfl ?_
    refine p_iload rfl dX9_note_94 rfl ?_
    refine p_iconst (v := (1 : Int32)) kiconst_1 dX9_note_96 rfl ?_
    refine p_iadd dX9_note_97 rfl ?_
    refine p_iload_n rfl dX9_note_98 rfl ?_
    refine p_iast qokM uM_9 dX9_note_99 rfl (fun _ => ?_)
    refine p_nmH (fun h6 => ?_)
    refine p_aload_n rfl dX9_note_100 rfl ?_
    refine p_getr qg_RX9_34 uM_0 rfl dX9_note_101 rfl ?_
    refine p_iload rfl dX9_note_104 rfl ?_
    refine p_iconst (v := (2 : Int32)) kiconst_2 dX9_note_106 rfl ?_
    refine p_iadd dX9_note_107 rfl ?_
    refine p_iload_n rfl dX9_note_108 rfl ?_
    refine p_iast qokM uM_9 dX9_note_109 rfl (fun _ => ?_)
    refine p_nmH (fun h7 => ?_)
    refine p_aload_n rfl dX9_note_110 rfl ?_
    refine p_getr qg_RX9_34 uM_0 rfl dX9_note_111 rfl ?_
    refine p_sipush (v := (172 : Int32)) ksipush_172 dX9_note_114 rfl ?_
    refine p_dup2 rfl rfl dX9_note_117 rfl ?_
    refine p_ialdK uM_9 kix_172 kqin_172_353 dX9_note_118 rfl ?_
    refine p_iconst (v := (1 : Int32)) kiconst_1 dX9_note_119 rfl ?_
    refine p_iadd dX9_note_120 rfl ?_
    refine p_iastK qokM uM_9 kix_172 kqin_172_353 dX9_note_121 rfl ?_
    refine p_nmH (fun h8 => ?_)
    exact p_vret rfl rfl dX9_note_122
  · refine p_if (fun c9 => ?_) (fun c9 => ?_)
    · refine p_icmp_ne_f (tgt := 66) dX9_note_10 (by decide) rfl c9 ?_
      refine p_iconst (v := (3 : Int32)) kiconst_3 dX9_note_13 rfl ?_
      refine p_is (ls' := [some (.ref 0), some (.int p1), some (.int p2), some (.int p3), some (.int (3 : Int32))]) dX9_note_14 rfl rfl rfl rfl ?_
      refine w9_note_L16 l h p1 p2 p3 (fun x15 h16 => ?_) qN _ _
      refine p_aload_n rfl dX9_note_54 rfl ?_
      refine p_getr qg_RX9_34 uM_0 rfl dX9_note_55 rfl ?_
      refine p_sipush (v := (172 : Int32)) ksipush_172 dX9_note_58 rfl ?_
      refine p_dup2 rfl rfl dX9_note_61 rfl ?_
      refine p_ialdK uM_9 kix_172 kqin_172_353 dX9_note_62 rfl ?_
      refine p_iconst (v := (1 : Int32)) kiconst_1 dX9_note_63 rfl ?_
      refine p_isub dX9_note_64 rfl ?_
      refine p_iastK qokM uM_9 kix_172 kqin_172_353 dX9_note_65 rfl ?_
      refine p_nmH (fun h17 => ?_)
      exact p_wk (ls' := [some (.ref 0), some (.int p1), some (.int p2), some (.int p3), none]) ⟨rfl, rfl, rfl, rfl, trivial⟩ (J3 h17)
    · refine p_icmp_ne_t (tgt := 66) dX9_note_10 (by decide) c9 ?_
      exact J3 h
noncomputable def f9_doNow (p1 : Int32) (p2 : Int32) (p3 : Int32) (h : qH) : Option (Int32 × qH) :=
  if p1 = (0 : Int32) then (
    qlt (qw h 9 171 ((h.1 9 171) + (1 : Int32))) fun (h2 : qH) =>
    qg (qin ((144 : Int32) + p2) 353) <|
    qlt (qw h2 9 (ix ((144 : Int32) + p2)) (h2.1 9 171)) fun (h3 : qH) =>
    some ((h3.1 9 171), h3))
  else (
    if p1 = (1 : Int32) then (
    qb2 (f9_servesNow h) fun (z5 : Int32) (h6 : qH) =>
    some (z5, h6))
  else (
    if p1 = (2 : Int32) then (
    qb2 (f9_writesNow p2 p3 h) fun (z8 : Int32) (h9 : qH) =>
    some (z8, h9))
  else (
    if p1 = (3 : Int32) then (
    qb2 (f9_dropsNow p2 h) fun (z11 : Int32) (h12 : qH) =>
    some (z11, h12))
  else (
    if p1 = (4 : Int32) then (
    (f9_mounts p2 h).bind fun (h14 : qH) =>
    qg (qin ((0 : Int32) + p2) 353) <|
    some (((h14.1 9 (ix ((0 : Int32) + p2))) - (h14.1 5 0)), h14))
  else (
    if p1 = (5 : Int32) then (
    qg (qin ((0 : Int32) + p2) 353) <|
    qlt ((h.1 9 (ix ((0 : Int32) + p2))) - (h.1 5 0)) fun (x16 : Int32) =>
    (f9_unmounts p2 h).bind fun (h17 : qH) =>
    some (x16, h17))
  else (
    if p1 = (6 : Int32) then (
    qb2 (f9_copiesNow p2 p3 h) fun (z19 : Int32) (h20 : qH) =>
    some (z19, h20))
  else (
    if p1 = (7 : Int32) then (
    qb2 (f9_losesNow h) fun (z22 : Int32) (h23 : qH) =>
    some (z22, h23))
  else (
    if p1 = (8 : Int32) then (
    qb2 (f9_scansNow p2 h) fun (z25 : Int32) (h26 : qH) =>
    some (z25, h26))
  else (
    if p1 = (9 : Int32) then (
    qb2 (f9_pausesNow p2 h) fun (z28 : Int32) (h29 : qH) =>
    some (z28, h29))
  else (
    qb2 (f9_rescuesNow h) fun (z30 : Int32) (h31 : qH) =>
    some (z30, h31)))))))))))
set_option maxRecDepth 100000 in
set_option maxHeartbeats 4000000 in
theorem m9_doNow (l : Launch) (p1 : Int32) (p2 : Int32) (p3 : Int32) : qMet UM ROM l yX9_doNow (qws yX9_doNow cX9_doNow 5 (some .int)) R9_doNow [.ref 0, .int p1, .int p2, .int p3] (f9_doNow p1 p2 p3) qEw := by
  refine q_met (own := RX9) 1 (by decide) rfl (Nat.le_of_ble_eq_true rfl) (ls := [some (.ref 0), some (.int p1), some (.int p2), some (.int p3), none]) rfl fun h => ?_
  unfold f9_doNow
  show PW UM ROM l R9_doNow cX9_doNow 5 (some .int) RX9 (qEw h) 0 [some (.ref 0), some (.int p1), some (.int p2), some (.int p3), none] [] h _
  refine p_iconst (v := (0 : Int32)) kiconst_0 dX9_doNow_0 rfl ?_
  refine p_is (ls' := [some (.ref 0), some (.int p1), some (.int p2), some (.int p3), some (.int (0 : Int32))]) dX9_doNow_1 rfl rfl rfl rfl ?_
  refine p_iload_n rfl dX9_doNow_3 rfl ?_
  refine p_if (fun c1 => ?_) (fun c1 => ?_)
  · refine p_swI (v := (0 : Int32)) (tgt := 60) dX9_doNow_4 c1 (by decide) (by decide) rfl (by decide) ?_
    refine p_aload_n rfl dX9_doNow_60 rfl ?_
    refine p_getr qg_RX9_34 uM_0 rfl dX9_doNow_61 rfl ?_
    refine p_sipush (v := (171 : Int32)) ksipush_171 dX9_doNow_64 rfl ?_
    refine p_dup2 rfl rfl dX9_doNow_67 rfl ?_
    refine p_ialdK uM_9 kix_171 kqin_171_353 dX9_doNow_68 rfl ?_
    refine p_iconst (v := (1 : Int32)) kiconst_1 dX9_doNow_69 rfl ?_
    refine p_iadd dX9_doNow_70 rfl ?_
    refine p_iastK qokM uM_9 kix_171 kqin_171_353 dX9_doNow_71 rfl ?_
    refine p_nmH (fun h2 => ?_)
    refine p_aload_n rfl dX9_doNow_72 rfl ?_
    refine p_getr qg_RX9_34 uM_0 rfl dX9_doNow_73 rfl ?_
    refine p_sipush (v := (144 : Int32)) ksipush_144 dX9_doNow_76 rfl ?_
    refine p_iload_n rfl dX9_doNow_79 rfl ?_
    refine p_iadd dX9_doNow_80 rfl ?_
    refine p_aload_n rfl dX9_doNow_81 rfl ?_
    refine p_getr qg_RX9_34 uM_0 rfl dX9_doNow_82 rfl ?_
    refine p_sipush (v := (171 : Int32)) ksipush_171 dX9_doNow_85 rfl ?_
    refine p_ialdK uM_9 kix_171 kqin_171_353 dX9_doNow_88 rfl ?_
    refine p_iast qokM uM_9 dX9_doNow_89 rfl (fun _ => ?_)
    refine p_nmH (fun h3 => ?_)
    refine p_aload_n rfl dX9_doNow_90 rfl ?_
    refine p_getr qg_RX9_34 uM_0 rfl dX9_doNow_91 rfl ?_
    refine p_sipush (v := (171 : Int32)) ksipush_171 dX9_doNow_94 rfl ?_
    refine p_ialdK uM_9 kix_171 kqin_171_353 dX9_doNow_97 rfl ?_
    exact p_iret rfl rfl dX9_doNow_98
  · refine p_if (fun c4 => ?_) (fun c4 => ?_)
    · refine p_swI (v := (1 : Int32)) (tgt := 99) dX9_doNow_4 c4 (by decide) (by decide) rfl (by decide) ?_
      refine p_aload_n rfl dX9_doNow_99 rfl ?_
      refine p_cVw (f := f9_servesNow) (st := []) [] qRokM (m9_servesNow l) cal_RX9_307 uM_0 rfl rfl ⟨rfl, rfl⟩ ⟨Nat.le_of_ble_eq_true rfl, Nat.le_of_ble_eq_true rfl⟩ (Nat.le_of_ble_eq_true rfl) dX9_doNow_100 rfl (fun z5 h6 => ?_)
      exact p_iret rfl rfl dX9_doNow_103
    · refine p_if (fun c7 => ?_) (fun c7 => ?_)
      · refine p_swI (v := (2 : Int32)) (tgt := 104) dX9_doNow_4 c7 (by decide) (by decide) rfl (by decide) ?_
        refine p_aload_n rfl dX9_doNow_104 rfl ?_
        refine p_iload_n rfl dX9_doNow_105 rfl ?_
        refine p_iload_n rfl dX9_doNow_106 rfl ?_
        refine p_cVw (f := f9_writesNow p2 p3) (st := []) [.int p2, .int p3] qRokM (m9_writesNow l p2 p3) cal_RX9_310 uM_0 rfl rfl ⟨rfl, rfl⟩ ⟨Nat.le_of_ble_eq_true rfl, Nat.le_of_ble_eq_true rfl⟩ (Nat.le_of_ble_eq_true rfl) dX9_doNow_107 rfl (fun z8 h9 => ?_)
        exact p_iret rfl rfl dX9_doNow_110
      · refine p_if (fun c10 => ?_) (fun c10 => ?_)
        · refine p_swI (v := (3 : Int32)) (tgt := 111) dX9_doNow_4 c10 (by decide) (by decide) rfl (by decide) ?_
          refine p_aload_n rfl dX9_doNow_111 rfl ?_
          refine p_iload_n rfl dX9_doNow_112 rfl ?_
          refine p_cVw (f := f9_dropsNow p2) (st := []) [.int p2] qRokM (m9_dropsNow l p2) cal_RX9_313 uM_0 rfl rfl ⟨rfl, rfl⟩ ⟨Nat.le_of_ble_eq_true rfl, Nat.le_of_ble_eq_true rfl⟩ (Nat.le_of_ble_eq_true rfl) dX9_doNow_113 rfl (fun z11 h12 => ?_)
          exact p_iret rfl rfl dX9_doNow_116
        · refine p_if (fun c13 => ?_) (fun c13 => ?_)
          · refine p_swI (v := (4 : Int32)) (tgt := 117) dX9_doNow_4 c13 (by decide) (by decide) rfl (by decide) ?_
            refine p_aload_n rfl dX9_doNow_117 rfl ?_
            refine p_iload_n rfl dX9_doNow_118 rfl ?_
            refine p_callVv (f := f9_mounts p2) (st := []) [.int p2] qRokM (m9_mounts l p2) cal_RX9_229 uM_0 rfl rfl ⟨rfl, rfl⟩ ⟨Nat.le_of_ble_eq_true rfl, Nat.le_of_ble_eq_true rfl⟩ (Nat.le_of_ble_eq_true rfl) dX9_doNow_119 rfl (fun h14 => ?_)
            refine p_aload_n rfl dX9_doNow_122 rfl ?_
            refine p_getr qg_RX9_34 uM_0 rfl dX9_doNow_123 rfl ?_
            refine p_iconst (v := (0 : Int32)) kiconst_0 dX9_doNow_126 rfl ?_
            refine p_iload_n rfl dX9_doNow_127 rfl ?_
            refine p_iadd dX9_doNow_128 rfl ?_
            refine p_iald uM_9 dX9_doNow_129 rfl (fun _ => ?_)
            refine p_aload_n rfl dX9_doNow_130 rfl ?_
            refine p_getr qg_RX9_22 uM_0 rfl dX9_doNow_131 rfl ?_
            refine p_iconst (v := (0 : Int32)) kiconst_0 dX9_doNow_134 rfl ?_
            refine p_ialdK uM_5 kix_0 kqin_0_8 dX9_doNow_135 rfl ?_
            refine p_isub dX9_doNow_136 rfl ?_
            exact p_iret rfl rfl dX9_doNow_137
          · refine p_if (fun c15 => ?_) (fun c15 => ?_)
            · refine p_swI (v := (5 : Int32)) (tgt := 138) dX9_doNow_4 c15 (by decide) (by decide) rfl (by decide) ?_
              refine p_aload_n rfl dX9_doNow_138 rfl ?_
              refine p_getr qg_RX9_34 uM_0 rfl dX9_doNow_139 rfl ?_
              refine p_iconst (v := (0 : Int32)) kiconst_0 dX9_doNow_142 rfl ?_
              refine p_iload_n rfl dX9_doNow_143 rfl ?_
              refine p_iadd dX9_doNow_144 rfl ?_
              refine p_iald uM_9 dX9_doNow_145 rfl (fun _ => ?_)
              refine p_aload_n rfl dX9_doNow_146 rfl ?_
              refine p_getr qg_RX9_22 uM_0 rfl dX9_doNow_147 rfl ?_
              refine p_iconst (v := (0 : Int32)) kiconst_0 dX9_doNow_150 rfl ?_
              refine p_ialdK uM_5 kix_0 kqin_0_8 dX9_doNow_151 rfl ?_
              refine p_isub dX9_doNow_152 rfl ?_
              refine p_isN (lf := fun x16 => [some (.ref 0), some (.int p1), some (.int p2), some (.int p3), some (.int x16)]) dX9_doNow_153 rfl rfl rfl (fun _ => rfl) (fun x16 => ?_)
              refine p_aload_n rfl dX9_doNow_155 rfl ?_
              refine p_iload_n rfl dX9_doNow_156 rfl ?_
              refine p_callVv (f := f9_unmounts p2) (st := []) [.int p2] qRokM (m9_unmounts l p2) cal_RX9_218 uM_0 rfl rfl ⟨rfl, rfl⟩ ⟨Nat.le_of_ble_eq_true rfl, Nat.le_of_ble_eq_true rfl⟩ (Nat.le_of_ble_eq_true rfl) dX9_doNow_157 rfl (fun h17 => ?_)
              refine p_iload rfl dX9_doNow_160 rfl ?_
              exact p_iret rfl rfl dX9_doNow_162
            · refine p_if (fun c18 => ?_) (fun c18 => ?_)
              · refine p_swI (v := (6 : Int32)) (tgt := 163) dX9_doNow_4 c18 (by decide) (by decide) rfl (by decide) ?_
                refine p_aload_n rfl dX9_doNow_163 rfl ?_
                refine p_iload_n rfl dX9_doNow_164 rfl ?_
                refine p_iload_n rfl dX9_doNow_165 rfl ?_
                refine p_cVw (f := f9_copiesNow p2 p3) (st := []) [.int p2, .int p3] qRokM (m9_copiesNow l p2 p3) cal_RX9_277 uM_0 rfl rfl ⟨rfl, rfl⟩ ⟨Nat.le_of_ble_eq_true rfl, Nat.le_of_ble_eq_true rfl⟩ (Nat.le_of_ble_eq_true rfl) dX9_doNow_166 rfl (fun z19 h20 => ?_)
                exact p_iret rfl rfl dX9_doNow_169
              · refine p_if (fun c21 => ?_) (fun c21 => ?_)
                · refine p_swI (v := (7 : Int32)) (tgt := 170) dX9_doNow_4 c21 (by decide) (by decide) rfl (by decide) ?_
                  refine p_aload_n rfl dX9_doNow_170 rfl ?_
                  refine p_cVw (f := f9_losesNow) (st := []) [] qRokM (m9_losesNow l) cal_RX9_316 uM_0 rfl rfl ⟨rfl, rfl⟩ ⟨Nat.le_of_ble_eq_true rfl, Nat.le_of_ble_eq_true rfl⟩ (Nat.le_of_ble_eq_true rfl) dX9_doNow_171 rfl (fun z22 h23 => ?_)
                  exact p_iret rfl rfl dX9_doNow_174
                · refine p_if (fun c24 => ?_) (fun c24 => ?_)
                  · refine p_swI (v := (8 : Int32)) (tgt := 175) dX9_doNow_4 c24 (by decide) (by decide) rfl (by decide) ?_
                    refine p_aload_n rfl dX9_doNow_175 rfl ?_
                    refine p_iload_n rfl dX9_doNow_176 rfl ?_
                    refine p_cVw (f := f9_scansNow p2) (st := []) [.int p2] qRokM (m9_scansNow l p2) cal_RX9_319 uM_0 rfl rfl ⟨rfl, rfl⟩ ⟨Nat.le_of_ble_eq_true rfl, Nat.le_of_ble_eq_true rfl⟩ (Nat.le_of_ble_eq_true rfl) dX9_doNow_177 rfl (fun z25 h26 => ?_)
                    exact p_iret rfl rfl dX9_doNow_180
                  · refine p_if (fun c27 => ?_) (fun c27 => ?_)
                    · refine p_swI (v := (9 : Int32)) (tgt := 181) dX9_doNow_4 c27 (by decide) (by decide) rfl (by decide) ?_
                      refine p_aload_n rfl dX9_doNow_181 rfl ?_
                      refine p_iload_n rfl dX9_doNow_182 rfl ?_
                      refine p_cVw (f := f9_pausesNow p2) (st := []) [.int p2] qRokM (m9_pausesNow l p2) cal_RX9_322 uM_0 rfl rfl ⟨rfl, rfl⟩ ⟨Nat.le_of_ble_eq_true rfl, Nat.le_of_ble_eq_true rfl⟩ (Nat.le_of_ble_eq_true rfl) dX9_doNow_183 rfl (fun z28 h29 => ?_)
                      exact p_iret rfl rfl dX9_doNow_186
                    · refine p_swO (tgt := 187) dX9_doNow_4 (by
                          have c1' := lv_neT c1 (a := 0) (by decide)
                          have c4' := lv_neT c4 (a := 1) (by decide)
                          have c7' := lv_neT c7 (a := 2) (by decide)
                          have c10' := lv_neT c10 (a := 3) (by decide)
                          have c13' := lv_neT c13 (a := 4) (by decide)
                          have c15' := lv_neT c15 (a := 5) (by decide)
                          have c18' := lv_neT c18 (a := 6) (by decide)
                          have c21' := lv_neT c21 (a := 7) (by decide)
                          have c24' := lv_neT c24 (a := 8) (by decide)
                          have c27' := lv_neT c27 (a := 9) (by decide)
                          omega) (by decide) ?_
                      refine p_aload_n rfl dX9_doNow_187 rfl ?_
                      refine p_cVw (f := f9_rescuesNow) (st := []) [] qRokM (m9_rescuesNow l) cal_RX9_325 uM_0 rfl rfl ⟨rfl, rfl⟩ ⟨Nat.le_of_ble_eq_true rfl, Nat.le_of_ble_eq_true rfl⟩ (Nat.le_of_ble_eq_true rfl) dX9_doNow_188 rfl (fun z30 h31 => ?_)
                      exact p_iret rfl rfl dX9_doNow_191
noncomputable def f9_act (p1 : Int32) (p2 : Int32) (p3 : Int32) (h : qH) : Option (Int32 × qH) :=
  (f9_keep h).bind fun (h1 : qH) =>
  qlt (h1.1 9 170) fun (x2 : Int32) =>
  qb2 (f9_doNow p1 p2 p3 h1) fun (z3 : Int32) (h4 : qH) =>
  qlt (if p1 = (1 : Int32) then z3 else (if p1 = (10 : Int32) then z3 else (if p1 = (7 : Int32) then (-1 : Int32) else p2))) fun (x8 : Int32) =>
  (f9_note p1 x8 ((h4.1 9 170) - x2) h4).bind fun (h9 : qH) =>
  some (z3, h9)
set_option maxRecDepth 100000 in
set_option maxHeartbeats 4000000 in
theorem m9_act (l : Launch) (p1 : Int32) (p2 : Int32) (p3 : Int32) : qMet UM ROM l yX9_act (qws yX9_act cX9_act 6 (some .int)) R9_act [.ref 0, .int p1, .int p2, .int p3] (f9_act p1 p2 p3) qEw := by
  refine q_met (own := RX9) 2 (by decide) rfl (Nat.le_of_ble_eq_true rfl) (ls := [some (.ref 0), some (.int p1), some (.int p2), some (.int p3), none, none]) rfl fun h => ?_
  unfold f9_act
  show PW UM ROM l R9_act cX9_act 6 (some .int) RX9 (qEw h) 0 [some (.ref 0), some (.int p1), some (.int p2), some (.int p3), none, none] [] h _
  refine p_aload_n rfl dX9_act_0 rfl ?_
  refine p_callVv (f := f9_keep) (st := []) [] qRokM (m9_keep l) cal_RX9_328 uM_0 rfl rfl ⟨rfl, rfl⟩ ⟨Nat.le_of_ble_eq_true rfl, Nat.le_of_ble_eq_true rfl⟩ (Nat.le_of_ble_eq_true rfl) dX9_act_1 rfl (fun h1 => ?_)
  refine p_aload_n rfl dX9_act_4 rfl ?_
  refine p_getr qg_RX9_34 uM_0 rfl dX9_act_5 rfl ?_
  refine p_sipush (v := (170 : Int32)) ksipush_170 dX9_act_8 rfl ?_
  refine p_ialdK uM_9 kix_170 kqin_170_353 dX9_act_11 rfl ?_
  refine p_isN (lf := fun x2 => [some (.ref 0), some (.int p1), some (.int p2), some (.int p3), some (.int x2), none]) dX9_act_12 rfl rfl rfl (fun _ => rfl) (fun x2 => ?_)
  refine p_aload_n rfl dX9_act_14 rfl ?_
  refine p_iload_n rfl dX9_act_15 rfl ?_
  refine p_iload_n rfl dX9_act_16 rfl ?_
  refine p_iload_n rfl dX9_act_17 rfl ?_
  refine p_cVw (f := f9_doNow p1 p2 p3) (st := []) [.int p1, .int p2, .int p3] qRokM (m9_doNow l p1 p2 p3) cal_RX9_331 uM_0 rfl rfl ⟨rfl, rfl⟩ ⟨Nat.le_of_ble_eq_true rfl, Nat.le_of_ble_eq_true rfl⟩ (Nat.le_of_ble_eq_true rfl) dX9_act_18 rfl (fun z3 h4 => ?_)
  refine p_is (ls' := [some (.ref 0), some (.int p1), some (.int p2), some (.int p3), some (.int x2), some (.int z3)]) dX9_act_21 rfl rfl rfl rfl ?_
  refine p_aload_n rfl dX9_act_23 rfl ?_
  refine p_iload_n rfl dX9_act_24 rfl ?_
  refine p_iload_n rfl dX9_act_25 rfl ?_
  refine p_iconst (v := (1 : Int32)) kiconst_1 dX9_act_26 rfl ?_
  refine p_vj 52 [some (.ref 0), some (.int p1), some (.int p2), some (.int p3), some (.int x2), some (.int z3)] [.int p1, .ref 0] (fun x8 => ?_) (fun J => ?_)
  · refine p_aload_n rfl dX9_act_52 rfl ?_
    refine p_getr qg_RX9_34 uM_0 rfl dX9_act_53 rfl ?_
    refine p_sipush (v := (170 : Int32)) ksipush_170 dX9_act_56 rfl ?_
    refine p_ialdK uM_9 kix_170 kqin_170_353 dX9_act_59 rfl ?_
    refine p_iload rfl dX9_act_60 rfl ?_
    refine p_isub dX9_act_62 rfl ?_
    refine p_callVv (f := f9_note p1 x8 ((h4.1 9 170) - x2)) (st := []) [.int p1, .int x8, .int ((h4.1 9 170) - x2)] qRokM (m9_note l p1 x8 ((h4.1 9 170) - x2)) cal_RX9_334 uM_0 rfl rfl ⟨rfl, rfl⟩ ⟨Nat.le_of_ble_eq_true rfl, Nat.le_of_ble_eq_true rfl⟩ (Nat.le_of_ble_eq_true rfl) dX9_act_63 rfl (fun h9 => ?_)
    refine p_iload rfl dX9_act_66 rfl ?_
    exact p_iret rfl rfl dX9_act_68
  · refine p_dia (fun c5 => ?_) (fun c5 => ?_)
    · refine p_icmp_eq_t (tgt := 36) dX9_act_27 (by decide) c5 ?_
      refine p_iload rfl dX9_act_36 rfl ?_
      refine p_goto (tgt := 52) dX9_act_38 (by decide) ?_
      exact J _
    · refine p_icmp_eq_f (tgt := 36) dX9_act_27 (by decide) rfl c5 ?_
      refine p_iload_n rfl dX9_act_30 rfl ?_
      refine p_bipush (v := (10 : Int32)) kbipush_10 dX9_act_31 rfl ?_
      refine p_dia (fun c6 => ?_) (fun c6 => ?_)
      · refine p_icmp_ne_f (tgt := 41) dX9_act_33 (by decide) rfl c6 ?_
        refine p_iload rfl dX9_act_36 rfl ?_
        refine p_goto (tgt := 52) dX9_act_38 (by decide) ?_
        exact J _
      · refine p_icmp_ne_t (tgt := 41) dX9_act_33 (by decide) c6 ?_
        refine p_iload_n rfl dX9_act_41 rfl ?_
        refine p_bipush (v := (7 : Int32)) kbipush_7 dX9_act_42 rfl ?_
        refine p_dia (fun c7 => ?_) (fun c7 => ?_)
        · refine p_icmp_ne_f (tgt := 51) dX9_act_44 (by decide) rfl c7 ?_
          refine p_iconst (v := (-1 : Int32)) kiconst_m1 dX9_act_47 rfl ?_
          refine p_goto (tgt := 52) dX9_act_48 (by decide) ?_
          exact J _
        · refine p_icmp_ne_t (tgt := 51) dX9_act_44 (by decide) c7 ?_
          refine p_iload_n rfl dX9_act_51 rfl ?_
          exact J _
