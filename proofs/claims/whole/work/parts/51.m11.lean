noncomputable def f9_shares_L26 (p1 : Int32) (p2 : Int32) (h : qH) (k : Int32 → Int32 → Option (Int32)) : Nat → Int32 → Int32 → Option (Int32)
  | 0, _, _ => none
  | n + 1, x5, x6 =>
    if (h.1 0 12) ≤ x6 then (
      k x5 x6)
    else (
      (f9_blocksOn x6 h).bind fun (z8 : Int32) =>
      qlt (x5 + z8) fun (x9 : Int32) =>
      qlt (x6 + (1 : Int32)) fun (x10 : Int32) =>
      f9_shares_L26 p1 p2 h k n x9 x10)
set_option maxRecDepth 100000 in
set_option maxHeartbeats 4000000 in
theorem w9_shares_L26 (l : Launch) (p1 : Int32) (p2 : Int32) (h : qH) {k : Int32 → Int32 → Option (Int32)} (hk : ∀ (x5 : Int32) (x6 : Int32), PW UM ROM l R9_shares cX9_shares 5 (some .int) RX9 (qEr h) 50 [some (.ref 0), some (.int p1), some (.int p2), some (.int x5), some (.int x6)] [] h (k x5 x6)) : ∀ (n : Nat) (x5 : Int32) (x6 : Int32), PW UM ROM l R9_shares cX9_shares 5 (some .int) RX9 (qEr h) 26 [some (.ref 0), some (.int p1), some (.int p2), some (.int x5), some (.int x6)] [] h (f9_shares_L26 p1 p2 h k n x5 x6) := by
  intro n
  induction n with
  | zero => intro _ _; exact p_none
  | succ n ih =>
    intro x5 x6
    unfold f9_shares_L26
    refine p_iload rfl dX9_shares_26 rfl ?_
    refine p_aload_n rfl dX9_shares_28 rfl ?_
    refine p_geti qg_RX9_153 uM_0 rfl dX9_shares_29 rfl ?_
    refine p_if (fun c7 => ?_) (fun c7 => ?_)
    · refine p_icmp_ge_t (tgt := 50) dX9_shares_32 (by decide) c7 ?_
      exact hk x5 x6
    · refine p_icmp_ge_f (tgt := 50) dX9_shares_32 (by decide) rfl c7 ?_
      refine p_iload_n rfl dX9_shares_35 rfl ?_
      refine p_aload_n rfl dX9_shares_36 rfl ?_
      refine p_iload rfl dX9_shares_37 rfl ?_
      refine p_callVr (f := f9_blocksOn x6) (st := [.int x5]) [.int x6] qRokM (m9_blocksOn l x6) cal_RX9_364 uM_0 rfl rfl ⟨rfl, rfl⟩ ⟨Nat.le_of_ble_eq_true rfl, Nat.le_of_ble_eq_true rfl⟩ (Nat.le_of_ble_eq_true rfl) dX9_shares_39 rfl (fun z8 => ?_)
      refine p_iadd dX9_shares_42 rfl ?_
      refine p_isN_n (lf := fun x9 => [some (.ref 0), some (.int p1), some (.int p2), some (.int x9), some (.int x6)]) dX9_shares_43 rfl rfl rfl (fun _ => rfl) (fun x9 => ?_)
      refine p_iiN (v := (1 : Int32)) (lf := fun x10 => [some (.ref 0), some (.int p1), some (.int p2), some (.int x9), some (.int x10)]) kiconst_1 dX9_shares_44 rfl rfl rfl rfl (fun _ => rfl) (fun x10 => ?_)
      refine p_goto (tgt := 26) dX9_shares_47 (by decide) ?_
      exact ih x9 x10
noncomputable def f9_shares (p1 : Int32) (p2 : Int32) (h : qH) : Option (Int32) :=
  (f9_isTape p1 h).bind fun (z1 : Int32) =>
  if z1 = 0 then (
    some (-1 : Int32))
  else (
    (f9_in p2 (0 : Int32) (999 : Int32) h).bind fun (z3 : Int32) =>
    if z3 = 0 then (
      some (-1 : Int32))
    else (
      f9_shares_L26 p1 p2 h (fun (x11 : Int32) (x12 : Int32) =>
        qj (fun (x13 : Int32) =>
          some x13) fun j14 =>
        if x11 = 0 then (
          j14 (0 : Int32))
        else (
          (f9_blocksOn p1 h).bind fun (z17 : Int32) =>
          qg (decide (¬ x11 = 0)) <|
          j14 ((p2 * z17) / x11))) qN (0 : Int32) (0 : Int32)))
set_option maxRecDepth 100000 in
set_option maxHeartbeats 4000000 in
theorem m9_shares (l : Launch) (p1 : Int32) (p2 : Int32) : qMet UM ROM l yX9_shares (qws yX9_shares cX9_shares 5 (some .int)) R9_shares [.ref 0, .int p1, .int p2] (f9_shares p1 p2) qEr := by
  refine q_met (own := RX9) 2 (by decide) rfl (Nat.le_of_ble_eq_true rfl) (ls := [some (.ref 0), some (.int p1), some (.int p2), none, none]) rfl fun h => ?_
  unfold f9_shares
  refine p_aload_n rfl dX9_shares_0 rfl ?_
  refine p_iload_n rfl dX9_shares_1 rfl ?_
  refine p_callVr (f := f9_isTape p1) (st := []) [.int p1] qRokM (m9_isTape l p1) cal_RX9_169 uM_0 rfl rfl ⟨rfl, rfl⟩ ⟨Nat.le_of_ble_eq_true rfl, Nat.le_of_ble_eq_true rfl⟩ (Nat.le_of_ble_eq_true rfl) dX9_shares_2 rfl (fun z1 => ?_)
  refine p_if (fun c2 => ?_) (fun c2 => ?_)
  · refine p_if_eq_t (tgt := 19) dX9_shares_5 (by decide) c2 ?_
    refine p_iconst (v := (-1 : Int32)) kiconst_m1 dX9_shares_19 rfl ?_
    exact p_iret rfl rfl dX9_shares_20
  · refine p_if_eq_f (tgt := 19) dX9_shares_5 (by decide) rfl c2 ?_
    refine p_iload_n rfl dX9_shares_8 rfl ?_
    refine p_iconst (v := (0 : Int32)) kiconst_0 dX9_shares_9 rfl ?_
    refine p_sipush (v := (999 : Int32)) ksipush_999 dX9_shares_10 rfl ?_
    refine p_callSr (f := f9_in p2 (0 : Int32) (999 : Int32)) (st := []) [.int p2, .int (0 : Int32), .int (999 : Int32)] qRokM (m9_in l p2 (0 : Int32) (999 : Int32)) cal_RX9_76 rfl ⟨rfl, rfl⟩ ⟨Nat.le_of_ble_eq_true rfl, Nat.le_of_ble_eq_true rfl⟩ (Nat.le_of_ble_eq_true rfl) dX9_shares_13 rfl (fun z3 => ?_)
    refine p_if (fun c4 => ?_) (fun c4 => ?_)
    · refine p_if_ne_f (tgt := 21) dX9_shares_16 (by decide) rfl c4 ?_
      refine p_iconst (v := (-1 : Int32)) kiconst_m1 dX9_shares_19 rfl ?_
      exact p_iret rfl rfl dX9_shares_20
    · refine p_if_ne_t (tgt := 21) dX9_shares_16 (by decide) c4 ?_
      refine p_iconst (v := (0 : Int32)) kiconst_0 dX9_shares_21 rfl ?_
      refine p_is_n (ls' := [some (.ref 0), some (.int p1), some (.int p2), some (.int (0 : Int32)), none]) dX9_shares_22 rfl rfl rfl rfl ?_
      refine p_iconst (v := (0 : Int32)) kiconst_0 dX9_shares_23 rfl ?_
      refine p_is (ls' := [some (.ref 0), some (.int p1), some (.int p2), some (.int (0 : Int32)), some (.int (0 : Int32))]) dX9_shares_24 rfl rfl rfl rfl ?_
      refine w9_shares_L26 l p1 p2 h (fun x11 x12 => ?_) qN _ _
      refine p_iload_n rfl dX9_shares_50 rfl ?_
      refine p_jn (fun j14 => ∀ (x13 : Int32), PW UM ROM l R9_shares cX9_shares 5 (some .int) RX9 (qEr h) 67 [some (.ref 0), some (.int p1), some (.int p2), some (.int x11), some (.int x12)] [.int x13] h (j14 x13)) (fun x13 => ?_) (fun j14 J15 => ?_)
      · exact p_iret rfl rfl dX9_shares_67
      · refine p_if (fun c16 => ?_) (fun c16 => ?_)
        · refine p_if_ne_f (tgt := 58) dX9_shares_51 (by decide) rfl c16 ?_
          refine p_iconst (v := (0 : Int32)) kiconst_0 dX9_shares_54 rfl ?_
          refine p_goto (tgt := 67) dX9_shares_55 (by decide) ?_
          exact J15 (0 : Int32)
        · refine p_if_ne_t (tgt := 58) dX9_shares_51 (by decide) c16 ?_
          refine p_iload_n rfl dX9_shares_58 rfl ?_
          refine p_aload_n rfl dX9_shares_59 rfl ?_
          refine p_iload_n rfl dX9_shares_60 rfl ?_
          refine p_callVr (f := f9_blocksOn p1) (st := [.int p2]) [.int p1] qRokM (m9_blocksOn l p1) cal_RX9_364 uM_0 rfl rfl ⟨rfl, rfl⟩ ⟨Nat.le_of_ble_eq_true rfl, Nat.le_of_ble_eq_true rfl⟩ (Nat.le_of_ble_eq_true rfl) dX9_shares_61 rfl (fun z17 => ?_)
          refine p_imul dX9_shares_64 rfl ?_
          refine p_iload_n rfl dX9_shares_65 rfl ?_
          refine p_idiv dX9_shares_66 rfl (fun _ => ?_)
          exact J15 ((p2 * z17) / x11)
noncomputable def f9_isScript (p1 : Int32) (h : qH) : Option (Int32) :=
  (f9_in p1 (0 : Int32) ((h.1 0 15) - (1 : Int32)) h).bind fun (z1 : Int32) =>
  qg (qbo z1) <|
  some z1
set_option maxRecDepth 100000 in
set_option maxHeartbeats 4000000 in
theorem m9_isScript (l : Launch) (p1 : Int32) : qMet UM ROM l yX9_isScript (qws yX9_isScript cX9_isScript 2 (some .boolean)) R9_isScript [.ref 0, .int p1] (f9_isScript p1) qEr := by
  refine q_met (own := RX9) 0 (by decide) rfl (Nat.le_of_ble_eq_true rfl) (ls := [some (.ref 0), some (.int p1)]) rfl fun h => ?_
  unfold f9_isScript
  refine p_iload_n rfl dX9_isScript_0 rfl ?_
  refine p_iconst (v := (0 : Int32)) kiconst_0 dX9_isScript_1 rfl ?_
  refine p_aload_n rfl dX9_isScript_2 rfl ?_
  refine p_geti qg_RX9_188 uM_0 rfl dX9_isScript_3 rfl ?_
  refine p_iconst (v := (1 : Int32)) kiconst_1 dX9_isScript_6 rfl ?_
  refine p_isub dX9_isScript_7 rfl ?_
  refine p_callSr (f := f9_in p1 (0 : Int32) ((h.1 0 15) - (1 : Int32))) (st := []) [.int p1, .int (0 : Int32), .int ((h.1 0 15) - (1 : Int32))] qRokM (m9_in l p1 (0 : Int32) ((h.1 0 15) - (1 : Int32))) cal_RX9_76 rfl ⟨rfl, rfl⟩ ⟨Nat.le_of_ble_eq_true rfl, Nat.le_of_ble_eq_true rfl⟩ (Nat.le_of_ble_eq_true rfl) dX9_isScript_8 rfl (fun z1 => ?_)
  exact p_zretG rfl rfl dX9_isScript_11
noncomputable def f9_step (p1 : Int32) (p2 : Int32) (p3 : Int32) (h : qH) : Option (Int32) :=
  (f9_isScript p1 h).bind fun (z1 : Int32) =>
  qj (fun (x2 : Int32) =>
    some x2) fun j3 =>
  if z1 = 0 then (
    j3 (-1000000 : Int32))
  else (
    qg (qin p1 5) <|
    (f9_in p2 (0 : Int32) ((h.1 8 (ix p1)) - (1 : Int32)) h).bind fun (z6 : Int32) =>
    if z6 = 0 then (
      j3 (-1000000 : Int32))
    else (
      (f9_in p3 (0 : Int32) (2 : Int32) h).bind fun (z8 : Int32) =>
      if z8 = 0 then (
        j3 (-1000000 : Int32))
      else (
        qg (qin (((3 : Int32) * (((16 : Int32) * p1) + p2)) + p3) 240) <|
        j3 (h.1 7 (ix (((3 : Int32) * (((16 : Int32) * p1) + p2)) + p3))))))
set_option maxRecDepth 100000 in
set_option maxHeartbeats 4000000 in
theorem m9_step (l : Launch) (p1 : Int32) (p2 : Int32) (p3 : Int32) : qMet UM ROM l yX9_step (qws yX9_step cX9_step 4 (some .int)) R9_step [.ref 0, .int p1, .int p2, .int p3] (f9_step p1 p2 p3) qEr := by
  refine q_met (own := RX9) 0 (by decide) rfl (Nat.le_of_ble_eq_true rfl) (ls := [some (.ref 0), some (.int p1), some (.int p2), some (.int p3)]) rfl fun h => ?_
  unfold f9_step
  refine p_aload_n rfl dX9_step_0 rfl ?_
  refine p_iload_n rfl dX9_step_1 rfl ?_
  refine p_callVr (f := f9_isScript p1) (st := []) [.int p1] qRokM (m9_isScript l p1) cal_RX9_406 uM_0 rfl rfl ⟨rfl, rfl⟩ ⟨Nat.le_of_ble_eq_true rfl, Nat.le_of_ble_eq_true rfl⟩ (Nat.le_of_ble_eq_true rfl) dX9_step_2 rfl (fun z1 => ?_)
  refine p_jn (fun j3 => ∀ (x2 : Int32), PW UM ROM l R9_step cX9_step 4 (some .int) RX9 (qEr h) 54 [some (.ref 0), some (.int p1), some (.int p2), some (.int p3)] [.int x2] h (j3 x2)) (fun x2 => ?_) (fun j3 J4 => ?_)
  · exact p_iret rfl rfl dX9_step_54
  · refine p_if (fun c5 => ?_) (fun c5 => ?_)
    · refine p_if_eq_t (tgt := 51) dX9_step_5 (by decide) c5 ?_
      refine p_ldcw (v := (-1000000 : Int32)) kcRX9_363 dX9_step_51 rfl ?_
      exact J4 (-1000000 : Int32)
    · refine p_if_eq_f (tgt := 51) dX9_step_5 (by decide) rfl c5 ?_
      refine p_iload_n rfl dX9_step_8 rfl ?_
      refine p_iconst (v := (0 : Int32)) kiconst_0 dX9_step_9 rfl ?_
      refine p_aload_n rfl dX9_step_10 rfl ?_
      refine p_getr qg_RX9_31 uM_0 rfl dX9_step_11 rfl ?_
      refine p_iload_n rfl dX9_step_14 rfl ?_
      refine p_iald uM_8 dX9_step_15 rfl (fun _ => ?_)
      refine p_iconst (v := (1 : Int32)) kiconst_1 dX9_step_16 rfl ?_
      refine p_isub dX9_step_17 rfl ?_
      refine p_callSr (f := f9_in p2 (0 : Int32) ((h.1 8 (ix p1)) - (1 : Int32))) (st := []) [.int p2, .int (0 : Int32), .int ((h.1 8 (ix p1)) - (1 : Int32))] qRokM (m9_in l p2 (0 : Int32) ((h.1 8 (ix p1)) - (1 : Int32))) cal_RX9_76 rfl ⟨rfl, rfl⟩ ⟨Nat.le_of_ble_eq_true rfl, Nat.le_of_ble_eq_true rfl⟩ (Nat.le_of_ble_eq_true rfl) dX9_step_18 rfl (fun z6 => ?_)
      refine p_if (fun c7 => ?_) (fun c7 => ?_)
      · refine p_if_eq_t (tgt := 51) dX9_step_21 (by decide) c7 ?_
        refine p_ldcw (v := (-1000000 : Int32)) kcRX9_363 dX9_step_51 rfl ?_
        exact J4 (-1000000 : Int32)
      · refine p_if_eq_f (tgt := 51) dX9_step_21 (by decide) rfl c7 ?_
        refine p_iload_n rfl dX9_step_24 rfl ?_
        refine p_iconst (v := (0 : Int32)) kiconst_0 dX9_step_25 rfl ?_
        refine p_iconst (v := (2 : Int32)) kiconst_2 dX9_step_26 rfl ?_
        refine p_callSr (f := f9_in p3 (0 : Int32) (2 : Int32)) (st := []) [.int p3, .int (0 : Int32), .int (2 : Int32)] qRokM (m9_in l p3 (0 : Int32) (2 : Int32)) cal_RX9_76 rfl ⟨rfl, rfl⟩ ⟨Nat.le_of_ble_eq_true rfl, Nat.le_of_ble_eq_true rfl⟩ (Nat.le_of_ble_eq_true rfl) dX9_step_27 rfl (fun z8 => ?_)
        refine p_if (fun c9 => ?_) (fun c9 => ?_)
        · refine p_if_eq_t (tgt := 51) dX9_step_30 (by decide) c9 ?_
          refine p_ldcw (v := (-1000000 : Int32)) kcRX9_363 dX9_step_51 rfl ?_
          exact J4 (-1000000 : Int32)
        · refine p_if_eq_f (tgt := 51) dX9_step_30 (by decide) rfl c9 ?_
          refine p_aload_n rfl dX9_step_33 rfl ?_
          refine p_getr qg_RX9_28 uM_0 rfl dX9_step_34 rfl ?_
          refine p_iconst (v := (3 : Int32)) kiconst_3 dX9_step_37 rfl ?_
          refine p_bipush (v := (16 : Int32)) kbipush_16 dX9_step_38 rfl ?_
          refine p_iload_n rfl dX9_step_40 rfl ?_
          refine p_imul dX9_step_41 rfl ?_
          refine p_iload_n rfl dX9_step_42 rfl ?_
          refine p_iadd dX9_step_43 rfl ?_
          refine p_imul dX9_step_44 rfl ?_
          refine p_iload_n rfl dX9_step_45 rfl ?_
          refine p_iadd dX9_step_46 rfl ?_
          refine p_iald uM_7 dX9_step_47 rfl (fun _ => ?_)
          refine p_goto (tgt := 54) dX9_step_48 (by decide) ?_
          exact J4 (h.1 7 (ix (((3 : Int32) * (((16 : Int32) * p1) + p2)) + p3)))
noncomputable def f9_actOf (p1 : Int32) (h : qH) : Option (Int32) :=
  if p1 = (0 : Int32) then (
    some (0 : Int32))
  else (
    if p1 = (1 : Int32) then (
    some (1 : Int32))
  else (
    if p1 = (2 : Int32) then (
    some (2 : Int32))
  else (
    if p1 = (3 : Int32) then (
    some (3 : Int32))
  else (
    if p1 = (4 : Int32) then (
    some (4 : Int32))
  else (
    if p1 = (5 : Int32) then (
    some (5 : Int32))
  else (
    if p1 = (6 : Int32) then (
    some (6 : Int32))
  else (
    if p1 = (7 : Int32) then (
    some (7 : Int32))
  else (
    if p1 = (8 : Int32) then (
    some (8 : Int32))
  else (
    if p1 = (9 : Int32) then (
    some (9 : Int32))
  else (
    some (10 : Int32)))))))))))
set_option maxRecDepth 100000 in
set_option maxHeartbeats 4000000 in
theorem m9_actOf (l : Launch) (p1 : Int32) : qMet UM ROM l yX9_actOf (qws yX9_actOf cX9_actOf 1 (some .int)) R9_actOf [.int p1] (f9_actOf p1) qEr := by
  refine q_met (own := RX9) 0 (by decide) rfl (Nat.le_of_ble_eq_true rfl) (ls := [some (.int p1)]) rfl fun h => ?_
  unfold f9_actOf
  refine p_iload_n rfl dX9_actOf_0 rfl ?_
  refine p_if (fun c1 => ?_) (fun c1 => ?_)
  · refine p_swI (v := (0 : Int32)) (tgt := 56) dX9_actOf_1 c1 (by decide) (by decide) rfl (by decide) ?_
    refine p_iconst (v := (0 : Int32)) kiconst_0 dX9_actOf_56 rfl ?_
    exact p_iret rfl rfl dX9_actOf_57
  · refine p_if (fun c2 => ?_) (fun c2 => ?_)
    · refine p_swI (v := (1 : Int32)) (tgt := 58) dX9_actOf_1 c2 (by decide) (by decide) rfl (by decide) ?_
      refine p_iconst (v := (1 : Int32)) kiconst_1 dX9_actOf_58 rfl ?_
      exact p_iret rfl rfl dX9_actOf_59
    · refine p_if (fun c3 => ?_) (fun c3 => ?_)
      · refine p_swI (v := (2 : Int32)) (tgt := 60) dX9_actOf_1 c3 (by decide) (by decide) rfl (by decide) ?_
        refine p_iconst (v := (2 : Int32)) kiconst_2 dX9_actOf_60 rfl ?_
        exact p_iret rfl rfl dX9_actOf_61
      · refine p_if (fun c4 => ?_) (fun c4 => ?_)
        · refine p_swI (v := (3 : Int32)) (tgt := 62) dX9_actOf_1 c4 (by decide) (by decide) rfl (by decide) ?_
          refine p_iconst (v := (3 : Int32)) kiconst_3 dX9_actOf_62 rfl ?_
          exact p_iret rfl rfl dX9_actOf_63
        · refine p_if (fun c5 => ?_) (fun c5 => ?_)
          · refine p_swI (v := (4 : Int32)) (tgt := 64) dX9_actOf_1 c5 (by decide) (by decide) rfl (by decide) ?_
            refine p_iconst (v := (4 : Int32)) kiconst_4 dX9_actOf_64 rfl ?_
            exact p_iret rfl rfl dX9_actOf_65
          · refine p_if (fun c6 => ?_) (fun c6 => ?_)
            · refine p_swI (v := (5 : Int32)) (tgt := 66) dX9_actOf_1 c6 (by decide) (by decide) rfl (by decide) ?_
              refine p_iconst (v := (5 : Int32)) kiconst_5 dX9_actOf_66 rfl ?_
              exact p_iret rfl rfl dX9_actOf_67
            · refine p_if (fun c7 => ?_) (fun c7 => ?_)
              · refine p_swI (v := (6 : Int32)) (tgt := 68) dX9_actOf_1 c7 (by decide) (by decide) rfl (by decide) ?_
                refine p_bipush (v := (6 : Int32)) kbipush_6 dX9_actOf_68 rfl ?_
                exact p_iret rfl rfl dX9_actOf_70
              · refine p_if (fun c8 => ?_) (fun c8 => ?_)
                · refine p_swI (v := (7 : Int32)) (tgt := 71) dX9_actOf_1 c8 (by decide) (by decide) rfl (by decide) ?_
                  refine p_bipush (v := (7 : Int32)) kbipush_7 dX9_actOf_71 rfl ?_
                  exact p_iret rfl rfl dX9_actOf_73
                · refine p_if (fun c9 => ?_) (fun c9 => ?_)
                  · refine p_swI (v := (8 : Int32)) (tgt := 74) dX9_actOf_1 c9 (by decide) (by decide) rfl (by decide) ?_
                    refine p_bipush (v := (8 : Int32)) kbipush_8 dX9_actOf_74 rfl ?_
                    exact p_iret rfl rfl dX9_actOf_76
                  · refine p_if (fun c10 => ?_) (fun c10 => ?_)
                    · refine p_swI (v := (9 : Int32)) (tgt := 77) dX9_actOf_1 c10 (by decide) (by decide) rfl (by decide) ?_
                      refine p_bipush (v := (9 : Int32)) kbipush_9 dX9_actOf_77 rfl ?_
                      exact p_iret rfl rfl dX9_actOf_79
                    · refine p_swO (tgt := 80) dX9_actOf_1 (by
                          have c1' := lv_neT c1 (a := 0) (by decide)
                          have c2' := lv_neT c2 (a := 1) (by decide)
                          have c3' := lv_neT c3 (a := 2) (by decide)
                          have c4' := lv_neT c4 (a := 3) (by decide)
                          have c5' := lv_neT c5 (a := 4) (by decide)
                          have c6' := lv_neT c6 (a := 5) (by decide)
                          have c7' := lv_neT c7 (a := 6) (by decide)
                          have c8' := lv_neT c8 (a := 7) (by decide)
                          have c9' := lv_neT c9 (a := 8) (by decide)
                          have c10' := lv_neT c10 (a := 9) (by decide)
                          omega) (by decide) ?_
                      refine p_bipush (v := (10 : Int32)) kbipush_10 dX9_actOf_80 rfl ?_
                      exact p_iret rfl rfl dX9_actOf_82
noncomputable def f9_goSteps_L2 (p1 : Int32) (p2 : Int32) (k : Int32 → qH → Option (Int32 × qH)) : Nat → Int32 → qH → Option (Int32 × qH)
  | 0, _, _ => none
  | n + 1, x1, h2 =>
    qg (qin p1 5) <|
    if (h2.1 8 (ix p1)) ≤ x1 then (
      k x1 h2)
    else (
      qlt ((3 : Int32) * (((16 : Int32) * p1) + x1)) fun (x4 : Int32) =>
      qg (qin x4 240) <|
      (f9_actOf (h2.1 7 (ix x4)) h2).bind fun (z5 : Int32) =>
      qg (qin (x4 + (1 : Int32)) 240) <|
      qg (qin (x4 + (2 : Int32)) 240) <|
      (f9_whyNot z5 (h2.1 7 (ix (x4 + (1 : Int32)))) (h2.1 7 (ix (x4 + (2 : Int32)))) h2).bind fun (z6 : Int32) =>
      if z6 = (-1 : Int32) then (
        qj (fun (h8 : qH) =>
          qlt (x1 + (1 : Int32)) fun (x11 : Int32) =>
          f9_goSteps_L2 p1 p2 k n x11 h8) fun j9 =>
        if p2 = 0 then (
          qg (qin (x4 + (1 : Int32)) 240) <|
          qg (qin (x4 + (2 : Int32)) 240) <|
          qb2 (f9_doNow z5 (h2.1 7 (ix (x4 + (1 : Int32)))) (h2.1 7 (ix (x4 + (2 : Int32)))) h2) fun (z13 : Int32) (h14 : qH) =>
          j9 h14)
        else (
          qg (qin (x4 + (1 : Int32)) 240) <|
          qg (qin (x4 + (2 : Int32)) 240) <|
          qb2 (f9_act z5 (h2.1 7 (ix (x4 + (1 : Int32)))) (h2.1 7 (ix (x4 + (2 : Int32)))) h2) fun (z15 : Int32) (h16 : qH) =>
          j9 h16))
      else (
        some (x1, h2)))
set_option maxRecDepth 100000 in
set_option maxHeartbeats 4000000 in
theorem w9_goSteps_L2 (l : Launch) (h0 : qH) (p1 : Int32) (p2 : Int32) {k : Int32 → qH → Option (Int32 × qH)} (hk : ∀ (x1 : Int32) (h2 : qH), PW UM ROM l R9_goSteps cX9_goSteps 6 (some .int) RX9 (qEw h0) 127 [some (.ref 0), some (.int p1), some (.int p2), some (.int x1), none, none] [] h2 (k x1 h2)) : ∀ (n : Nat) (x1 : Int32) (h2 : qH), PW UM ROM l R9_goSteps cX9_goSteps 6 (some .int) RX9 (qEw h0) 2 [some (.ref 0), some (.int p1), some (.int p2), some (.int x1), none, none] [] h2 (f9_goSteps_L2 p1 p2 k n x1 h2) := by
  intro n
  induction n with
  | zero => intro _ _; exact p_none
  | succ n ih =>
    intro x1 h2
    unfold f9_goSteps_L2
    refine p_iload_n rfl dX9_goSteps_2 rfl ?_
    refine p_aload_n rfl dX9_goSteps_3 rfl ?_
    refine p_getr qg_RX9_31 uM_0 rfl dX9_goSteps_4 rfl ?_
    refine p_iload_n rfl dX9_goSteps_7 rfl ?_
    refine p_iald uM_8 dX9_goSteps_8 rfl (fun _ => ?_)
    refine p_if (fun c3 => ?_) (fun c3 => ?_)
    · refine p_icmp_ge_t (tgt := 127) dX9_goSteps_9 (by decide) c3 ?_
      exact hk x1 h2
    · refine p_icmp_ge_f (tgt := 127) dX9_goSteps_9 (by decide) rfl c3 ?_
      refine p_iconst (v := (3 : Int32)) kiconst_3 dX9_goSteps_12 rfl ?_
      refine p_bipush (v := (16 : Int32)) kbipush_16 dX9_goSteps_13 rfl ?_
      refine p_iload_n rfl dX9_goSteps_15 rfl ?_
      refine p_imul dX9_goSteps_16 rfl ?_
      refine p_iload_n rfl dX9_goSteps_17 rfl ?_
      refine p_iadd dX9_goSteps_18 rfl ?_
      refine p_imul dX9_goSteps_19 rfl ?_
      refine p_isN (lf := fun x4 => [some (.ref 0), some (.int p1), some (.int p2), some (.int x1), some (.int x4), none]) dX9_goSteps_20 rfl rfl rfl (fun _ => rfl) (fun x4 => ?_)
      refine p_aload_n rfl dX9_goSteps_22 rfl ?_
      refine p_getr qg_RX9_28 uM_0 rfl dX9_goSteps_23 rfl ?_
      refine p_iload rfl dX9_goSteps_26 rfl ?_
      refine p_iald uM_7 dX9_goSteps_28 rfl (fun _ => ?_)
      refine p_callSr (f := f9_actOf (h2.1 7 (ix x4))) (st := []) [.int (h2.1 7 (ix x4))] qRokM (m9_actOf l (h2.1 7 (ix x4))) cal_RX9_409 rfl ⟨rfl, rfl⟩ ⟨Nat.le_of_ble_eq_true rfl, Nat.le_of_ble_eq_true rfl⟩ (Nat.le_of_ble_eq_true rfl) dX9_goSteps_29 rfl (fun z5 => ?_)
      refine p_is (ls' := [some (.ref 0), some (.int p1), some (.int p2), some (.int x1), some (.int x4), some (.int z5)]) dX9_goSteps_32 rfl rfl rfl rfl ?_
      refine p_aload_n rfl dX9_goSteps_34 rfl ?_
      refine p_iload rfl dX9_goSteps_35 rfl ?_
      refine p_aload_n rfl dX9_goSteps_37 rfl ?_
      refine p_getr qg_RX9_28 uM_0 rfl dX9_goSteps_38 rfl ?_
      refine p_iload rfl dX9_goSteps_41 rfl ?_
      refine p_iconst (v := (1 : Int32)) kiconst_1 dX9_goSteps_43 rfl ?_
      refine p_iadd dX9_goSteps_44 rfl ?_
      refine p_iald uM_7 dX9_goSteps_45 rfl (fun _ => ?_)
      refine p_aload_n rfl dX9_goSteps_46 rfl ?_
      refine p_getr qg_RX9_28 uM_0 rfl dX9_goSteps_47 rfl ?_
      refine p_iload rfl dX9_goSteps_50 rfl ?_
      refine p_iconst (v := (2 : Int32)) kiconst_2 dX9_goSteps_52 rfl ?_
      refine p_iadd dX9_goSteps_53 rfl ?_
      refine p_iald uM_7 dX9_goSteps_54 rfl (fun _ => ?_)
      refine p_callVr (f := f9_whyNot z5 (h2.1 7 (ix (x4 + (1 : Int32)))) (h2.1 7 (ix (x4 + (2 : Int32))))) (st := []) [.int z5, .int (h2.1 7 (ix (x4 + (1 : Int32)))), .int (h2.1 7 (ix (x4 + (2 : Int32))))] qRokM (m9_whyNot l z5 (h2.1 7 (ix (x4 + (1 : Int32)))) (h2.1 7 (ix (x4 + (2 : Int32))))) cal_RX9_337 uM_0 rfl rfl ⟨rfl, rfl⟩ ⟨Nat.le_of_ble_eq_true rfl, Nat.le_of_ble_eq_true rfl⟩ (Nat.le_of_ble_eq_true rfl) dX9_goSteps_55 rfl (fun z6 => ?_)
      refine p_iconst (v := (-1 : Int32)) kiconst_m1 dX9_goSteps_58 rfl ?_
      refine p_if (fun c7 => ?_) (fun c7 => ?_)
      · refine p_icmp_eq_t (tgt := 64) dX9_goSteps_59 (by decide) c7 ?_
        refine p_iload_n rfl dX9_goSteps_64 rfl ?_
        refine p_jn (fun j9 => ∀ (h8 : qH), PW UM ROM l R9_goSteps cX9_goSteps 6 (some .int) RX9 (qEw h0) 121 [some (.ref 0), some (.int p1), some (.int p2), some (.int x1), some (.int x4), some (.int z5)] [] h8 (j9 h8)) (fun h8 => ?_) (fun j9 J10 => ?_)
        · refine p_iiN (v := (1 : Int32)) (lf := fun x11 => [some (.ref 0), some (.int p1), some (.int p2), some (.int x11), some (.int x4), some (.int z5)]) kiconst_1 dX9_goSteps_121 rfl rfl rfl rfl (fun _ => rfl) (fun x11 => ?_)
          refine p_goto (tgt := 2) dX9_goSteps_124 (by decide) ?_
          exact p_wk (ls' := [some (.ref 0), some (.int p1), some (.int p2), some (.int x11), none, none]) ⟨rfl, rfl, rfl, rfl, trivial⟩ (ih x11 h8)
        · refine p_if (fun c12 => ?_) (fun c12 => ?_)
          · refine p_if_eq_t (tgt := 96) dX9_goSteps_65 (by decide) c12 ?_
            refine p_aload_n rfl dX9_goSteps_96 rfl ?_
            refine p_iload rfl dX9_goSteps_97 rfl ?_
            refine p_aload_n rfl dX9_goSteps_99 rfl ?_
            refine p_getr qg_RX9_28 uM_0 rfl dX9_goSteps_100 rfl ?_
            refine p_iload rfl dX9_goSteps_103 rfl ?_
            refine p_iconst (v := (1 : Int32)) kiconst_1 dX9_goSteps_105 rfl ?_
            refine p_iadd dX9_goSteps_106 rfl ?_
            refine p_iald uM_7 dX9_goSteps_107 rfl (fun _ => ?_)
            refine p_aload_n rfl dX9_goSteps_108 rfl ?_
            refine p_getr qg_RX9_28 uM_0 rfl dX9_goSteps_109 rfl ?_
            refine p_iload rfl dX9_goSteps_112 rfl ?_
            refine p_iconst (v := (2 : Int32)) kiconst_2 dX9_goSteps_114 rfl ?_
            refine p_iadd dX9_goSteps_115 rfl ?_
            refine p_iald uM_7 dX9_goSteps_116 rfl (fun _ => ?_)
            refine p_cVw (f := f9_doNow z5 (h2.1 7 (ix (x4 + (1 : Int32)))) (h2.1 7 (ix (x4 + (2 : Int32))))) (st := []) [.int z5, .int (h2.1 7 (ix (x4 + (1 : Int32)))), .int (h2.1 7 (ix (x4 + (2 : Int32))))] qRokM (m9_doNow l z5 (h2.1 7 (ix (x4 + (1 : Int32)))) (h2.1 7 (ix (x4 + (2 : Int32))))) cal_RX9_331 uM_0 rfl rfl ⟨rfl, rfl⟩ ⟨Nat.le_of_ble_eq_true rfl, Nat.le_of_ble_eq_true rfl⟩ (Nat.le_of_ble_eq_true rfl) dX9_goSteps_117 rfl (fun z13 h14 => ?_)
            refine p_pop rfl dX9_goSteps_120 rfl ?_
            exact J10 h14
          · refine p_if_eq_f (tgt := 96) dX9_goSteps_65 (by decide) rfl c12 ?_
            refine p_aload_n rfl dX9_goSteps_68 rfl ?_
            refine p_iload rfl dX9_goSteps_69 rfl ?_
            refine p_aload_n rfl dX9_goSteps_71 rfl ?_
            refine p_getr qg_RX9_28 uM_0 rfl dX9_goSteps_72 rfl ?_
            refine p_iload rfl dX9_goSteps_75 rfl ?_
            refine p_iconst (v := (1 : Int32)) kiconst_1 dX9_goSteps_77 rfl ?_
            refine p_iadd dX9_goSteps_78 rfl ?_
            refine p_iald uM_7 dX9_goSteps_79 rfl (fun _ => ?_)
            refine p_aload_n rfl dX9_goSteps_80 rfl ?_
            refine p_getr qg_RX9_28 uM_0 rfl dX9_goSteps_81 rfl ?_
            refine p_iload rfl dX9_goSteps_84 rfl ?_
            refine p_iconst (v := (2 : Int32)) kiconst_2 dX9_goSteps_86 rfl ?_
            refine p_iadd dX9_goSteps_87 rfl ?_
            refine p_iald uM_7 dX9_goSteps_88 rfl (fun _ => ?_)
            refine p_cVw (f := f9_act z5 (h2.1 7 (ix (x4 + (1 : Int32)))) (h2.1 7 (ix (x4 + (2 : Int32))))) (st := []) [.int z5, .int (h2.1 7 (ix (x4 + (1 : Int32)))), .int (h2.1 7 (ix (x4 + (2 : Int32))))] qRokM (m9_act l z5 (h2.1 7 (ix (x4 + (1 : Int32)))) (h2.1 7 (ix (x4 + (2 : Int32))))) cal_RX9_340 uM_0 rfl rfl ⟨rfl, rfl⟩ ⟨Nat.le_of_ble_eq_true rfl, Nat.le_of_ble_eq_true rfl⟩ (Nat.le_of_ble_eq_true rfl) dX9_goSteps_89 rfl (fun z15 h16 => ?_)
            refine p_pop rfl dX9_goSteps_92 rfl ?_
            refine p_goto (tgt := 121) dX9_goSteps_93 (by decide) ?_
            exact J10 h16
      · refine p_icmp_eq_f (tgt := 64) dX9_goSteps_59 (by decide) rfl c7 ?_
        refine p_iload_n rfl dX9_goSteps_62 rfl ?_
        exact p_iret rfl rfl dX9_goSteps_63
noncomputable def f9_goSteps (p1 : Int32) (p2 : Int32) (h : qH) : Option (Int32 × qH) :=
  f9_goSteps_L2 p1 p2 (fun (x17 : Int32) (h18 : qH) =>
    qg (qin p1 5) <|
    some ((h18.1 8 (ix p1)), h18)) qN (0 : Int32) h
set_option maxRecDepth 100000 in
set_option maxHeartbeats 4000000 in
theorem m9_goSteps (l : Launch) (p1 : Int32) (p2 : Int32) : qMet UM ROM l yX9_goSteps (qws yX9_goSteps cX9_goSteps 6 (some .int)) R9_goSteps [.ref 0, .int p1, .int p2] (f9_goSteps p1 p2) qEw := by
  refine q_met (own := RX9) 3 (by decide) rfl (Nat.le_of_ble_eq_true rfl) (ls := [some (.ref 0), some (.int p1), some (.int p2), none, none, none]) rfl fun h => ?_
  unfold f9_goSteps
  show PW UM ROM l R9_goSteps cX9_goSteps 6 (some .int) RX9 (qEw h) 0 [some (.ref 0), some (.int p1), some (.int p2), none, none, none] [] h _
  refine p_iconst (v := (0 : Int32)) kiconst_0 dX9_goSteps_0 rfl ?_
  refine p_is_n (ls' := [some (.ref 0), some (.int p1), some (.int p2), some (.int (0 : Int32)), none, none]) dX9_goSteps_1 rfl rfl rfl rfl ?_
  refine w9_goSteps_L2 l h p1 p2 (fun x17 h18 => ?_) qN _ _
  refine p_aload_n rfl dX9_goSteps_127 rfl ?_
  refine p_getr qg_RX9_31 uM_0 rfl dX9_goSteps_128 rfl ?_
  refine p_iload_n rfl dX9_goSteps_131 rfl ?_
  refine p_iald uM_8 dX9_goSteps_132 rfl (fun _ => ?_)
  exact p_iret rfl rfl dX9_goSteps_133
noncomputable def f9_putRunAside_L2 (k : Int32 → qH → Option (qH)) : Nat → Int32 → qH → Option (qH)
  | 0, _, _ => none
  | n + 1, x1, h2 =>
    if (172 : Int32) ≤ x1 then (
      k x1 h2)
    else (
      qg (qin x1 353) <|
      qg (qin x1 172) <|
      qlt (qw h2 17 (ix x1) (h2.1 9 (ix x1))) fun (h4 : qH) =>
      qlt (x1 + (1 : Int32)) fun (x5 : Int32) =>
      f9_putRunAside_L2 k n x5 h4)
set_option maxRecDepth 100000 in
set_option maxHeartbeats 4000000 in
theorem w9_putRunAside_L2 (l : Launch) (h0 : qH) {k : Int32 → qH → Option (qH)} (hk : ∀ (x1 : Int32) (h2 : qH), PW UM ROM l R9_putRunAside cX9_putRunAside 2 none RX9 (qEv h0) 27 [some (.ref 0), some (.int x1)] [] h2 (k x1 h2)) : ∀ (n : Nat) (x1 : Int32) (h2 : qH), PW UM ROM l R9_putRunAside cX9_putRunAside 2 none RX9 (qEv h0) 2 [some (.ref 0), some (.int x1)] [] h2 (f9_putRunAside_L2 k n x1 h2) := by
  intro n
  induction n with
  | zero => intro _ _; exact p_none
  | succ n ih =>
    intro x1 h2
    unfold f9_putRunAside_L2
    refine p_iload_n rfl dX9_putRunAside_2 rfl ?_
    refine p_sipush (v := (172 : Int32)) ksipush_172 dX9_putRunAside_3 rfl ?_
    refine p_if (fun c3 => ?_) (fun c3 => ?_)
    · refine p_icmp_ge_t (tgt := 27) dX9_putRunAside_6 (by decide) c3 ?_
      exact hk x1 h2
    · refine p_icmp_ge_f (tgt := 27) dX9_putRunAside_6 (by decide) rfl c3 ?_
      refine p_aload_n rfl dX9_putRunAside_9 rfl ?_
      refine p_getr qg_RX9_59 uM_0 rfl dX9_putRunAside_10 rfl ?_
      refine p_iload_n rfl dX9_putRunAside_13 rfl ?_
      refine p_aload_n rfl dX9_putRunAside_14 rfl ?_
      refine p_getr qg_RX9_34 uM_0 rfl dX9_putRunAside_15 rfl ?_
      refine p_iload_n rfl dX9_putRunAside_18 rfl ?_
      refine p_iald uM_9 dX9_putRunAside_19 rfl (fun _ => ?_)
      refine p_iast qokM uM_17 dX9_putRunAside_20 rfl (fun _ => ?_)
      refine p_nmH (fun h4 => ?_)
      refine p_iiN (v := (1 : Int32)) (lf := fun x5 => [some (.ref 0), some (.int x5)]) kiconst_1 dX9_putRunAside_21 rfl rfl rfl rfl (fun _ => rfl) (fun x5 => ?_)
      refine p_goto (tgt := 2) dX9_putRunAside_24 (by decide) ?_
      exact ih x5 h4
noncomputable def f9_putRunAside (h : qH) : Option (qH) :=
  f9_putRunAside_L2 (fun (x6 : Int32) (h7 : qH) =>
    some h7) qN (0 : Int32) h
set_option maxRecDepth 100000 in
set_option maxHeartbeats 4000000 in
theorem m9_putRunAside (l : Launch) : qMet UM ROM l yX9_putRunAside (qws yX9_putRunAside cX9_putRunAside 2 none) R9_putRunAside [.ref 0] f9_putRunAside qEv := by
  refine q_met (own := RX9) 1 (by decide) rfl (Nat.le_of_ble_eq_true rfl) (ls := [some (.ref 0), none]) rfl fun h => ?_
  unfold f9_putRunAside
  show PW UM ROM l R9_putRunAside cX9_putRunAside 2 none RX9 (qEv h) 0 [some (.ref 0), none] [] h _
  refine p_iconst (v := (0 : Int32)) kiconst_0 dX9_putRunAside_0 rfl ?_
  refine p_is_n (ls' := [some (.ref 0), some (.int (0 : Int32))]) dX9_putRunAside_1 rfl rfl rfl rfl ?_
  refine w9_putRunAside_L2 l h (fun x6 h7 => ?_) qN _ _
  exact p_vret rfl rfl dX9_putRunAside_27
noncomputable def f9_run_L52 (p1 : Int32) (p2 : Int32) (z8 : Int32) (x10 : Int32) (k : Int32 → qH → Option (Int32 × qH)) : Nat → Int32 → qH → Option (Int32 × qH)
  | 0, _, _ => none
  | n + 1, x11, h12 =>
    if (172 : Int32) ≤ x11 then (
      k x11 h12)
    else (
      qg (qin x11 172) <|
      qg (qin x11 353) <|
      qlt (qw h12 9 (ix x11) (h12.1 17 (ix x11))) fun (h14 : qH) =>
      qlt (x11 + (1 : Int32)) fun (x15 : Int32) =>
      f9_run_L52 p1 p2 z8 x10 k n x15 h14)
set_option maxRecDepth 100000 in
set_option maxHeartbeats 4000000 in
theorem w9_run_L52 (l : Launch) (h0 : qH) (p1 : Int32) (p2 : Int32) (z8 : Int32) (x10 : Int32) {k : Int32 → qH → Option (Int32 × qH)} (hk : ∀ (x11 : Int32) (h12 : qH), PW UM ROM l R9_run cX9_run 6 (some .int) RX9 (qEw h0) 80 [some (.ref 0), some (.int p1), some (.int p2), some (.int z8), some (.int x10), some (.int x11)] [] h12 (k x11 h12)) : ∀ (n : Nat) (x11 : Int32) (h12 : qH), PW UM ROM l R9_run cX9_run 6 (some .int) RX9 (qEw h0) 52 [some (.ref 0), some (.int p1), some (.int p2), some (.int z8), some (.int x10), some (.int x11)] [] h12 (f9_run_L52 p1 p2 z8 x10 k n x11 h12) := by
  intro n
  induction n with
  | zero => intro _ _; exact p_none
  | succ n ih =>
    intro x11 h12
    unfold f9_run_L52
    refine p_iload rfl dX9_run_52 rfl ?_
    refine p_sipush (v := (172 : Int32)) ksipush_172 dX9_run_54 rfl ?_
    refine p_if (fun c13 => ?_) (fun c13 => ?_)
    · refine p_icmp_ge_t (tgt := 80) dX9_run_57 (by decide) c13 ?_
      exact hk x11 h12
    · refine p_icmp_ge_f (tgt := 80) dX9_run_57 (by decide) rfl c13 ?_
      refine p_aload_n rfl dX9_run_60 rfl ?_
      refine p_getr qg_RX9_34 uM_0 rfl dX9_run_61 rfl ?_
      refine p_iload rfl dX9_run_64 rfl ?_
      refine p_aload_n rfl dX9_run_66 rfl ?_
      refine p_getr qg_RX9_59 uM_0 rfl dX9_run_67 rfl ?_
      refine p_iload rfl dX9_run_70 rfl ?_
      refine p_iald uM_17 dX9_run_72 rfl (fun _ => ?_)
      refine p_iast qokM uM_9 dX9_run_73 rfl (fun _ => ?_)
      refine p_nmH (fun h14 => ?_)
      refine p_iiN (v := (1 : Int32)) (lf := fun x15 => [some (.ref 0), some (.int p1), some (.int p2), some (.int z8), some (.int x10), some (.int x15)]) kiconst_1 dX9_run_74 rfl rfl rfl rfl (fun _ => rfl) (fun x15 => ?_)
      refine p_goto (tgt := 52) dX9_run_77 (by decide) ?_
      exact ih x15 h14
noncomputable def f9_run (p1 : Int32) (p2 : Int32) (h : qH) : Option (Int32 × qH) :=
  (f9_isScript p1 h).bind fun (z1 : Int32) =>
  if z1 = 0 then (
    some ((-1000000 : Int32), h))
  else (
    (f9_isHall h).bind fun (z3 : Int32) =>
    if z3 = 0 then (
      some ((-1000000 : Int32), h))
    else (
      (f9_in p2 (0 : Int32) (1 : Int32) h).bind fun (z5 : Int32) =>
      if z5 = 0 then (
        some ((-1000000 : Int32), h))
      else (
        (f9_putRunAside h).bind fun (h7 : qH) =>
        qb2 (f9_goSteps p1 (0 : Int32) h7) fun (z8 : Int32) (h9 : qH) =>
        qlt (h9.1 9 170) fun (x10 : Int32) =>
        f9_run_L52 p1 p2 z8 x10 (fun (x16 : Int32) (h17 : qH) =>
          qj (fun (x18 : Int32) =>
            some (x18, h17)) fun j19 =>
          if p2 = (1 : Int32) then (
            j19 x10)
          else (
            qg (qin p1 5) <|
            if z8 = (h17.1 8 (ix p1)) then (
              j19 (-1 : Int32))
            else (
              j19 z8))) qN (0 : Int32) h9)))
set_option maxRecDepth 100000 in
set_option maxHeartbeats 4000000 in
theorem m9_run (l : Launch) (p1 : Int32) (p2 : Int32) : qMet UM ROM l yX9_run (qws yX9_run cX9_run 6 (some .int)) R9_run [.ref 0, .int p1, .int p2] (f9_run p1 p2) qEw := by
  refine q_met (own := RX9) 3 (by decide) rfl (Nat.le_of_ble_eq_true rfl) (ls := [some (.ref 0), some (.int p1), some (.int p2), none, none, none]) rfl fun h => ?_
  unfold f9_run
  show PW UM ROM l R9_run cX9_run 6 (some .int) RX9 (qEw h) 0 [some (.ref 0), some (.int p1), some (.int p2), none, none, none] [] h _
  refine p_aload_n rfl dX9_run_0 rfl ?_
  refine p_iload_n rfl dX9_run_1 rfl ?_
  refine p_callVr (f := f9_isScript p1) (st := []) [.int p1] qRokM (m9_isScript l p1) cal_RX9_406 uM_0 rfl rfl ⟨rfl, rfl⟩ ⟨Nat.le_of_ble_eq_true rfl, Nat.le_of_ble_eq_true rfl⟩ (Nat.le_of_ble_eq_true rfl) dX9_run_2 rfl (fun z1 => ?_)
  refine p_if (fun c2 => ?_) (fun c2 => ?_)
  · refine p_if_eq_t (tgt := 24) dX9_run_5 (by decide) c2 ?_
    refine p_ldcw (v := (-1000000 : Int32)) kcRX9_363 dX9_run_24 rfl ?_
    exact p_iret rfl rfl dX9_run_27
  · refine p_if_eq_f (tgt := 24) dX9_run_5 (by decide) rfl c2 ?_
    refine p_aload_n rfl dX9_run_8 rfl ?_
    refine p_callVr (f := f9_isHall) (st := []) [] qRokM (m9_isHall l) cal_RX9_156 uM_0 rfl rfl ⟨rfl, rfl⟩ ⟨Nat.le_of_ble_eq_true rfl, Nat.le_of_ble_eq_true rfl⟩ (Nat.le_of_ble_eq_true rfl) dX9_run_9 rfl (fun z3 => ?_)
    refine p_if (fun c4 => ?_) (fun c4 => ?_)
    · refine p_if_eq_t (tgt := 24) dX9_run_12 (by decide) c4 ?_
      refine p_ldcw (v := (-1000000 : Int32)) kcRX9_363 dX9_run_24 rfl ?_
      exact p_iret rfl rfl dX9_run_27
    · refine p_if_eq_f (tgt := 24) dX9_run_12 (by decide) rfl c4 ?_
      refine p_iload_n rfl dX9_run_15 rfl ?_
      refine p_iconst (v := (0 : Int32)) kiconst_0 dX9_run_16 rfl ?_
      refine p_iconst (v := (1 : Int32)) kiconst_1 dX9_run_17 rfl ?_
      refine p_callSr (f := f9_in p2 (0 : Int32) (1 : Int32)) (st := []) [.int p2, .int (0 : Int32), .int (1 : Int32)] qRokM (m9_in l p2 (0 : Int32) (1 : Int32)) cal_RX9_76 rfl ⟨rfl, rfl⟩ ⟨Nat.le_of_ble_eq_true rfl, Nat.le_of_ble_eq_true rfl⟩ (Nat.le_of_ble_eq_true rfl) dX9_run_18 rfl (fun z5 => ?_)
      refine p_if (fun c6 => ?_) (fun c6 => ?_)
      · refine p_if_ne_f (tgt := 28) dX9_run_21 (by decide) rfl c6 ?_
        refine p_ldcw (v := (-1000000 : Int32)) kcRX9_363 dX9_run_24 rfl ?_
        exact p_iret rfl rfl dX9_run_27
      · refine p_if_ne_t (tgt := 28) dX9_run_21 (by decide) c6 ?_
        refine p_aload_n rfl dX9_run_28 rfl ?_
        refine p_callVv (f := f9_putRunAside) (st := []) [] qRokM (m9_putRunAside l) cal_RX9_412 uM_0 rfl rfl ⟨rfl, rfl⟩ ⟨Nat.le_of_ble_eq_true rfl, Nat.le_of_ble_eq_true rfl⟩ (Nat.le_of_ble_eq_true rfl) dX9_run_29 rfl (fun h7 => ?_)
        refine p_aload_n rfl dX9_run_32 rfl ?_
        refine p_iload_n rfl dX9_run_33 rfl ?_
        refine p_iconst (v := (0 : Int32)) kiconst_0 dX9_run_34 rfl ?_
        refine p_cVw (f := f9_goSteps p1 (0 : Int32)) (st := []) [.int p1, .int (0 : Int32)] qRokM (m9_goSteps l p1 (0 : Int32)) cal_RX9_415 uM_0 rfl rfl ⟨rfl, rfl⟩ ⟨Nat.le_of_ble_eq_true rfl, Nat.le_of_ble_eq_true rfl⟩ (Nat.le_of_ble_eq_true rfl) dX9_run_35 rfl (fun z8 h9 => ?_)
        refine p_is_n (ls' := [some (.ref 0), some (.int p1), some (.int p2), some (.int z8), none, none]) dX9_run_38 rfl rfl rfl rfl ?_
        refine p_aload_n rfl dX9_run_39 rfl ?_
        refine p_getr qg_RX9_34 uM_0 rfl dX9_run_40 rfl ?_
        refine p_sipush (v := (170 : Int32)) ksipush_170 dX9_run_43 rfl ?_
        refine p_ialdK uM_9 kix_170 kqin_170_353 dX9_run_46 rfl ?_
        refine p_isN (lf := fun x10 => [some (.ref 0), some (.int p1), some (.int p2), some (.int z8), some (.int x10), none]) dX9_run_47 rfl rfl rfl (fun _ => rfl) (fun x10 => ?_)
        refine p_iconst (v := (0 : Int32)) kiconst_0 dX9_run_49 rfl ?_
        refine p_is (ls' := [some (.ref 0), some (.int p1), some (.int p2), some (.int z8), some (.int x10), some (.int (0 : Int32))]) dX9_run_50 rfl rfl rfl rfl ?_
        refine w9_run_L52 l h p1 p2 z8 x10 (fun x16 h17 => ?_) qN _ _
        refine p_iload_n rfl dX9_run_80 rfl ?_
        refine p_iconst (v := (1 : Int32)) kiconst_1 dX9_run_81 rfl ?_
        refine p_jn (fun j19 => ∀ (x18 : Int32), PW UM ROM l R9_run cX9_run 6 (some .int) RX9 (qEw h) 105 [some (.ref 0), some (.int p1), some (.int p2), some (.int z8), some (.int x10), some (.int x16)] [.int x18] h17 (j19 x18)) (fun x18 => ?_) (fun j19 J20 => ?_)
        · exact p_iret rfl rfl dX9_run_105
        · refine p_if (fun c21 => ?_) (fun c21 => ?_)
          · refine p_icmp_ne_f (tgt := 90) dX9_run_82 (by decide) rfl c21 ?_
            refine p_iload rfl dX9_run_85 rfl ?_
            refine p_goto (tgt := 105) dX9_run_87 (by decide) ?_
            exact J20 x10
          · refine p_icmp_ne_t (tgt := 90) dX9_run_82 (by decide) c21 ?_
            refine p_iload_n rfl dX9_run_90 rfl ?_
            refine p_aload_n rfl dX9_run_91 rfl ?_
            refine p_getr qg_RX9_31 uM_0 rfl dX9_run_92 rfl ?_
            refine p_iload_n rfl dX9_run_95 rfl ?_
            refine p_iald uM_8 dX9_run_96 rfl (fun _ => ?_)
            refine p_if (fun c22 => ?_) (fun c22 => ?_)
            · refine p_icmp_ne_f (tgt := 104) dX9_run_97 (by decide) rfl c22 ?_
              refine p_iconst (v := (-1 : Int32)) kiconst_m1 dX9_run_100 rfl ?_
              refine p_goto (tgt := 105) dX9_run_101 (by decide) ?_
              exact J20 (-1 : Int32)
            · refine p_icmp_ne_t (tgt := 104) dX9_run_97 (by decide) c22 ?_
              refine p_iload_n rfl dX9_run_104 rfl ?_
              exact J20 z8
noncomputable def f9_perform (p1 : Int32) (h : qH) : Option (Int32 × qH) :=
  (f9_isScript p1 h).bind fun (z1 : Int32) =>
  qj (fun (x2 : Int32) (h3 : qH) =>
    some (x2, h3)) fun j4 =>
  if z1 = 0 then (
    j4 (-1 : Int32) h)
  else (
    (f9_isHall h).bind fun (z7 : Int32) =>
    if z7 = 0 then (
      j4 (-1 : Int32) h)
    else (
      qb2 (f9_goSteps p1 (1 : Int32) h) fun (z9 : Int32) (h10 : qH) =>
      j4 z9 h10))
set_option maxRecDepth 100000 in
set_option maxHeartbeats 4000000 in
theorem m9_perform (l : Launch) (p1 : Int32) : qMet UM ROM l yX9_perform (qws yX9_perform cX9_perform 2 (some .int)) R9_perform [.ref 0, .int p1] (f9_perform p1) qEw := by
  refine q_met (own := RX9) 0 (by decide) rfl (Nat.le_of_ble_eq_true rfl) (ls := [some (.ref 0), some (.int p1)]) rfl fun h => ?_
  unfold f9_perform
  show PW UM ROM l R9_perform cX9_perform 2 (some .int) RX9 (qEw h) 0 [some (.ref 0), some (.int p1)] [] h _
  refine p_aload_n rfl dX9_perform_0 rfl ?_
  refine p_iload_n rfl dX9_perform_1 rfl ?_
  refine p_callVr (f := f9_isScript p1) (st := []) [.int p1] qRokM (m9_isScript l p1) cal_RX9_406 uM_0 rfl rfl ⟨rfl, rfl⟩ ⟨Nat.le_of_ble_eq_true rfl, Nat.le_of_ble_eq_true rfl⟩ (Nat.le_of_ble_eq_true rfl) dX9_perform_2 rfl (fun z1 => ?_)
  refine p_jn (fun j4 => ∀ (x2 : Int32) (h3 : qH), PW UM ROM l R9_perform cX9_perform 2 (some .int) RX9 (qEw h) 25 [some (.ref 0), some (.int p1)] [.int x2] h3 (j4 x2 h3)) (fun x2 h3 => ?_) (fun j4 J5 => ?_)
  · exact p_iret rfl rfl dX9_perform_25
  · refine p_if (fun c6 => ?_) (fun c6 => ?_)
    · refine p_if_eq_t (tgt := 24) dX9_perform_5 (by decide) c6 ?_
      refine p_iconst (v := (-1 : Int32)) kiconst_m1 dX9_perform_24 rfl ?_
      exact J5 (-1 : Int32) h
    · refine p_if_eq_f (tgt := 24) dX9_perform_5 (by decide) rfl c6 ?_
      refine p_aload_n rfl dX9_perform_8 rfl ?_
      refine p_callVr (f := f9_isHall) (st := []) [] qRokM (m9_isHall l) cal_RX9_156 uM_0 rfl rfl ⟨rfl, rfl⟩ ⟨Nat.le_of_ble_eq_true rfl, Nat.le_of_ble_eq_true rfl⟩ (Nat.le_of_ble_eq_true rfl) dX9_perform_9 rfl (fun z7 => ?_)
      refine p_if (fun c8 => ?_) (fun c8 => ?_)
      · refine p_if_eq_t (tgt := 24) dX9_perform_12 (by decide) c8 ?_
        refine p_iconst (v := (-1 : Int32)) kiconst_m1 dX9_perform_24 rfl ?_
        exact J5 (-1 : Int32) h
      · refine p_if_eq_f (tgt := 24) dX9_perform_12 (by decide) rfl c8 ?_
        refine p_aload_n rfl dX9_perform_15 rfl ?_
        refine p_iload_n rfl dX9_perform_16 rfl ?_
        refine p_iconst (v := (1 : Int32)) kiconst_1 dX9_perform_17 rfl ?_
        refine p_cVw (f := f9_goSteps p1 (1 : Int32)) (st := []) [.int p1, .int (1 : Int32)] qRokM (m9_goSteps l p1 (1 : Int32)) cal_RX9_415 uM_0 rfl rfl ⟨rfl, rfl⟩ ⟨Nat.le_of_ble_eq_true rfl, Nat.le_of_ble_eq_true rfl⟩ (Nat.le_of_ble_eq_true rfl) dX9_perform_18 rfl (fun z9 h10 => ?_)
        refine p_goto (tgt := 25) dX9_perform_21 (by decide) ?_
        exact J5 z9 h10
noncomputable def f9_driven_L4 (h : qH) (k : Int32 → Int32 → Option (Int32)) : Nat → Int32 → Int32 → Option (Int32)
  | 0, _, _ => none
  | n + 1, x1, x2 =>
    if (h.1 0 12) ≤ x2 then (
      k x1 x2)
    else (
      (f9_isDriven x2 h).bind fun (z4 : Int32) =>
      qlt (if z4 = 0 then (0 : Int32) else ((1 : Int32) <<< (x2 &&& 31))) fun (x6 : Int32) =>
      qlt (x1 ||| x6) fun (x7 : Int32) =>
      qlt (x2 + (1 : Int32)) fun (x8 : Int32) =>
      f9_driven_L4 h k n x7 x8)
set_option maxRecDepth 100000 in
set_option maxHeartbeats 4000000 in
theorem w9_driven_L4 (l : Launch) (h : qH) {k : Int32 → Int32 → Option (Int32)} (hk : ∀ (x1 : Int32) (x2 : Int32), PW UM ROM l R9_driven cX9_driven 3 (some .int) RX9 (qEr h) 36 [some (.ref 0), some (.int x1), some (.int x2)] [] h (k x1 x2)) : ∀ (n : Nat) (x1 : Int32) (x2 : Int32), PW UM ROM l R9_driven cX9_driven 3 (some .int) RX9 (qEr h) 4 [some (.ref 0), some (.int x1), some (.int x2)] [] h (f9_driven_L4 h k n x1 x2) := by
  intro n
  induction n with
  | zero => intro _ _; exact p_none
  | succ n ih =>
    intro x1 x2
    unfold f9_driven_L4
    refine p_iload_n rfl dX9_driven_4 rfl ?_
    refine p_aload_n rfl dX9_driven_5 rfl ?_
    refine p_geti qg_RX9_153 uM_0 rfl dX9_driven_6 rfl ?_
    refine p_if (fun c3 => ?_) (fun c3 => ?_)
    · refine p_icmp_ge_t (tgt := 36) dX9_driven_9 (by decide) c3 ?_
      exact hk x1 x2
    · refine p_icmp_ge_f (tgt := 36) dX9_driven_9 (by decide) rfl c3 ?_
      refine p_iload_n rfl dX9_driven_12 rfl ?_
      refine p_aload_n rfl dX9_driven_13 rfl ?_
      refine p_iload_n rfl dX9_driven_14 rfl ?_
      refine p_callVr (f := f9_isDriven x2) (st := [.int x1]) [.int x2] qRokM (m9_isDriven l x2) cal_RX9_209 uM_0 rfl rfl ⟨rfl, rfl⟩ ⟨Nat.le_of_ble_eq_true rfl, Nat.le_of_ble_eq_true rfl⟩ (Nat.le_of_ble_eq_true rfl) dX9_driven_15 rfl (fun z4 => ?_)
      refine p_vj 28 [some (.ref 0), some (.int x1), some (.int x2)] [.int x1] (fun x6 => ?_) (fun J => ?_)
      · refine p_ior dX9_driven_28 rfl ?_
        refine p_isN_n (lf := fun x7 => [some (.ref 0), some (.int x7), some (.int x2)]) dX9_driven_29 rfl rfl rfl (fun _ => rfl) (fun x7 => ?_)
        refine p_iiN (v := (1 : Int32)) (lf := fun x8 => [some (.ref 0), some (.int x7), some (.int x8)]) kiconst_1 dX9_driven_30 rfl rfl rfl rfl (fun _ => rfl) (fun x8 => ?_)
        refine p_goto (tgt := 4) dX9_driven_33 (by decide) ?_
        exact ih x7 x8
      · refine p_dia (fun c5 => ?_) (fun c5 => ?_)
        · refine p_if_eq_t (tgt := 27) dX9_driven_18 (by decide) c5 ?_
          refine p_iconst (v := (0 : Int32)) kiconst_0 dX9_driven_27 rfl ?_
          exact J _
        · refine p_if_eq_f (tgt := 27) dX9_driven_18 (by decide) rfl c5 ?_
          refine p_iconst (v := (1 : Int32)) kiconst_1 dX9_driven_21 rfl ?_
          refine p_iload_n rfl dX9_driven_22 rfl ?_
          refine p_ishl dX9_driven_23 rfl ?_
          refine p_goto (tgt := 28) dX9_driven_24 (by decide) ?_
          exact J _
noncomputable def f9_driven (h : qH) : Option (Int32) :=
  f9_driven_L4 h (fun (x9 : Int32) (x10 : Int32) =>
    some x9) qN (0 : Int32) (0 : Int32)
set_option maxRecDepth 100000 in
set_option maxHeartbeats 4000000 in
theorem m9_driven (l : Launch) : qMet UM ROM l yX9_driven (qws yX9_driven cX9_driven 3 (some .int)) R9_driven [.ref 0] f9_driven qEr := by
  refine q_met (own := RX9) 2 (by decide) rfl (Nat.le_of_ble_eq_true rfl) (ls := [some (.ref 0), none, none]) rfl fun h => ?_
  unfold f9_driven
  refine p_iconst (v := (0 : Int32)) kiconst_0 dX9_driven_0 rfl ?_
  refine p_is_n (ls' := [some (.ref 0), some (.int (0 : Int32)), none]) dX9_driven_1 rfl rfl rfl rfl ?_
  refine p_iconst (v := (0 : Int32)) kiconst_0 dX9_driven_2 rfl ?_
  refine p_is_n (ls' := [some (.ref 0), some (.int (0 : Int32)), some (.int (0 : Int32))]) dX9_driven_3 rfl rfl rfl rfl ?_
  refine w9_driven_L4 l h (fun x9 x10 => ?_) qN _ _
  refine p_iload_n rfl dX9_driven_36 rfl ?_
  exact p_iret rfl rfl dX9_driven_37
noncomputable def f9_heldMany_L4 (h : qH) (k : Int32 → Int32 → Option (Int32)) : Nat → Int32 → Int32 → Option (Int32)
  | 0, _, _ => none
  | n + 1, x1, x2 =>
    if (h.1 9 168) ≤ x2 then (
      k x1 x2)
    else (
      qg (qin ((48 : Int32) + x2) 353) <|
      qlt (if (h.1 9 (ix ((48 : Int32) + x2))) = (-1 : Int32) then (0 : Int32) else (1 : Int32)) fun (x5 : Int32) =>
      qlt (x1 + x5) fun (x6 : Int32) =>
      qlt (x2 + (1 : Int32)) fun (x7 : Int32) =>
      f9_heldMany_L4 h k n x6 x7)
set_option maxRecDepth 100000 in
set_option maxHeartbeats 4000000 in
theorem w9_heldMany_L4 (l : Launch) (h : qH) {k : Int32 → Int32 → Option (Int32)} (hk : ∀ (x1 : Int32) (x2 : Int32), PW UM ROM l R9_heldMany cX9_heldMany 3 (some .int) RX9 (qEr h) 43 [some (.ref 0), some (.int x1), some (.int x2)] [] h (k x1 x2)) : ∀ (n : Nat) (x1 : Int32) (x2 : Int32), PW UM ROM l R9_heldMany cX9_heldMany 3 (some .int) RX9 (qEr h) 4 [some (.ref 0), some (.int x1), some (.int x2)] [] h (f9_heldMany_L4 h k n x1 x2) := by
  intro n
  induction n with
  | zero => intro _ _; exact p_none
  | succ n ih =>
    intro x1 x2
    unfold f9_heldMany_L4
    refine p_iload_n rfl dX9_heldMany_4 rfl ?_
    refine p_aload_n rfl dX9_heldMany_5 rfl ?_
    refine p_getr qg_RX9_34 uM_0 rfl dX9_heldMany_6 rfl ?_
    refine p_sipush (v := (168 : Int32)) ksipush_168 dX9_heldMany_9 rfl ?_
    refine p_ialdK uM_9 kix_168 kqin_168_353 dX9_heldMany_12 rfl ?_
    refine p_if (fun c3 => ?_) (fun c3 => ?_)
    · refine p_icmp_ge_t (tgt := 43) dX9_heldMany_13 (by decide) c3 ?_
      exact hk x1 x2
    · refine p_icmp_ge_f (tgt := 43) dX9_heldMany_13 (by decide) rfl c3 ?_
      refine p_iload_n rfl dX9_heldMany_16 rfl ?_
      refine p_aload_n rfl dX9_heldMany_17 rfl ?_
      refine p_getr qg_RX9_34 uM_0 rfl dX9_heldMany_18 rfl ?_
      refine p_bipush (v := (48 : Int32)) kbipush_48 dX9_heldMany_21 rfl ?_
      refine p_iload_n rfl dX9_heldMany_23 rfl ?_
      refine p_iadd dX9_heldMany_24 rfl ?_
      refine p_iald uM_9 dX9_heldMany_25 rfl (fun _ => ?_)
      refine p_iconst (v := (-1 : Int32)) kiconst_m1 dX9_heldMany_26 rfl ?_
      refine p_vj 35 [some (.ref 0), some (.int x1), some (.int x2)] [.int x1] (fun x5 => ?_) (fun J => ?_)
      · refine p_iadd dX9_heldMany_35 rfl ?_
        refine p_isN_n (lf := fun x6 => [some (.ref 0), some (.int x6), some (.int x2)]) dX9_heldMany_36 rfl rfl rfl (fun _ => rfl) (fun x6 => ?_)
        refine p_iiN (v := (1 : Int32)) (lf := fun x7 => [some (.ref 0), some (.int x6), some (.int x7)]) kiconst_1 dX9_heldMany_37 rfl rfl rfl rfl (fun _ => rfl) (fun x7 => ?_)
        refine p_goto (tgt := 4) dX9_heldMany_40 (by decide) ?_
        exact ih x6 x7
      · refine p_dia (fun c4 => ?_) (fun c4 => ?_)
        · refine p_icmp_eq_t (tgt := 34) dX9_heldMany_27 (by decide) c4 ?_
          refine p_iconst (v := (0 : Int32)) kiconst_0 dX9_heldMany_34 rfl ?_
          exact J _
        · refine p_icmp_eq_f (tgt := 34) dX9_heldMany_27 (by decide) rfl c4 ?_
          refine p_iconst (v := (1 : Int32)) kiconst_1 dX9_heldMany_30 rfl ?_
          refine p_goto (tgt := 35) dX9_heldMany_31 (by decide) ?_
          exact J _
noncomputable def f9_heldMany (h : qH) : Option (Int32) :=
  f9_heldMany_L4 h (fun (x8 : Int32) (x9 : Int32) =>
    some x8) qN (0 : Int32) (0 : Int32)
set_option maxRecDepth 100000 in
set_option maxHeartbeats 4000000 in
theorem m9_heldMany (l : Launch) : qMet UM ROM l yX9_heldMany (qws yX9_heldMany cX9_heldMany 3 (some .int)) R9_heldMany [.ref 0] f9_heldMany qEr := by
  refine q_met (own := RX9) 2 (by decide) rfl (Nat.le_of_ble_eq_true rfl) (ls := [some (.ref 0), none, none]) rfl fun h => ?_
  unfold f9_heldMany
  refine p_iconst (v := (0 : Int32)) kiconst_0 dX9_heldMany_0 rfl ?_
  refine p_is_n (ls' := [some (.ref 0), some (.int (0 : Int32)), none]) dX9_heldMany_1 rfl rfl rfl rfl ?_
  refine p_iconst (v := (0 : Int32)) kiconst_0 dX9_heldMany_2 rfl ?_
  refine p_is_n (ls' := [some (.ref 0), some (.int (0 : Int32)), some (.int (0 : Int32))]) dX9_heldMany_3 rfl rfl rfl rfl ?_
  refine w9_heldMany_L4 l h (fun x8 x9 => ?_) qN _ _
  refine p_iload_n rfl dX9_heldMany_43 rfl ?_
  exact p_iret rfl rfl dX9_heldMany_44
noncomputable def f9_mendedOfAll_L4 (h : qH) (k : Int32 → Int32 → Option (Int32)) : Nat → Int32 → Int32 → Option (Int32)
  | 0, _, _ => none
  | n + 1, x1, x2 =>
    if (h.1 0 12) ≤ x2 then (
      k x1 x2)
    else (
      qg (qin ((32 : Int32) + x2) 353) <|
      qlt (x1 + (h.1 9 (ix ((32 : Int32) + x2)))) fun (x4 : Int32) =>
      qlt (x2 + (1 : Int32)) fun (x5 : Int32) =>
      f9_mendedOfAll_L4 h k n x4 x5)
set_option maxRecDepth 100000 in
set_option maxHeartbeats 4000000 in
theorem w9_mendedOfAll_L4 (l : Launch) (h : qH) {k : Int32 → Int32 → Option (Int32)} (hk : ∀ (x1 : Int32) (x2 : Int32), PW UM ROM l R9_mendedOfAll cX9_mendedOfAll 3 (some .int) RX9 (qEr h) 30 [some (.ref 0), some (.int x1), some (.int x2)] [] h (k x1 x2)) : ∀ (n : Nat) (x1 : Int32) (x2 : Int32), PW UM ROM l R9_mendedOfAll cX9_mendedOfAll 3 (some .int) RX9 (qEr h) 4 [some (.ref 0), some (.int x1), some (.int x2)] [] h (f9_mendedOfAll_L4 h k n x1 x2) := by
  intro n
  induction n with
  | zero => intro _ _; exact p_none
  | succ n ih =>
    intro x1 x2
    unfold f9_mendedOfAll_L4
    refine p_iload_n rfl dX9_mendedOfAll_4 rfl ?_
    refine p_aload_n rfl dX9_mendedOfAll_5 rfl ?_
    refine p_geti qg_RX9_153 uM_0 rfl dX9_mendedOfAll_6 rfl ?_
    refine p_if (fun c3 => ?_) (fun c3 => ?_)
    · refine p_icmp_ge_t (tgt := 30) dX9_mendedOfAll_9 (by decide) c3 ?_
      exact hk x1 x2
    · refine p_icmp_ge_f (tgt := 30) dX9_mendedOfAll_9 (by decide) rfl c3 ?_
      refine p_iload_n rfl dX9_mendedOfAll_12 rfl ?_
      refine p_aload_n rfl dX9_mendedOfAll_13 rfl ?_
      refine p_getr qg_RX9_34 uM_0 rfl dX9_mendedOfAll_14 rfl ?_
      refine p_bipush (v := (32 : Int32)) kbipush_32 dX9_mendedOfAll_17 rfl ?_
      refine p_iload_n rfl dX9_mendedOfAll_19 rfl ?_
      refine p_iadd dX9_mendedOfAll_20 rfl ?_
      refine p_iald uM_9 dX9_mendedOfAll_21 rfl (fun _ => ?_)
      refine p_iadd dX9_mendedOfAll_22 rfl ?_
      refine p_isN_n (lf := fun x4 => [some (.ref 0), some (.int x4), some (.int x2)]) dX9_mendedOfAll_23 rfl rfl rfl (fun _ => rfl) (fun x4 => ?_)
      refine p_iiN (v := (1 : Int32)) (lf := fun x5 => [some (.ref 0), some (.int x4), some (.int x5)]) kiconst_1 dX9_mendedOfAll_24 rfl rfl rfl rfl (fun _ => rfl) (fun x5 => ?_)
      refine p_goto (tgt := 4) dX9_mendedOfAll_27 (by decide) ?_
      exact ih x4 x5
noncomputable def f9_mendedOfAll (h : qH) : Option (Int32) :=
  f9_mendedOfAll_L4 h (fun (x6 : Int32) (x7 : Int32) =>
    some x6) qN (0 : Int32) (0 : Int32)
set_option maxRecDepth 100000 in
set_option maxHeartbeats 4000000 in
theorem m9_mendedOfAll (l : Launch) : qMet UM ROM l yX9_mendedOfAll (qws yX9_mendedOfAll cX9_mendedOfAll 3 (some .int)) R9_mendedOfAll [.ref 0] f9_mendedOfAll qEr := by
  refine q_met (own := RX9) 2 (by decide) rfl (Nat.le_of_ble_eq_true rfl) (ls := [some (.ref 0), none, none]) rfl fun h => ?_
  unfold f9_mendedOfAll
  refine p_iconst (v := (0 : Int32)) kiconst_0 dX9_mendedOfAll_0 rfl ?_
  refine p_is_n (ls' := [some (.ref 0), some (.int (0 : Int32)), none]) dX9_mendedOfAll_1 rfl rfl rfl rfl ?_
  refine p_iconst (v := (0 : Int32)) kiconst_0 dX9_mendedOfAll_2 rfl ?_
  refine p_is_n (ls' := [some (.ref 0), some (.int (0 : Int32)), some (.int (0 : Int32))]) dX9_mendedOfAll_3 rfl rfl rfl rfl ?_
  refine w9_mendedOfAll_L4 l h (fun x6 x7 => ?_) qN _ _
  refine p_iload_n rfl dX9_mendedOfAll_30 rfl ?_
  exact p_iret rfl rfl dX9_mendedOfAll_31
noncomputable def f9_roomiest_L4 (h : qH) (k : Int32 → Int32 → Option (Int32)) : Nat → Int32 → Int32 → Option (Int32)
  | 0, _, _ => none
  | n + 1, x1, x2 =>
    if (h.1 0 12) ≤ x2 then (
      k x1 x2)
    else (
      qg (qin ((16 : Int32) + x2) 353) <|
      qg (qin ((16 : Int32) + x1) 353) <|
      qlt (if (h.1 9 (ix ((16 : Int32) + x1))) ≤ (h.1 9 (ix ((16 : Int32) + x2))) then x1 else x2) fun (x5 : Int32) =>
      qlt (x2 + (1 : Int32)) fun (x6 : Int32) =>
      f9_roomiest_L4 h k n x5 x6)
set_option maxRecDepth 100000 in
set_option maxHeartbeats 4000000 in
theorem w9_roomiest_L4 (l : Launch) (h : qH) {k : Int32 → Int32 → Option (Int32)} (hk : ∀ (x1 : Int32) (x2 : Int32), PW UM ROM l R9_roomiest cX9_roomiest 3 (some .int) RX9 (qEr h) 45 [some (.ref 0), some (.int x1), some (.int x2)] [] h (k x1 x2)) : ∀ (n : Nat) (x1 : Int32) (x2 : Int32), PW UM ROM l R9_roomiest cX9_roomiest 3 (some .int) RX9 (qEr h) 4 [some (.ref 0), some (.int x1), some (.int x2)] [] h (f9_roomiest_L4 h k n x1 x2) := by
  intro n
  induction n with
  | zero => intro _ _; exact p_none
  | succ n ih =>
    intro x1 x2
    unfold f9_roomiest_L4
    refine p_iload_n rfl dX9_roomiest_4 rfl ?_
    refine p_aload_n rfl dX9_roomiest_5 rfl ?_
    refine p_geti qg_RX9_153 uM_0 rfl dX9_roomiest_6 rfl ?_
    refine p_if (fun c3 => ?_) (fun c3 => ?_)
    · refine p_icmp_ge_t (tgt := 45) dX9_roomiest_9 (by decide) c3 ?_
      exact hk x1 x2
    · refine p_icmp_ge_f (tgt := 45) dX9_roomiest_9 (by decide) rfl c3 ?_
      refine p_aload_n rfl dX9_roomiest_12 rfl ?_
      refine p_getr qg_RX9_34 uM_0 rfl dX9_roomiest_13 rfl ?_
      refine p_bipush (v := (16 : Int32)) kbipush_16 dX9_roomiest_16 rfl ?_
      refine p_iload_n rfl dX9_roomiest_18 rfl ?_
      refine p_iadd dX9_roomiest_19 rfl ?_
      refine p_iald uM_9 dX9_roomiest_20 rfl (fun _ => ?_)
      refine p_aload_n rfl dX9_roomiest_21 rfl ?_
      refine p_getr qg_RX9_34 uM_0 rfl dX9_roomiest_22 rfl ?_
      refine p_bipush (v := (16 : Int32)) kbipush_16 dX9_roomiest_25 rfl ?_
      refine p_iload_n rfl dX9_roomiest_27 rfl ?_
      refine p_iadd dX9_roomiest_28 rfl ?_
      refine p_iald uM_9 dX9_roomiest_29 rfl (fun _ => ?_)
      refine p_vj 38 [some (.ref 0), some (.int x1), some (.int x2)] [] (fun x5 => ?_) (fun J => ?_)
      · refine p_is_n (ls' := [some (.ref 0), some (.int x5), some (.int x2)]) dX9_roomiest_38 rfl rfl rfl rfl ?_
        refine p_iiN (v := (1 : Int32)) (lf := fun x6 => [some (.ref 0), some (.int x5), some (.int x6)]) kiconst_1 dX9_roomiest_39 rfl rfl rfl rfl (fun _ => rfl) (fun x6 => ?_)
        refine p_goto (tgt := 4) dX9_roomiest_42 (by decide) ?_
        exact ih x5 x6
      · refine p_dia (fun c4 => ?_) (fun c4 => ?_)
        · refine p_icmp_ge_t (tgt := 37) dX9_roomiest_30 (by decide) c4 ?_
          refine p_iload_n rfl dX9_roomiest_37 rfl ?_
          exact J _
        · refine p_icmp_ge_f (tgt := 37) dX9_roomiest_30 (by decide) rfl c4 ?_
          refine p_iload_n rfl dX9_roomiest_33 rfl ?_
          refine p_goto (tgt := 38) dX9_roomiest_34 (by decide) ?_
          exact J _
noncomputable def f9_roomiest (h : qH) : Option (Int32) :=
  f9_roomiest_L4 h (fun (x7 : Int32) (x8 : Int32) =>
    some x7) qN (0 : Int32) (1 : Int32)
set_option maxRecDepth 100000 in
set_option maxHeartbeats 4000000 in
theorem m9_roomiest (l : Launch) : qMet UM ROM l yX9_roomiest (qws yX9_roomiest cX9_roomiest 3 (some .int)) R9_roomiest [.ref 0] f9_roomiest qEr := by
  refine q_met (own := RX9) 2 (by decide) rfl (Nat.le_of_ble_eq_true rfl) (ls := [some (.ref 0), none, none]) rfl fun h => ?_
  unfold f9_roomiest
  refine p_iconst (v := (0 : Int32)) kiconst_0 dX9_roomiest_0 rfl ?_
  refine p_is_n (ls' := [some (.ref 0), some (.int (0 : Int32)), none]) dX9_roomiest_1 rfl rfl rfl rfl ?_
  refine p_iconst (v := (1 : Int32)) kiconst_1 dX9_roomiest_2 rfl ?_
  refine p_is_n (ls' := [some (.ref 0), some (.int (0 : Int32)), some (.int (1 : Int32))]) dX9_roomiest_3 rfl rfl rfl rfl ?_
  refine w9_roomiest_L4 l h (fun x7 x8 => ?_) qN _ _
  refine p_iload_n rfl dX9_roomiest_45 rfl ?_
  exact p_iret rfl rfl dX9_roomiest_46
