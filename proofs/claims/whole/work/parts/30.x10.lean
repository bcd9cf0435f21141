noncomputable def f8_run (p1 : Int32) (p2 : Int32) (h : qH) : Option (Int32 × qH) :=
  (f8_isScript p1 h).bind fun (z1 : Int32) =>
  if z1 = 0 then (
    some ((-1000000 : Int32), h))
  else (
    (f4_isTold 6 h).bind fun (z3 : Int32) =>
    if z3 = 0 then (
      some ((-1000000 : Int32), h))
    else (
      if p2 < 0 then (
        some ((-1000000 : Int32), h))
      else (
        if p2 ≤ (1 : Int32) then (
          qg (qin p1 4) <|
          qb2 (f8_tryScript ([23, 27, 31, 35].getD (ix p1) 0) h) fun (z8 : Int32) (h9 : qH) =>
          if p2 = (1 : Int32) then (
            some ((h9.1 63 2), h9))
          else (
            qg (qin p1 4) <|
            qlt (if z8 = (h9.1 ([23, 27, 31, 35].getD (ix p1) 0) 3) then (-1 : Int32) else z8) fun (x13 : Int32) =>
            some (x13, h9)))
        else (
          some ((-1000000 : Int32), h)))))
set_option maxRecDepth 100000 in
set_option maxHeartbeats 4000000 in
theorem m8_run (l : Launch) (p1 : Int32) (p2 : Int32) : qMet UX ROX l yX8_run (qws yX8_run cX8_run 4 (some .int)) R8_run [.ref 0, .int p1, .int p2] (f8_run p1 p2) qEw := by
  refine q_met (own := RX8) 1 (by decide) rfl (Nat.le_of_ble_eq_true rfl) (ls := [some (.ref 0), some (.int p1), some (.int p2), none]) rfl fun h => ?_
  unfold f8_run
  show PW UX ROX l R8_run cX8_run 4 (some .int) RX8 (qEw h) 0 [some (.ref 0), some (.int p1), some (.int p2), none] [] h _
  refine p_aload_n rfl dX8_run_0 rfl ?_
  refine p_iload_n rfl dX8_run_1 rfl ?_
  refine p_callVr (f := f8_isScript p1) (st := []) [.int p1] qRokX (m8_isScript l p1) cal_RX8_335 uX_0 rfl rfl ⟨rfl, rfl⟩ ⟨Nat.le_of_ble_eq_true rfl, Nat.le_of_ble_eq_true rfl⟩ (Nat.le_of_ble_eq_true rfl) dX8_run_2 rfl (fun z1 => ?_)
  refine p_if (fun c2 => ?_) (fun c2 => ?_)
  · refine p_if_eq_t (tgt := 27) dX8_run_5 (by decide) c2 ?_
    refine p_ldc (v := (-1000000 : Int32)) kcRX8_207 dX8_run_27 rfl ?_
    exact p_iret rfl rfl dX8_run_29
  · refine p_if_eq_f (tgt := 27) dX8_run_5 (by decide) rfl c2 ?_
    refine p_aload_n rfl dX8_run_8 rfl ?_
    refine p_getr qg_RX8_28 uX_0 rfl dX8_run_9 rfl ?_
    refine p_callVr (f := f4_isTold 6) (st := []) [] qRokX (m4_isTold l (kPlan_6)) cal_RX8_147 uX_6 rfl rfl ⟨rfl, rfl⟩ ⟨Nat.le_of_ble_eq_true rfl, Nat.le_of_ble_eq_true rfl⟩ (Nat.le_of_ble_eq_true rfl) dX8_run_12 rfl (fun z3 => ?_)
    refine p_if (fun c4 => ?_) (fun c4 => ?_)
    · refine p_if_eq_t (tgt := 27) dX8_run_15 (by decide) c4 ?_
      refine p_ldc (v := (-1000000 : Int32)) kcRX8_207 dX8_run_27 rfl ?_
      exact p_iret rfl rfl dX8_run_29
    · refine p_if_eq_f (tgt := 27) dX8_run_15 (by decide) rfl c4 ?_
      refine p_iload_n rfl dX8_run_18 rfl ?_
      refine p_if (fun c5 => ?_) (fun c5 => ?_)
      · refine p_if_lt_t (tgt := 27) dX8_run_19 (by decide) c5 ?_
        refine p_ldc (v := (-1000000 : Int32)) kcRX8_207 dX8_run_27 rfl ?_
        exact p_iret rfl rfl dX8_run_29
      · refine p_if_lt_f (tgt := 27) dX8_run_19 (by decide) rfl c5 ?_
        refine p_iload_n rfl dX8_run_22 rfl ?_
        refine p_iconst (v := (1 : Int32)) kiconst_1 dX8_run_23 rfl ?_
        refine p_if (fun c6 => ?_) (fun c6 => ?_)
        · refine p_icmp_le_t (tgt := 30) dX8_run_24 (by decide) c6 ?_
          refine p_aload_n rfl dX8_run_30 rfl ?_
          refine p_aload_n rfl dX8_run_31 rfl ?_
          refine p_getr qg_RX8_37 uX_0 rfl dX8_run_32 rfl ?_
          refine p_iload_n rfl dX8_run_35 rfl ?_
          refine p_aald uX_22 rfl dX8_run_36 rfl (fun hq7 => ?_)
          refine p_cVw (f := f8_tryScript ([23, 27, 31, 35].getD (ix p1) 0)) (st := []) [.ref ([23, 27, 31, 35].getD (ix p1) 0)] qRokX (m8_tryScript l (kScript_at hq7)) cal_RX8_350 uX_0 rfl rfl ⟨rfl, rfl⟩ ⟨Nat.le_of_ble_eq_true rfl, Nat.le_of_ble_eq_true rfl⟩ (Nat.le_of_ble_eq_true rfl) dX8_run_37 rfl (fun z8 h9 => ?_)
          refine p_is_n (ls' := [some (.ref 0), some (.int p1), some (.int p2), some (.int z8)]) dX8_run_40 rfl rfl rfl rfl ?_
          refine p_iload_n rfl dX8_run_41 rfl ?_
          refine p_iconst (v := (1 : Int32)) kiconst_1 dX8_run_42 rfl ?_
          refine p_if (fun c10 => ?_) (fun c10 => ?_)
          · refine p_icmp_ne_f (tgt := 54) dX8_run_43 (by decide) rfl c10 ?_
            refine p_aload_n rfl dX8_run_46 rfl ?_
            refine p_getr qg_RX8_64 uX_0 rfl dX8_run_47 rfl ?_
            refine p_geti qg_RX8_198 uX_63 rfl dX8_run_50 rfl ?_
            exact p_iret rfl rfl dX8_run_53
          · refine p_icmp_ne_t (tgt := 54) dX8_run_43 (by decide) c10 ?_
            refine p_iload_n rfl dX8_run_54 rfl ?_
            refine p_aload_n rfl dX8_run_55 rfl ?_
            refine p_getr qg_RX8_37 uX_0 rfl dX8_run_56 rfl ?_
            refine p_iload_n rfl dX8_run_59 rfl ?_
            refine p_aald uX_22 rfl dX8_run_60 rfl (fun hq11 => ?_)
            refine p_geti qg_RX8_338 (uX_Script (kScript_at hq11)) rfl dX8_run_61 rfl ?_
            refine p_vj 72 [some (.ref 0), some (.int p1), some (.int p2), some (.int z8)] [] (fun x13 => ?_) (fun J => ?_)
            · exact p_iret rfl rfl dX8_run_72
            · refine p_dia (fun c12 => ?_) (fun c12 => ?_)
              · refine p_icmp_ne_f (tgt := 71) dX8_run_64 (by decide) rfl c12 ?_
                refine p_iconst (v := (-1 : Int32)) kiconst_m1 dX8_run_67 rfl ?_
                refine p_goto (tgt := 72) dX8_run_68 (by decide) ?_
                exact J _
              · refine p_icmp_ne_t (tgt := 71) dX8_run_64 (by decide) c12 ?_
                refine p_iload_n rfl dX8_run_71 rfl ?_
                exact J _
        · refine p_icmp_le_f (tgt := 30) dX8_run_24 (by decide) rfl c6 ?_
          refine p_ldc (v := (-1000000 : Int32)) kcRX8_207 dX8_run_27 rfl ?_
          exact p_iret rfl rfl dX8_run_29
noncomputable def f8_perform_L29 (p1 : Int32) (k : Int32 → qH → Option (Int32 × qH)) : Nat → Int32 → qH → Option (Int32 × qH)
  | 0, _, _ => none
  | n + 1, x6, h7 =>
    if (h7.1 ([23, 27, 31, 35].getD (ix p1) 0) 3) ≤ x6 then (
      k x6 h7)
    else (
      qg (qin x6 16) <|
      qg (qin x6 16) <|
      qg (qin x6 16) <|
      qb2 (f8_attempt (h7.1 (([23, 27, 31, 35].getD (ix p1) 0) + 1) (ix x6)) (h7.1 (([23, 27, 31, 35].getD (ix p1) 0) + 2) (ix x6)) (h7.1 (([23, 27, 31, 35].getD (ix p1) 0) + 3) (ix x6)) (0 : Int32) h7) fun (z9 : Int32) (h10 : qH) =>
      if z9 = (-1 : Int32) then (
        some (x6, h10))
      else (
        qlt (x6 + (1 : Int32)) fun (x12 : Int32) =>
        f8_perform_L29 p1 k n x12 h10))
set_option maxRecDepth 100000 in
set_option maxHeartbeats 4000000 in
theorem w8_perform_L29 (l : Launch) (h0 : qH) (p1 : Int32) (hq5 : qin p1 4 = true) {k : Int32 → qH → Option (Int32 × qH)} (hk : ∀ (x6 : Int32) (h7 : qH), PW UX ROX l R8_perform cX8_perform 4 (some .int) RX8 (qEw h0) 72 [some (.ref 0), none, some (.ref ([23, 27, 31, 35].getD (ix p1) 0)), some (.int x6)] [] h7 (k x6 h7)) : ∀ (n : Nat) (x6 : Int32) (h7 : qH), PW UX ROX l R8_perform cX8_perform 4 (some .int) RX8 (qEw h0) 29 [some (.ref 0), none, some (.ref ([23, 27, 31, 35].getD (ix p1) 0)), some (.int x6)] [] h7 (f8_perform_L29 p1 k n x6 h7) := by
  intro n
  induction n with
  | zero => intro _ _; exact p_none
  | succ n ih =>
    intro x6 h7
    unfold f8_perform_L29
    refine p_iload_n rfl dX8_perform_29 rfl ?_
    refine p_aload_n rfl dX8_perform_30 rfl ?_
    refine p_geti qg_RX8_338 (uX_Script (kScript_at hq5)) rfl dX8_perform_31 rfl ?_
    refine p_if (fun c8 => ?_) (fun c8 => ?_)
    · refine p_icmp_ge_t (tgt := 72) dX8_perform_34 (by decide) c8 ?_
      exact hk x6 h7
    · refine p_icmp_ge_f (tgt := 72) dX8_perform_34 (by decide) rfl c8 ?_
      refine p_aload_n rfl dX8_perform_37 rfl ?_
      refine p_aload_n rfl dX8_perform_38 rfl ?_
      refine p_getr qg_RX8_341 (uX_Script (kScript_at hq5)) rfl dX8_perform_39 rfl ?_
      refine p_iload_n rfl dX8_perform_42 rfl ?_
      refine p_iald (uX_Script_1 (kScript_at hq5)) dX8_perform_43 rfl (fun _ => ?_)
      refine p_aload_n rfl dX8_perform_44 rfl ?_
      refine p_getr qg_RX8_344 (uX_Script (kScript_at hq5)) rfl dX8_perform_45 rfl ?_
      refine p_iload_n rfl dX8_perform_48 rfl ?_
      refine p_iald (uX_Script_2 (kScript_at hq5)) dX8_perform_49 rfl (fun _ => ?_)
      refine p_aload_n rfl dX8_perform_50 rfl ?_
      refine p_getr qg_RX8_347 (uX_Script (kScript_at hq5)) rfl dX8_perform_51 rfl ?_
      refine p_iload_n rfl dX8_perform_54 rfl ?_
      refine p_iald (uX_Script_3 (kScript_at hq5)) dX8_perform_55 rfl (fun _ => ?_)
      refine p_iconst (v := (0 : Int32)) kiconst_0 dX8_perform_56 rfl ?_
      refine p_cVw (f := f8_attempt (h7.1 (([23, 27, 31, 35].getD (ix p1) 0) + 1) (ix x6)) (h7.1 (([23, 27, 31, 35].getD (ix p1) 0) + 2) (ix x6)) (h7.1 (([23, 27, 31, 35].getD (ix p1) 0) + 3) (ix x6)) (0 : Int32)) (st := []) [.int (h7.1 (([23, 27, 31, 35].getD (ix p1) 0) + 1) (ix x6)), .int (h7.1 (([23, 27, 31, 35].getD (ix p1) 0) + 2) (ix x6)), .int (h7.1 (([23, 27, 31, 35].getD (ix p1) 0) + 3) (ix x6)), .int (0 : Int32)] qRokX (m8_attempt l (h7.1 (([23, 27, 31, 35].getD (ix p1) 0) + 1) (ix x6)) (h7.1 (([23, 27, 31, 35].getD (ix p1) 0) + 2) (ix x6)) (h7.1 (([23, 27, 31, 35].getD (ix p1) 0) + 3) (ix x6)) (0 : Int32)) cal_RX8_248 uX_0 rfl rfl ⟨rfl, rfl⟩ ⟨Nat.le_of_ble_eq_true rfl, Nat.le_of_ble_eq_true rfl⟩ (Nat.le_of_ble_eq_true rfl) dX8_perform_57 rfl (fun z9 h10 => ?_)
      refine p_iconst (v := (-1 : Int32)) kiconst_m1 dX8_perform_60 rfl ?_
      refine p_if (fun c11 => ?_) (fun c11 => ?_)
      · refine p_icmp_ne_f (tgt := 66) dX8_perform_61 (by decide) rfl c11 ?_
        refine p_iload_n rfl dX8_perform_64 rfl ?_
        exact p_iret rfl rfl dX8_perform_65
      · refine p_icmp_ne_t (tgt := 66) dX8_perform_61 (by decide) c11 ?_
        refine p_iiN (v := (1 : Int32)) (lf := fun x12 => [some (.ref 0), none, some (.ref ([23, 27, 31, 35].getD (ix p1) 0)), some (.int x12)]) kiconst_1 dX8_perform_66 rfl rfl rfl rfl (fun _ => rfl) (fun x12 => ?_)
        refine p_goto (tgt := 29) dX8_perform_69 (by decide) ?_
        exact ih x12 h10
noncomputable def f8_perform (p1 : Int32) (h : qH) : Option (Int32 × qH) :=
  (f8_isScript p1 h).bind fun (z1 : Int32) =>
  if z1 = 0 then (
    some ((-1 : Int32), h))
  else (
    (f4_isTold 6 h).bind fun (z3 : Int32) =>
    if z3 = 0 then (
      some ((-1 : Int32), h))
    else (
      qg (qin p1 4) <|
      f8_perform_L29 p1 (fun (x13 : Int32) (h14 : qH) =>
        some ((h14.1 ([23, 27, 31, 35].getD (ix p1) 0) 3), h14)) qN (0 : Int32) h))
set_option maxRecDepth 100000 in
set_option maxHeartbeats 4000000 in
theorem m8_perform (l : Launch) (p1 : Int32) : qMet UX ROX l yX8_perform (qws yX8_perform cX8_perform 4 (some .int)) R8_perform [.ref 0, .int p1] (f8_perform p1) qEw := by
  refine q_met (own := RX8) 2 (by decide) rfl (Nat.le_of_ble_eq_true rfl) (ls := [some (.ref 0), some (.int p1), none, none]) rfl fun h => ?_
  unfold f8_perform
  show PW UX ROX l R8_perform cX8_perform 4 (some .int) RX8 (qEw h) 0 [some (.ref 0), some (.int p1), none, none] [] h _
  refine p_aload_n rfl dX8_perform_0 rfl ?_
  refine p_iload_n rfl dX8_perform_1 rfl ?_
  refine p_callVr (f := f8_isScript p1) (st := []) [.int p1] qRokX (m8_isScript l p1) cal_RX8_335 uX_0 rfl rfl ⟨rfl, rfl⟩ ⟨Nat.le_of_ble_eq_true rfl, Nat.le_of_ble_eq_true rfl⟩ (Nat.le_of_ble_eq_true rfl) dX8_perform_2 rfl (fun z1 => ?_)
  refine p_if (fun c2 => ?_) (fun c2 => ?_)
  · refine p_if_eq_t (tgt := 18) dX8_perform_5 (by decide) c2 ?_
    refine p_iconst (v := (-1 : Int32)) kiconst_m1 dX8_perform_18 rfl ?_
    exact p_iret rfl rfl dX8_perform_19
  · refine p_if_eq_f (tgt := 18) dX8_perform_5 (by decide) rfl c2 ?_
    refine p_aload_n rfl dX8_perform_8 rfl ?_
    refine p_getr qg_RX8_28 uX_0 rfl dX8_perform_9 rfl ?_
    refine p_callVr (f := f4_isTold 6) (st := []) [] qRokX (m4_isTold l (kPlan_6)) cal_RX8_147 uX_6 rfl rfl ⟨rfl, rfl⟩ ⟨Nat.le_of_ble_eq_true rfl, Nat.le_of_ble_eq_true rfl⟩ (Nat.le_of_ble_eq_true rfl) dX8_perform_12 rfl (fun z3 => ?_)
    refine p_if (fun c4 => ?_) (fun c4 => ?_)
    · refine p_if_ne_f (tgt := 20) dX8_perform_15 (by decide) rfl c4 ?_
      refine p_iconst (v := (-1 : Int32)) kiconst_m1 dX8_perform_18 rfl ?_
      exact p_iret rfl rfl dX8_perform_19
    · refine p_if_ne_t (tgt := 20) dX8_perform_15 (by decide) c4 ?_
      refine p_aload_n rfl dX8_perform_20 rfl ?_
      refine p_getr qg_RX8_37 uX_0 rfl dX8_perform_21 rfl ?_
      refine p_iload_n rfl dX8_perform_24 rfl ?_
      refine p_aald uX_22 rfl dX8_perform_25 rfl (fun hq5 => ?_)
      refine p_as_n (ls' := [some (.ref 0), some (.int p1), some (.ref ([23, 27, 31, 35].getD (ix p1) 0)), none]) dX8_perform_26 rfl rfl rfl rfl ?_
      refine p_iconst (v := (0 : Int32)) kiconst_0 dX8_perform_27 rfl ?_
      refine p_is_n (ls' := [some (.ref 0), some (.int p1), some (.ref ([23, 27, 31, 35].getD (ix p1) 0)), some (.int (0 : Int32))]) dX8_perform_28 rfl rfl rfl rfl ?_
      refine p_wk (ls' := [some (.ref 0), none, some (.ref ([23, 27, 31, 35].getD (ix p1) 0)), some (.int (0 : Int32))]) ⟨rfl, rfl, rfl, trivial⟩ ?_
      refine w8_perform_L29 l h p1 hq5 (fun x13 h14 => ?_) qN _ _
      refine p_aload_n rfl dX8_perform_72 rfl ?_
      refine p_geti qg_RX8_338 (uX_Script (kScript_at hq5)) rfl dX8_perform_73 rfl ?_
      exact p_iret rfl rfl dX8_perform_76
noncomputable def f8_most (p1 : Int32) (h : qH) : Option (Int32) :=
  (f4_isTold 6 h).bind fun (z1 : Int32) =>
  if z1 = 0 then (
    some (-1000000 : Int32))
  else (
    if p1 = (0 : Int32) then (
      some (h.1 51 2))
    else (
      if p1 = (1 : Int32) then (
      some (h.1 51 3))
    else (
      if p1 = (2 : Int32) then (
      (f7_tapesInDrives 51 h).bind fun (z6 : Int32) =>
      some z6)
    else (
      if p1 = (3 : Int32) then (
      (f7_weakTapes 51 h).bind fun (z8 : Int32) =>
      some z8)
    else (
      if p1 = (4 : Int32) then (
      (f7_filesThere 51 h).bind fun (z10 : Int32) =>
      some z10)
    else (
      if p1 = (5 : Int32) then (
      (f7_knownFiles 51 h).bind fun (z12 : Int32) =>
      some z12)
    else (
      if p1 = (6 : Int32) then (
      (f7_askedFiles 51 h).bind fun (z14 : Int32) =>
      some z14)
    else (
      if p1 = (7 : Int32) then (
      (f7_mendedBlocks 51 h).bind fun (z16 : Int32) =>
      some z16)
    else (
      if p1 = (8 : Int32) then (
      (f7_roomiest 51 h).bind fun (z18 : Int32) =>
      some z18)
    else (
      if p1 = (9 : Int32) then (
      (f7_longestUnused 51 h).bind fun (z20 : Int32) =>
      some z20)
    else (
      if p1 = (10 : Int32) then (
      (f7_emptyTapes 51 h).bind fun (z22 : Int32) =>
      some z22)
    else (
      some (-1000000 : Int32)))))))))))))
set_option maxRecDepth 100000 in
set_option maxHeartbeats 4000000 in
theorem m8_most (l : Launch) (p1 : Int32) : qMet UX ROX l yX8_most (qws yX8_most cX8_most 2 (some .int)) R8_most [.ref 0, .int p1] (f8_most p1) qEr := by
  refine q_met (own := RX8) 0 (by decide) rfl (Nat.le_of_ble_eq_true rfl) (ls := [some (.ref 0), some (.int p1)]) rfl fun h => ?_
  unfold f8_most
  refine p_aload_n rfl dX8_most_0 rfl ?_
  refine p_getr qg_RX8_28 uX_0 rfl dX8_most_1 rfl ?_
  refine p_callVr (f := f4_isTold 6) (st := []) [] qRokX (m4_isTold l (kPlan_6)) cal_RX8_147 uX_6 rfl rfl ⟨rfl, rfl⟩ ⟨Nat.le_of_ble_eq_true rfl, Nat.le_of_ble_eq_true rfl⟩ (Nat.le_of_ble_eq_true rfl) dX8_most_4 rfl (fun z1 => ?_)
  refine p_if (fun c2 => ?_) (fun c2 => ?_)
  · refine p_if_ne_f (tgt := 13) dX8_most_7 (by decide) rfl c2 ?_
    refine p_ldc (v := (-1000000 : Int32)) kcRX8_207 dX8_most_10 rfl ?_
    exact p_iret rfl rfl dX8_most_12
  · refine p_if_ne_t (tgt := 13) dX8_most_7 (by decide) c2 ?_
    refine p_iload_n rfl dX8_most_13 rfl ?_
    refine p_if (fun c3 => ?_) (fun c3 => ?_)
    · refine p_swI (v := (0 : Int32)) (tgt := 72) dX8_most_14 c3 (by decide) (by decide) rfl (by decide) ?_
      refine p_aload_n rfl dX8_most_72 rfl ?_
      refine p_getr qg_RX8_60 uX_0 rfl dX8_most_73 rfl ?_
      refine p_geti qg_RX8_198 uX_51 rfl dX8_most_76 rfl ?_
      exact p_iret rfl rfl dX8_most_79
    · refine p_if (fun c4 => ?_) (fun c4 => ?_)
      · refine p_swI (v := (1 : Int32)) (tgt := 80) dX8_most_14 c4 (by decide) (by decide) rfl (by decide) ?_
        refine p_aload_n rfl dX8_most_80 rfl ?_
        refine p_getr qg_RX8_60 uX_0 rfl dX8_most_81 rfl ?_
        refine p_geti qg_RX8_353 uX_51 rfl dX8_most_84 rfl ?_
        exact p_iret rfl rfl dX8_most_87
      · refine p_if (fun c5 => ?_) (fun c5 => ?_)
        · refine p_swI (v := (2 : Int32)) (tgt := 88) dX8_most_14 c5 (by decide) (by decide) rfl (by decide) ?_
          refine p_aload_n rfl dX8_most_88 rfl ?_
          refine p_getr qg_RX8_60 uX_0 rfl dX8_most_89 rfl ?_
          refine p_callVr (f := f7_tapesInDrives 51) (st := []) [] qRokX (m7_tapesInDrives l (kStage_51)) cal_RX8_356 uX_51 rfl rfl ⟨rfl, rfl⟩ ⟨Nat.le_of_ble_eq_true rfl, Nat.le_of_ble_eq_true rfl⟩ (Nat.le_of_ble_eq_true rfl) dX8_most_92 rfl (fun z6 => ?_)
          exact p_iret rfl rfl dX8_most_95
        · refine p_if (fun c7 => ?_) (fun c7 => ?_)
          · refine p_swI (v := (3 : Int32)) (tgt := 96) dX8_most_14 c7 (by decide) (by decide) rfl (by decide) ?_
            refine p_aload_n rfl dX8_most_96 rfl ?_
            refine p_getr qg_RX8_60 uX_0 rfl dX8_most_97 rfl ?_
            refine p_callVr (f := f7_weakTapes 51) (st := []) [] qRokX (m7_weakTapes l (kStage_51)) cal_RX8_359 uX_51 rfl rfl ⟨rfl, rfl⟩ ⟨Nat.le_of_ble_eq_true rfl, Nat.le_of_ble_eq_true rfl⟩ (Nat.le_of_ble_eq_true rfl) dX8_most_100 rfl (fun z8 => ?_)
            exact p_iret rfl rfl dX8_most_103
          · refine p_if (fun c9 => ?_) (fun c9 => ?_)
            · refine p_swI (v := (4 : Int32)) (tgt := 104) dX8_most_14 c9 (by decide) (by decide) rfl (by decide) ?_
              refine p_aload_n rfl dX8_most_104 rfl ?_
              refine p_getr qg_RX8_60 uX_0 rfl dX8_most_105 rfl ?_
              refine p_callVr (f := f7_filesThere 51) (st := []) [] qRokX (m7_filesThere l (kStage_51)) cal_RX8_362 uX_51 rfl rfl ⟨rfl, rfl⟩ ⟨Nat.le_of_ble_eq_true rfl, Nat.le_of_ble_eq_true rfl⟩ (Nat.le_of_ble_eq_true rfl) dX8_most_108 rfl (fun z10 => ?_)
              exact p_iret rfl rfl dX8_most_111
            · refine p_if (fun c11 => ?_) (fun c11 => ?_)
              · refine p_swI (v := (5 : Int32)) (tgt := 112) dX8_most_14 c11 (by decide) (by decide) rfl (by decide) ?_
                refine p_aload_n rfl dX8_most_112 rfl ?_
                refine p_getr qg_RX8_60 uX_0 rfl dX8_most_113 rfl ?_
                refine p_callVr (f := f7_knownFiles 51) (st := []) [] qRokX (m7_knownFiles l (kStage_51)) cal_RX8_365 uX_51 rfl rfl ⟨rfl, rfl⟩ ⟨Nat.le_of_ble_eq_true rfl, Nat.le_of_ble_eq_true rfl⟩ (Nat.le_of_ble_eq_true rfl) dX8_most_116 rfl (fun z12 => ?_)
                exact p_iret rfl rfl dX8_most_119
              · refine p_if (fun c13 => ?_) (fun c13 => ?_)
                · refine p_swI (v := (6 : Int32)) (tgt := 120) dX8_most_14 c13 (by decide) (by decide) rfl (by decide) ?_
                  refine p_aload_n rfl dX8_most_120 rfl ?_
                  refine p_getr qg_RX8_60 uX_0 rfl dX8_most_121 rfl ?_
                  refine p_callVr (f := f7_askedFiles 51) (st := []) [] qRokX (m7_askedFiles l (kStage_51)) cal_RX8_326 uX_51 rfl rfl ⟨rfl, rfl⟩ ⟨Nat.le_of_ble_eq_true rfl, Nat.le_of_ble_eq_true rfl⟩ (Nat.le_of_ble_eq_true rfl) dX8_most_124 rfl (fun z14 => ?_)
                  exact p_iret rfl rfl dX8_most_127
                · refine p_if (fun c15 => ?_) (fun c15 => ?_)
                  · refine p_swI (v := (7 : Int32)) (tgt := 128) dX8_most_14 c15 (by decide) (by decide) rfl (by decide) ?_
                    refine p_aload_n rfl dX8_most_128 rfl ?_
                    refine p_getr qg_RX8_60 uX_0 rfl dX8_most_129 rfl ?_
                    refine p_callVr (f := f7_mendedBlocks 51) (st := []) [] qRokX (m7_mendedBlocks l (kStage_51)) cal_RX8_368 uX_51 rfl rfl ⟨rfl, rfl⟩ ⟨Nat.le_of_ble_eq_true rfl, Nat.le_of_ble_eq_true rfl⟩ (Nat.le_of_ble_eq_true rfl) dX8_most_132 rfl (fun z16 => ?_)
                    exact p_iret rfl rfl dX8_most_135
                  · refine p_if (fun c17 => ?_) (fun c17 => ?_)
                    · refine p_swI (v := (8 : Int32)) (tgt := 136) dX8_most_14 c17 (by decide) (by decide) rfl (by decide) ?_
                      refine p_aload_n rfl dX8_most_136 rfl ?_
                      refine p_getr qg_RX8_60 uX_0 rfl dX8_most_137 rfl ?_
                      refine p_callVr (f := f7_roomiest 51) (st := []) [] qRokX (m7_roomiest l (kStage_51)) cal_RX8_371 uX_51 rfl rfl ⟨rfl, rfl⟩ ⟨Nat.le_of_ble_eq_true rfl, Nat.le_of_ble_eq_true rfl⟩ (Nat.le_of_ble_eq_true rfl) dX8_most_140 rfl (fun z18 => ?_)
                      exact p_iret rfl rfl dX8_most_143
                    · refine p_if (fun c19 => ?_) (fun c19 => ?_)
                      · refine p_swI (v := (9 : Int32)) (tgt := 144) dX8_most_14 c19 (by decide) (by decide) rfl (by decide) ?_
                        refine p_aload_n rfl dX8_most_144 rfl ?_
                        refine p_getr qg_RX8_60 uX_0 rfl dX8_most_145 rfl ?_
                        refine p_callVr (f := f7_longestUnused 51) (st := []) [] qRokX (m7_longestUnused l (kStage_51)) cal_RX8_374 uX_51 rfl rfl ⟨rfl, rfl⟩ ⟨Nat.le_of_ble_eq_true rfl, Nat.le_of_ble_eq_true rfl⟩ (Nat.le_of_ble_eq_true rfl) dX8_most_148 rfl (fun z20 => ?_)
                        exact p_iret rfl rfl dX8_most_151
                      · refine p_if (fun c21 => ?_) (fun c21 => ?_)
                        · refine p_swI (v := (10 : Int32)) (tgt := 152) dX8_most_14 c21 (by decide) (by decide) rfl (by decide) ?_
                          refine p_aload_n rfl dX8_most_152 rfl ?_
                          refine p_getr qg_RX8_60 uX_0 rfl dX8_most_153 rfl ?_
                          refine p_callVr (f := f7_emptyTapes 51) (st := []) [] qRokX (m7_emptyTapes l (kStage_51)) cal_RX8_377 uX_51 rfl rfl ⟨rfl, rfl⟩ ⟨Nat.le_of_ble_eq_true rfl, Nat.le_of_ble_eq_true rfl⟩ (Nat.le_of_ble_eq_true rfl) dX8_most_156 rfl (fun z22 => ?_)
                          exact p_iret rfl rfl dX8_most_159
                        · refine p_swO (tgt := 160) dX8_most_14 (by
                              have c3' := lv_neT c3 (a := 0) (by decide)
                              have c4' := lv_neT c4 (a := 1) (by decide)
                              have c5' := lv_neT c5 (a := 2) (by decide)
                              have c7' := lv_neT c7 (a := 3) (by decide)
                              have c9' := lv_neT c9 (a := 4) (by decide)
                              have c11' := lv_neT c11 (a := 5) (by decide)
                              have c13' := lv_neT c13 (a := 6) (by decide)
                              have c15' := lv_neT c15 (a := 7) (by decide)
                              have c17' := lv_neT c17 (a := 8) (by decide)
                              have c19' := lv_neT c19 (a := 9) (by decide)
                              have c21' := lv_neT c21 (a := 10) (by decide)
                              omega) (by decide) ?_
                          refine p_ldc (v := (-1000000 : Int32)) kcRX8_207 dX8_most_160 rfl ?_
                          exact p_iret rfl rfl dX8_most_162
noncomputable def f8_image (h : qH) : Option (Int32 × qH) :=
  (f4_isTold 6 h).bind fun (z1 : Int32) =>
  if z1 = 0 then (
    some ((-1 : Int32), h))
  else (
    (f7_store 51 81 172 (0 : Int32) h).bind fun (h3 : qH) =>
    (f1_become 82 79 h3).bind fun (h4 : qH) =>
    qlt (qw h4 0 17 (1 : Int32)) fun (h5 : qH) =>
    some ((h5.1 51 2), h5))
set_option maxRecDepth 100000 in
set_option maxHeartbeats 4000000 in
theorem m8_image (l : Launch) : qMet UX ROX l yX8_image (qws yX8_image cX8_image 1 (some .int)) R8_image [.ref 0] f8_image qEw := by
  refine q_met (own := RX8) 0 (by decide) rfl (Nat.le_of_ble_eq_true rfl) (ls := [some (.ref 0)]) rfl fun h => ?_
  unfold f8_image
  show PW UX ROX l R8_image cX8_image 1 (some .int) RX8 (qEw h) 0 [some (.ref 0)] [] h _
  refine p_aload_n rfl dX8_image_0 rfl ?_
  refine p_getr qg_RX8_28 uX_0 rfl dX8_image_1 rfl ?_
  refine p_callVr (f := f4_isTold 6) (st := []) [] qRokX (m4_isTold l (kPlan_6)) cal_RX8_147 uX_6 rfl rfl ⟨rfl, rfl⟩ ⟨Nat.le_of_ble_eq_true rfl, Nat.le_of_ble_eq_true rfl⟩ (Nat.le_of_ble_eq_true rfl) dX8_image_4 rfl (fun z1 => ?_)
  refine p_if (fun c2 => ?_) (fun c2 => ?_)
  · refine p_if_ne_f (tgt := 12) dX8_image_7 (by decide) rfl c2 ?_
    refine p_iconst (v := (-1 : Int32)) kiconst_m1 dX8_image_10 rfl ?_
    exact p_iret rfl rfl dX8_image_11
  · refine p_if_ne_t (tgt := 12) dX8_image_7 (by decide) c2 ?_
    refine p_aload_n rfl dX8_image_12 rfl ?_
    refine p_getr qg_RX8_60 uX_0 rfl dX8_image_13 rfl ?_
    refine p_aload_n rfl dX8_image_16 rfl ?_
    refine p_getr qg_RX8_88 uX_0 rfl dX8_image_17 rfl ?_
    refine p_iconst (v := (0 : Int32)) kiconst_0 dX8_image_20 rfl ?_
    refine p_callVv (f := f7_store 51 81 172 (0 : Int32)) (st := []) [.ref 81, .int (0 : Int32)] qRokX (m7_store l (kStage_51) uX_81 (0 : Int32)) cal_RX8_316 uX_51 rfl rfl ⟨rfl, rfl⟩ ⟨Nat.le_of_ble_eq_true rfl, Nat.le_of_ble_eq_true rfl⟩ (Nat.le_of_ble_eq_true rfl) dX8_image_21 rfl (fun h3 => ?_)
    refine p_aload_n rfl dX8_image_24 rfl ?_
    refine p_getr qg_RX8_91 uX_0 rfl dX8_image_25 rfl ?_
    refine p_aload_n rfl dX8_image_28 rfl ?_
    refine p_getr qg_RX8_84 uX_0 rfl dX8_image_29 rfl ?_
    refine p_callVv (f := f1_become 82 79) (st := []) [.ref 79] qRokX (m1_become l (kLog_82) (kLog_79)) cal_RX8_380 uX_82 rfl rfl ⟨rfl, rfl⟩ ⟨Nat.le_of_ble_eq_true rfl, Nat.le_of_ble_eq_true rfl⟩ (Nat.le_of_ble_eq_true rfl) dX8_image_32 rfl (fun h4 => ?_)
    refine p_aload_n rfl dX8_image_35 rfl ?_
    refine p_iconst (v := (1 : Int32)) kiconst_1 dX8_image_36 rfl ?_
    refine p_putz qokX kz_1 qp_RX8_137 uX_0 rfl dX8_image_37 rfl ?_
    refine p_nmH (fun h5 => ?_)
    refine p_aload_n rfl dX8_image_40 rfl ?_
    refine p_getr qg_RX8_60 uX_0 rfl dX8_image_41 rfl ?_
    refine p_geti qg_RX8_198 uX_51 rfl dX8_image_44 rfl ?_
    exact p_iret rfl rfl dX8_image_47
noncomputable def f8_back (h : qH) : Option (Int32 × qH) :=
  if (h.1 0 17) = 0 then (
    some ((-1 : Int32), h))
  else (
    (f7_load 51 81 172 (0 : Int32) h).bind fun (h2 : qH) =>
    (f1_become 79 82 h2).bind fun (h3 : qH) =>
    (f3_clear h3).bind fun (h4 : qH) =>
    some ((h4.1 51 2), h4))
set_option maxRecDepth 100000 in
set_option maxHeartbeats 4000000 in
theorem m8_back (l : Launch) : qMet UX ROX l yX8_back (qws yX8_back cX8_back 1 (some .int)) R8_back [.ref 0] f8_back qEw := by
  refine q_met (own := RX8) 0 (by decide) rfl (Nat.le_of_ble_eq_true rfl) (ls := [some (.ref 0)]) rfl fun h => ?_
  unfold f8_back
  show PW UX ROX l R8_back cX8_back 1 (some .int) RX8 (qEw h) 0 [some (.ref 0)] [] h _
  refine p_aload_n rfl dX8_back_0 rfl ?_
  refine p_geti qg_RX8_137 uX_0 rfl dX8_back_1 rfl ?_
  refine p_if (fun c1 => ?_) (fun c1 => ?_)
  · refine p_if_ne_f (tgt := 9) dX8_back_4 (by decide) rfl c1 ?_
    refine p_iconst (v := (-1 : Int32)) kiconst_m1 dX8_back_7 rfl ?_
    exact p_iret rfl rfl dX8_back_8
  · refine p_if_ne_t (tgt := 9) dX8_back_4 (by decide) c1 ?_
    refine p_aload_n rfl dX8_back_9 rfl ?_
    refine p_getr qg_RX8_60 uX_0 rfl dX8_back_10 rfl ?_
    refine p_aload_n rfl dX8_back_13 rfl ?_
    refine p_getr qg_RX8_88 uX_0 rfl dX8_back_14 rfl ?_
    refine p_iconst (v := (0 : Int32)) kiconst_0 dX8_back_17 rfl ?_
    refine p_callVv (f := f7_load 51 81 172 (0 : Int32)) (st := []) [.ref 81, .int (0 : Int32)] qRokX (m7_load l (kStage_51) uX_81 (0 : Int32)) cal_RX8_320 uX_51 rfl rfl ⟨rfl, rfl⟩ ⟨Nat.le_of_ble_eq_true rfl, Nat.le_of_ble_eq_true rfl⟩ (Nat.le_of_ble_eq_true rfl) dX8_back_18 rfl (fun h2 => ?_)
    refine p_aload_n rfl dX8_back_21 rfl ?_
    refine p_getr qg_RX8_84 uX_0 rfl dX8_back_22 rfl ?_
    refine p_aload_n rfl dX8_back_25 rfl ?_
    refine p_getr qg_RX8_91 uX_0 rfl dX8_back_26 rfl ?_
    refine p_callVv (f := f1_become 79 82) (st := []) [.ref 82] qRokX (m1_become l (kLog_79) (kLog_82)) cal_RX8_380 uX_79 rfl rfl ⟨rfl, rfl⟩ ⟨Nat.le_of_ble_eq_true rfl, Nat.le_of_ble_eq_true rfl⟩ (Nat.le_of_ble_eq_true rfl) dX8_back_29 rfl (fun h3 => ?_)
    refine p_aload_n rfl dX8_back_32 rfl ?_
    refine p_getr qg_RX8_77 uX_0 rfl dX8_back_33 rfl ?_
    refine p_callVv (f := f3_clear) (st := []) [] qRokX (m3_clear l) cal_RX8_133 uX_77 rfl rfl ⟨rfl, rfl⟩ ⟨Nat.le_of_ble_eq_true rfl, Nat.le_of_ble_eq_true rfl⟩ (Nat.le_of_ble_eq_true rfl) dX8_back_36 rfl (fun h4 => ?_)
    refine p_aload_n rfl dX8_back_39 rfl ?_
    refine p_getr qg_RX8_60 uX_0 rfl dX8_back_40 rfl ?_
    refine p_geti qg_RX8_198 uX_51 rfl dX8_back_43 rfl ?_
    exact p_iret rfl rfl dX8_back_46
noncomputable def f8_count (p1 : Int32) (h : qH) : Option (Int32) :=
  if p1 = (0 : Int32) then (
    some (h.1 6 1))
  else (
    if p1 = (1 : Int32) then (
    some (h.1 0 6))
  else (
    if p1 = (2 : Int32) then (
    some (h.1 1 1))
  else (
    if p1 = (3 : Int32) then (
    (f1_length 79 h).bind fun (z5 : Int32) =>
    some z5)
  else (
    if p1 = (4 : Int32) then (
    some (h.1 77 1))
  else (
    if p1 = (5 : Int32) then (
    some (h.1 51 5))
  else (
    some (-1000000 : Int32)))))))
set_option maxRecDepth 100000 in
set_option maxHeartbeats 4000000 in
theorem m8_count (l : Launch) (p1 : Int32) : qMet UX ROX l yX8_count (qws yX8_count cX8_count 2 (some .int)) R8_count [.ref 0, .int p1] (f8_count p1) qEr := by
  refine q_met (own := RX8) 0 (by decide) rfl (Nat.le_of_ble_eq_true rfl) (ls := [some (.ref 0), some (.int p1)]) rfl fun h => ?_
  unfold f8_count
  refine p_iload_n rfl dX8_count_0 rfl ?_
  refine p_if (fun c1 => ?_) (fun c1 => ?_)
  · refine p_swI (v := (0 : Int32)) (tgt := 40) dX8_count_1 c1 (by decide) (by decide) rfl (by decide) ?_
    refine p_aload_n rfl dX8_count_40 rfl ?_
    refine p_getr qg_RX8_28 uX_0 rfl dX8_count_41 rfl ?_
    refine p_geti qg_RX8_141 uX_6 rfl dX8_count_44 rfl ?_
    exact p_iret rfl rfl dX8_count_47
  · refine p_if (fun c2 => ?_) (fun c2 => ?_)
    · refine p_swI (v := (1 : Int32)) (tgt := 48) dX8_count_1 c2 (by decide) (by decide) rfl (by decide) ?_
      refine p_aload_n rfl dX8_count_48 rfl ?_
      refine p_geti qg_RX8_121 uX_0 rfl dX8_count_49 rfl ?_
      exact p_iret rfl rfl dX8_count_52
    · refine p_if (fun c3 => ?_) (fun c3 => ?_)
      · refine p_swI (v := (2 : Int32)) (tgt := 53) dX8_count_1 c3 (by decide) (by decide) rfl (by decide) ?_
        refine p_aload_n rfl dX8_count_53 rfl ?_
        refine p_getr qg_RX8_10 uX_0 rfl dX8_count_54 rfl ?_
        refine p_geti qg_RX8_101 uX_1 rfl dX8_count_57 rfl ?_
        exact p_iret rfl rfl dX8_count_60
      · refine p_if (fun c4 => ?_) (fun c4 => ?_)
        · refine p_swI (v := (3 : Int32)) (tgt := 61) dX8_count_1 c4 (by decide) (by decide) rfl (by decide) ?_
          refine p_aload_n rfl dX8_count_61 rfl ?_
          refine p_getr qg_RX8_84 uX_0 rfl dX8_count_62 rfl ?_
          refine p_callVr (f := f1_length 79) (st := []) [] qRokX (m1_length l (kLog_79)) cal_RX8_292 uX_79 rfl rfl ⟨rfl, rfl⟩ ⟨Nat.le_of_ble_eq_true rfl, Nat.le_of_ble_eq_true rfl⟩ (Nat.le_of_ble_eq_true rfl) dX8_count_65 rfl (fun z5 => ?_)
          exact p_iret rfl rfl dX8_count_68
        · refine p_if (fun c6 => ?_) (fun c6 => ?_)
          · refine p_swI (v := (4 : Int32)) (tgt := 69) dX8_count_1 c6 (by decide) (by decide) rfl (by decide) ?_
            refine p_aload_n rfl dX8_count_69 rfl ?_
            refine p_getr qg_RX8_77 uX_0 rfl dX8_count_70 rfl ?_
            refine p_geti qg_RX8_283 uX_77 rfl dX8_count_73 rfl ?_
            exact p_iret rfl rfl dX8_count_76
          · refine p_if (fun c7 => ?_) (fun c7 => ?_)
            · refine p_swI (v := (5 : Int32)) (tgt := 77) dX8_count_1 c7 (by decide) (by decide) rfl (by decide) ?_
              refine p_aload_n rfl dX8_count_77 rfl ?_
              refine p_getr qg_RX8_60 uX_0 rfl dX8_count_78 rfl ?_
              refine p_geti qg_RX8_383 uX_51 rfl dX8_count_81 rfl ?_
              exact p_iret rfl rfl dX8_count_84
            · refine p_swO (tgt := 85) dX8_count_1 (by
                  have c1' := lv_neT c1 (a := 0) (by decide)
                  have c2' := lv_neT c2 (a := 1) (by decide)
                  have c3' := lv_neT c3 (a := 2) (by decide)
                  have c4' := lv_neT c4 (a := 3) (by decide)
                  have c6' := lv_neT c6 (a := 4) (by decide)
                  have c7' := lv_neT c7 (a := 5) (by decide)
                  omega) (by decide) ?_
              refine p_ldc (v := (-1000000 : Int32)) kcRX8_207 dX8_count_85 rfl ?_
              exact p_iret rfl rfl dX8_count_87
