noncomputable def f8_seek (p1 : Int32) (p2 : Int32) (h : qH) : Option (Int32) :=
  (f4_isBlock 6 p1 h).bind fun (z1 : Int32) =>
  qj (fun (x2 : Int32) =>
    some x2) fun j3 =>
  if z1 = 0 then (
    j3 (-1 : Int32))
  else (
    (f4_isBlock 6 p2 h).bind fun (z6 : Int32) =>
    if z6 = 0 then (
      j3 (-1 : Int32))
    else (
      (f4_seekTime 6 p1 p2 h).bind fun (z8 : Int32) =>
      j3 z8))
set_option maxRecDepth 100000 in
set_option maxHeartbeats 4000000 in
theorem m8_seek (l : Launch) (p1 : Int32) (p2 : Int32) : qMet UX ROX l yX8_seek (qws yX8_seek cX8_seek 3 (some .int)) R8_seek [.ref 0, .int p1, .int p2] (f8_seek p1 p2) qEr := by
  refine q_met (own := RX8) 0 (by decide) rfl (Nat.le_of_ble_eq_true rfl) (ls := [some (.ref 0), some (.int p1), some (.int p2)]) rfl fun h => ?_
  unfold f8_seek
  refine p_aload_n rfl dX8_seek_0 rfl ?_
  refine p_getr qg_RX8_28 uX_0 rfl dX8_seek_1 rfl ?_
  refine p_iload_n rfl dX8_seek_4 rfl ?_
  refine p_callVr (f := f4_isBlock 6 p1) (st := []) [.int p1] qRokX (m4_isBlock l (kPlan_6) p1) cal_RX8_233 uX_6 rfl rfl ⟨rfl, rfl⟩ ⟨Nat.le_of_ble_eq_true rfl, Nat.le_of_ble_eq_true rfl⟩ (Nat.le_of_ble_eq_true rfl) dX8_seek_5 rfl (fun z1 => ?_)
  refine p_jn (fun j3 => ∀ (x2 : Int32), PW UX ROX l R8_seek cX8_seek 3 (some .int) RX8 (qEr h) 35 [some (.ref 0), some (.int p1), some (.int p2)] [.int x2] h (j3 x2)) (fun x2 => ?_) (fun j3 J4 => ?_)
  · exact p_iret rfl rfl dX8_seek_35
  · refine p_if (fun c5 => ?_) (fun c5 => ?_)
    · refine p_if_eq_t (tgt := 34) dX8_seek_8 (by decide) c5 ?_
      refine p_iconst (v := (-1 : Int32)) kiconst_m1 dX8_seek_34 rfl ?_
      exact J4 (-1 : Int32)
    · refine p_if_eq_f (tgt := 34) dX8_seek_8 (by decide) rfl c5 ?_
      refine p_aload_n rfl dX8_seek_11 rfl ?_
      refine p_getr qg_RX8_28 uX_0 rfl dX8_seek_12 rfl ?_
      refine p_iload_n rfl dX8_seek_15 rfl ?_
      refine p_callVr (f := f4_isBlock 6 p2) (st := []) [.int p2] qRokX (m4_isBlock l (kPlan_6) p2) cal_RX8_233 uX_6 rfl rfl ⟨rfl, rfl⟩ ⟨Nat.le_of_ble_eq_true rfl, Nat.le_of_ble_eq_true rfl⟩ (Nat.le_of_ble_eq_true rfl) dX8_seek_16 rfl (fun z6 => ?_)
      refine p_if (fun c7 => ?_) (fun c7 => ?_)
      · refine p_if_eq_t (tgt := 34) dX8_seek_19 (by decide) c7 ?_
        refine p_iconst (v := (-1 : Int32)) kiconst_m1 dX8_seek_34 rfl ?_
        exact J4 (-1 : Int32)
      · refine p_if_eq_f (tgt := 34) dX8_seek_19 (by decide) rfl c7 ?_
        refine p_aload_n rfl dX8_seek_22 rfl ?_
        refine p_getr qg_RX8_28 uX_0 rfl dX8_seek_23 rfl ?_
        refine p_iload_n rfl dX8_seek_26 rfl ?_
        refine p_iload_n rfl dX8_seek_27 rfl ?_
        refine p_callVr (f := f4_seekTime 6 p1 p2) (st := []) [.int p1, .int p2] qRokX (m4_seekTime l (kPlan_6) p1 p2) cal_RX8_236 uX_6 rfl rfl ⟨rfl, rfl⟩ ⟨Nat.le_of_ble_eq_true rfl, Nat.le_of_ble_eq_true rfl⟩ (Nat.le_of_ble_eq_true rfl) dX8_seek_28 rfl (fun z8 => ?_)
        refine p_goto (tgt := 35) dX8_seek_31 (by decide) ?_
        exact J4 z8
noncomputable def f8_path (p1 : Int32) (p2 : Int32) (p3 : Int32) (h : qH) : Option (Int32) :=
  (f7_isThere 51 p1 h).bind fun (z1 : Int32) =>
  if z1 = 0 then (
    some (-1 : Int32))
  else (
    if p2 < 0 then (
      some (-1 : Int32))
    else (
      qg (qin p1 24) <|
      if (h.1 60 (ix p1)) ≤ p2 then (
        some (-1 : Int32))
      else (
        if p3 < 0 then (
          some (-1 : Int32))
        else (
          if p3 ≤ (1 : Int32) then (
            qg (qin p1 24) <|
            qlt ((h.1 59 (ix p1)) + p2) fun (x7 : Int32) =>
            (f4_isBlock 6 x7 h).bind fun (z8 : Int32) =>
            if z8 = 0 then (
              some (-1 : Int32))
            else (
              qj (fun (x10 : Int32) =>
                some x10) fun j11 =>
              if p3 = 0 then (
                qg (qin x7 96) <|
                j11 (h.1 12 (ix x7)))
              else (
                qg (qin x7 96) <|
                j11 (h.1 13 (ix x7)))))
          else (
            some (-1 : Int32))))))
set_option maxRecDepth 100000 in
set_option maxHeartbeats 4000000 in
theorem m8_path (l : Launch) (p1 : Int32) (p2 : Int32) (p3 : Int32) : qMet UX ROX l yX8_path (qws yX8_path cX8_path 5 (some .int)) R8_path [.ref 0, .int p1, .int p2, .int p3] (f8_path p1 p2 p3) qEr := by
  refine q_met (own := RX8) 1 (by decide) rfl (Nat.le_of_ble_eq_true rfl) (ls := [some (.ref 0), some (.int p1), some (.int p2), some (.int p3), none]) rfl fun h => ?_
  unfold f8_path
  refine p_aload_n rfl dX8_path_0 rfl ?_
  refine p_getr qg_RX8_60 uX_0 rfl dX8_path_1 rfl ?_
  refine p_iload_n rfl dX8_path_4 rfl ?_
  refine p_callVr (f := f7_isThere 51 p1) (st := []) [.int p1] qRokX (m7_isThere l (kStage_51) p1) cal_RX8_239 uX_51 rfl rfl ⟨rfl, rfl⟩ ⟨Nat.le_of_ble_eq_true rfl, Nat.le_of_ble_eq_true rfl⟩ (Nat.le_of_ble_eq_true rfl) dX8_path_5 rfl (fun z1 => ?_)
  refine p_if (fun c2 => ?_) (fun c2 => ?_)
  · refine p_if_eq_t (tgt := 37) dX8_path_8 (by decide) c2 ?_
    refine p_iconst (v := (-1 : Int32)) kiconst_m1 dX8_path_37 rfl ?_
    exact p_iret rfl rfl dX8_path_38
  · refine p_if_eq_f (tgt := 37) dX8_path_8 (by decide) rfl c2 ?_
    refine p_iload_n rfl dX8_path_11 rfl ?_
    refine p_if (fun c3 => ?_) (fun c3 => ?_)
    · refine p_if_lt_t (tgt := 37) dX8_path_12 (by decide) c3 ?_
      refine p_iconst (v := (-1 : Int32)) kiconst_m1 dX8_path_37 rfl ?_
      exact p_iret rfl rfl dX8_path_38
    · refine p_if_lt_f (tgt := 37) dX8_path_12 (by decide) rfl c3 ?_
      refine p_iload_n rfl dX8_path_15 rfl ?_
      refine p_aload_n rfl dX8_path_16 rfl ?_
      refine p_getr qg_RX8_60 uX_0 rfl dX8_path_17 rfl ?_
      refine p_getr qg_RX8_214 uX_51 rfl dX8_path_20 rfl ?_
      refine p_iload_n rfl dX8_path_23 rfl ?_
      refine p_iald uX_60 dX8_path_24 rfl (fun _ => ?_)
      refine p_if (fun c4 => ?_) (fun c4 => ?_)
      · refine p_icmp_ge_t (tgt := 37) dX8_path_25 (by decide) c4 ?_
        refine p_iconst (v := (-1 : Int32)) kiconst_m1 dX8_path_37 rfl ?_
        exact p_iret rfl rfl dX8_path_38
      · refine p_icmp_ge_f (tgt := 37) dX8_path_25 (by decide) rfl c4 ?_
        refine p_iload_n rfl dX8_path_28 rfl ?_
        refine p_if (fun c5 => ?_) (fun c5 => ?_)
        · refine p_if_lt_t (tgt := 37) dX8_path_29 (by decide) c5 ?_
          refine p_iconst (v := (-1 : Int32)) kiconst_m1 dX8_path_37 rfl ?_
          exact p_iret rfl rfl dX8_path_38
        · refine p_if_lt_f (tgt := 37) dX8_path_29 (by decide) rfl c5 ?_
          refine p_iload_n rfl dX8_path_32 rfl ?_
          refine p_iconst (v := (1 : Int32)) kiconst_1 dX8_path_33 rfl ?_
          refine p_if (fun c6 => ?_) (fun c6 => ?_)
          · refine p_icmp_le_t (tgt := 39) dX8_path_34 (by decide) c6 ?_
            refine p_aload_n rfl dX8_path_39 rfl ?_
            refine p_getr qg_RX8_60 uX_0 rfl dX8_path_40 rfl ?_
            refine p_getr qg_RX8_211 uX_51 rfl dX8_path_43 rfl ?_
            refine p_iload_n rfl dX8_path_46 rfl ?_
            refine p_iald uX_59 dX8_path_47 rfl (fun _ => ?_)
            refine p_iload_n rfl dX8_path_48 rfl ?_
            refine p_iadd dX8_path_49 rfl ?_
            refine p_isN (lf := fun x7 => [some (.ref 0), some (.int p1), some (.int p2), some (.int p3), some (.int x7)]) dX8_path_50 rfl rfl rfl (fun _ => rfl) (fun x7 => ?_)
            refine p_aload_n rfl dX8_path_52 rfl ?_
            refine p_getr qg_RX8_28 uX_0 rfl dX8_path_53 rfl ?_
            refine p_iload rfl dX8_path_56 rfl ?_
            refine p_callVr (f := f4_isBlock 6 x7) (st := []) [.int x7] qRokX (m4_isBlock l (kPlan_6) x7) cal_RX8_233 uX_6 rfl rfl ⟨rfl, rfl⟩ ⟨Nat.le_of_ble_eq_true rfl, Nat.le_of_ble_eq_true rfl⟩ (Nat.le_of_ble_eq_true rfl) dX8_path_58 rfl (fun z8 => ?_)
            refine p_if (fun c9 => ?_) (fun c9 => ?_)
            · refine p_if_ne_f (tgt := 66) dX8_path_61 (by decide) rfl c9 ?_
              refine p_iconst (v := (-1 : Int32)) kiconst_m1 dX8_path_64 rfl ?_
              exact p_iret rfl rfl dX8_path_65
            · refine p_if_ne_t (tgt := 66) dX8_path_61 (by decide) c9 ?_
              refine p_iload_n rfl dX8_path_66 rfl ?_
              refine p_jn (fun j11 => ∀ (x10 : Int32), PW UX ROX l R8_path cX8_path 5 (some .int) RX8 (qEr h) 93 [some (.ref 0), some (.int p1), some (.int p2), some (.int p3), some (.int x7)] [.int x10] h (j11 x10)) (fun x10 => ?_) (fun j11 J12 => ?_)
              · exact p_iret rfl rfl dX8_path_93
              · refine p_if (fun c13 => ?_) (fun c13 => ?_)
                · refine p_if_ne_f (tgt := 83) dX8_path_67 (by decide) rfl c13 ?_
                  refine p_aload_n rfl dX8_path_70 rfl ?_
                  refine p_getr qg_RX8_28 uX_0 rfl dX8_path_71 rfl ?_
                  refine p_getr qg_RX8_242 uX_6 rfl dX8_path_74 rfl ?_
                  refine p_iload rfl dX8_path_77 rfl ?_
                  refine p_iald uX_12 dX8_path_79 rfl (fun _ => ?_)
                  refine p_goto (tgt := 93) dX8_path_80 (by decide) ?_
                  exact J12 (h.1 12 (ix x7))
                · refine p_if_ne_t (tgt := 83) dX8_path_67 (by decide) c13 ?_
                  refine p_aload_n rfl dX8_path_83 rfl ?_
                  refine p_getr qg_RX8_28 uX_0 rfl dX8_path_84 rfl ?_
                  refine p_getr qg_RX8_245 uX_6 rfl dX8_path_87 rfl ?_
                  refine p_iload rfl dX8_path_90 rfl ?_
                  refine p_iald uX_13 dX8_path_92 rfl (fun _ => ?_)
                  exact J12 (h.1 13 (ix x7))
          · refine p_icmp_le_f (tgt := 39) dX8_path_34 (by decide) rfl c6 ?_
            refine p_iconst (v := (-1 : Int32)) kiconst_m1 dX8_path_37 rfl ?_
            exact p_iret rfl rfl dX8_path_38
noncomputable def f8_numberToLog (p1 : Int32) (p2 : Int32) (p3 : Int32) (h : qH) : Option (Int32) :=
  qlt (if p1 = (1 : Int32) then p3 else (if p1 = (10 : Int32) then p3 else p2)) fun (x3 : Int32) =>
  some x3
set_option maxRecDepth 100000 in
set_option maxHeartbeats 4000000 in
theorem m8_numberToLog (l : Launch) (p1 : Int32) (p2 : Int32) (p3 : Int32) : qMet UX ROX l yX8_numberToLog (qws yX8_numberToLog cX8_numberToLog 3 (some .int)) R8_numberToLog [.int p1, .int p2, .int p3] (f8_numberToLog p1 p2 p3) qEr := by
  refine q_met (own := RX8) 0 (by decide) rfl (Nat.le_of_ble_eq_true rfl) (ls := [some (.int p1), some (.int p2), some (.int p3)]) rfl fun h => ?_
  unfold f8_numberToLog
  refine p_iload_n rfl dX8_numberToLog_0 rfl ?_
  refine p_iconst (v := (1 : Int32)) kiconst_1 dX8_numberToLog_1 rfl ?_
  refine p_vj 16 [some (.int p1), some (.int p2), some (.int p3)] [] (fun x3 => ?_) (fun J => ?_)
  · exact p_iret rfl rfl dX8_numberToLog_16
  · refine p_dia (fun c1 => ?_) (fun c1 => ?_)
    · refine p_icmp_eq_t (tgt := 11) dX8_numberToLog_2 (by decide) c1 ?_
      refine p_iload_n rfl dX8_numberToLog_11 rfl ?_
      refine p_goto (tgt := 16) dX8_numberToLog_12 (by decide) ?_
      exact J _
    · refine p_icmp_eq_f (tgt := 11) dX8_numberToLog_2 (by decide) rfl c1 ?_
      refine p_iload_n rfl dX8_numberToLog_5 rfl ?_
      refine p_bipush (v := (10 : Int32)) kbipush_10 dX8_numberToLog_6 rfl ?_
      refine p_dia (fun c2 => ?_) (fun c2 => ?_)
      · refine p_icmp_ne_f (tgt := 15) dX8_numberToLog_8 (by decide) rfl c2 ?_
        refine p_iload_n rfl dX8_numberToLog_11 rfl ?_
        refine p_goto (tgt := 16) dX8_numberToLog_12 (by decide) ?_
        exact J _
      · refine p_icmp_ne_t (tgt := 15) dX8_numberToLog_8 (by decide) c2 ?_
        refine p_iload_n rfl dX8_numberToLog_15 rfl ?_
        exact J _
noncomputable def f8_attempt (p1 : Int32) (p2 : Int32) (p3 : Int32) (p4 : Int32) (h : qH) : Option (Int32 × qH) :=
  (f7_refusal 51 p1 p2 p3 h).bind fun (z1 : Int32) =>
  if z1 = (-1 : Int32) then (
    (f3_keep 51 h).bind fun (h3 : qH) =>
    qlt (h3.1 51 2) fun (x4 : Int32) =>
    qb2 (f7_carryOut 51 p1 p2 p3 h3) fun (z5 : Int32) (h6 : qH) =>
    (f8_numberToLog p1 p2 z5 h6).bind fun (z7 : Int32) =>
    (f1_add 79 p1 z7 ((h6.1 51 2) - x4) h6).bind fun (h8 : qH) =>
    some (z5, h8))
  else (
    qj (fun (h9 : qH) =>
      some ((-1 : Int32), h9)) fun j10 =>
    if p4 = 0 then (
      j10 h)
    else (
      qg (qin z1 4) <|
      qg (qin z1 4) <|
      qlt (qw h 84 (ix z1) ((h.1 84 (ix z1)) + (1 : Int32))) fun (h13 : qH) =>
      j10 h13))
set_option maxRecDepth 100000 in
set_option maxHeartbeats 4000000 in
theorem m8_attempt (l : Launch) (p1 : Int32) (p2 : Int32) (p3 : Int32) (p4 : Int32) : qMet UX ROX l yX8_attempt (qws yX8_attempt cX8_attempt 8 (some .int)) R8_attempt [.ref 0, .int p1, .int p2, .int p3, .int p4] (f8_attempt p1 p2 p3 p4) qEw := by
  refine q_met (own := RX8) 3 (by decide) rfl (Nat.le_of_ble_eq_true rfl) (ls := [some (.ref 0), some (.int p1), some (.int p2), some (.int p3), some (.int p4), none, none, none]) rfl fun h => ?_
  unfold f8_attempt
  show PW UX ROX l R8_attempt cX8_attempt 8 (some .int) RX8 (qEw h) 0 [some (.ref 0), some (.int p1), some (.int p2), some (.int p3), some (.int p4), none, none, none] [] h _
  refine p_aload_n rfl dX8_attempt_0 rfl ?_
  refine p_getr qg_RX8_60 uX_0 rfl dX8_attempt_1 rfl ?_
  refine p_iload_n rfl dX8_attempt_4 rfl ?_
  refine p_iload_n rfl dX8_attempt_5 rfl ?_
  refine p_iload_n rfl dX8_attempt_6 rfl ?_
  refine p_callVr (f := f7_refusal 51 p1 p2 p3) (st := []) [.int p1, .int p2, .int p3] qRokX (m7_refusal l (kStage_51) p1 p2 p3) cal_RX8_252 uX_51 rfl rfl ⟨rfl, rfl⟩ ⟨Nat.le_of_ble_eq_true rfl, Nat.le_of_ble_eq_true rfl⟩ (Nat.le_of_ble_eq_true rfl) dX8_attempt_7 rfl (fun z1 => ?_)
  refine p_is (ls' := [some (.ref 0), some (.int p1), some (.int p2), some (.int p3), some (.int p4), some (.int z1), none, none]) dX8_attempt_10 rfl rfl rfl rfl ?_
  refine p_iload rfl dX8_attempt_12 rfl ?_
  refine p_iconst (v := (-1 : Int32)) kiconst_m1 dX8_attempt_14 rfl ?_
  refine p_if (fun c2 => ?_) (fun c2 => ?_)
  · refine p_icmp_eq_t (tgt := 36) dX8_attempt_15 (by decide) c2 ?_
    refine p_aload_n rfl dX8_attempt_36 rfl ?_
    refine p_getr qg_RX8_77 uX_0 rfl dX8_attempt_37 rfl ?_
    refine p_aload_n rfl dX8_attempt_40 rfl ?_
    refine p_getr qg_RX8_60 uX_0 rfl dX8_attempt_41 rfl ?_
    refine p_callVv (f := f3_keep 51) (st := []) [.ref 51] qRokX (m3_keep l (kStage_51)) cal_RX8_256 uX_77 rfl rfl ⟨rfl, rfl⟩ ⟨Nat.le_of_ble_eq_true rfl, Nat.le_of_ble_eq_true rfl⟩ (Nat.le_of_ble_eq_true rfl) dX8_attempt_44 rfl (fun h3 => ?_)
    refine p_aload_n rfl dX8_attempt_47 rfl ?_
    refine p_getr qg_RX8_60 uX_0 rfl dX8_attempt_48 rfl ?_
    refine p_geti qg_RX8_198 uX_51 rfl dX8_attempt_51 rfl ?_
    refine p_isN (lf := fun x4 => [some (.ref 0), some (.int p1), some (.int p2), some (.int p3), some (.int p4), some (.int z1), some (.int x4), none]) dX8_attempt_54 rfl rfl rfl (fun _ => rfl) (fun x4 => ?_)
    refine p_aload_n rfl dX8_attempt_56 rfl ?_
    refine p_getr qg_RX8_60 uX_0 rfl dX8_attempt_57 rfl ?_
    refine p_iload_n rfl dX8_attempt_60 rfl ?_
    refine p_iload_n rfl dX8_attempt_61 rfl ?_
    refine p_iload_n rfl dX8_attempt_62 rfl ?_
    refine p_cVw (f := f7_carryOut 51 p1 p2 p3) (st := []) [.int p1, .int p2, .int p3] qRokX (m7_carryOut l (kStage_51) p1 p2 p3) cal_RX8_260 uX_51 rfl rfl ⟨rfl, rfl⟩ ⟨Nat.le_of_ble_eq_true rfl, Nat.le_of_ble_eq_true rfl⟩ (Nat.le_of_ble_eq_true rfl) dX8_attempt_63 rfl (fun z5 h6 => ?_)
    refine p_is (ls' := [some (.ref 0), some (.int p1), some (.int p2), some (.int p3), some (.int p4), some (.int z1), some (.int x4), some (.int z5)]) dX8_attempt_66 rfl rfl rfl rfl ?_
    refine p_aload_n rfl dX8_attempt_68 rfl ?_
    refine p_getr qg_RX8_84 uX_0 rfl dX8_attempt_69 rfl ?_
    refine p_iload_n rfl dX8_attempt_72 rfl ?_
    refine p_iload_n rfl dX8_attempt_73 rfl ?_
    refine p_iload_n rfl dX8_attempt_74 rfl ?_
    refine p_iload rfl dX8_attempt_75 rfl ?_
    refine p_callSr (f := f8_numberToLog p1 p2 z5) (st := [.int p1, .ref 79]) [.int p1, .int p2, .int z5] qRokX (m8_numberToLog l p1 p2 z5) cal_RX8_263 rfl ⟨rfl, rfl⟩ ⟨Nat.le_of_ble_eq_true rfl, Nat.le_of_ble_eq_true rfl⟩ (Nat.le_of_ble_eq_true rfl) dX8_attempt_77 rfl (fun z7 => ?_)
    refine p_aload_n rfl dX8_attempt_80 rfl ?_
    refine p_getr qg_RX8_60 uX_0 rfl dX8_attempt_81 rfl ?_
    refine p_geti qg_RX8_198 uX_51 rfl dX8_attempt_84 rfl ?_
    refine p_iload rfl dX8_attempt_87 rfl ?_
    refine p_isub dX8_attempt_89 rfl ?_
    refine p_callVv (f := f1_add 79 p1 z7 ((h6.1 51 2) - x4)) (st := []) [.int p1, .int z7, .int ((h6.1 51 2) - x4)] qRokX (m1_add l (kLog_79) p1 z7 ((h6.1 51 2) - x4)) cal_RX8_266 uX_79 rfl rfl ⟨rfl, rfl⟩ ⟨Nat.le_of_ble_eq_true rfl, Nat.le_of_ble_eq_true rfl⟩ (Nat.le_of_ble_eq_true rfl) dX8_attempt_90 rfl (fun h8 => ?_)
    refine p_iload rfl dX8_attempt_93 rfl ?_
    exact p_iret rfl rfl dX8_attempt_95
  · refine p_icmp_eq_f (tgt := 36) dX8_attempt_15 (by decide) rfl c2 ?_
    refine p_iload rfl dX8_attempt_18 rfl ?_
    refine p_jn (fun j10 => ∀ (h9 : qH), PW UX ROX l R8_attempt cX8_attempt 8 (some .int) RX8 (qEw h) 34 [some (.ref 0), some (.int p1), some (.int p2), some (.int p3), some (.int p4), some (.int z1), none, none] [] h9 (j10 h9)) (fun h9 => ?_) (fun j10 J11 => ?_)
    · refine p_iconst (v := (-1 : Int32)) kiconst_m1 dX8_attempt_34 rfl ?_
      exact p_iret rfl rfl dX8_attempt_35
    · refine p_if (fun c12 => ?_) (fun c12 => ?_)
      · refine p_if_eq_t (tgt := 34) dX8_attempt_20 (by decide) c12 ?_
        exact J11 h
      · refine p_if_eq_f (tgt := 34) dX8_attempt_20 (by decide) rfl c12 ?_
        refine p_aload_n rfl dX8_attempt_23 rfl ?_
        refine p_getr qg_RX8_94 uX_0 rfl dX8_attempt_24 rfl ?_
        refine p_iload rfl dX8_attempt_27 rfl ?_
        refine p_dup2 rfl rfl dX8_attempt_29 rfl ?_
        refine p_iald uX_84 dX8_attempt_30 rfl (fun _ => ?_)
        refine p_iconst (v := (1 : Int32)) kiconst_1 dX8_attempt_31 rfl ?_
        refine p_iadd dX8_attempt_32 rfl ?_
        refine p_iast qokX uX_84 dX8_attempt_33 rfl (fun _ => ?_)
        refine p_nmH (fun h13 => ?_)
        exact J11 h13
noncomputable def f8_ask (p1 : Int32) (h : qH) : Option (Int32 × qH) :=
  qb2 (f8_attempt (0 : Int32) p1 (-1 : Int32) (1 : Int32) h) fun (z1 : Int32) (h2 : qH) =>
  some (z1, h2)
set_option maxRecDepth 100000 in
set_option maxHeartbeats 4000000 in
theorem m8_ask (l : Launch) (p1 : Int32) : qMet UX ROX l yX8_ask (qws yX8_ask cX8_ask 2 (some .int)) R8_ask [.ref 0, .int p1] (f8_ask p1) qEw := by
  refine q_met (own := RX8) 0 (by decide) rfl (Nat.le_of_ble_eq_true rfl) (ls := [some (.ref 0), some (.int p1)]) rfl fun h => ?_
  unfold f8_ask
  show PW UX ROX l R8_ask cX8_ask 2 (some .int) RX8 (qEw h) 0 [some (.ref 0), some (.int p1)] [] h _
  refine p_aload_n rfl dX8_ask_0 rfl ?_
  refine p_iconst (v := (0 : Int32)) kiconst_0 dX8_ask_1 rfl ?_
  refine p_iload_n rfl dX8_ask_2 rfl ?_
  refine p_iconst (v := (-1 : Int32)) kiconst_m1 dX8_ask_3 rfl ?_
  refine p_iconst (v := (1 : Int32)) kiconst_1 dX8_ask_4 rfl ?_
  refine p_cVw (f := f8_attempt (0 : Int32) p1 (-1 : Int32) (1 : Int32)) (st := []) [.int (0 : Int32), .int p1, .int (-1 : Int32), .int (1 : Int32)] qRokX (m8_attempt l (0 : Int32) p1 (-1 : Int32) (1 : Int32)) cal_RX8_248 uX_0 rfl rfl ⟨rfl, rfl⟩ ⟨Nat.le_of_ble_eq_true rfl, Nat.le_of_ble_eq_true rfl⟩ (Nat.le_of_ble_eq_true rfl) dX8_ask_5 rfl (fun z1 h2 => ?_)
  exact p_iret rfl rfl dX8_ask_8
noncomputable def f8_serve (h : qH) : Option (Int32 × qH) :=
  qb2 (f8_attempt (1 : Int32) (-1 : Int32) (-1 : Int32) (1 : Int32) h) fun (z1 : Int32) (h2 : qH) =>
  some (z1, h2)
set_option maxRecDepth 100000 in
set_option maxHeartbeats 4000000 in
theorem m8_serve (l : Launch) : qMet UX ROX l yX8_serve (qws yX8_serve cX8_serve 1 (some .int)) R8_serve [.ref 0] f8_serve qEw := by
  refine q_met (own := RX8) 0 (by decide) rfl (Nat.le_of_ble_eq_true rfl) (ls := [some (.ref 0)]) rfl fun h => ?_
  unfold f8_serve
  show PW UX ROX l R8_serve cX8_serve 1 (some .int) RX8 (qEw h) 0 [some (.ref 0)] [] h _
  refine p_aload_n rfl dX8_serve_0 rfl ?_
  refine p_iconst (v := (1 : Int32)) kiconst_1 dX8_serve_1 rfl ?_
  refine p_iconst (v := (-1 : Int32)) kiconst_m1 dX8_serve_2 rfl ?_
  refine p_iconst (v := (-1 : Int32)) kiconst_m1 dX8_serve_3 rfl ?_
  refine p_iconst (v := (1 : Int32)) kiconst_1 dX8_serve_4 rfl ?_
  refine p_cVw (f := f8_attempt (1 : Int32) (-1 : Int32) (-1 : Int32) (1 : Int32)) (st := []) [.int (1 : Int32), .int (-1 : Int32), .int (-1 : Int32), .int (1 : Int32)] qRokX (m8_attempt l (1 : Int32) (-1 : Int32) (-1 : Int32) (1 : Int32)) cal_RX8_248 uX_0 rfl rfl ⟨rfl, rfl⟩ ⟨Nat.le_of_ble_eq_true rfl, Nat.le_of_ble_eq_true rfl⟩ (Nat.le_of_ble_eq_true rfl) dX8_serve_5 rfl (fun z1 h2 => ?_)
  exact p_iret rfl rfl dX8_serve_8
noncomputable def f8_write (p1 : Int32) (p2 : Int32) (h : qH) : Option (Int32 × qH) :=
  qb2 (f8_attempt (2 : Int32) p1 p2 (1 : Int32) h) fun (z1 : Int32) (h2 : qH) =>
  some (z1, h2)
set_option maxRecDepth 100000 in
set_option maxHeartbeats 4000000 in
theorem m8_write (l : Launch) (p1 : Int32) (p2 : Int32) : qMet UX ROX l yX8_write (qws yX8_write cX8_write 3 (some .int)) R8_write [.ref 0, .int p1, .int p2] (f8_write p1 p2) qEw := by
  refine q_met (own := RX8) 0 (by decide) rfl (Nat.le_of_ble_eq_true rfl) (ls := [some (.ref 0), some (.int p1), some (.int p2)]) rfl fun h => ?_
  unfold f8_write
  show PW UX ROX l R8_write cX8_write 3 (some .int) RX8 (qEw h) 0 [some (.ref 0), some (.int p1), some (.int p2)] [] h _
  refine p_aload_n rfl dX8_write_0 rfl ?_
  refine p_iconst (v := (2 : Int32)) kiconst_2 dX8_write_1 rfl ?_
  refine p_iload_n rfl dX8_write_2 rfl ?_
  refine p_iload_n rfl dX8_write_3 rfl ?_
  refine p_iconst (v := (1 : Int32)) kiconst_1 dX8_write_4 rfl ?_
  refine p_cVw (f := f8_attempt (2 : Int32) p1 p2 (1 : Int32)) (st := []) [.int (2 : Int32), .int p1, .int p2, .int (1 : Int32)] qRokX (m8_attempt l (2 : Int32) p1 p2 (1 : Int32)) cal_RX8_248 uX_0 rfl rfl ⟨rfl, rfl⟩ ⟨Nat.le_of_ble_eq_true rfl, Nat.le_of_ble_eq_true rfl⟩ (Nat.le_of_ble_eq_true rfl) dX8_write_5 rfl (fun z1 h2 => ?_)
  exact p_iret rfl rfl dX8_write_8
noncomputable def f8_drop (p1 : Int32) (h : qH) : Option (Int32 × qH) :=
  qb2 (f8_attempt (3 : Int32) p1 (-1 : Int32) (1 : Int32) h) fun (z1 : Int32) (h2 : qH) =>
  some (z1, h2)
set_option maxRecDepth 100000 in
set_option maxHeartbeats 4000000 in
theorem m8_drop (l : Launch) (p1 : Int32) : qMet UX ROX l yX8_drop (qws yX8_drop cX8_drop 2 (some .int)) R8_drop [.ref 0, .int p1] (f8_drop p1) qEw := by
  refine q_met (own := RX8) 0 (by decide) rfl (Nat.le_of_ble_eq_true rfl) (ls := [some (.ref 0), some (.int p1)]) rfl fun h => ?_
  unfold f8_drop
  show PW UX ROX l R8_drop cX8_drop 2 (some .int) RX8 (qEw h) 0 [some (.ref 0), some (.int p1)] [] h _
  refine p_aload_n rfl dX8_drop_0 rfl ?_
  refine p_iconst (v := (3 : Int32)) kiconst_3 dX8_drop_1 rfl ?_
  refine p_iload_n rfl dX8_drop_2 rfl ?_
  refine p_iconst (v := (-1 : Int32)) kiconst_m1 dX8_drop_3 rfl ?_
  refine p_iconst (v := (1 : Int32)) kiconst_1 dX8_drop_4 rfl ?_
  refine p_cVw (f := f8_attempt (3 : Int32) p1 (-1 : Int32) (1 : Int32)) (st := []) [.int (3 : Int32), .int p1, .int (-1 : Int32), .int (1 : Int32)] qRokX (m8_attempt l (3 : Int32) p1 (-1 : Int32) (1 : Int32)) cal_RX8_248 uX_0 rfl rfl ⟨rfl, rfl⟩ ⟨Nat.le_of_ble_eq_true rfl, Nat.le_of_ble_eq_true rfl⟩ (Nat.le_of_ble_eq_true rfl) dX8_drop_5 rfl (fun z1 h2 => ?_)
  exact p_iret rfl rfl dX8_drop_8
noncomputable def f8_mount (p1 : Int32) (h : qH) : Option (Int32 × qH) :=
  qb2 (f8_attempt (4 : Int32) p1 (-1 : Int32) (1 : Int32) h) fun (z1 : Int32) (h2 : qH) =>
  some (z1, h2)
set_option maxRecDepth 100000 in
set_option maxHeartbeats 4000000 in
theorem m8_mount (l : Launch) (p1 : Int32) : qMet UX ROX l yX8_mount (qws yX8_mount cX8_mount 2 (some .int)) R8_mount [.ref 0, .int p1] (f8_mount p1) qEw := by
  refine q_met (own := RX8) 0 (by decide) rfl (Nat.le_of_ble_eq_true rfl) (ls := [some (.ref 0), some (.int p1)]) rfl fun h => ?_
  unfold f8_mount
  show PW UX ROX l R8_mount cX8_mount 2 (some .int) RX8 (qEw h) 0 [some (.ref 0), some (.int p1)] [] h _
  refine p_aload_n rfl dX8_mount_0 rfl ?_
  refine p_iconst (v := (4 : Int32)) kiconst_4 dX8_mount_1 rfl ?_
  refine p_iload_n rfl dX8_mount_2 rfl ?_
  refine p_iconst (v := (-1 : Int32)) kiconst_m1 dX8_mount_3 rfl ?_
  refine p_iconst (v := (1 : Int32)) kiconst_1 dX8_mount_4 rfl ?_
  refine p_cVw (f := f8_attempt (4 : Int32) p1 (-1 : Int32) (1 : Int32)) (st := []) [.int (4 : Int32), .int p1, .int (-1 : Int32), .int (1 : Int32)] qRokX (m8_attempt l (4 : Int32) p1 (-1 : Int32) (1 : Int32)) cal_RX8_248 uX_0 rfl rfl ⟨rfl, rfl⟩ ⟨Nat.le_of_ble_eq_true rfl, Nat.le_of_ble_eq_true rfl⟩ (Nat.le_of_ble_eq_true rfl) dX8_mount_5 rfl (fun z1 h2 => ?_)
  exact p_iret rfl rfl dX8_mount_8
noncomputable def f8_unmount (p1 : Int32) (h : qH) : Option (Int32 × qH) :=
  qb2 (f8_attempt (5 : Int32) p1 (-1 : Int32) (1 : Int32) h) fun (z1 : Int32) (h2 : qH) =>
  some (z1, h2)
set_option maxRecDepth 100000 in
set_option maxHeartbeats 4000000 in
theorem m8_unmount (l : Launch) (p1 : Int32) : qMet UX ROX l yX8_unmount (qws yX8_unmount cX8_unmount 2 (some .int)) R8_unmount [.ref 0, .int p1] (f8_unmount p1) qEw := by
  refine q_met (own := RX8) 0 (by decide) rfl (Nat.le_of_ble_eq_true rfl) (ls := [some (.ref 0), some (.int p1)]) rfl fun h => ?_
  unfold f8_unmount
  show PW UX ROX l R8_unmount cX8_unmount 2 (some .int) RX8 (qEw h) 0 [some (.ref 0), some (.int p1)] [] h _
  refine p_aload_n rfl dX8_unmount_0 rfl ?_
  refine p_iconst (v := (5 : Int32)) kiconst_5 dX8_unmount_1 rfl ?_
  refine p_iload_n rfl dX8_unmount_2 rfl ?_
  refine p_iconst (v := (-1 : Int32)) kiconst_m1 dX8_unmount_3 rfl ?_
  refine p_iconst (v := (1 : Int32)) kiconst_1 dX8_unmount_4 rfl ?_
  refine p_cVw (f := f8_attempt (5 : Int32) p1 (-1 : Int32) (1 : Int32)) (st := []) [.int (5 : Int32), .int p1, .int (-1 : Int32), .int (1 : Int32)] qRokX (m8_attempt l (5 : Int32) p1 (-1 : Int32) (1 : Int32)) cal_RX8_248 uX_0 rfl rfl ⟨rfl, rfl⟩ ⟨Nat.le_of_ble_eq_true rfl, Nat.le_of_ble_eq_true rfl⟩ (Nat.le_of_ble_eq_true rfl) dX8_unmount_5 rfl (fun z1 h2 => ?_)
  exact p_iret rfl rfl dX8_unmount_8
noncomputable def f8_copy (p1 : Int32) (p2 : Int32) (h : qH) : Option (Int32 × qH) :=
  qb2 (f8_attempt (6 : Int32) p1 p2 (1 : Int32) h) fun (z1 : Int32) (h2 : qH) =>
  some (z1, h2)
set_option maxRecDepth 100000 in
set_option maxHeartbeats 4000000 in
theorem m8_copy (l : Launch) (p1 : Int32) (p2 : Int32) : qMet UX ROX l yX8_copy (qws yX8_copy cX8_copy 3 (some .int)) R8_copy [.ref 0, .int p1, .int p2] (f8_copy p1 p2) qEw := by
  refine q_met (own := RX8) 0 (by decide) rfl (Nat.le_of_ble_eq_true rfl) (ls := [some (.ref 0), some (.int p1), some (.int p2)]) rfl fun h => ?_
  unfold f8_copy
  show PW UX ROX l R8_copy cX8_copy 3 (some .int) RX8 (qEw h) 0 [some (.ref 0), some (.int p1), some (.int p2)] [] h _
  refine p_aload_n rfl dX8_copy_0 rfl ?_
  refine p_bipush (v := (6 : Int32)) kbipush_6 dX8_copy_1 rfl ?_
  refine p_iload_n rfl dX8_copy_3 rfl ?_
  refine p_iload_n rfl dX8_copy_4 rfl ?_
  refine p_iconst (v := (1 : Int32)) kiconst_1 dX8_copy_5 rfl ?_
  refine p_cVw (f := f8_attempt (6 : Int32) p1 p2 (1 : Int32)) (st := []) [.int (6 : Int32), .int p1, .int p2, .int (1 : Int32)] qRokX (m8_attempt l (6 : Int32) p1 p2 (1 : Int32)) cal_RX8_248 uX_0 rfl rfl ⟨rfl, rfl⟩ ⟨Nat.le_of_ble_eq_true rfl, Nat.le_of_ble_eq_true rfl⟩ (Nat.le_of_ble_eq_true rfl) dX8_copy_6 rfl (fun z1 h2 => ?_)
  exact p_iret rfl rfl dX8_copy_9
noncomputable def f8_lose (h : qH) : Option (Int32 × qH) :=
  qb2 (f8_attempt (7 : Int32) (-1 : Int32) (-1 : Int32) (1 : Int32) h) fun (z1 : Int32) (h2 : qH) =>
  some (z1, h2)
set_option maxRecDepth 100000 in
set_option maxHeartbeats 4000000 in
theorem m8_lose (l : Launch) : qMet UX ROX l yX8_lose (qws yX8_lose cX8_lose 1 (some .int)) R8_lose [.ref 0] f8_lose qEw := by
  refine q_met (own := RX8) 0 (by decide) rfl (Nat.le_of_ble_eq_true rfl) (ls := [some (.ref 0)]) rfl fun h => ?_
  unfold f8_lose
  show PW UX ROX l R8_lose cX8_lose 1 (some .int) RX8 (qEw h) 0 [some (.ref 0)] [] h _
  refine p_aload_n rfl dX8_lose_0 rfl ?_
  refine p_bipush (v := (7 : Int32)) kbipush_7 dX8_lose_1 rfl ?_
  refine p_iconst (v := (-1 : Int32)) kiconst_m1 dX8_lose_3 rfl ?_
  refine p_iconst (v := (-1 : Int32)) kiconst_m1 dX8_lose_4 rfl ?_
  refine p_iconst (v := (1 : Int32)) kiconst_1 dX8_lose_5 rfl ?_
  refine p_cVw (f := f8_attempt (7 : Int32) (-1 : Int32) (-1 : Int32) (1 : Int32)) (st := []) [.int (7 : Int32), .int (-1 : Int32), .int (-1 : Int32), .int (1 : Int32)] qRokX (m8_attempt l (7 : Int32) (-1 : Int32) (-1 : Int32) (1 : Int32)) cal_RX8_248 uX_0 rfl rfl ⟨rfl, rfl⟩ ⟨Nat.le_of_ble_eq_true rfl, Nat.le_of_ble_eq_true rfl⟩ (Nat.le_of_ble_eq_true rfl) dX8_lose_6 rfl (fun z1 h2 => ?_)
  exact p_iret rfl rfl dX8_lose_9
noncomputable def f8_scan (p1 : Int32) (h : qH) : Option (Int32 × qH) :=
  qb2 (f8_attempt (8 : Int32) p1 (-1 : Int32) (1 : Int32) h) fun (z1 : Int32) (h2 : qH) =>
  some (z1, h2)
set_option maxRecDepth 100000 in
set_option maxHeartbeats 4000000 in
theorem m8_scan (l : Launch) (p1 : Int32) : qMet UX ROX l yX8_scan (qws yX8_scan cX8_scan 2 (some .int)) R8_scan [.ref 0, .int p1] (f8_scan p1) qEw := by
  refine q_met (own := RX8) 0 (by decide) rfl (Nat.le_of_ble_eq_true rfl) (ls := [some (.ref 0), some (.int p1)]) rfl fun h => ?_
  unfold f8_scan
  show PW UX ROX l R8_scan cX8_scan 2 (some .int) RX8 (qEw h) 0 [some (.ref 0), some (.int p1)] [] h _
  refine p_aload_n rfl dX8_scan_0 rfl ?_
  refine p_bipush (v := (8 : Int32)) kbipush_8 dX8_scan_1 rfl ?_
  refine p_iload_n rfl dX8_scan_3 rfl ?_
  refine p_iconst (v := (-1 : Int32)) kiconst_m1 dX8_scan_4 rfl ?_
  refine p_iconst (v := (1 : Int32)) kiconst_1 dX8_scan_5 rfl ?_
  refine p_cVw (f := f8_attempt (8 : Int32) p1 (-1 : Int32) (1 : Int32)) (st := []) [.int (8 : Int32), .int p1, .int (-1 : Int32), .int (1 : Int32)] qRokX (m8_attempt l (8 : Int32) p1 (-1 : Int32) (1 : Int32)) cal_RX8_248 uX_0 rfl rfl ⟨rfl, rfl⟩ ⟨Nat.le_of_ble_eq_true rfl, Nat.le_of_ble_eq_true rfl⟩ (Nat.le_of_ble_eq_true rfl) dX8_scan_6 rfl (fun z1 h2 => ?_)
  exact p_iret rfl rfl dX8_scan_9
noncomputable def f8_pause (p1 : Int32) (h : qH) : Option (Int32 × qH) :=
  qb2 (f8_attempt (9 : Int32) p1 (-1 : Int32) (1 : Int32) h) fun (z1 : Int32) (h2 : qH) =>
  some (z1, h2)
set_option maxRecDepth 100000 in
set_option maxHeartbeats 4000000 in
theorem m8_pause (l : Launch) (p1 : Int32) : qMet UX ROX l yX8_pause (qws yX8_pause cX8_pause 2 (some .int)) R8_pause [.ref 0, .int p1] (f8_pause p1) qEw := by
  refine q_met (own := RX8) 0 (by decide) rfl (Nat.le_of_ble_eq_true rfl) (ls := [some (.ref 0), some (.int p1)]) rfl fun h => ?_
  unfold f8_pause
  show PW UX ROX l R8_pause cX8_pause 2 (some .int) RX8 (qEw h) 0 [some (.ref 0), some (.int p1)] [] h _
  refine p_aload_n rfl dX8_pause_0 rfl ?_
  refine p_bipush (v := (9 : Int32)) kbipush_9 dX8_pause_1 rfl ?_
  refine p_iload_n rfl dX8_pause_3 rfl ?_
  refine p_iconst (v := (-1 : Int32)) kiconst_m1 dX8_pause_4 rfl ?_
  refine p_iconst (v := (1 : Int32)) kiconst_1 dX8_pause_5 rfl ?_
  refine p_cVw (f := f8_attempt (9 : Int32) p1 (-1 : Int32) (1 : Int32)) (st := []) [.int (9 : Int32), .int p1, .int (-1 : Int32), .int (1 : Int32)] qRokX (m8_attempt l (9 : Int32) p1 (-1 : Int32) (1 : Int32)) cal_RX8_248 uX_0 rfl rfl ⟨rfl, rfl⟩ ⟨Nat.le_of_ble_eq_true rfl, Nat.le_of_ble_eq_true rfl⟩ (Nat.le_of_ble_eq_true rfl) dX8_pause_6 rfl (fun z1 h2 => ?_)
  exact p_iret rfl rfl dX8_pause_9
noncomputable def f8_rescue (h : qH) : Option (Int32 × qH) :=
  qb2 (f8_attempt (10 : Int32) (-1 : Int32) (-1 : Int32) (1 : Int32) h) fun (z1 : Int32) (h2 : qH) =>
  some (z1, h2)
set_option maxRecDepth 100000 in
set_option maxHeartbeats 4000000 in
theorem m8_rescue (l : Launch) : qMet UX ROX l yX8_rescue (qws yX8_rescue cX8_rescue 1 (some .int)) R8_rescue [.ref 0] f8_rescue qEw := by
  refine q_met (own := RX8) 0 (by decide) rfl (Nat.le_of_ble_eq_true rfl) (ls := [some (.ref 0)]) rfl fun h => ?_
  unfold f8_rescue
  show PW UX ROX l R8_rescue cX8_rescue 1 (some .int) RX8 (qEw h) 0 [some (.ref 0)] [] h _
  refine p_aload_n rfl dX8_rescue_0 rfl ?_
  refine p_bipush (v := (10 : Int32)) kbipush_10 dX8_rescue_1 rfl ?_
  refine p_iconst (v := (-1 : Int32)) kiconst_m1 dX8_rescue_3 rfl ?_
  refine p_iconst (v := (-1 : Int32)) kiconst_m1 dX8_rescue_4 rfl ?_
  refine p_iconst (v := (1 : Int32)) kiconst_1 dX8_rescue_5 rfl ?_
  refine p_cVw (f := f8_attempt (10 : Int32) (-1 : Int32) (-1 : Int32) (1 : Int32)) (st := []) [.int (10 : Int32), .int (-1 : Int32), .int (-1 : Int32), .int (1 : Int32)] qRokX (m8_attempt l (10 : Int32) (-1 : Int32) (-1 : Int32) (1 : Int32)) cal_RX8_248 uX_0 rfl rfl ⟨rfl, rfl⟩ ⟨Nat.le_of_ble_eq_true rfl, Nat.le_of_ble_eq_true rfl⟩ (Nat.le_of_ble_eq_true rfl) dX8_rescue_6 rfl (fun z1 h2 => ?_)
  exact p_iret rfl rfl dX8_rescue_9
noncomputable def f8_drawBelow (p1 : Int32) (h : qH) : Option (Int32 × qH) :=
  qlt (qlg h 0 (((h.2 0) * (6364136223846793005 : Int64)) + (1442695040888963407 : Int64))) fun (h1 : qH) =>
  qj (fun (x2 : Int32) =>
    some (x2, h1)) fun j3 =>
  if (1 : Int32) ≤ p1 then (
    qg (decide (¬ p1.toInt64 = 0)) <|
    j3 (((((h1.2 0).toUInt64 >>> ((33 : Int32).toInt64.toUInt64 &&& Int64.toUInt64 63)).toInt64) - (((h1.2 0).toUInt64 >>> ((33 : Int32).toInt64.toUInt64 &&& Int64.toUInt64 63)).toInt64) / p1.toInt64 * p1.toInt64).toInt32))
  else (
    j3 (0 : Int32))
set_option maxRecDepth 100000 in
set_option maxHeartbeats 4000000 in
theorem m8_drawBelow (l : Launch) (p1 : Int32) : qMet UX ROX l yX8_drawBelow (qws yX8_drawBelow cX8_drawBelow 2 (some .int)) R8_drawBelow [.ref 0, .int p1] (f8_drawBelow p1) qEw := by
  refine q_met (own := RX8) 0 (by decide) rfl (Nat.le_of_ble_eq_true rfl) (ls := [some (.ref 0), some (.int p1)]) rfl fun h => ?_
  unfold f8_drawBelow
  show PW UX ROX l R8_drawBelow cX8_drawBelow 2 (some .int) RX8 (qEw h) 0 [some (.ref 0), some (.int p1)] [] h _
  refine p_aload_n rfl dX8_drawBelow_0 rfl ?_
  refine p_aload_n rfl dX8_drawBelow_1 rfl ?_
  refine p_getl qg_RX8_269 uX_0 rfl dX8_drawBelow_2 rfl ?_
  refine p_ldc2 (v := (6364136223846793005 : Int64)) klRX8_279 dX8_drawBelow_5 rfl ?_
  refine p_lmul dX8_drawBelow_8 rfl ?_
  refine p_ldc2 (v := (1442695040888963407 : Int64)) klRX8_281 dX8_drawBelow_9 rfl ?_
  refine p_ladd dX8_drawBelow_12 rfl ?_
  refine p_putl qp_RX8_269 uX_0 rfl qlong_RX8 dX8_drawBelow_13 rfl ?_
  refine p_nmH (fun h1 => ?_)
  refine p_iload_n rfl dX8_drawBelow_16 rfl ?_
  refine p_iconst (v := (1 : Int32)) kiconst_1 dX8_drawBelow_17 rfl ?_
  refine p_jn (fun j3 => ∀ (x2 : Int32), PW UX ROX l R8_drawBelow cX8_drawBelow 2 (some .int) RX8 (qEw h) 36 [some (.ref 0), some (.int p1)] [.int x2] h1 (j3 x2)) (fun x2 => ?_) (fun j3 J4 => ?_)
  · exact p_iret rfl rfl dX8_drawBelow_36
  · refine p_if (fun c5 => ?_) (fun c5 => ?_)
    · refine p_icmp_ge_t (tgt := 25) dX8_drawBelow_18 (by decide) c5 ?_
      refine p_aload_n rfl dX8_drawBelow_25 rfl ?_
      refine p_getl qg_RX8_269 uX_0 rfl dX8_drawBelow_26 rfl ?_
      refine p_bipush (v := (33 : Int32)) kbipush_33 dX8_drawBelow_29 rfl ?_
      refine p_lushr dX8_drawBelow_31 rfl ?_
      refine p_iload_n rfl dX8_drawBelow_32 rfl ?_
      refine p_i2l dX8_drawBelow_33 rfl ?_
      refine p_lrem dX8_drawBelow_34 rfl (fun _ => ?_)
      refine p_l2i dX8_drawBelow_35 rfl ?_
      exact J4 (((((h1.2 0).toUInt64 >>> ((33 : Int32).toInt64.toUInt64 &&& Int64.toUInt64 63)).toInt64) - (((h1.2 0).toUInt64 >>> ((33 : Int32).toInt64.toUInt64 &&& Int64.toUInt64 63)).toInt64) / p1.toInt64 * p1.toInt64).toInt32)
    · refine p_icmp_ge_f (tgt := 25) dX8_drawBelow_18 (by decide) rfl c5 ?_
      refine p_iconst (v := (0 : Int32)) kiconst_0 dX8_drawBelow_21 rfl ?_
      refine p_goto (tgt := 36) dX8_drawBelow_22 (by decide) ?_
      exact J4 (0 : Int32)
noncomputable def f8_years_L31 (p1 : Int32) (k : Int32 → qH → Option (Int32 × qH)) : Nat → Int32 → qH → Option (Int32 × qH)
  | 0, _, _ => none
  | n + 1, x6, h7 =>
    if p1 ≤ x6 then (
      k x6 h7)
    else (
      qb2 (f8_drawBelow (8 : Int32) h7) fun (z9 : Int32) (h10 : qH) =>
      qj (fun (h11 : qH) =>
        qlt (x6 + (1 : Int32)) fun (x14 : Int32) =>
        f8_years_L31 p1 k n x14 h11) fun j12 =>
      if z9 = (3 : Int32) then (
        qb2 (f8_attempt (1 : Int32) (-1 : Int32) (-1 : Int32) (0 : Int32) h10) fun (z16 : Int32) (h17 : qH) =>
        j12 h17)
      else (
        if z9 = (4 : Int32) then (
        qb2 (f8_attempt (1 : Int32) (-1 : Int32) (-1 : Int32) (0 : Int32) h10) fun (z19 : Int32) (h20 : qH) =>
        j12 h20)
      else (
        if z9 = (5 : Int32) then (
        qb2 (f8_drawBelow (h10.1 6 1) h10) fun (z22 : Int32) (h23 : qH) =>
        qb2 (f8_drawBelow (9 : Int32) h23) fun (z24 : Int32) (h25 : qH) =>
        qb2 (f8_attempt (2 : Int32) z22 (z24 + (1 : Int32)) (0 : Int32) h25) fun (z26 : Int32) (h27 : qH) =>
        j12 h27)
      else (
        if z9 = (6 : Int32) then (
        qb2 (f8_drawBelow (24 : Int32) h10) fun (z29 : Int32) (h30 : qH) =>
        qb2 (f8_attempt (3 : Int32) z29 (-1 : Int32) (0 : Int32) h30) fun (z31 : Int32) (h32 : qH) =>
        j12 h32)
      else (
        if z9 = (7 : Int32) then (
        qb2 (f8_drawBelow (h10.1 6 1) h10) fun (z34 : Int32) (h35 : qH) =>
        (f7_targetFor 51 z34 h35).bind fun (z36 : Int32) =>
        qb2 (f8_attempt (6 : Int32) z34 z36 (0 : Int32) h35) fun (z37 : Int32) (h38 : qH) =>
        j12 h38)
      else (
        qb2 (f8_drawBelow (24 : Int32) h10) fun (z39 : Int32) (h40 : qH) =>
        qb2 (f8_attempt (0 : Int32) z39 (-1 : Int32) (0 : Int32) h40) fun (z41 : Int32) (h42 : qH) =>
        j12 h42))))))
set_option maxRecDepth 100000 in
set_option maxHeartbeats 4000000 in
theorem w8_years_L31 (l : Launch) (h0 : qH) (p1 : Int32) {k : Int32 → qH → Option (Int32 × qH)} (hk : ∀ (x6 : Int32) (h7 : qH), PW UX ROX l R8_years cX8_years 7 (some .int) RX8 (qEw h0) 193 [some (.ref 0), some (.int p1), none, none, some (.int x6), none, none] [] h7 (k x6 h7)) : ∀ (n : Nat) (x6 : Int32) (h7 : qH), PW UX ROX l R8_years cX8_years 7 (some .int) RX8 (qEw h0) 31 [some (.ref 0), some (.int p1), none, none, some (.int x6), none, none] [] h7 (f8_years_L31 p1 k n x6 h7) := by
  intro n
  induction n with
  | zero => intro _ _; exact p_none
  | succ n ih =>
    intro x6 h7
    unfold f8_years_L31
    refine p_iload rfl dX8_years_31 rfl ?_
    refine p_iload_n rfl dX8_years_33 rfl ?_
    refine p_if (fun c8 => ?_) (fun c8 => ?_)
    · refine p_icmp_ge_t (tgt := 193) dX8_years_34 (by decide) c8 ?_
      exact hk x6 h7
    · refine p_icmp_ge_f (tgt := 193) dX8_years_34 (by decide) rfl c8 ?_
      refine p_aload_n rfl dX8_years_37 rfl ?_
      refine p_bipush (v := (8 : Int32)) kbipush_8 dX8_years_38 rfl ?_
      refine p_cVw (f := f8_drawBelow (8 : Int32)) (st := []) [.int (8 : Int32)] qRokX (m8_drawBelow l (8 : Int32)) cal_RX8_273 uX_0 rfl rfl ⟨rfl, rfl⟩ ⟨Nat.le_of_ble_eq_true rfl, Nat.le_of_ble_eq_true rfl⟩ (Nat.le_of_ble_eq_true rfl) dX8_years_40 rfl (fun z9 h10 => ?_)
      refine p_jn (fun j12 => ∀ (h11 : qH), PW UX ROX l R8_years cX8_years 7 (some .int) RX8 (qEw h0) 187 [some (.ref 0), some (.int p1), none, none, some (.int x6), none, none] [] h11 (j12 h11)) (fun h11 => ?_) (fun j12 J13 => ?_)
      · refine p_iiN (v := (1 : Int32)) (lf := fun x14 => [some (.ref 0), some (.int p1), none, none, some (.int x14), none, none]) kiconst_1 dX8_years_187 rfl rfl rfl rfl (fun _ => rfl) (fun x14 => ?_)
        refine p_goto (tgt := 31) dX8_years_190 (by decide) ?_
        exact ih x14 h11
      · refine p_if (fun c15 => ?_) (fun c15 => ?_)
        · refine p_swI (v := (3 : Int32)) (tgt := 76) dX8_years_43 c15 (by decide) (by decide) rfl (by decide) ?_
          refine p_aload_n rfl dX8_years_76 rfl ?_
          refine p_iconst (v := (1 : Int32)) kiconst_1 dX8_years_77 rfl ?_
          refine p_iconst (v := (-1 : Int32)) kiconst_m1 dX8_years_78 rfl ?_
          refine p_iconst (v := (-1 : Int32)) kiconst_m1 dX8_years_79 rfl ?_
          refine p_iconst (v := (0 : Int32)) kiconst_0 dX8_years_80 rfl ?_
          refine p_cVw (f := f8_attempt (1 : Int32) (-1 : Int32) (-1 : Int32) (0 : Int32)) (st := []) [.int (1 : Int32), .int (-1 : Int32), .int (-1 : Int32), .int (0 : Int32)] qRokX (m8_attempt l (1 : Int32) (-1 : Int32) (-1 : Int32) (0 : Int32)) cal_RX8_248 uX_0 rfl rfl ⟨rfl, rfl⟩ ⟨Nat.le_of_ble_eq_true rfl, Nat.le_of_ble_eq_true rfl⟩ (Nat.le_of_ble_eq_true rfl) dX8_years_81 rfl (fun z16 h17 => ?_)
          refine p_pop rfl dX8_years_84 rfl ?_
          refine p_goto (tgt := 187) dX8_years_85 (by decide) ?_
          exact J13 h17
        · refine p_if (fun c18 => ?_) (fun c18 => ?_)
          · refine p_swI (v := (4 : Int32)) (tgt := 76) dX8_years_43 c18 (by decide) (by decide) rfl (by decide) ?_
            refine p_aload_n rfl dX8_years_76 rfl ?_
            refine p_iconst (v := (1 : Int32)) kiconst_1 dX8_years_77 rfl ?_
            refine p_iconst (v := (-1 : Int32)) kiconst_m1 dX8_years_78 rfl ?_
            refine p_iconst (v := (-1 : Int32)) kiconst_m1 dX8_years_79 rfl ?_
            refine p_iconst (v := (0 : Int32)) kiconst_0 dX8_years_80 rfl ?_
            refine p_cVw (f := f8_attempt (1 : Int32) (-1 : Int32) (-1 : Int32) (0 : Int32)) (st := []) [.int (1 : Int32), .int (-1 : Int32), .int (-1 : Int32), .int (0 : Int32)] qRokX (m8_attempt l (1 : Int32) (-1 : Int32) (-1 : Int32) (0 : Int32)) cal_RX8_248 uX_0 rfl rfl ⟨rfl, rfl⟩ ⟨Nat.le_of_ble_eq_true rfl, Nat.le_of_ble_eq_true rfl⟩ (Nat.le_of_ble_eq_true rfl) dX8_years_81 rfl (fun z19 h20 => ?_)
            refine p_pop rfl dX8_years_84 rfl ?_
            refine p_goto (tgt := 187) dX8_years_85 (by decide) ?_
            exact J13 h20
          · refine p_if (fun c21 => ?_) (fun c21 => ?_)
            · refine p_swI (v := (5 : Int32)) (tgt := 88) dX8_years_43 c21 (by decide) (by decide) rfl (by decide) ?_
              refine p_aload_n rfl dX8_years_88 rfl ?_
              refine p_aload_n rfl dX8_years_89 rfl ?_
              refine p_getr qg_RX8_28 uX_0 rfl dX8_years_90 rfl ?_
              refine p_geti qg_RX8_141 uX_6 rfl dX8_years_93 rfl ?_
              refine p_cVw (f := f8_drawBelow (h10.1 6 1)) (st := []) [.int (h10.1 6 1)] qRokX (m8_drawBelow l (h10.1 6 1)) cal_RX8_273 uX_0 rfl rfl ⟨rfl, rfl⟩ ⟨Nat.le_of_ble_eq_true rfl, Nat.le_of_ble_eq_true rfl⟩ (Nat.le_of_ble_eq_true rfl) dX8_years_96 rfl (fun z22 h23 => ?_)
              refine p_is (ls' := [some (.ref 0), some (.int p1), none, none, some (.int x6), some (.int z22), none]) dX8_years_99 rfl rfl rfl rfl ?_
              refine p_aload_n rfl dX8_years_101 rfl ?_
              refine p_iconst (v := (2 : Int32)) kiconst_2 dX8_years_102 rfl ?_
              refine p_iload rfl dX8_years_103 rfl ?_
              refine p_aload_n rfl dX8_years_105 rfl ?_
              refine p_bipush (v := (9 : Int32)) kbipush_9 dX8_years_106 rfl ?_
              refine p_cVw (f := f8_drawBelow (9 : Int32)) (st := [.int z22, .int (2 : Int32), .ref 0]) [.int (9 : Int32)] qRokX (m8_drawBelow l (9 : Int32)) cal_RX8_273 uX_0 rfl rfl ⟨rfl, rfl⟩ ⟨Nat.le_of_ble_eq_true rfl, Nat.le_of_ble_eq_true rfl⟩ (Nat.le_of_ble_eq_true rfl) dX8_years_108 rfl (fun z24 h25 => ?_)
              refine p_iconst (v := (1 : Int32)) kiconst_1 dX8_years_111 rfl ?_
              refine p_iadd dX8_years_112 rfl ?_
              refine p_iconst (v := (0 : Int32)) kiconst_0 dX8_years_113 rfl ?_
              refine p_cVw (f := f8_attempt (2 : Int32) z22 (z24 + (1 : Int32)) (0 : Int32)) (st := []) [.int (2 : Int32), .int z22, .int (z24 + (1 : Int32)), .int (0 : Int32)] qRokX (m8_attempt l (2 : Int32) z22 (z24 + (1 : Int32)) (0 : Int32)) cal_RX8_248 uX_0 rfl rfl ⟨rfl, rfl⟩ ⟨Nat.le_of_ble_eq_true rfl, Nat.le_of_ble_eq_true rfl⟩ (Nat.le_of_ble_eq_true rfl) dX8_years_114 rfl (fun z26 h27 => ?_)
              refine p_pop rfl dX8_years_117 rfl ?_
              refine p_goto (tgt := 187) dX8_years_118 (by decide) ?_
              exact p_wk (ls' := [some (.ref 0), some (.int p1), none, none, some (.int x6), none, none]) ⟨rfl, rfl, rfl, trivial⟩ (J13 h27)
            · refine p_if (fun c28 => ?_) (fun c28 => ?_)
              · refine p_swI (v := (6 : Int32)) (tgt := 121) dX8_years_43 c28 (by decide) (by decide) rfl (by decide) ?_
                refine p_aload_n rfl dX8_years_121 rfl ?_
                refine p_iconst (v := (3 : Int32)) kiconst_3 dX8_years_122 rfl ?_
                refine p_aload_n rfl dX8_years_123 rfl ?_
                refine p_bipush (v := (24 : Int32)) kbipush_24 dX8_years_124 rfl ?_
                refine p_cVw (f := f8_drawBelow (24 : Int32)) (st := [.int (3 : Int32), .ref 0]) [.int (24 : Int32)] qRokX (m8_drawBelow l (24 : Int32)) cal_RX8_273 uX_0 rfl rfl ⟨rfl, rfl⟩ ⟨Nat.le_of_ble_eq_true rfl, Nat.le_of_ble_eq_true rfl⟩ (Nat.le_of_ble_eq_true rfl) dX8_years_126 rfl (fun z29 h30 => ?_)
                refine p_iconst (v := (-1 : Int32)) kiconst_m1 dX8_years_129 rfl ?_
                refine p_iconst (v := (0 : Int32)) kiconst_0 dX8_years_130 rfl ?_
                refine p_cVw (f := f8_attempt (3 : Int32) z29 (-1 : Int32) (0 : Int32)) (st := []) [.int (3 : Int32), .int z29, .int (-1 : Int32), .int (0 : Int32)] qRokX (m8_attempt l (3 : Int32) z29 (-1 : Int32) (0 : Int32)) cal_RX8_248 uX_0 rfl rfl ⟨rfl, rfl⟩ ⟨Nat.le_of_ble_eq_true rfl, Nat.le_of_ble_eq_true rfl⟩ (Nat.le_of_ble_eq_true rfl) dX8_years_131 rfl (fun z31 h32 => ?_)
                refine p_pop rfl dX8_years_134 rfl ?_
                refine p_goto (tgt := 187) dX8_years_135 (by decide) ?_
                exact J13 h32
              · refine p_if (fun c33 => ?_) (fun c33 => ?_)
                · refine p_swI (v := (7 : Int32)) (tgt := 138) dX8_years_43 c33 (by decide) (by decide) rfl (by decide) ?_
                  refine p_aload_n rfl dX8_years_138 rfl ?_
                  refine p_aload_n rfl dX8_years_139 rfl ?_
                  refine p_getr qg_RX8_28 uX_0 rfl dX8_years_140 rfl ?_
                  refine p_geti qg_RX8_141 uX_6 rfl dX8_years_143 rfl ?_
                  refine p_cVw (f := f8_drawBelow (h10.1 6 1)) (st := []) [.int (h10.1 6 1)] qRokX (m8_drawBelow l (h10.1 6 1)) cal_RX8_273 uX_0 rfl rfl ⟨rfl, rfl⟩ ⟨Nat.le_of_ble_eq_true rfl, Nat.le_of_ble_eq_true rfl⟩ (Nat.le_of_ble_eq_true rfl) dX8_years_146 rfl (fun z34 h35 => ?_)
                  refine p_is (ls' := [some (.ref 0), some (.int p1), none, none, some (.int x6), none, some (.int z34)]) dX8_years_149 rfl rfl rfl rfl ?_
                  refine p_aload_n rfl dX8_years_151 rfl ?_
                  refine p_bipush (v := (6 : Int32)) kbipush_6 dX8_years_152 rfl ?_
                  refine p_iload rfl dX8_years_154 rfl ?_
                  refine p_aload_n rfl dX8_years_156 rfl ?_
                  refine p_getr qg_RX8_60 uX_0 rfl dX8_years_157 rfl ?_
                  refine p_iload rfl dX8_years_160 rfl ?_
                  refine p_callVr (f := f7_targetFor 51 z34) (st := [.int z34, .int (6 : Int32), .ref 0]) [.int z34] qRokX (m7_targetFor l (kStage_51) z34) cal_RX8_276 uX_51 rfl rfl ⟨rfl, rfl⟩ ⟨Nat.le_of_ble_eq_true rfl, Nat.le_of_ble_eq_true rfl⟩ (Nat.le_of_ble_eq_true rfl) dX8_years_162 rfl (fun z36 => ?_)
                  refine p_iconst (v := (0 : Int32)) kiconst_0 dX8_years_165 rfl ?_
                  refine p_cVw (f := f8_attempt (6 : Int32) z34 z36 (0 : Int32)) (st := []) [.int (6 : Int32), .int z34, .int z36, .int (0 : Int32)] qRokX (m8_attempt l (6 : Int32) z34 z36 (0 : Int32)) cal_RX8_248 uX_0 rfl rfl ⟨rfl, rfl⟩ ⟨Nat.le_of_ble_eq_true rfl, Nat.le_of_ble_eq_true rfl⟩ (Nat.le_of_ble_eq_true rfl) dX8_years_166 rfl (fun z37 h38 => ?_)
                  refine p_pop rfl dX8_years_169 rfl ?_
                  refine p_goto (tgt := 187) dX8_years_170 (by decide) ?_
                  exact p_wk (ls' := [some (.ref 0), some (.int p1), none, none, some (.int x6), none, none]) ⟨rfl, rfl, rfl, trivial⟩ (J13 h38)
                · refine p_swO (tgt := 173) dX8_years_43 (by
                      have c15' := lv_neT c15 (a := 3) (by decide)
                      have c18' := lv_neT c18 (a := 4) (by decide)
                      have c21' := lv_neT c21 (a := 5) (by decide)
                      have c28' := lv_neT c28 (a := 6) (by decide)
                      have c33' := lv_neT c33 (a := 7) (by decide)
                      omega) (by decide) ?_
                  refine p_aload_n rfl dX8_years_173 rfl ?_
                  refine p_iconst (v := (0 : Int32)) kiconst_0 dX8_years_174 rfl ?_
                  refine p_aload_n rfl dX8_years_175 rfl ?_
                  refine p_bipush (v := (24 : Int32)) kbipush_24 dX8_years_176 rfl ?_
                  refine p_cVw (f := f8_drawBelow (24 : Int32)) (st := [.int (0 : Int32), .ref 0]) [.int (24 : Int32)] qRokX (m8_drawBelow l (24 : Int32)) cal_RX8_273 uX_0 rfl rfl ⟨rfl, rfl⟩ ⟨Nat.le_of_ble_eq_true rfl, Nat.le_of_ble_eq_true rfl⟩ (Nat.le_of_ble_eq_true rfl) dX8_years_178 rfl (fun z39 h40 => ?_)
                  refine p_iconst (v := (-1 : Int32)) kiconst_m1 dX8_years_181 rfl ?_
                  refine p_iconst (v := (0 : Int32)) kiconst_0 dX8_years_182 rfl ?_
                  refine p_cVw (f := f8_attempt (0 : Int32) z39 (-1 : Int32) (0 : Int32)) (st := []) [.int (0 : Int32), .int z39, .int (-1 : Int32), .int (0 : Int32)] qRokX (m8_attempt l (0 : Int32) z39 (-1 : Int32) (0 : Int32)) cal_RX8_248 uX_0 rfl rfl ⟨rfl, rfl⟩ ⟨Nat.le_of_ble_eq_true rfl, Nat.le_of_ble_eq_true rfl⟩ (Nat.le_of_ble_eq_true rfl) dX8_years_183 rfl (fun z41 h42 => ?_)
                  refine p_pop rfl dX8_years_186 rfl ?_
                  exact J13 h42
noncomputable def f8_years (p1 : Int32) (p2 : Int64) (h : qH) : Option (Int32 × qH) :=
  (f4_isTold 6 h).bind fun (z1 : Int32) =>
  if z1 = 0 then (
    some ((-1 : Int32), h))
  else (
    if p1 < (1 : Int32) then (
      some ((-1 : Int32), h))
    else (
      if p1 ≤ (40 : Int32) then (
        qlt (qlg h 0 p2) fun (h5 : qH) =>
        f8_years_L31 p1 (fun (x43 : Int32) (h44 : qH) =>
          some ((h44.1 51 2), h44)) qN (0 : Int32) h5)
      else (
        some ((-1 : Int32), h))))
set_option maxRecDepth 100000 in
set_option maxHeartbeats 4000000 in
theorem m8_years (l : Launch) (p1 : Int32) (p2 : Int64) : qMet UX ROX l yX8_years (qws yX8_years cX8_years 7 (some .int)) R8_years [.ref 0, .int p1, .long p2] (f8_years p1 p2) qEw := by
  refine q_met (own := RX8) 3 (by decide) rfl (Nat.le_of_ble_eq_true rfl) (ls := [some (.ref 0), some (.int p1), some (.long p2), none, none, none, none]) rfl fun h => ?_
  unfold f8_years
  show PW UX ROX l R8_years cX8_years 7 (some .int) RX8 (qEw h) 0 [some (.ref 0), some (.int p1), some (.long p2), none, none, none, none] [] h _
  refine p_aload_n rfl dX8_years_0 rfl ?_
  refine p_getr qg_RX8_28 uX_0 rfl dX8_years_1 rfl ?_
  refine p_callVr (f := f4_isTold 6) (st := []) [] qRokX (m4_isTold l (kPlan_6)) cal_RX8_147 uX_6 rfl rfl ⟨rfl, rfl⟩ ⟨Nat.le_of_ble_eq_true rfl, Nat.le_of_ble_eq_true rfl⟩ (Nat.le_of_ble_eq_true rfl) dX8_years_4 rfl (fun z1 => ?_)
  refine p_if (fun c2 => ?_) (fun c2 => ?_)
  · refine p_if_eq_t (tgt := 21) dX8_years_7 (by decide) c2 ?_
    refine p_iconst (v := (-1 : Int32)) kiconst_m1 dX8_years_21 rfl ?_
    exact p_iret rfl rfl dX8_years_22
  · refine p_if_eq_f (tgt := 21) dX8_years_7 (by decide) rfl c2 ?_
    refine p_iload_n rfl dX8_years_10 rfl ?_
    refine p_iconst (v := (1 : Int32)) kiconst_1 dX8_years_11 rfl ?_
    refine p_if (fun c3 => ?_) (fun c3 => ?_)
    · refine p_icmp_lt_t (tgt := 21) dX8_years_12 (by decide) c3 ?_
      refine p_iconst (v := (-1 : Int32)) kiconst_m1 dX8_years_21 rfl ?_
      exact p_iret rfl rfl dX8_years_22
    · refine p_icmp_lt_f (tgt := 21) dX8_years_12 (by decide) rfl c3 ?_
      refine p_iload_n rfl dX8_years_15 rfl ?_
      refine p_bipush (v := (40 : Int32)) kbipush_40 dX8_years_16 rfl ?_
      refine p_if (fun c4 => ?_) (fun c4 => ?_)
      · refine p_icmp_le_t (tgt := 23) dX8_years_18 (by decide) c4 ?_
        refine p_aload_n rfl dX8_years_23 rfl ?_
        refine p_lload_n rfl dX8_years_24 rfl ?_
        refine p_putl qp_RX8_269 uX_0 rfl qlong_RX8 dX8_years_25 rfl ?_
        refine p_nmH (fun h5 => ?_)
        refine p_iconst (v := (0 : Int32)) kiconst_0 dX8_years_28 rfl ?_
        refine p_is (ls' := [some (.ref 0), some (.int p1), some (.long p2), none, some (.int (0 : Int32)), none, none]) dX8_years_29 rfl rfl rfl rfl ?_
        refine p_wk (ls' := [some (.ref 0), some (.int p1), none, none, some (.int (0 : Int32)), none, none]) ⟨rfl, rfl, rfl, trivial⟩ ?_
        refine w8_years_L31 l h p1 (fun x43 h44 => ?_) qN _ _
        refine p_aload_n rfl dX8_years_193 rfl ?_
        refine p_getr qg_RX8_60 uX_0 rfl dX8_years_194 rfl ?_
        refine p_geti qg_RX8_198 uX_51 rfl dX8_years_197 rfl ?_
        exact p_iret rfl rfl dX8_years_200
      · refine p_icmp_le_f (tgt := 23) dX8_years_18 (by decide) rfl c4 ?_
        refine p_iconst (v := (-1 : Int32)) kiconst_m1 dX8_years_21 rfl ?_
        exact p_iret rfl rfl dX8_years_22
noncomputable def f8_status (p1 : Int32) (h : qH) : Option (Int32) :=
  qj (fun (x1 : Int32) =>
    some x1) fun j2 =>
  if p1 < 0 then (
    j2 (-1 : Int32))
  else (
    if p1 < (4 : Int32) then (
      qg (qin p1 4) <|
      j2 (h.1 84 (ix p1)))
    else (
      j2 (-1 : Int32)))
set_option maxRecDepth 100000 in
set_option maxHeartbeats 4000000 in
theorem m8_status (l : Launch) (p1 : Int32) : qMet UX ROX l yX8_status (qws yX8_status cX8_status 2 (some .int)) R8_status [.ref 0, .int p1] (f8_status p1) qEr := by
  refine q_met (own := RX8) 0 (by decide) rfl (Nat.le_of_ble_eq_true rfl) (ls := [some (.ref 0), some (.int p1)]) rfl fun h => ?_
  unfold f8_status
  refine p_iload_n rfl dX8_status_0 rfl ?_
  refine p_jn (fun j2 => ∀ (x1 : Int32), PW UX ROX l R8_status cX8_status 2 (some .int) RX8 (qEr h) 19 [some (.ref 0), some (.int p1)] [.int x1] h (j2 x1)) (fun x1 => ?_) (fun j2 J3 => ?_)
  · exact p_iret rfl rfl dX8_status_19
  · refine p_if (fun c4 => ?_) (fun c4 => ?_)
    · refine p_if_lt_t (tgt := 9) dX8_status_1 (by decide) c4 ?_
      refine p_iconst (v := (-1 : Int32)) kiconst_m1 dX8_status_9 rfl ?_
      refine p_goto (tgt := 19) dX8_status_10 (by decide) ?_
      exact J3 (-1 : Int32)
    · refine p_if_lt_f (tgt := 9) dX8_status_1 (by decide) rfl c4 ?_
      refine p_iload_n rfl dX8_status_4 rfl ?_
      refine p_iconst (v := (4 : Int32)) kiconst_4 dX8_status_5 rfl ?_
      refine p_if (fun c5 => ?_) (fun c5 => ?_)
      · refine p_icmp_lt_t (tgt := 13) dX8_status_6 (by decide) c5 ?_
        refine p_aload_n rfl dX8_status_13 rfl ?_
        refine p_getr qg_RX8_94 uX_0 rfl dX8_status_14 rfl ?_
        refine p_iload_n rfl dX8_status_17 rfl ?_
        refine p_iald uX_84 dX8_status_18 rfl (fun _ => ?_)
        exact J3 (h.1 84 (ix p1))
      · refine p_icmp_lt_f (tgt := 13) dX8_status_6 (by decide) rfl c5 ?_
        refine p_iconst (v := (-1 : Int32)) kiconst_m1 dX8_status_9 rfl ?_
        refine p_goto (tgt := 19) dX8_status_10 (by decide) ?_
        exact J3 (-1 : Int32)
noncomputable def f8_undo (h : qH) : Option (Int32 × qH) :=
  if (h.1 77 1) = 0 then (
    some ((-1 : Int32), h))
  else (
    (f3_giveBack 51 h).bind fun (h2 : qH) =>
    (f1_takeBack 79 h2).bind fun (h3 : qH) =>
    some ((h3.1 77 1), h3))
set_option maxRecDepth 100000 in
set_option maxHeartbeats 4000000 in
theorem m8_undo (l : Launch) : qMet UX ROX l yX8_undo (qws yX8_undo cX8_undo 1 (some .int)) R8_undo [.ref 0] f8_undo qEw := by
  refine q_met (own := RX8) 0 (by decide) rfl (Nat.le_of_ble_eq_true rfl) (ls := [some (.ref 0)]) rfl fun h => ?_
  unfold f8_undo
  show PW UX ROX l R8_undo cX8_undo 1 (some .int) RX8 (qEw h) 0 [some (.ref 0)] [] h _
  refine p_aload_n rfl dX8_undo_0 rfl ?_
  refine p_getr qg_RX8_77 uX_0 rfl dX8_undo_1 rfl ?_
  refine p_geti qg_RX8_283 uX_77 rfl dX8_undo_4 rfl ?_
  refine p_if (fun c1 => ?_) (fun c1 => ?_)
  · refine p_if_ne_f (tgt := 12) dX8_undo_7 (by decide) rfl c1 ?_
    refine p_iconst (v := (-1 : Int32)) kiconst_m1 dX8_undo_10 rfl ?_
    exact p_iret rfl rfl dX8_undo_11
  · refine p_if_ne_t (tgt := 12) dX8_undo_7 (by decide) c1 ?_
    refine p_aload_n rfl dX8_undo_12 rfl ?_
    refine p_getr qg_RX8_77 uX_0 rfl dX8_undo_13 rfl ?_
    refine p_aload_n rfl dX8_undo_16 rfl ?_
    refine p_getr qg_RX8_60 uX_0 rfl dX8_undo_17 rfl ?_
    refine p_callVv (f := f3_giveBack 51) (st := []) [.ref 51] qRokX (m3_giveBack l (kStage_51)) cal_RX8_286 uX_77 rfl rfl ⟨rfl, rfl⟩ ⟨Nat.le_of_ble_eq_true rfl, Nat.le_of_ble_eq_true rfl⟩ (Nat.le_of_ble_eq_true rfl) dX8_undo_20 rfl (fun h2 => ?_)
    refine p_aload_n rfl dX8_undo_23 rfl ?_
    refine p_getr qg_RX8_84 uX_0 rfl dX8_undo_24 rfl ?_
    refine p_callVv (f := f1_takeBack 79) (st := []) [] qRokX (m1_takeBack l (kLog_79)) cal_RX8_289 uX_79 rfl rfl ⟨rfl, rfl⟩ ⟨Nat.le_of_ble_eq_true rfl, Nat.le_of_ble_eq_true rfl⟩ (Nat.le_of_ble_eq_true rfl) dX8_undo_27 rfl (fun h3 => ?_)
    refine p_aload_n rfl dX8_undo_30 rfl ?_
    refine p_getr qg_RX8_77 uX_0 rfl dX8_undo_31 rfl ?_
    refine p_geti qg_RX8_283 uX_77 rfl dX8_undo_34 rfl ?_
    exact p_iret rfl rfl dX8_undo_37
noncomputable def f8_log (p1 : Int32) (p2 : Int32) (h : qH) : Option (Int32) :=
  if p1 < 0 then (
    some (-1000000 : Int32))
  else (
    (f1_length 79 h).bind fun (z2 : Int32) =>
    if z2 ≤ p1 then (
      some (-1000000 : Int32))
    else (
      if p2 < 0 then (
        some (-1000000 : Int32))
      else (
        if p2 ≤ (2 : Int32) then (
          (f1_numberAt 79 p1 p2 h).bind fun (z6 : Int32) =>
          some z6)
        else (
          some (-1000000 : Int32)))))
set_option maxRecDepth 100000 in
set_option maxHeartbeats 4000000 in
theorem m8_log (l : Launch) (p1 : Int32) (p2 : Int32) : qMet UX ROX l yX8_log (qws yX8_log cX8_log 3 (some .int)) R8_log [.ref 0, .int p1, .int p2] (f8_log p1 p2) qEr := by
  refine q_met (own := RX8) 0 (by decide) rfl (Nat.le_of_ble_eq_true rfl) (ls := [some (.ref 0), some (.int p1), some (.int p2)]) rfl fun h => ?_
  unfold f8_log
  refine p_iload_n rfl dX8_log_0 rfl ?_
  refine p_if (fun c1 => ?_) (fun c1 => ?_)
  · refine p_if_lt_t (tgt := 24) dX8_log_1 (by decide) c1 ?_
    refine p_ldc (v := (-1000000 : Int32)) kcRX8_207 dX8_log_24 rfl ?_
    exact p_iret rfl rfl dX8_log_26
  · refine p_if_lt_f (tgt := 24) dX8_log_1 (by decide) rfl c1 ?_
    refine p_iload_n rfl dX8_log_4 rfl ?_
    refine p_aload_n rfl dX8_log_5 rfl ?_
    refine p_getr qg_RX8_84 uX_0 rfl dX8_log_6 rfl ?_
    refine p_callVr (f := f1_length 79) (st := [.int p1]) [] qRokX (m1_length l (kLog_79)) cal_RX8_292 uX_79 rfl rfl ⟨rfl, rfl⟩ ⟨Nat.le_of_ble_eq_true rfl, Nat.le_of_ble_eq_true rfl⟩ (Nat.le_of_ble_eq_true rfl) dX8_log_9 rfl (fun z2 => ?_)
    refine p_if (fun c3 => ?_) (fun c3 => ?_)
    · refine p_icmp_ge_t (tgt := 24) dX8_log_12 (by decide) c3 ?_
      refine p_ldc (v := (-1000000 : Int32)) kcRX8_207 dX8_log_24 rfl ?_
      exact p_iret rfl rfl dX8_log_26
    · refine p_icmp_ge_f (tgt := 24) dX8_log_12 (by decide) rfl c3 ?_
      refine p_iload_n rfl dX8_log_15 rfl ?_
      refine p_if (fun c4 => ?_) (fun c4 => ?_)
      · refine p_if_lt_t (tgt := 24) dX8_log_16 (by decide) c4 ?_
        refine p_ldc (v := (-1000000 : Int32)) kcRX8_207 dX8_log_24 rfl ?_
        exact p_iret rfl rfl dX8_log_26
      · refine p_if_lt_f (tgt := 24) dX8_log_16 (by decide) rfl c4 ?_
        refine p_iload_n rfl dX8_log_19 rfl ?_
        refine p_iconst (v := (2 : Int32)) kiconst_2 dX8_log_20 rfl ?_
        refine p_if (fun c5 => ?_) (fun c5 => ?_)
        · refine p_icmp_le_t (tgt := 27) dX8_log_21 (by decide) c5 ?_
          refine p_aload_n rfl dX8_log_27 rfl ?_
          refine p_getr qg_RX8_84 uX_0 rfl dX8_log_28 rfl ?_
          refine p_iload_n rfl dX8_log_31 rfl ?_
          refine p_iload_n rfl dX8_log_32 rfl ?_
          refine p_callVr (f := f1_numberAt 79 p1 p2) (st := []) [.int p1, .int p2] qRokX (m1_numberAt l (kLog_79) p1 p2) cal_RX8_294 uX_79 rfl rfl ⟨rfl, rfl⟩ ⟨Nat.le_of_ble_eq_true rfl, Nat.le_of_ble_eq_true rfl⟩ (Nat.le_of_ble_eq_true rfl) dX8_log_33 rfl (fun z6 => ?_)
          exact p_iret rfl rfl dX8_log_36
        · refine p_icmp_le_f (tgt := 27) dX8_log_21 (by decide) rfl c5 ?_
          refine p_ldc (v := (-1000000 : Int32)) kcRX8_207 dX8_log_24 rfl ?_
          exact p_iret rfl rfl dX8_log_26
noncomputable def f8_takes (p1 : Int32) (p2 : Int32) (h : qH) : Option (Int32 × qH) :=
  (f4_isTape 6 p1 h).bind fun (z1 : Int32) =>
  if z1 = 0 then (
    some ((-1 : Int32), h))
  else (
    if p2 < 0 then (
      some ((-1 : Int32), h))
    else (
      if p2 < (3 : Int32) then (
        (f2_gather 51 p1 h).bind fun (h5 : qH) =>
        qb2 (f2_timeOf p2 h5) fun (z6 : Int32) (h7 : qH) =>
        some (z6, h7))
      else (
        some ((-1 : Int32), h))))
set_option maxRecDepth 100000 in
set_option maxHeartbeats 4000000 in
theorem m8_takes (l : Launch) (p1 : Int32) (p2 : Int32) : qMet UX ROX l yX8_takes (qws yX8_takes cX8_takes 3 (some .int)) R8_takes [.ref 0, .int p1, .int p2] (f8_takes p1 p2) qEw := by
  refine q_met (own := RX8) 0 (by decide) rfl (Nat.le_of_ble_eq_true rfl) (ls := [some (.ref 0), some (.int p1), some (.int p2)]) rfl fun h => ?_
  unfold f8_takes
  show PW UX ROX l R8_takes cX8_takes 3 (some .int) RX8 (qEw h) 0 [some (.ref 0), some (.int p1), some (.int p2)] [] h _
  refine p_aload_n rfl dX8_takes_0 rfl ?_
  refine p_getr qg_RX8_28 uX_0 rfl dX8_takes_1 rfl ?_
  refine p_iload_n rfl dX8_takes_4 rfl ?_
  refine p_callVr (f := f4_isTape 6 p1) (st := []) [.int p1] qRokX (m4_isTape l (kPlan_6) p1) cal_RX8_157 uX_6 rfl rfl ⟨rfl, rfl⟩ ⟨Nat.le_of_ble_eq_true rfl, Nat.le_of_ble_eq_true rfl⟩ (Nat.le_of_ble_eq_true rfl) dX8_takes_5 rfl (fun z1 => ?_)
  refine p_if (fun c2 => ?_) (fun c2 => ?_)
  · refine p_if_eq_t (tgt := 20) dX8_takes_8 (by decide) c2 ?_
    refine p_iconst (v := (-1 : Int32)) kiconst_m1 dX8_takes_20 rfl ?_
    exact p_iret rfl rfl dX8_takes_21
  · refine p_if_eq_f (tgt := 20) dX8_takes_8 (by decide) rfl c2 ?_
    refine p_iload_n rfl dX8_takes_11 rfl ?_
    refine p_if (fun c3 => ?_) (fun c3 => ?_)
    · refine p_if_lt_t (tgt := 20) dX8_takes_12 (by decide) c3 ?_
      refine p_iconst (v := (-1 : Int32)) kiconst_m1 dX8_takes_20 rfl ?_
      exact p_iret rfl rfl dX8_takes_21
    · refine p_if_lt_f (tgt := 20) dX8_takes_12 (by decide) rfl c3 ?_
      refine p_iload_n rfl dX8_takes_15 rfl ?_
      refine p_iconst (v := (3 : Int32)) kiconst_3 dX8_takes_16 rfl ?_
      refine p_if (fun c4 => ?_) (fun c4 => ?_)
      · refine p_icmp_lt_t (tgt := 22) dX8_takes_17 (by decide) c4 ?_
        refine p_aload_n rfl dX8_takes_22 rfl ?_
        refine p_getr qg_RX8_51 uX_0 rfl dX8_takes_23 rfl ?_
        refine p_aload_n rfl dX8_takes_26 rfl ?_
        refine p_getr qg_RX8_60 uX_0 rfl dX8_takes_27 rfl ?_
        refine p_iload_n rfl dX8_takes_30 rfl ?_
        refine p_callVv (f := f2_gather 51 p1) (st := []) [.ref 51, .int p1] qRokX (m2_gather l (kStage_51) p1) cal_RX8_297 uX_43 rfl rfl ⟨rfl, rfl⟩ ⟨Nat.le_of_ble_eq_true rfl, Nat.le_of_ble_eq_true rfl⟩ (Nat.le_of_ble_eq_true rfl) dX8_takes_31 rfl (fun h5 => ?_)
        refine p_aload_n rfl dX8_takes_34 rfl ?_
        refine p_getr qg_RX8_51 uX_0 rfl dX8_takes_35 rfl ?_
        refine p_iload_n rfl dX8_takes_38 rfl ?_
        refine p_cVw (f := f2_timeOf p2) (st := []) [.int p2] qRokX (m2_timeOf l p2) cal_RX8_301 uX_43 rfl rfl ⟨rfl, rfl⟩ ⟨Nat.le_of_ble_eq_true rfl, Nat.le_of_ble_eq_true rfl⟩ (Nat.le_of_ble_eq_true rfl) dX8_takes_39 rfl (fun z6 h7 => ?_)
        exact p_iret rfl rfl dX8_takes_42
      · refine p_icmp_lt_f (tgt := 22) dX8_takes_17 (by decide) rfl c4 ?_
        refine p_iconst (v := (-1 : Int32)) kiconst_m1 dX8_takes_20 rfl ?_
        exact p_iret rfl rfl dX8_takes_21
