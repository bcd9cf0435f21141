noncomputable def f3_giveBack (p1 : Nat) (h : qH) : Option (qH) :=
  qj (fun (h1 : qH) =>
    some h1) fun j2 =>
  if (h.1 77 1) ≤ 0 then (
    j2 h)
  else (
    qg (decide (¬ (40 : Int32) = 0)) <|
    qlt (qw h 77 2 ((((h.1 77 2) + (40 : Int32)) - (1 : Int32)) - (((h.1 77 2) + (40 : Int32)) - (1 : Int32)) / (40 : Int32) * (40 : Int32))) fun (h5 : qH) =>
    (f7_load p1 78 6880 ((h5.1 77 2) * (172 : Int32)) h5).bind fun (h6 : qH) =>
    qlt (qw h6 77 1 ((h6.1 77 1) - (1 : Int32))) fun (h7 : qH) =>
    j2 h7)
set_option maxRecDepth 100000 in
set_option maxHeartbeats 4000000 in
theorem m3_giveBack (l : Launch) {p1 : Nat} (hp1 : kStage p1) : qMet UX ROX l yX3_giveBack (qws yX3_giveBack cX3_giveBack 2 none) R3_giveBack [.ref 77, .ref p1] (f3_giveBack p1) qEv := by
  refine q_met (own := RX3) 0 (by decide) rfl (Nat.le_of_ble_eq_true rfl) (ls := [some (.ref 77), some (.ref p1)]) rfl fun h => ?_
  unfold f3_giveBack
  show PW UX ROX l R3_giveBack cX3_giveBack 2 none RX3 (qEv h) 0 [some (.ref 77), some (.ref p1)] [] h _
  refine p_aload_n rfl dX3_giveBack_0 rfl ?_
  refine p_geti qg_RX3_17 uX_77 rfl dX3_giveBack_1 rfl ?_
  refine p_jn (fun j2 => ∀ (h1 : qH), PW UX ROX l R3_giveBack cX3_giveBack 2 none RX3 (qEv h) 49 [some (.ref 77), some (.ref p1)] [] h1 (j2 h1)) (fun h1 => ?_) (fun j2 J3 => ?_)
  · exact p_vret rfl rfl dX3_giveBack_49
  · refine p_if (fun c4 => ?_) (fun c4 => ?_)
    · refine p_if_le_t (tgt := 49) dX3_giveBack_4 (by decide) c4 ?_
      exact J3 h
    · refine p_if_le_f (tgt := 49) dX3_giveBack_4 (by decide) rfl c4 ?_
      refine p_aload_n rfl dX3_giveBack_7 rfl ?_
      refine p_aload_n rfl dX3_giveBack_8 rfl ?_
      refine p_geti qg_RX3_21 uX_77 rfl dX3_giveBack_9 rfl ?_
      refine p_bipush (v := (40 : Int32)) kbipush_40 dX3_giveBack_12 rfl ?_
      refine p_iadd dX3_giveBack_14 rfl ?_
      refine p_iconst (v := (1 : Int32)) kiconst_1 dX3_giveBack_15 rfl ?_
      refine p_isub dX3_giveBack_16 rfl ?_
      refine p_bipush (v := (40 : Int32)) kbipush_40 dX3_giveBack_17 rfl ?_
      refine p_irem dX3_giveBack_19 rfl (fun _ => ?_)
      refine p_puti qokX qp_RX3_21 uX_77 rfl dX3_giveBack_20 rfl ?_
      refine p_nmH (fun h5 => ?_)
      refine p_aload_n rfl dX3_giveBack_23 rfl ?_
      refine p_aload_n rfl dX3_giveBack_24 rfl ?_
      refine p_getr qg_RX3_11 uX_77 rfl dX3_giveBack_25 rfl ?_
      refine p_aload_n rfl dX3_giveBack_28 rfl ?_
      refine p_geti qg_RX3_21 uX_77 rfl dX3_giveBack_29 rfl ?_
      refine p_sipush (v := (172 : Int32)) ksipush_172 dX3_giveBack_32 rfl ?_
      refine p_imul dX3_giveBack_35 rfl ?_
      refine p_callVv (f := f7_load p1 78 6880 ((h5.1 77 2) * (172 : Int32))) (st := []) [.ref 78, .int ((h5.1 77 2) * (172 : Int32))] qRokX (m7_load l hp1 uX_78 ((h5.1 77 2) * (172 : Int32))) cal_RX3_34 (uX_Stage hp1) rfl rfl ⟨rfl, rfl⟩ ⟨Nat.le_of_ble_eq_true rfl, Nat.le_of_ble_eq_true rfl⟩ (Nat.le_of_ble_eq_true rfl) dX3_giveBack_36 rfl (fun h6 => ?_)
      refine p_aload_n rfl dX3_giveBack_39 rfl ?_
      refine p_dup rfl dX3_giveBack_40 rfl ?_
      refine p_geti qg_RX3_17 uX_77 rfl dX3_giveBack_41 rfl ?_
      refine p_iconst (v := (1 : Int32)) kiconst_1 dX3_giveBack_44 rfl ?_
      refine p_isub dX3_giveBack_45 rfl ?_
      refine p_puti qokX qp_RX3_17 uX_77 rfl dX3_giveBack_46 rfl ?_
      refine p_nmH (fun h7 => ?_)
      exact J3 h7
noncomputable def f4_setRules_st (p0 : Nat) (h : qH) : Option (qH) :=
  qg (qcp (0 : Int32) (0 : Int32) (8 : Int32) 12 8) <|
  qlt (qrow h (p0 + 1) (va_cpy stDefaults (h.1 (p0 + 1)) (ix (0 : Int32)) (ix (0 : Int32)) (ix (8 : Int32)))) fun (h1 : qH) =>
  some h1
set_option maxRecDepth 100000 in
set_option maxHeartbeats 4000000 in
theorem m4_setRules_st (l : Launch) {p0 : Nat} (hp0 : kPlan p0) : qMet UX ROX l yX4_setRules (qws yX4_setRules cX4_setRules 2 none) R4_setRules_st [.ref p0, .ref 202] (f4_setRules_st p0) qEv := by
  refine q_met (own := RX4) 0 (by decide) rfl (Nat.le_of_ble_eq_true rfl) (ls := [some (.ref p0), some (.ref 202)]) rfl fun h => ?_
  unfold f4_setRules_st
  show PW UX ROX l R4_setRules_st cX4_setRules 2 none RX4 (qEv h) 0 [some (.ref p0), some (.ref 202)] [] h _
  refine p_aload_n rfl dX4_setRules_0 rfl ?_
  refine p_iconst (v := (0 : Int32)) kiconst_0 dX4_setRules_1 rfl ?_
  refine p_aload_n rfl dX4_setRules_2 rfl ?_
  refine p_getr qg_RX4_9 (uX_Plan hp0) rfl dX4_setRules_3 rfl ?_
  refine p_iconst (v := (0 : Int32)) kiconst_0 dX4_setRules_6 rfl ?_
  refine p_bipush (v := (8 : Int32)) kbipush_8 dX4_setRules_7 rfl ?_
  refine p_copyS qokX cpy_RX4_47 st_2 (uX_Plan_1 hp0) ⟨Nat.le_of_ble_eq_true rfl, Nat.le_of_ble_eq_true rfl⟩ dX4_setRules_9 rfl ?_
  refine p_nmH (fun h1 => ?_)
  exact p_vret rfl rfl dX4_setRules_12
noncomputable def f4_clear (p0 : Nat) (h : qH) : Option (qH) :=
  qlt (qw h p0 1 (0 : Int32)) fun (h1 : qH) =>
  qlt (qw h1 p0 4 (0 : Int32)) fun (h2 : qH) =>
  (f4_setRules_st p0 h2).bind fun (h3 : qH) =>
  some h3
set_option maxRecDepth 100000 in
set_option maxHeartbeats 4000000 in
theorem m4_clear (l : Launch) {p0 : Nat} (hp0 : kPlan p0) : qMet UX ROX l yX4_clear (qws yX4_clear cX4_clear 1 none) R4_clear [.ref p0] (f4_clear p0) qEv := by
  refine q_met (own := RX4) 0 (by decide) rfl (Nat.le_of_ble_eq_true rfl) (ls := [some (.ref p0)]) rfl fun h => ?_
  unfold f4_clear
  show PW UX ROX l R4_clear cX4_clear 1 none RX4 (qEv h) 0 [some (.ref p0)] [] h _
  refine p_aload_n rfl dX4_clear_0 rfl ?_
  refine p_iconst (v := (0 : Int32)) kiconst_0 dX4_clear_1 rfl ?_
  refine p_puti qokX qp_RX4_33 (uX_Plan hp0) rfl dX4_clear_2 rfl ?_
  refine p_nmH (fun h1 => ?_)
  refine p_aload_n rfl dX4_clear_5 rfl ?_
  refine p_iconst (v := (0 : Int32)) kiconst_0 dX4_clear_6 rfl ?_
  refine p_puti qokX qp_RX4_37 (uX_Plan hp0) rfl dX4_clear_7 rfl ?_
  refine p_nmH (fun h2 => ?_)
  refine p_aload_n rfl dX4_clear_10 rfl ?_
  refine p_gst gs_RX4_40 dX4_clear_11 rfl ?_
  refine p_callVv (f := f4_setRules_st p0) (st := []) [.ref 202] qRokX (m4_setRules_st l hp0) cal_RX4_43 (uX_Plan hp0) rfl rfl ⟨rfl, rfl⟩ ⟨Nat.le_of_ble_eq_true rfl, Nat.le_of_ble_eq_true rfl⟩ (Nat.le_of_ble_eq_true rfl) dX4_clear_14 rfl (fun h3 => ?_)
  exact p_vret rfl rfl dX4_clear_17
noncomputable def f4_setRules (p0 : Nat) (p1 : Nat) (np1 : Nat) (h : qH) : Option (qH) :=
  qg (qcp (0 : Int32) (0 : Int32) (8 : Int32) np1 8) <|
  qlt (qrow h (p0 + 1) (va_cpy (h.1 p1) (h.1 (p0 + 1)) (ix (0 : Int32)) (ix (0 : Int32)) (ix (8 : Int32)))) fun (h1 : qH) =>
  some h1
set_option maxRecDepth 100000 in
set_option maxHeartbeats 4000000 in
theorem m4_setRules (l : Launch) {p0 : Nat} (hp0 : kPlan p0) {p1 : Nat} {np1 : Nat} (hp1 : UX[p1]? = some (.inr (0, .inl np1, []))) : qMet UX ROX l yX4_setRules (qws yX4_setRules cX4_setRules 2 none) R4_setRules [.ref p0, .ref p1] (f4_setRules p0 p1 np1) qEv := by
  refine q_met (own := RX4) 0 (by decide) rfl (Nat.le_of_ble_eq_true rfl) (ls := [some (.ref p0), some (.ref p1)]) rfl fun h => ?_
  unfold f4_setRules
  show PW UX ROX l R4_setRules cX4_setRules 2 none RX4 (qEv h) 0 [some (.ref p0), some (.ref p1)] [] h _
  refine p_aload_n rfl dX4_setRules_0 rfl ?_
  refine p_iconst (v := (0 : Int32)) kiconst_0 dX4_setRules_1 rfl ?_
  refine p_aload_n rfl dX4_setRules_2 rfl ?_
  refine p_getr qg_RX4_9 (uX_Plan hp0) rfl dX4_setRules_3 rfl ?_
  refine p_iconst (v := (0 : Int32)) kiconst_0 dX4_setRules_6 rfl ?_
  refine p_bipush (v := (8 : Int32)) kbipush_8 dX4_setRules_7 rfl ?_
  refine p_copy qokX cpy_RX4_47 hp1 (uX_Plan_1 hp0) ⟨Nat.le_of_ble_eq_true rfl, Nat.le_of_ble_eq_true rfl⟩ dX4_setRules_9 rfl ?_
  refine p_nmH (fun h1 => ?_)
  exact p_vret rfl rfl dX4_setRules_12
noncomputable def f4_addTape (p0 : Nat) (p1 : Int32) (p2 : Int32) (h : qH) : Option (qH) :=
  qj (fun (h1 : qH) =>
    some h1) fun j2 =>
  if (8 : Int32) ≤ (h.1 p0 1) then (
    j2 h)
  else (
    qg (qin (h.1 p0 1) 8) <|
    qlt (qw h (p0 + 2) (ix (h.1 p0 1)) p1) fun (h5 : qH) =>
    qg (qin (h5.1 p0 1) 8) <|
    qlt (qw h5 (p0 + 3) (ix (h5.1 p0 1)) p2) fun (h6 : qH) =>
    qlt (qw h6 p0 1 ((h6.1 p0 1) + (1 : Int32))) fun (h7 : qH) =>
    j2 h7)
set_option maxRecDepth 100000 in
set_option maxHeartbeats 4000000 in
theorem m4_addTape (l : Launch) {p0 : Nat} (hp0 : kPlan p0) (p1 : Int32) (p2 : Int32) : qMet UX ROX l yX4_addTape (qws yX4_addTape cX4_addTape 3 none) R4_addTape [.ref p0, .int p1, .int p2] (f4_addTape p0 p1 p2) qEv := by
  refine q_met (own := RX4) 0 (by decide) rfl (Nat.le_of_ble_eq_true rfl) (ls := [some (.ref p0), some (.int p1), some (.int p2)]) rfl fun h => ?_
  unfold f4_addTape
  show PW UX ROX l R4_addTape cX4_addTape 3 none RX4 (qEv h) 0 [some (.ref p0), some (.int p1), some (.int p2)] [] h _
  refine p_aload_n rfl dX4_addTape_0 rfl ?_
  refine p_geti qg_RX4_33 (uX_Plan hp0) rfl dX4_addTape_1 rfl ?_
  refine p_bipush (v := (8 : Int32)) kbipush_8 dX4_addTape_4 rfl ?_
  refine p_jn (fun j2 => ∀ (h1 : qH), PW UX ROX l R4_addTape cX4_addTape 3 none RX4 (qEv h) 39 [some (.ref p0), some (.int p1), some (.int p2)] [] h1 (j2 h1)) (fun h1 => ?_) (fun j2 J3 => ?_)
  · exact p_vret rfl rfl dX4_addTape_39
  · refine p_if (fun c4 => ?_) (fun c4 => ?_)
    · refine p_icmp_ge_t (tgt := 39) dX4_addTape_6 (by decide) c4 ?_
      exact J3 h
    · refine p_icmp_ge_f (tgt := 39) dX4_addTape_6 (by decide) rfl c4 ?_
      refine p_aload_n rfl dX4_addTape_9 rfl ?_
      refine p_getr qg_RX4_15 (uX_Plan hp0) rfl dX4_addTape_10 rfl ?_
      refine p_aload_n rfl dX4_addTape_13 rfl ?_
      refine p_geti qg_RX4_33 (uX_Plan hp0) rfl dX4_addTape_14 rfl ?_
      refine p_iload_n rfl dX4_addTape_17 rfl ?_
      refine p_iast qokX (uX_Plan_2 hp0) dX4_addTape_18 rfl (fun _ => ?_)
      refine p_nmH (fun h5 => ?_)
      refine p_aload_n rfl dX4_addTape_19 rfl ?_
      refine p_getr qg_RX4_18 (uX_Plan hp0) rfl dX4_addTape_20 rfl ?_
      refine p_aload_n rfl dX4_addTape_23 rfl ?_
      refine p_geti qg_RX4_33 (uX_Plan hp0) rfl dX4_addTape_24 rfl ?_
      refine p_iload_n rfl dX4_addTape_27 rfl ?_
      refine p_iast qokX (uX_Plan_3 hp0) dX4_addTape_28 rfl (fun _ => ?_)
      refine p_nmH (fun h6 => ?_)
      refine p_aload_n rfl dX4_addTape_29 rfl ?_
      refine p_dup rfl dX4_addTape_30 rfl ?_
      refine p_geti qg_RX4_33 (uX_Plan hp0) rfl dX4_addTape_31 rfl ?_
      refine p_iconst (v := (1 : Int32)) kiconst_1 dX4_addTape_34 rfl ?_
      refine p_iadd dX4_addTape_35 rfl ?_
      refine p_puti qokX qp_RX4_33 (uX_Plan hp0) rfl dX4_addTape_36 rfl ?_
      refine p_nmH (fun h7 => ?_)
      exact J3 h7
noncomputable def f4_addFile (p0 : Nat) (p1 : Int32) (p2 : Int32) (h : qH) : Option (qH) :=
  qj (fun (h1 : qH) =>
    some h1) fun j2 =>
  if (24 : Int32) ≤ (h.1 p0 4) then (
    j2 h)
  else (
    qg (qin (h.1 p0 4) 24) <|
    qlt (qw h (p0 + 4) (ix (h.1 p0 4)) p1) fun (h5 : qH) =>
    qg (qin (h5.1 p0 4) 24) <|
    qlt (qw h5 (p0 + 5) (ix (h5.1 p0 4)) p2) fun (h6 : qH) =>
    qlt (qw h6 p0 4 ((h6.1 p0 4) + (1 : Int32))) fun (h7 : qH) =>
    j2 h7)
set_option maxRecDepth 100000 in
set_option maxHeartbeats 4000000 in
theorem m4_addFile (l : Launch) {p0 : Nat} (hp0 : kPlan p0) (p1 : Int32) (p2 : Int32) : qMet UX ROX l yX4_addFile (qws yX4_addFile cX4_addFile 3 none) R4_addFile [.ref p0, .int p1, .int p2] (f4_addFile p0 p1 p2) qEv := by
  refine q_met (own := RX4) 0 (by decide) rfl (Nat.le_of_ble_eq_true rfl) (ls := [some (.ref p0), some (.int p1), some (.int p2)]) rfl fun h => ?_
  unfold f4_addFile
  show PW UX ROX l R4_addFile cX4_addFile 3 none RX4 (qEv h) 0 [some (.ref p0), some (.int p1), some (.int p2)] [] h _
  refine p_aload_n rfl dX4_addFile_0 rfl ?_
  refine p_geti qg_RX4_37 (uX_Plan hp0) rfl dX4_addFile_1 rfl ?_
  refine p_bipush (v := (24 : Int32)) kbipush_24 dX4_addFile_4 rfl ?_
  refine p_jn (fun j2 => ∀ (h1 : qH), PW UX ROX l R4_addFile cX4_addFile 3 none RX4 (qEv h) 39 [some (.ref p0), some (.int p1), some (.int p2)] [] h1 (j2 h1)) (fun h1 => ?_) (fun j2 J3 => ?_)
  · exact p_vret rfl rfl dX4_addFile_39
  · refine p_if (fun c4 => ?_) (fun c4 => ?_)
    · refine p_icmp_ge_t (tgt := 39) dX4_addFile_6 (by decide) c4 ?_
      exact J3 h
    · refine p_icmp_ge_f (tgt := 39) dX4_addFile_6 (by decide) rfl c4 ?_
      refine p_aload_n rfl dX4_addFile_9 rfl ?_
      refine p_getr qg_RX4_21 (uX_Plan hp0) rfl dX4_addFile_10 rfl ?_
      refine p_aload_n rfl dX4_addFile_13 rfl ?_
      refine p_geti qg_RX4_37 (uX_Plan hp0) rfl dX4_addFile_14 rfl ?_
      refine p_iload_n rfl dX4_addFile_17 rfl ?_
      refine p_iast qokX (uX_Plan_4 hp0) dX4_addFile_18 rfl (fun _ => ?_)
      refine p_nmH (fun h5 => ?_)
      refine p_aload_n rfl dX4_addFile_19 rfl ?_
      refine p_getr qg_RX4_24 (uX_Plan hp0) rfl dX4_addFile_20 rfl ?_
      refine p_aload_n rfl dX4_addFile_23 rfl ?_
      refine p_geti qg_RX4_37 (uX_Plan hp0) rfl dX4_addFile_24 rfl ?_
      refine p_iload_n rfl dX4_addFile_27 rfl ?_
      refine p_iast qokX (uX_Plan_5 hp0) dX4_addFile_28 rfl (fun _ => ?_)
      refine p_nmH (fun h6 => ?_)
      refine p_aload_n rfl dX4_addFile_29 rfl ?_
      refine p_dup rfl dX4_addFile_30 rfl ?_
      refine p_geti qg_RX4_37 (uX_Plan hp0) rfl dX4_addFile_31 rfl ?_
      refine p_iconst (v := (1 : Int32)) kiconst_1 dX4_addFile_34 rfl ?_
      refine p_iadd dX4_addFile_35 rfl ?_
      refine p_puti qokX qp_RX4_37 (uX_Plan hp0) rfl dX4_addFile_36 rfl ?_
      refine p_nmH (fun h7 => ?_)
      exact J3 h7
noncomputable def f4_layOut_L26 (p0 : Nat) (x1 : Int32) (k : Int32 → qH → Option (qH)) : Nat → Int32 → qH → Option (qH)
  | 0, _, _ => none
  | n + 1, x3, h4 =>
    if (h4.1 p0 7) ≤ x3 then (
      k x3 h4)
    else (
      if x1 ≤ 0 then (
        k x3 h4)
      else (
        qg (decide (¬ x1 = 0)) <|
        qlt (x3 - x3 / x1 * x1) fun (x7 : Int32) =>
        qg (decide (¬ x1 = 0)) <|
        qg (qin x3 96) <|
        qlt (qw h4 (p0 + 7) (ix x3) (x3 / x1)) fun (h8 : qH) =>
        qg (qin x3 96) <|
        qg (decide (¬ (2 : Int32) = 0)) <|
        qlt (if ((h8.1 (p0 + 7) (ix x3)) - (h8.1 (p0 + 7) (ix x3)) / (2 : Int32) * (2 : Int32)) = 0 then x7 else ((x1 - (1 : Int32)) - x7)) fun (x10 : Int32) =>
        qg (qin x3 96) <|
        qlt (qw h8 (p0 + 6) (ix x3) x10) fun (h11 : qH) =>
        qlt (x3 + (1 : Int32)) fun (x12 : Int32) =>
        f4_layOut_L26 p0 x1 k n x12 h11))
set_option maxRecDepth 100000 in
set_option maxHeartbeats 4000000 in
theorem w4_layOut_L26 (l : Launch) (h0 : qH) (p0 : Nat) (x1 : Int32) (hp0 : kPlan p0) {k : Int32 → qH → Option (qH)} (hk : ∀ (x3 : Int32) (h4 : qH), PW UX ROX l R4_layOut cX4_layOut 4 none RX4 (qEv h0) 83 [some (.ref p0), some (.int x1), some (.int x3), none] [] h4 (k x3 h4)) : ∀ (n : Nat) (x3 : Int32) (h4 : qH), PW UX ROX l R4_layOut cX4_layOut 4 none RX4 (qEv h0) 26 [some (.ref p0), some (.int x1), some (.int x3), none] [] h4 (f4_layOut_L26 p0 x1 k n x3 h4) := by
  intro n
  induction n with
  | zero => intro _ _; exact p_none
  | succ n ih =>
    intro x3 h4
    unfold f4_layOut_L26
    refine p_iload_n rfl dX4_layOut_26 rfl ?_
    refine p_aload_n rfl dX4_layOut_27 rfl ?_
    refine p_geti qg_RX4_59 (uX_Plan hp0) rfl dX4_layOut_28 rfl ?_
    refine p_if (fun c5 => ?_) (fun c5 => ?_)
    · refine p_icmp_ge_t (tgt := 83) dX4_layOut_31 (by decide) c5 ?_
      exact hk x3 h4
    · refine p_icmp_ge_f (tgt := 83) dX4_layOut_31 (by decide) rfl c5 ?_
      refine p_iload_n rfl dX4_layOut_34 rfl ?_
      refine p_if (fun c6 => ?_) (fun c6 => ?_)
      · refine p_if_le_t (tgt := 83) dX4_layOut_35 (by decide) c6 ?_
        exact hk x3 h4
      · refine p_if_le_f (tgt := 83) dX4_layOut_35 (by decide) rfl c6 ?_
        refine p_iload_n rfl dX4_layOut_38 rfl ?_
        refine p_iload_n rfl dX4_layOut_39 rfl ?_
        refine p_irem dX4_layOut_40 rfl (fun _ => ?_)
        refine p_isN_n (lf := fun x7 => [some (.ref p0), some (.int x1), some (.int x3), some (.int x7)]) dX4_layOut_41 rfl rfl rfl (fun _ => rfl) (fun x7 => ?_)
        refine p_aload_n rfl dX4_layOut_42 rfl ?_
        refine p_getr qg_RX4_30 (uX_Plan hp0) rfl dX4_layOut_43 rfl ?_
        refine p_iload_n rfl dX4_layOut_46 rfl ?_
        refine p_iload_n rfl dX4_layOut_47 rfl ?_
        refine p_iload_n rfl dX4_layOut_48 rfl ?_
        refine p_idiv dX4_layOut_49 rfl (fun _ => ?_)
        refine p_iast qokX (uX_Plan_7 hp0) dX4_layOut_50 rfl (fun _ => ?_)
        refine p_nmH (fun h8 => ?_)
        refine p_aload_n rfl dX4_layOut_51 rfl ?_
        refine p_getr qg_RX4_27 (uX_Plan hp0) rfl dX4_layOut_52 rfl ?_
        refine p_iload_n rfl dX4_layOut_55 rfl ?_
        refine p_aload_n rfl dX4_layOut_56 rfl ?_
        refine p_getr qg_RX4_30 (uX_Plan hp0) rfl dX4_layOut_57 rfl ?_
        refine p_iload_n rfl dX4_layOut_60 rfl ?_
        refine p_iald (uX_Plan_7 hp0) dX4_layOut_61 rfl (fun _ => ?_)
        refine p_iconst (v := (2 : Int32)) kiconst_2 dX4_layOut_62 rfl ?_
        refine p_irem dX4_layOut_63 rfl (fun _ => ?_)
        refine p_vj 76 [some (.ref p0), some (.int x1), some (.int x3), some (.int x7)] [.int x3, .ref (p0 + 6)] (fun x10 => ?_) (fun J => ?_)
        · refine p_iast qokX (uX_Plan_6 hp0) dX4_layOut_76 rfl (fun _ => ?_)
          refine p_nmH (fun h11 => ?_)
          refine p_iiN (v := (1 : Int32)) (lf := fun x12 => [some (.ref p0), some (.int x1), some (.int x12), some (.int x7)]) kiconst_1 dX4_layOut_77 rfl rfl rfl rfl (fun _ => rfl) (fun x12 => ?_)
          refine p_goto (tgt := 26) dX4_layOut_80 (by decide) ?_
          exact p_wk (ls' := [some (.ref p0), some (.int x1), some (.int x12), none]) ⟨rfl, rfl, rfl, trivial⟩ (ih x12 h11)
        · refine p_dia (fun c9 => ?_) (fun c9 => ?_)
          · refine p_if_ne_f (tgt := 71) dX4_layOut_64 (by decide) rfl c9 ?_
            refine p_iload_n rfl dX4_layOut_67 rfl ?_
            refine p_goto (tgt := 76) dX4_layOut_68 (by decide) ?_
            exact J _
          · refine p_if_ne_t (tgt := 71) dX4_layOut_64 (by decide) c9 ?_
            refine p_iload_n rfl dX4_layOut_71 rfl ?_
            refine p_iconst (v := (1 : Int32)) kiconst_1 dX4_layOut_72 rfl ?_
            refine p_isub dX4_layOut_73 rfl ?_
            refine p_iload_n rfl dX4_layOut_74 rfl ?_
            refine p_isub dX4_layOut_75 rfl ?_
            exact J _
noncomputable def f4_layOut (p0 : Nat) (h : qH) : Option (qH) :=
  qlt (h.1 (p0 + 1) 2) fun (x1 : Int32) =>
  qlt (qw h p0 7 (if (96 : Int32) < (x1 * (h.1 (p0 + 1) 3)) then (96 : Int32) else (x1 * (h.1 (p0 + 1) 3)))) fun (h2 : qH) =>
  f4_layOut_L26 p0 x1 (fun (x13 : Int32) (h14 : qH) =>
    some h14) qN (0 : Int32) h2
set_option maxRecDepth 100000 in
set_option maxHeartbeats 4000000 in
theorem m4_layOut (l : Launch) {p0 : Nat} (hp0 : kPlan p0) : qMet UX ROX l yX4_layOut (qws yX4_layOut cX4_layOut 4 none) R4_layOut [.ref p0] (f4_layOut p0) qEv := by
  refine q_met (own := RX4) 3 (by decide) rfl (Nat.le_of_ble_eq_true rfl) (ls := [some (.ref p0), none, none, none]) rfl fun h => ?_
  unfold f4_layOut
  show PW UX ROX l R4_layOut cX4_layOut 4 none RX4 (qEv h) 0 [some (.ref p0), none, none, none] [] h _
  refine p_aload_n rfl dX4_layOut_0 rfl ?_
  refine p_getr qg_RX4_9 (uX_Plan hp0) rfl dX4_layOut_1 rfl ?_
  refine p_iconst (v := (2 : Int32)) kiconst_2 dX4_layOut_4 rfl ?_
  refine p_ialdK (uX_Plan_1 hp0) kix_2 kqin_2_8 dX4_layOut_5 rfl ?_
  refine p_isN_n (lf := fun x1 => [some (.ref p0), some (.int x1), none, none]) dX4_layOut_6 rfl rfl rfl (fun _ => rfl) (fun x1 => ?_)
  refine p_aload_n rfl dX4_layOut_7 rfl ?_
  refine p_iload_n rfl dX4_layOut_8 rfl ?_
  refine p_aload_n rfl dX4_layOut_9 rfl ?_
  refine p_getr qg_RX4_9 (uX_Plan hp0) rfl dX4_layOut_10 rfl ?_
  refine p_iconst (v := (3 : Int32)) kiconst_3 dX4_layOut_13 rfl ?_
  refine p_ialdK (uX_Plan_1 hp0) kix_3 kqin_3_8 dX4_layOut_14 rfl ?_
  refine p_imul dX4_layOut_15 rfl ?_
  refine p_bipush (v := (96 : Int32)) kbipush_96 dX4_layOut_16 rfl ?_
  refine p_min qmin_RX4_53 ⟨Nat.le_of_ble_eq_true rfl, Nat.le_of_ble_eq_true rfl⟩ dX4_layOut_18 rfl ?_
  refine p_puti qokX qp_RX4_59 (uX_Plan hp0) rfl dX4_layOut_21 rfl ?_
  refine p_nmH (fun h2 => ?_)
  refine p_iconst (v := (0 : Int32)) kiconst_0 dX4_layOut_24 rfl ?_
  refine p_is_n (ls' := [some (.ref p0), some (.int x1), some (.int (0 : Int32)), none]) dX4_layOut_25 rfl rfl rfl rfl ?_
  refine w4_layOut_L26 l h p0 x1 hp0 (fun x13 h14 => ?_) qN _ _
  exact p_vret rfl rfl dX4_layOut_83
noncomputable def f4_become (p0 : Nat) (p1 : Nat) (h : qH) : Option (qH) :=
  qlt (qw h p0 1 (h.1 p1 1)) fun (h1 : qH) =>
  qlt (qw h1 p0 4 (h1.1 p1 4)) fun (h2 : qH) =>
  qg (qcp (0 : Int32) (0 : Int32) (8 : Int32) 8 8) <|
  qlt (qrow h2 (p0 + 1) (va_cpy (h2.1 (p1 + 1)) (h2.1 (p0 + 1)) (ix (0 : Int32)) (ix (0 : Int32)) (ix (8 : Int32)))) fun (h3 : qH) =>
  qg (qcp (0 : Int32) (0 : Int32) (8 : Int32) 8 8) <|
  qlt (qrow h3 (p0 + 2) (va_cpy (h3.1 (p1 + 2)) (h3.1 (p0 + 2)) (ix (0 : Int32)) (ix (0 : Int32)) (ix (8 : Int32)))) fun (h4 : qH) =>
  qg (qcp (0 : Int32) (0 : Int32) (8 : Int32) 8 8) <|
  qlt (qrow h4 (p0 + 3) (va_cpy (h4.1 (p1 + 3)) (h4.1 (p0 + 3)) (ix (0 : Int32)) (ix (0 : Int32)) (ix (8 : Int32)))) fun (h5 : qH) =>
  qg (qcp (0 : Int32) (0 : Int32) (24 : Int32) 24 24) <|
  qlt (qrow h5 (p0 + 4) (va_cpy (h5.1 (p1 + 4)) (h5.1 (p0 + 4)) (ix (0 : Int32)) (ix (0 : Int32)) (ix (24 : Int32)))) fun (h6 : qH) =>
  qg (qcp (0 : Int32) (0 : Int32) (24 : Int32) 24 24) <|
  qlt (qrow h6 (p0 + 5) (va_cpy (h6.1 (p1 + 5)) (h6.1 (p0 + 5)) (ix (0 : Int32)) (ix (0 : Int32)) (ix (24 : Int32)))) fun (h7 : qH) =>
  (f4_layOut p0 h7).bind fun (h8 : qH) =>
  some h8
set_option maxRecDepth 100000 in
set_option maxHeartbeats 4000000 in
theorem m4_become (l : Launch) {p0 : Nat} (hp0 : kPlan p0) {p1 : Nat} (hp1 : kPlan p1) : qMet UX ROX l yX4_become (qws yX4_become cX4_become 2 none) R4_become [.ref p0, .ref p1] (f4_become p0 p1) qEv := by
  refine q_met (own := RX4) 0 (by decide) rfl (Nat.le_of_ble_eq_true rfl) (ls := [some (.ref p0), some (.ref p1)]) rfl fun h => ?_
  unfold f4_become
  show PW UX ROX l R4_become cX4_become 2 none RX4 (qEv h) 0 [some (.ref p0), some (.ref p1)] [] h _
  refine p_aload_n rfl dX4_become_0 rfl ?_
  refine p_aload_n rfl dX4_become_1 rfl ?_
  refine p_geti qg_RX4_33 (uX_Plan hp1) rfl dX4_become_2 rfl ?_
  refine p_puti qokX qp_RX4_33 (uX_Plan hp0) rfl dX4_become_5 rfl ?_
  refine p_nmH (fun h1 => ?_)
  refine p_aload_n rfl dX4_become_8 rfl ?_
  refine p_aload_n rfl dX4_become_9 rfl ?_
  refine p_geti qg_RX4_37 (uX_Plan hp1) rfl dX4_become_10 rfl ?_
  refine p_puti qokX qp_RX4_37 (uX_Plan hp0) rfl dX4_become_13 rfl ?_
  refine p_nmH (fun h2 => ?_)
  refine p_aload_n rfl dX4_become_16 rfl ?_
  refine p_getr qg_RX4_9 (uX_Plan hp1) rfl dX4_become_17 rfl ?_
  refine p_iconst (v := (0 : Int32)) kiconst_0 dX4_become_20 rfl ?_
  refine p_aload_n rfl dX4_become_21 rfl ?_
  refine p_getr qg_RX4_9 (uX_Plan hp0) rfl dX4_become_22 rfl ?_
  refine p_iconst (v := (0 : Int32)) kiconst_0 dX4_become_25 rfl ?_
  refine p_bipush (v := (8 : Int32)) kbipush_8 dX4_become_26 rfl ?_
  refine p_copy qokX cpy_RX4_47 (uX_Plan_1 hp1) (uX_Plan_1 hp0) ⟨Nat.le_of_ble_eq_true rfl, Nat.le_of_ble_eq_true rfl⟩ dX4_become_28 rfl ?_
  refine p_nmH (fun h3 => ?_)
  refine p_aload_n rfl dX4_become_31 rfl ?_
  refine p_getr qg_RX4_15 (uX_Plan hp1) rfl dX4_become_32 rfl ?_
  refine p_iconst (v := (0 : Int32)) kiconst_0 dX4_become_35 rfl ?_
  refine p_aload_n rfl dX4_become_36 rfl ?_
  refine p_getr qg_RX4_15 (uX_Plan hp0) rfl dX4_become_37 rfl ?_
  refine p_iconst (v := (0 : Int32)) kiconst_0 dX4_become_40 rfl ?_
  refine p_bipush (v := (8 : Int32)) kbipush_8 dX4_become_41 rfl ?_
  refine p_copy qokX cpy_RX4_47 (uX_Plan_2 hp1) (uX_Plan_2 hp0) ⟨Nat.le_of_ble_eq_true rfl, Nat.le_of_ble_eq_true rfl⟩ dX4_become_43 rfl ?_
  refine p_nmH (fun h4 => ?_)
  refine p_aload_n rfl dX4_become_46 rfl ?_
  refine p_getr qg_RX4_18 (uX_Plan hp1) rfl dX4_become_47 rfl ?_
  refine p_iconst (v := (0 : Int32)) kiconst_0 dX4_become_50 rfl ?_
  refine p_aload_n rfl dX4_become_51 rfl ?_
  refine p_getr qg_RX4_18 (uX_Plan hp0) rfl dX4_become_52 rfl ?_
  refine p_iconst (v := (0 : Int32)) kiconst_0 dX4_become_55 rfl ?_
  refine p_bipush (v := (8 : Int32)) kbipush_8 dX4_become_56 rfl ?_
  refine p_copy qokX cpy_RX4_47 (uX_Plan_3 hp1) (uX_Plan_3 hp0) ⟨Nat.le_of_ble_eq_true rfl, Nat.le_of_ble_eq_true rfl⟩ dX4_become_58 rfl ?_
  refine p_nmH (fun h5 => ?_)
  refine p_aload_n rfl dX4_become_61 rfl ?_
  refine p_getr qg_RX4_21 (uX_Plan hp1) rfl dX4_become_62 rfl ?_
  refine p_iconst (v := (0 : Int32)) kiconst_0 dX4_become_65 rfl ?_
  refine p_aload_n rfl dX4_become_66 rfl ?_
  refine p_getr qg_RX4_21 (uX_Plan hp0) rfl dX4_become_67 rfl ?_
  refine p_iconst (v := (0 : Int32)) kiconst_0 dX4_become_70 rfl ?_
  refine p_bipush (v := (24 : Int32)) kbipush_24 dX4_become_71 rfl ?_
  refine p_copy qokX cpy_RX4_47 (uX_Plan_4 hp1) (uX_Plan_4 hp0) ⟨Nat.le_of_ble_eq_true rfl, Nat.le_of_ble_eq_true rfl⟩ dX4_become_73 rfl ?_
  refine p_nmH (fun h6 => ?_)
  refine p_aload_n rfl dX4_become_76 rfl ?_
  refine p_getr qg_RX4_24 (uX_Plan hp1) rfl dX4_become_77 rfl ?_
  refine p_iconst (v := (0 : Int32)) kiconst_0 dX4_become_80 rfl ?_
  refine p_aload_n rfl dX4_become_81 rfl ?_
  refine p_getr qg_RX4_24 (uX_Plan hp0) rfl dX4_become_82 rfl ?_
  refine p_iconst (v := (0 : Int32)) kiconst_0 dX4_become_85 rfl ?_
  refine p_bipush (v := (24 : Int32)) kbipush_24 dX4_become_86 rfl ?_
  refine p_copy qokX cpy_RX4_47 (uX_Plan_5 hp1) (uX_Plan_5 hp0) ⟨Nat.le_of_ble_eq_true rfl, Nat.le_of_ble_eq_true rfl⟩ dX4_become_88 rfl ?_
  refine p_nmH (fun h7 => ?_)
  refine p_aload_n rfl dX4_become_91 rfl ?_
  refine p_callVv (f := f4_layOut p0) (st := []) [] qRokX (m4_layOut l hp0) cal_RX4_62 (uX_Plan hp0) rfl rfl ⟨rfl, rfl⟩ ⟨Nat.le_of_ble_eq_true rfl, Nat.le_of_ble_eq_true rfl⟩ (Nat.le_of_ble_eq_true rfl) dX4_become_92 rfl (fun h8 => ?_)
  exact p_vret rfl rfl dX4_become_95
noncomputable def f4_isTold (p0 : Nat) (h : qH) : Option (Int32) :=
  qlt (if (h.1 p0 1) ≤ 0 then (0 : Int32) else (1 : Int32)) fun (x2 : Int32) =>
  qg (qbo x2) <|
  some x2
set_option maxRecDepth 100000 in
set_option maxHeartbeats 4000000 in
theorem m4_isTold (l : Launch) {p0 : Nat} (hp0 : kPlan p0) : qMet UX ROX l yX4_isTold (qws yX4_isTold cX4_isTold 1 (some .boolean)) R4_isTold [.ref p0] (f4_isTold p0) qEr := by
  refine q_met (own := RX4) 0 (by decide) rfl (Nat.le_of_ble_eq_true rfl) (ls := [some (.ref p0)]) rfl fun h => ?_
  unfold f4_isTold
  refine p_aload_n rfl dX4_isTold_0 rfl ?_
  refine p_geti qg_RX4_33 (uX_Plan hp0) rfl dX4_isTold_1 rfl ?_
  refine p_vj 12 [some (.ref p0)] [] (fun x2 => ?_) (fun J => ?_)
  · exact p_zretG rfl rfl dX4_isTold_12
  · refine p_dia (fun c1 => ?_) (fun c1 => ?_)
    · refine p_if_le_t (tgt := 11) dX4_isTold_4 (by decide) c1 ?_
      refine p_iconst (v := (0 : Int32)) kiconst_0 dX4_isTold_11 rfl ?_
      exact J _
    · refine p_if_le_f (tgt := 11) dX4_isTold_4 (by decide) rfl c1 ?_
      refine p_iconst (v := (1 : Int32)) kiconst_1 dX4_isTold_7 rfl ?_
      refine p_goto (tgt := 12) dX4_isTold_8 (by decide) ?_
      exact J _
noncomputable def f4_isTape (p0 : Nat) (p1 : Int32) (h : qH) : Option (Int32) :=
  qlt (if p1 < 0 then (0 : Int32) else (if (h.1 p0 1) ≤ p1 then (0 : Int32) else (1 : Int32))) fun (x3 : Int32) =>
  qg (qbo x3) <|
  some x3
set_option maxRecDepth 100000 in
set_option maxHeartbeats 4000000 in
theorem m4_isTape (l : Launch) {p0 : Nat} (hp0 : kPlan p0) (p1 : Int32) : qMet UX ROX l yX4_isTape (qws yX4_isTape cX4_isTape 2 (some .boolean)) R4_isTape [.ref p0, .int p1] (f4_isTape p0 p1) qEr := by
  refine q_met (own := RX4) 0 (by decide) rfl (Nat.le_of_ble_eq_true rfl) (ls := [some (.ref p0), some (.int p1)]) rfl fun h => ?_
  unfold f4_isTape
  refine p_iload_n rfl dX4_isTape_0 rfl ?_
  refine p_vj 17 [some (.ref p0), some (.int p1)] [] (fun x3 => ?_) (fun J => ?_)
  · exact p_zretG rfl rfl dX4_isTape_17
  · refine p_dia (fun c1 => ?_) (fun c1 => ?_)
    · refine p_if_lt_t (tgt := 16) dX4_isTape_1 (by decide) c1 ?_
      refine p_iconst (v := (0 : Int32)) kiconst_0 dX4_isTape_16 rfl ?_
      exact J _
    · refine p_if_lt_f (tgt := 16) dX4_isTape_1 (by decide) rfl c1 ?_
      refine p_iload_n rfl dX4_isTape_4 rfl ?_
      refine p_aload_n rfl dX4_isTape_5 rfl ?_
      refine p_geti qg_RX4_33 (uX_Plan hp0) rfl dX4_isTape_6 rfl ?_
      refine p_dia (fun c2 => ?_) (fun c2 => ?_)
      · refine p_icmp_ge_t (tgt := 16) dX4_isTape_9 (by decide) c2 ?_
        refine p_iconst (v := (0 : Int32)) kiconst_0 dX4_isTape_16 rfl ?_
        exact J _
      · refine p_icmp_ge_f (tgt := 16) dX4_isTape_9 (by decide) rfl c2 ?_
        refine p_iconst (v := (1 : Int32)) kiconst_1 dX4_isTape_12 rfl ?_
        refine p_goto (tgt := 17) dX4_isTape_13 (by decide) ?_
        exact J _
noncomputable def f4_isPlace (p0 : Nat) (p1 : Int32) (h : qH) : Option (Int32) :=
  (f4_isTold p0 h).bind fun (z1 : Int32) =>
  qj (fun (x2 : Int32) =>
    qg (qbo x2) <|
    some x2) fun j3 =>
  if z1 = 0 then (
    j3 (0 : Int32))
  else (
    if p1 < 0 then (
      j3 (0 : Int32))
    else (
      if ((h.1 (p0 + 1) 0) + (h.1 (p0 + 1) 1)) ≤ p1 then (
        j3 (0 : Int32))
      else (
        j3 (1 : Int32))))
set_option maxRecDepth 100000 in
set_option maxHeartbeats 4000000 in
theorem m4_isPlace (l : Launch) {p0 : Nat} (hp0 : kPlan p0) (p1 : Int32) : qMet UX ROX l yX4_isPlace (qws yX4_isPlace cX4_isPlace 2 (some .boolean)) R4_isPlace [.ref p0, .int p1] (f4_isPlace p0 p1) qEr := by
  refine q_met (own := RX4) 0 (by decide) rfl (Nat.le_of_ble_eq_true rfl) (ls := [some (.ref p0), some (.int p1)]) rfl fun h => ?_
  unfold f4_isPlace
  refine p_aload_n rfl dX4_isPlace_0 rfl ?_
  refine p_callVr (f := f4_isTold p0) (st := []) [] qRokX (m4_isTold l hp0) cal_RX4_65 (uX_Plan hp0) rfl rfl ⟨rfl, rfl⟩ ⟨Nat.le_of_ble_eq_true rfl, Nat.le_of_ble_eq_true rfl⟩ (Nat.le_of_ble_eq_true rfl) dX4_isPlace_1 rfl (fun z1 => ?_)
  refine p_jn (fun j3 => ∀ (x2 : Int32), PW UX ROX l R4_isPlace cX4_isPlace 2 (some .boolean) RX4 (qEr h) 33 [some (.ref p0), some (.int p1)] [.int x2] h (j3 x2)) (fun x2 => ?_) (fun j3 J4 => ?_)
  · exact p_zretG rfl rfl dX4_isPlace_33
  · refine p_if (fun c5 => ?_) (fun c5 => ?_)
    · refine p_if_eq_t (tgt := 32) dX4_isPlace_4 (by decide) c5 ?_
      refine p_iconst (v := (0 : Int32)) kiconst_0 dX4_isPlace_32 rfl ?_
      exact J4 (0 : Int32)
    · refine p_if_eq_f (tgt := 32) dX4_isPlace_4 (by decide) rfl c5 ?_
      refine p_iload_n rfl dX4_isPlace_7 rfl ?_
      refine p_if (fun c6 => ?_) (fun c6 => ?_)
      · refine p_if_lt_t (tgt := 32) dX4_isPlace_8 (by decide) c6 ?_
        refine p_iconst (v := (0 : Int32)) kiconst_0 dX4_isPlace_32 rfl ?_
        exact J4 (0 : Int32)
      · refine p_if_lt_f (tgt := 32) dX4_isPlace_8 (by decide) rfl c6 ?_
        refine p_iload_n rfl dX4_isPlace_11 rfl ?_
        refine p_aload_n rfl dX4_isPlace_12 rfl ?_
        refine p_getr qg_RX4_9 (uX_Plan hp0) rfl dX4_isPlace_13 rfl ?_
        refine p_iconst (v := (0 : Int32)) kiconst_0 dX4_isPlace_16 rfl ?_
        refine p_ialdK (uX_Plan_1 hp0) kix_0 kqin_0_8 dX4_isPlace_17 rfl ?_
        refine p_aload_n rfl dX4_isPlace_18 rfl ?_
        refine p_getr qg_RX4_9 (uX_Plan hp0) rfl dX4_isPlace_19 rfl ?_
        refine p_iconst (v := (1 : Int32)) kiconst_1 dX4_isPlace_22 rfl ?_
        refine p_ialdK (uX_Plan_1 hp0) kix_1 kqin_1_8 dX4_isPlace_23 rfl ?_
        refine p_iadd dX4_isPlace_24 rfl ?_
        refine p_if (fun c7 => ?_) (fun c7 => ?_)
        · refine p_icmp_ge_t (tgt := 32) dX4_isPlace_25 (by decide) c7 ?_
          refine p_iconst (v := (0 : Int32)) kiconst_0 dX4_isPlace_32 rfl ?_
          exact J4 (0 : Int32)
        · refine p_icmp_ge_f (tgt := 32) dX4_isPlace_25 (by decide) rfl c7 ?_
          refine p_iconst (v := (1 : Int32)) kiconst_1 dX4_isPlace_28 rfl ?_
          refine p_goto (tgt := 33) dX4_isPlace_29 (by decide) ?_
          exact J4 (1 : Int32)
noncomputable def f4_isBlock (p0 : Nat) (p1 : Int32) (h : qH) : Option (Int32) :=
  qlt (if p1 < 0 then (0 : Int32) else (if (h.1 p0 7) ≤ p1 then (0 : Int32) else (1 : Int32))) fun (x3 : Int32) =>
  qg (qbo x3) <|
  some x3
set_option maxRecDepth 100000 in
set_option maxHeartbeats 4000000 in
theorem m4_isBlock (l : Launch) {p0 : Nat} (hp0 : kPlan p0) (p1 : Int32) : qMet UX ROX l yX4_isBlock (qws yX4_isBlock cX4_isBlock 2 (some .boolean)) R4_isBlock [.ref p0, .int p1] (f4_isBlock p0 p1) qEr := by
  refine q_met (own := RX4) 0 (by decide) rfl (Nat.le_of_ble_eq_true rfl) (ls := [some (.ref p0), some (.int p1)]) rfl fun h => ?_
  unfold f4_isBlock
  refine p_iload_n rfl dX4_isBlock_0 rfl ?_
  refine p_vj 17 [some (.ref p0), some (.int p1)] [] (fun x3 => ?_) (fun J => ?_)
  · exact p_zretG rfl rfl dX4_isBlock_17
  · refine p_dia (fun c1 => ?_) (fun c1 => ?_)
    · refine p_if_lt_t (tgt := 16) dX4_isBlock_1 (by decide) c1 ?_
      refine p_iconst (v := (0 : Int32)) kiconst_0 dX4_isBlock_16 rfl ?_
      exact J _
    · refine p_if_lt_f (tgt := 16) dX4_isBlock_1 (by decide) rfl c1 ?_
      refine p_iload_n rfl dX4_isBlock_4 rfl ?_
      refine p_aload_n rfl dX4_isBlock_5 rfl ?_
      refine p_geti qg_RX4_59 (uX_Plan hp0) rfl dX4_isBlock_6 rfl ?_
      refine p_dia (fun c2 => ?_) (fun c2 => ?_)
      · refine p_icmp_ge_t (tgt := 16) dX4_isBlock_9 (by decide) c2 ?_
        refine p_iconst (v := (0 : Int32)) kiconst_0 dX4_isBlock_16 rfl ?_
        exact J _
      · refine p_icmp_ge_f (tgt := 16) dX4_isBlock_9 (by decide) rfl c2 ?_
        refine p_iconst (v := (1 : Int32)) kiconst_1 dX4_isBlock_12 rfl ?_
        refine p_goto (tgt := 17) dX4_isBlock_13 (by decide) ?_
        exact J _
noncomputable def f4_armTime (p0 : Nat) (p1 : Int32) (p2 : Int32) (h : qH) : Option (Int32) :=
  qlt (if p2 ≤ p1 then (p1 - p2) else (p2 - p1)) fun (x2 : Int32) =>
  some ((h.1 (p0 + 1) 5) * x2)
set_option maxRecDepth 100000 in
set_option maxHeartbeats 4000000 in
theorem m4_armTime (l : Launch) {p0 : Nat} (hp0 : kPlan p0) (p1 : Int32) (p2 : Int32) : qMet UX ROX l yX4_armTime (qws yX4_armTime cX4_armTime 3 (some .int)) R4_armTime [.ref p0, .int p1, .int p2] (f4_armTime p0 p1 p2) qEr := by
  refine q_met (own := RX4) 0 (by decide) rfl (Nat.le_of_ble_eq_true rfl) (ls := [some (.ref p0), some (.int p1), some (.int p2)]) rfl fun h => ?_
  unfold f4_armTime
  refine p_aload_n rfl dX4_armTime_0 rfl ?_
  refine p_getr qg_RX4_9 (uX_Plan hp0) rfl dX4_armTime_1 rfl ?_
  refine p_iconst (v := (5 : Int32)) kiconst_5 dX4_armTime_4 rfl ?_
  refine p_ialdK (uX_Plan_1 hp0) kix_5 kqin_5_8 dX4_armTime_5 rfl ?_
  refine p_iload_n rfl dX4_armTime_6 rfl ?_
  refine p_iload_n rfl dX4_armTime_7 rfl ?_
  refine p_vj 20 [some (.ref p0), some (.int p1), some (.int p2)] [.int (h.1 (p0 + 1) 5)] (fun x2 => ?_) (fun J => ?_)
  · refine p_imul dX4_armTime_20 rfl ?_
    exact p_iret rfl rfl dX4_armTime_21
  · refine p_dia (fun c1 => ?_) (fun c1 => ?_)
    · refine p_icmp_ge_t (tgt := 17) dX4_armTime_8 (by decide) c1 ?_
      refine p_iload_n rfl dX4_armTime_17 rfl ?_
      refine p_iload_n rfl dX4_armTime_18 rfl ?_
      refine p_isub dX4_armTime_19 rfl ?_
      exact J _
    · refine p_icmp_ge_f (tgt := 17) dX4_armTime_8 (by decide) rfl c1 ?_
      refine p_iload_n rfl dX4_armTime_11 rfl ?_
      refine p_iload_n rfl dX4_armTime_12 rfl ?_
      refine p_isub dX4_armTime_13 rfl ?_
      refine p_goto (tgt := 20) dX4_armTime_14 (by decide) ?_
      exact J _
noncomputable def f5_isOneTooMany (p1 : Int32) (p2 : Nat) (h : qH) : Option (Int32) :=
  if p1 = 0 then (
    qg (qbo (h.1 3 3)) <|
    some (h.1 3 3))
  else (
    qlt (if p1 = (1 : Int32) then (if (h.1 p2 1) < (8 : Int32) then (0 : Int32) else (1 : Int32)) else (if (h.1 p2 4) < (24 : Int32) then (0 : Int32) else (1 : Int32))) fun (x5 : Int32) =>
    qg (qbo x5) <|
    some x5)
set_option maxRecDepth 100000 in
set_option maxHeartbeats 4000000 in
theorem m5_isOneTooMany (l : Launch) (p1 : Int32) {p2 : Nat} (hp2 : kPlan p2) : qMet UX ROX l yX5_isOneTooMany (qws yX5_isOneTooMany cX5_isOneTooMany 3 (some .boolean)) R5_isOneTooMany [.ref 3, .int p1, .ref p2] (f5_isOneTooMany p1 p2) qEr := by
  refine q_met (own := RX5) 0 (by decide) rfl (Nat.le_of_ble_eq_true rfl) (ls := [some (.ref 3), some (.int p1), some (.ref p2)]) rfl fun h => ?_
  unfold f5_isOneTooMany
  refine p_iload_n rfl dX5_isOneTooMany_0 rfl ?_
  refine p_if (fun c1 => ?_) (fun c1 => ?_)
  · refine p_if_ne_f (tgt := 9) dX5_isOneTooMany_1 (by decide) rfl c1 ?_
    refine p_aload_n rfl dX5_isOneTooMany_4 rfl ?_
    refine p_geti qg_RX5_28 uX_3 rfl dX5_isOneTooMany_5 rfl ?_
    exact p_zretG rfl rfl dX5_isOneTooMany_8
  · refine p_if_ne_t (tgt := 9) dX5_isOneTooMany_1 (by decide) c1 ?_
    refine p_iload_n rfl dX5_isOneTooMany_9 rfl ?_
    refine p_iconst (v := (1 : Int32)) kiconst_1 dX5_isOneTooMany_10 rfl ?_
    refine p_vj 45 [some (.ref 3), some (.int p1), some (.ref p2)] [] (fun x5 => ?_) (fun J => ?_)
    · exact p_zretG rfl rfl dX5_isOneTooMany_45
    · refine p_dia (fun c2 => ?_) (fun c2 => ?_)
      · refine p_icmp_ne_f (tgt := 31) dX5_isOneTooMany_11 (by decide) rfl c2 ?_
        refine p_aload_n rfl dX5_isOneTooMany_14 rfl ?_
        refine p_geti qg_RX5_46 (uX_Plan hp2) rfl dX5_isOneTooMany_15 rfl ?_
        refine p_bipush (v := (8 : Int32)) kbipush_8 dX5_isOneTooMany_18 rfl ?_
        refine p_dia (fun c3 => ?_) (fun c3 => ?_)
        · refine p_icmp_lt_t (tgt := 27) dX5_isOneTooMany_20 (by decide) c3 ?_
          refine p_iconst (v := (0 : Int32)) kiconst_0 dX5_isOneTooMany_27 rfl ?_
          refine p_goto (tgt := 45) dX5_isOneTooMany_28 (by decide) ?_
          exact J _
        · refine p_icmp_lt_f (tgt := 27) dX5_isOneTooMany_20 (by decide) rfl c3 ?_
          refine p_iconst (v := (1 : Int32)) kiconst_1 dX5_isOneTooMany_23 rfl ?_
          refine p_goto (tgt := 45) dX5_isOneTooMany_24 (by decide) ?_
          exact J _
      · refine p_icmp_ne_t (tgt := 31) dX5_isOneTooMany_11 (by decide) c2 ?_
        refine p_aload_n rfl dX5_isOneTooMany_31 rfl ?_
        refine p_geti qg_RX5_87 (uX_Plan hp2) rfl dX5_isOneTooMany_32 rfl ?_
        refine p_bipush (v := (24 : Int32)) kbipush_24 dX5_isOneTooMany_35 rfl ?_
        refine p_dia (fun c4 => ?_) (fun c4 => ?_)
        · refine p_icmp_lt_t (tgt := 44) dX5_isOneTooMany_37 (by decide) c4 ?_
          refine p_iconst (v := (0 : Int32)) kiconst_0 dX5_isOneTooMany_44 rfl ?_
          exact J _
        · refine p_icmp_lt_f (tgt := 44) dX5_isOneTooMany_37 (by decide) rfl c4 ?_
          refine p_iconst (v := (1 : Int32)) kiconst_1 dX5_isOneTooMany_40 rfl ?_
          refine p_goto (tgt := 45) dX5_isOneTooMany_41 (by decide) ?_
          exact J _
noncomputable def f5_nextSign_L0 (k : qH → Option (Int32 × qH)) : Nat → qH → Option (Int32 × qH)
  | 0, _ => none
  | n + 1, h1 =>
    if (h1.1 1 1) ≤ (h1.1 3 4) then (
      k h1)
    else (
      (f0_signAt (h1.1 3 4) h1).bind fun (z3 : Int32) =>
      if z3 = (32 : Int32) then (
        qlt (qw h1 3 4 ((h1.1 3 4) + (1 : Int32))) fun (h5 : qH) =>
        f5_nextSign_L0 k n h5)
      else (
        k h1))
set_option maxRecDepth 100000 in
set_option maxHeartbeats 4000000 in
theorem w5_nextSign_L0 (l : Launch) (h0 : qH) {k : qH → Option (Int32 × qH)} (hk : ∀ (h1 : qH), PW UX ROX l R5_nextSign cX5_nextSign 1 (some .int) RX5 (qEw h0) 43 [some (.ref 3)] [] h1 (k h1)) : ∀ (n : Nat) (h1 : qH), PW UX ROX l R5_nextSign cX5_nextSign 1 (some .int) RX5 (qEw h0) 0 [some (.ref 3)] [] h1 (f5_nextSign_L0 k n h1) := by
  intro n
  induction n with
  | zero => intro _; exact p_none
  | succ n ih =>
    intro h1
    unfold f5_nextSign_L0
    refine p_aload_n rfl dX5_nextSign_0 rfl ?_
    refine p_geti qg_RX5_32 uX_3 rfl dX5_nextSign_1 rfl ?_
    refine p_aload_n rfl dX5_nextSign_4 rfl ?_
    refine p_getr qg_RX5_19 uX_3 rfl dX5_nextSign_5 rfl ?_
    refine p_geti qg_RX5_52 uX_1 rfl dX5_nextSign_8 rfl ?_
    refine p_if (fun c2 => ?_) (fun c2 => ?_)
    · refine p_icmp_ge_t (tgt := 43) dX5_nextSign_11 (by decide) c2 ?_
      exact hk h1
    · refine p_icmp_ge_f (tgt := 43) dX5_nextSign_11 (by decide) rfl c2 ?_
      refine p_aload_n rfl dX5_nextSign_14 rfl ?_
      refine p_getr qg_RX5_19 uX_3 rfl dX5_nextSign_15 rfl ?_
      refine p_aload_n rfl dX5_nextSign_18 rfl ?_
      refine p_geti qg_RX5_32 uX_3 rfl dX5_nextSign_19 rfl ?_
      refine p_callVr (f := f0_signAt (h1.1 3 4)) (st := []) [.int (h1.1 3 4)] qRokX (m0_signAt l (h1.1 3 4)) cal_RX5_40 uX_1 rfl rfl ⟨rfl, rfl⟩ ⟨Nat.le_of_ble_eq_true rfl, Nat.le_of_ble_eq_true rfl⟩ (Nat.le_of_ble_eq_true rfl) dX5_nextSign_22 rfl (fun z3 => ?_)
      refine p_bipush (v := (32 : Int32)) kbipush_32 dX5_nextSign_25 rfl ?_
      refine p_if (fun c4 => ?_) (fun c4 => ?_)
      · refine p_icmp_ne_f (tgt := 43) dX5_nextSign_27 (by decide) rfl c4 ?_
        refine p_aload_n rfl dX5_nextSign_30 rfl ?_
        refine p_dup rfl dX5_nextSign_31 rfl ?_
        refine p_geti qg_RX5_32 uX_3 rfl dX5_nextSign_32 rfl ?_
        refine p_iconst (v := (1 : Int32)) kiconst_1 dX5_nextSign_35 rfl ?_
        refine p_iadd dX5_nextSign_36 rfl ?_
        refine p_puti qokX qp_RX5_32 uX_3 rfl dX5_nextSign_37 rfl ?_
        refine p_nmH (fun h5 => ?_)
        refine p_goto (tgt := 0) dX5_nextSign_40 (by decide) ?_
        exact ih h5
      · refine p_icmp_ne_t (tgt := 43) dX5_nextSign_27 (by decide) c4 ?_
        exact hk h1
noncomputable def f5_nextSign (h : qH) : Option (Int32 × qH) :=
  f5_nextSign_L0 (fun (h6 : qH) =>
    (f0_signAt (h6.1 3 4) h6).bind fun (z7 : Int32) =>
    some (z7, h6)) qN h
set_option maxRecDepth 100000 in
set_option maxHeartbeats 4000000 in
theorem m5_nextSign (l : Launch) : qMet UX ROX l yX5_nextSign (qws yX5_nextSign cX5_nextSign 1 (some .int)) R5_nextSign [.ref 3] f5_nextSign qEw := by
  refine q_met (own := RX5) 0 (by decide) rfl (Nat.le_of_ble_eq_true rfl) (ls := [some (.ref 3)]) rfl fun h => ?_
  unfold f5_nextSign
  show PW UX ROX l R5_nextSign cX5_nextSign 1 (some .int) RX5 (qEw h) 0 [some (.ref 3)] [] h _
  refine w5_nextSign_L0 l h (fun h6 => ?_) qN _
  refine p_aload_n rfl dX5_nextSign_43 rfl ?_
  refine p_getr qg_RX5_19 uX_3 rfl dX5_nextSign_44 rfl ?_
  refine p_aload_n rfl dX5_nextSign_47 rfl ?_
  refine p_geti qg_RX5_32 uX_3 rfl dX5_nextSign_48 rfl ?_
  refine p_callVr (f := f0_signAt (h6.1 3 4)) (st := []) [.int (h6.1 3 4)] qRokX (m0_signAt l (h6.1 3 4)) cal_RX5_40 uX_1 rfl rfl ⟨rfl, rfl⟩ ⟨Nat.le_of_ble_eq_true rfl, Nat.le_of_ble_eq_true rfl⟩ (Nat.le_of_ble_eq_true rfl) dX5_nextSign_51 rfl (fun z7 => ?_)
  exact p_iret rfl rfl dX5_nextSign_54
noncomputable def f5_isDigit (p1 : Int32) (h : qH) : Option (Int32) :=
  qlt (if p1 < (48 : Int32) then (0 : Int32) else (if (57 : Int32) < p1 then (0 : Int32) else (1 : Int32))) fun (x3 : Int32) =>
  qg (qbo x3) <|
  some x3
set_option maxRecDepth 100000 in
set_option maxHeartbeats 4000000 in
theorem m5_isDigit (l : Launch) (p1 : Int32) : qMet UX ROX l yX5_isDigit (qws yX5_isDigit cX5_isDigit 1 (some .boolean)) R5_isDigit [.int p1] (f5_isDigit p1) qEr := by
  refine q_met (own := RX5) 0 (by decide) rfl (Nat.le_of_ble_eq_true rfl) (ls := [some (.int p1)]) rfl fun h => ?_
  unfold f5_isDigit
  refine p_iload_n rfl dX5_isDigit_0 rfl ?_
  refine p_bipush (v := (48 : Int32)) kbipush_48 dX5_isDigit_1 rfl ?_
  refine p_vj 17 [some (.int p1)] [] (fun x3 => ?_) (fun J => ?_)
  · exact p_zretG rfl rfl dX5_isDigit_17
  · refine p_dia (fun c1 => ?_) (fun c1 => ?_)
    · refine p_icmp_lt_t (tgt := 16) dX5_isDigit_3 (by decide) c1 ?_
      refine p_iconst (v := (0 : Int32)) kiconst_0 dX5_isDigit_16 rfl ?_
      exact J _
    · refine p_icmp_lt_f (tgt := 16) dX5_isDigit_3 (by decide) rfl c1 ?_
      refine p_iload_n rfl dX5_isDigit_6 rfl ?_
      refine p_bipush (v := (57 : Int32)) kbipush_57 dX5_isDigit_7 rfl ?_
      refine p_dia (fun c2 => ?_) (fun c2 => ?_)
      · refine p_icmp_gt_t (tgt := 16) dX5_isDigit_9 (by decide) c2 ?_
        refine p_iconst (v := (0 : Int32)) kiconst_0 dX5_isDigit_16 rfl ?_
        exact J _
      · refine p_icmp_gt_f (tgt := 16) dX5_isDigit_9 (by decide) rfl c2 ?_
        refine p_iconst (v := (1 : Int32)) kiconst_1 dX5_isDigit_12 rfl ?_
        refine p_goto (tgt := 17) dX5_isDigit_13 (by decide) ?_
        exact J _
noncomputable def f5_readDigit (h : qH) : Option (Int32 × qH) :=
  qb2 (f5_nextSign h) fun (z1 : Int32) (h2 : qH) =>
  (f5_isDigit z1 h2).bind fun (z3 : Int32) =>
  if z3 = 0 then (
    some ((h2.1 3 4), h2))
  else (
    qlt (qw h2 3 5 (z1 - (48 : Int32))) fun (h5 : qH) =>
    qlt (qw h5 3 4 ((h5.1 3 4) + (1 : Int32))) fun (h6 : qH) =>
    some ((-1 : Int32), h6))
set_option maxRecDepth 100000 in
set_option maxHeartbeats 4000000 in
theorem m5_readDigit (l : Launch) : qMet UX ROX l yX5_readDigit (qws yX5_readDigit cX5_readDigit 2 (some .int)) R5_readDigit [.ref 3] f5_readDigit qEw := by
  refine q_met (own := RX5) 1 (by decide) rfl (Nat.le_of_ble_eq_true rfl) (ls := [some (.ref 3), none]) rfl fun h => ?_
  unfold f5_readDigit
  show PW UX ROX l R5_readDigit cX5_readDigit 2 (some .int) RX5 (qEw h) 0 [some (.ref 3), none] [] h _
  refine p_aload_n rfl dX5_readDigit_0 rfl ?_
  refine p_cVw (f := f5_nextSign) (st := []) [] qRokX (m5_nextSign l) cal_RX5_57 uX_3 rfl rfl ⟨rfl, rfl⟩ ⟨Nat.le_of_ble_eq_true rfl, Nat.le_of_ble_eq_true rfl⟩ (Nat.le_of_ble_eq_true rfl) dX5_readDigit_1 rfl (fun z1 h2 => ?_)
  refine p_is_n (ls' := [some (.ref 3), some (.int z1)]) dX5_readDigit_4 rfl rfl rfl rfl ?_
  refine p_iload_n rfl dX5_readDigit_5 rfl ?_
  refine p_callSr (f := f5_isDigit z1) (st := []) [.int z1] qRokX (m5_isDigit l z1) cal_RX5_131 rfl ⟨rfl, rfl⟩ ⟨Nat.le_of_ble_eq_true rfl, Nat.le_of_ble_eq_true rfl⟩ (Nat.le_of_ble_eq_true rfl) dX5_readDigit_6 rfl (fun z3 => ?_)
  refine p_if (fun c4 => ?_) (fun c4 => ?_)
  · refine p_if_ne_f (tgt := 17) dX5_readDigit_9 (by decide) rfl c4 ?_
    refine p_aload_n rfl dX5_readDigit_12 rfl ?_
    refine p_geti qg_RX5_32 uX_3 rfl dX5_readDigit_13 rfl ?_
    exact p_iret rfl rfl dX5_readDigit_16
  · refine p_if_ne_t (tgt := 17) dX5_readDigit_9 (by decide) c4 ?_
    refine p_aload_n rfl dX5_readDigit_17 rfl ?_
    refine p_iload_n rfl dX5_readDigit_18 rfl ?_
    refine p_bipush (v := (48 : Int32)) kbipush_48 dX5_readDigit_19 rfl ?_
    refine p_isub dX5_readDigit_21 rfl ?_
    refine p_puti qokX qp_RX5_104 uX_3 rfl dX5_readDigit_22 rfl ?_
    refine p_nmH (fun h5 => ?_)
    refine p_aload_n rfl dX5_readDigit_25 rfl ?_
    refine p_dup rfl dX5_readDigit_26 rfl ?_
    refine p_geti qg_RX5_32 uX_3 rfl dX5_readDigit_27 rfl ?_
    refine p_iconst (v := (1 : Int32)) kiconst_1 dX5_readDigit_30 rfl ?_
    refine p_iadd dX5_readDigit_31 rfl ?_
    refine p_puti qokX qp_RX5_32 uX_3 rfl dX5_readDigit_32 rfl ?_
    refine p_nmH (fun h6 => ?_)
    refine p_iconst (v := (-1 : Int32)) kiconst_m1 dX5_readDigit_35 rfl ?_
    exact p_iret rfl rfl dX5_readDigit_36
noncomputable def f5_readNumber (p1 : Int32) (p2 : Int32) (h : qH) : Option (Int32 × qH) :=
  qb2 (f5_readDigit h) fun (z1 : Int32) (h2 : qH) =>
  if z1 = (-1 : Int32) then (
    (f0_signAt (h2.1 3 4) h2).bind fun (z4 : Int32) =>
    (f5_isDigit z4 h2).bind fun (z5 : Int32) =>
    qj (fun (h6 : qH) =>
      (f0_signAt (h6.1 3 4) h6).bind fun (z9 : Int32) =>
      (f5_isDigit z9 h6).bind fun (z10 : Int32) =>
      if z10 = 0 then (
        qlt (if (h6.1 3 5) < p1 then ((h6.1 3 4) - (1 : Int32)) else (if (h6.1 3 5) ≤ p2 then (-1 : Int32) else ((h6.1 3 4) - (1 : Int32)))) fun (x14 : Int32) =>
        some (x14, h6))
      else (
        some ((h6.1 3 4), h6))) fun j7 =>
    if z5 = 0 then (
      j7 h2)
    else (
      (f0_signAt (h2.1 3 4) h2).bind fun (z16 : Int32) =>
      qlt (qw h2 3 5 ((((h2.1 3 5) * (10 : Int32)) + z16) - (48 : Int32))) fun (h17 : qH) =>
      qlt (qw h17 3 4 ((h17.1 3 4) + (1 : Int32))) fun (h18 : qH) =>
      j7 h18))
  else (
    some (z1, h2))
set_option maxRecDepth 100000 in
set_option maxHeartbeats 4000000 in
theorem m5_readNumber (l : Launch) (p1 : Int32) (p2 : Int32) : qMet UX ROX l yX5_readNumber (qws yX5_readNumber cX5_readNumber 4 (some .int)) R5_readNumber [.ref 3, .int p1, .int p2] (f5_readNumber p1 p2) qEw := by
  refine q_met (own := RX5) 1 (by decide) rfl (Nat.le_of_ble_eq_true rfl) (ls := [some (.ref 3), some (.int p1), some (.int p2), none]) rfl fun h => ?_
  unfold f5_readNumber
  show PW UX ROX l R5_readNumber cX5_readNumber 4 (some .int) RX5 (qEw h) 0 [some (.ref 3), some (.int p1), some (.int p2), none] [] h _
  refine p_aload_n rfl dX5_readNumber_0 rfl ?_
  refine p_cVw (f := f5_readDigit) (st := []) [] qRokX (m5_readDigit l) cal_RX5_125 uX_3 rfl rfl ⟨rfl, rfl⟩ ⟨Nat.le_of_ble_eq_true rfl, Nat.le_of_ble_eq_true rfl⟩ (Nat.le_of_ble_eq_true rfl) dX5_readNumber_1 rfl (fun z1 h2 => ?_)
  refine p_is_n (ls' := [some (.ref 3), some (.int p1), some (.int p2), some (.int z1)]) dX5_readNumber_4 rfl rfl rfl rfl ?_
  refine p_iload_n rfl dX5_readNumber_5 rfl ?_
  refine p_iconst (v := (-1 : Int32)) kiconst_m1 dX5_readNumber_6 rfl ?_
  refine p_if (fun c3 => ?_) (fun c3 => ?_)
  · refine p_icmp_eq_t (tgt := 12) dX5_readNumber_7 (by decide) c3 ?_
    refine p_aload_n rfl dX5_readNumber_12 rfl ?_
    refine p_getr qg_RX5_19 uX_3 rfl dX5_readNumber_13 rfl ?_
    refine p_aload_n rfl dX5_readNumber_16 rfl ?_
    refine p_geti qg_RX5_32 uX_3 rfl dX5_readNumber_17 rfl ?_
    refine p_callVr (f := f0_signAt (h2.1 3 4)) (st := []) [.int (h2.1 3 4)] qRokX (m0_signAt l (h2.1 3 4)) cal_RX5_40 uX_1 rfl rfl ⟨rfl, rfl⟩ ⟨Nat.le_of_ble_eq_true rfl, Nat.le_of_ble_eq_true rfl⟩ (Nat.le_of_ble_eq_true rfl) dX5_readNumber_20 rfl (fun z4 => ?_)
    refine p_callSr (f := f5_isDigit z4) (st := []) [.int z4] qRokX (m5_isDigit l z4) cal_RX5_131 rfl ⟨rfl, rfl⟩ ⟨Nat.le_of_ble_eq_true rfl, Nat.le_of_ble_eq_true rfl⟩ (Nat.le_of_ble_eq_true rfl) dX5_readNumber_23 rfl (fun z5 => ?_)
    refine p_jn (fun j7 => ∀ (h6 : qH), PW UX ROX l R5_readNumber cX5_readNumber 4 (some .int) RX5 (qEw h) 65 [some (.ref 3), some (.int p1), some (.int p2), some (.int z1)] [] h6 (j7 h6)) (fun h6 => ?_) (fun j7 J8 => ?_)
    · refine p_aload_n rfl dX5_readNumber_65 rfl ?_
      refine p_getr qg_RX5_19 uX_3 rfl dX5_readNumber_66 rfl ?_
      refine p_aload_n rfl dX5_readNumber_69 rfl ?_
      refine p_geti qg_RX5_32 uX_3 rfl dX5_readNumber_70 rfl ?_
      refine p_callVr (f := f0_signAt (h6.1 3 4)) (st := []) [.int (h6.1 3 4)] qRokX (m0_signAt l (h6.1 3 4)) cal_RX5_40 uX_1 rfl rfl ⟨rfl, rfl⟩ ⟨Nat.le_of_ble_eq_true rfl, Nat.le_of_ble_eq_true rfl⟩ (Nat.le_of_ble_eq_true rfl) dX5_readNumber_73 rfl (fun z9 => ?_)
      refine p_callSr (f := f5_isDigit z9) (st := []) [.int z9] qRokX (m5_isDigit l z9) cal_RX5_131 rfl ⟨rfl, rfl⟩ ⟨Nat.le_of_ble_eq_true rfl, Nat.le_of_ble_eq_true rfl⟩ (Nat.le_of_ble_eq_true rfl) dX5_readNumber_76 rfl (fun z10 => ?_)
      refine p_if (fun c11 => ?_) (fun c11 => ?_)
      · refine p_if_eq_t (tgt := 87) dX5_readNumber_79 (by decide) c11 ?_
        refine p_aload_n rfl dX5_readNumber_87 rfl ?_
        refine p_geti qg_RX5_104 uX_3 rfl dX5_readNumber_88 rfl ?_
        refine p_iload_n rfl dX5_readNumber_91 rfl ?_
        refine p_vj 113 [some (.ref 3), some (.int p1), some (.int p2), some (.int z1)] [] (fun x14 => ?_) (fun J => ?_)
        · exact p_iret rfl rfl dX5_readNumber_113
        · refine p_dia (fun c12 => ?_) (fun c12 => ?_)
          · refine p_icmp_lt_t (tgt := 103) dX5_readNumber_92 (by decide) c12 ?_
            refine p_aload_n rfl dX5_readNumber_103 rfl ?_
            refine p_geti qg_RX5_32 uX_3 rfl dX5_readNumber_104 rfl ?_
            refine p_iconst (v := (1 : Int32)) kiconst_1 dX5_readNumber_107 rfl ?_
            refine p_isub dX5_readNumber_108 rfl ?_
            refine p_goto (tgt := 113) dX5_readNumber_109 (by decide) ?_
            exact J _
          · refine p_icmp_lt_f (tgt := 103) dX5_readNumber_92 (by decide) rfl c12 ?_
            refine p_aload_n rfl dX5_readNumber_95 rfl ?_
            refine p_geti qg_RX5_104 uX_3 rfl dX5_readNumber_96 rfl ?_
            refine p_iload_n rfl dX5_readNumber_99 rfl ?_
            refine p_dia (fun c13 => ?_) (fun c13 => ?_)
            · refine p_icmp_le_t (tgt := 112) dX5_readNumber_100 (by decide) c13 ?_
              refine p_iconst (v := (-1 : Int32)) kiconst_m1 dX5_readNumber_112 rfl ?_
              exact J _
            · refine p_icmp_le_f (tgt := 112) dX5_readNumber_100 (by decide) rfl c13 ?_
              refine p_aload_n rfl dX5_readNumber_103 rfl ?_
              refine p_geti qg_RX5_32 uX_3 rfl dX5_readNumber_104 rfl ?_
              refine p_iconst (v := (1 : Int32)) kiconst_1 dX5_readNumber_107 rfl ?_
              refine p_isub dX5_readNumber_108 rfl ?_
              refine p_goto (tgt := 113) dX5_readNumber_109 (by decide) ?_
              exact J _
      · refine p_if_eq_f (tgt := 87) dX5_readNumber_79 (by decide) rfl c11 ?_
        refine p_aload_n rfl dX5_readNumber_82 rfl ?_
        refine p_geti qg_RX5_32 uX_3 rfl dX5_readNumber_83 rfl ?_
        exact p_iret rfl rfl dX5_readNumber_86
    · refine p_if (fun c15 => ?_) (fun c15 => ?_)
      · refine p_if_eq_t (tgt := 65) dX5_readNumber_26 (by decide) c15 ?_
        exact J8 h2
      · refine p_if_eq_f (tgt := 65) dX5_readNumber_26 (by decide) rfl c15 ?_
        refine p_aload_n rfl dX5_readNumber_29 rfl ?_
        refine p_aload_n rfl dX5_readNumber_30 rfl ?_
        refine p_geti qg_RX5_104 uX_3 rfl dX5_readNumber_31 rfl ?_
        refine p_bipush (v := (10 : Int32)) kbipush_10 dX5_readNumber_34 rfl ?_
        refine p_imul dX5_readNumber_36 rfl ?_
        refine p_aload_n rfl dX5_readNumber_37 rfl ?_
        refine p_getr qg_RX5_19 uX_3 rfl dX5_readNumber_38 rfl ?_
        refine p_aload_n rfl dX5_readNumber_41 rfl ?_
        refine p_geti qg_RX5_32 uX_3 rfl dX5_readNumber_42 rfl ?_
        refine p_callVr (f := f0_signAt (h2.1 3 4)) (st := [.int ((h2.1 3 5) * (10 : Int32)), .ref 3]) [.int (h2.1 3 4)] qRokX (m0_signAt l (h2.1 3 4)) cal_RX5_40 uX_1 rfl rfl ⟨rfl, rfl⟩ ⟨Nat.le_of_ble_eq_true rfl, Nat.le_of_ble_eq_true rfl⟩ (Nat.le_of_ble_eq_true rfl) dX5_readNumber_45 rfl (fun z16 => ?_)
        refine p_iadd dX5_readNumber_48 rfl ?_
        refine p_bipush (v := (48 : Int32)) kbipush_48 dX5_readNumber_49 rfl ?_
        refine p_isub dX5_readNumber_51 rfl ?_
        refine p_puti qokX qp_RX5_104 uX_3 rfl dX5_readNumber_52 rfl ?_
        refine p_nmH (fun h17 => ?_)
        refine p_aload_n rfl dX5_readNumber_55 rfl ?_
        refine p_dup rfl dX5_readNumber_56 rfl ?_
        refine p_geti qg_RX5_32 uX_3 rfl dX5_readNumber_57 rfl ?_
        refine p_iconst (v := (1 : Int32)) kiconst_1 dX5_readNumber_60 rfl ?_
        refine p_iadd dX5_readNumber_61 rfl ?_
        refine p_puti qokX qp_RX5_32 uX_3 rfl dX5_readNumber_62 rfl ?_
        refine p_nmH (fun h18 => ?_)
        exact J8 h18
  · refine p_icmp_eq_f (tgt := 12) dX5_readNumber_7 (by decide) rfl c3 ?_
    refine p_iload_n rfl dX5_readNumber_10 rfl ?_
    exact p_iret rfl rfl dX5_readNumber_11
noncomputable def f5_readComma (h : qH) : Option (Int32 × qH) :=
  qb2 (f5_nextSign h) fun (z1 : Int32) (h2 : qH) =>
  if z1 = (44 : Int32) then (
    qlt (qw h2 3 4 ((h2.1 3 4) + (1 : Int32))) fun (h4 : qH) =>
    some ((-1 : Int32), h4))
  else (
    some ((h2.1 3 4), h2))
set_option maxRecDepth 100000 in
set_option maxHeartbeats 4000000 in
theorem m5_readComma (l : Launch) : qMet UX ROX l yX5_readComma (qws yX5_readComma cX5_readComma 1 (some .int)) R5_readComma [.ref 3] f5_readComma qEw := by
  refine q_met (own := RX5) 0 (by decide) rfl (Nat.le_of_ble_eq_true rfl) (ls := [some (.ref 3)]) rfl fun h => ?_
  unfold f5_readComma
  show PW UX ROX l R5_readComma cX5_readComma 1 (some .int) RX5 (qEw h) 0 [some (.ref 3)] [] h _
  refine p_aload_n rfl dX5_readComma_0 rfl ?_
  refine p_cVw (f := f5_nextSign) (st := []) [] qRokX (m5_nextSign l) cal_RX5_57 uX_3 rfl rfl ⟨rfl, rfl⟩ ⟨Nat.le_of_ble_eq_true rfl, Nat.le_of_ble_eq_true rfl⟩ (Nat.le_of_ble_eq_true rfl) dX5_readComma_1 rfl (fun z1 h2 => ?_)
  refine p_bipush (v := (44 : Int32)) kbipush_44 dX5_readComma_4 rfl ?_
  refine p_if (fun c3 => ?_) (fun c3 => ?_)
  · refine p_icmp_eq_t (tgt := 14) dX5_readComma_6 (by decide) c3 ?_
    refine p_aload_n rfl dX5_readComma_14 rfl ?_
    refine p_dup rfl dX5_readComma_15 rfl ?_
    refine p_geti qg_RX5_32 uX_3 rfl dX5_readComma_16 rfl ?_
    refine p_iconst (v := (1 : Int32)) kiconst_1 dX5_readComma_19 rfl ?_
    refine p_iadd dX5_readComma_20 rfl ?_
    refine p_puti qokX qp_RX5_32 uX_3 rfl dX5_readComma_21 rfl ?_
    refine p_nmH (fun h4 => ?_)
    refine p_iconst (v := (-1 : Int32)) kiconst_m1 dX5_readComma_24 rfl ?_
    exact p_iret rfl rfl dX5_readComma_25
  · refine p_icmp_eq_f (tgt := 14) dX5_readComma_6 (by decide) rfl c3 ?_
    refine p_aload_n rfl dX5_readComma_9 rfl ?_
    refine p_geti qg_RX5_32 uX_3 rfl dX5_readComma_10 rfl ?_
    exact p_iret rfl rfl dX5_readComma_13
