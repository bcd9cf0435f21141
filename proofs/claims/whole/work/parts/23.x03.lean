noncomputable def f6_add (p0 : Nat) (p1 : Int32) (p2 : Int32) (p3 : Int32) (h : qH) : Option (qH) :=
  qj (fun (h1 : qH) =>
    some h1) fun j2 =>
  if (16 : Int32) ≤ (h.1 p0 3) then (
    j2 h)
  else (
    qg (qin (h.1 p0 3) 16) <|
    qlt (qw h (p0 + 1) (ix (h.1 p0 3)) p1) fun (h5 : qH) =>
    qg (qin (h5.1 p0 3) 16) <|
    qlt (qw h5 (p0 + 2) (ix (h5.1 p0 3)) p2) fun (h6 : qH) =>
    qg (qin (h6.1 p0 3) 16) <|
    qlt (qw h6 (p0 + 3) (ix (h6.1 p0 3)) p3) fun (h7 : qH) =>
    qlt (qw h7 p0 3 ((h7.1 p0 3) + (1 : Int32))) fun (h8 : qH) =>
    j2 h8)
set_option maxRecDepth 100000 in
set_option maxHeartbeats 4000000 in
theorem m6_add (l : Launch) {p0 : Nat} (hp0 : kScript p0) (p1 : Int32) (p2 : Int32) (p3 : Int32) : qMet UX ROX l yX6_add (qws yX6_add cX6_add 4 none) R6_add [.ref p0, .int p1, .int p2, .int p3] (f6_add p0 p1 p2 p3) qEv := by
  refine q_met (own := RX6) 0 (by decide) rfl (Nat.le_of_ble_eq_true rfl) (ls := [some (.ref p0), some (.int p1), some (.int p2), some (.int p3)]) rfl fun h => ?_
  unfold f6_add
  show PW UX ROX l R6_add cX6_add 4 none RX6 (qEv h) 0 [some (.ref p0), some (.int p1), some (.int p2), some (.int p3)] [] h _
  refine p_aload_n rfl dX6_add_0 rfl ?_
  refine p_geti qg_RX6_21 (uX_Script hp0) rfl dX6_add_1 rfl ?_
  refine p_bipush (v := (16 : Int32)) kbipush_16 dX6_add_4 rfl ?_
  refine p_jn (fun j2 => ∀ (h1 : qH), PW UX ROX l R6_add cX6_add 4 none RX6 (qEv h) 49 [some (.ref p0), some (.int p1), some (.int p2), some (.int p3)] [] h1 (j2 h1)) (fun h1 => ?_) (fun j2 J3 => ?_)
  · exact p_vret rfl rfl dX6_add_49
  · refine p_if (fun c4 => ?_) (fun c4 => ?_)
    · refine p_icmp_ge_t (tgt := 49) dX6_add_6 (by decide) c4 ?_
      exact J3 h
    · refine p_icmp_ge_f (tgt := 49) dX6_add_6 (by decide) rfl c4 ?_
      refine p_aload_n rfl dX6_add_9 rfl ?_
      refine p_getr qg_RX6_9 (uX_Script hp0) rfl dX6_add_10 rfl ?_
      refine p_aload_n rfl dX6_add_13 rfl ?_
      refine p_geti qg_RX6_21 (uX_Script hp0) rfl dX6_add_14 rfl ?_
      refine p_iload_n rfl dX6_add_17 rfl ?_
      refine p_iast qokX (uX_Script_1 hp0) dX6_add_18 rfl (fun _ => ?_)
      refine p_nmH (fun h5 => ?_)
      refine p_aload_n rfl dX6_add_19 rfl ?_
      refine p_getr qg_RX6_15 (uX_Script hp0) rfl dX6_add_20 rfl ?_
      refine p_aload_n rfl dX6_add_23 rfl ?_
      refine p_geti qg_RX6_21 (uX_Script hp0) rfl dX6_add_24 rfl ?_
      refine p_iload_n rfl dX6_add_27 rfl ?_
      refine p_iast qokX (uX_Script_2 hp0) dX6_add_28 rfl (fun _ => ?_)
      refine p_nmH (fun h6 => ?_)
      refine p_aload_n rfl dX6_add_29 rfl ?_
      refine p_getr qg_RX6_18 (uX_Script hp0) rfl dX6_add_30 rfl ?_
      refine p_aload_n rfl dX6_add_33 rfl ?_
      refine p_geti qg_RX6_21 (uX_Script hp0) rfl dX6_add_34 rfl ?_
      refine p_iload_n rfl dX6_add_37 rfl ?_
      refine p_iast qokX (uX_Script_3 hp0) dX6_add_38 rfl (fun _ => ?_)
      refine p_nmH (fun h7 => ?_)
      refine p_aload_n rfl dX6_add_39 rfl ?_
      refine p_dup rfl dX6_add_40 rfl ?_
      refine p_geti qg_RX6_21 (uX_Script hp0) rfl dX6_add_41 rfl ?_
      refine p_iconst (v := (1 : Int32)) kiconst_1 dX6_add_44 rfl ?_
      refine p_iadd dX6_add_45 rfl ?_
      refine p_puti qokX qp_RX6_21 (uX_Script hp0) rfl dX6_add_46 rfl ?_
      refine p_nmH (fun h8 => ?_)
      exact J3 h8
noncomputable def f6_become (p0 : Nat) (p1 : Nat) (h : qH) : Option (qH) :=
  qlt (qw h p0 3 (h.1 p1 3)) fun (h1 : qH) =>
  qg (qcp (0 : Int32) (0 : Int32) (16 : Int32) 16 16) <|
  qlt (qrow h1 (p0 + 1) (va_cpy (h1.1 (p1 + 1)) (h1.1 (p0 + 1)) (ix (0 : Int32)) (ix (0 : Int32)) (ix (16 : Int32)))) fun (h2 : qH) =>
  qg (qcp (0 : Int32) (0 : Int32) (16 : Int32) 16 16) <|
  qlt (qrow h2 (p0 + 2) (va_cpy (h2.1 (p1 + 2)) (h2.1 (p0 + 2)) (ix (0 : Int32)) (ix (0 : Int32)) (ix (16 : Int32)))) fun (h3 : qH) =>
  qg (qcp (0 : Int32) (0 : Int32) (16 : Int32) 16 16) <|
  qlt (qrow h3 (p0 + 3) (va_cpy (h3.1 (p1 + 3)) (h3.1 (p0 + 3)) (ix (0 : Int32)) (ix (0 : Int32)) (ix (16 : Int32)))) fun (h4 : qH) =>
  some h4
set_option maxRecDepth 100000 in
set_option maxHeartbeats 4000000 in
theorem m6_become (l : Launch) {p0 : Nat} (hp0 : kScript p0) {p1 : Nat} (hp1 : kScript p1) : qMet UX ROX l yX6_become (qws yX6_become cX6_become 2 none) R6_become [.ref p0, .ref p1] (f6_become p0 p1) qEv := by
  refine q_met (own := RX6) 0 (by decide) rfl (Nat.le_of_ble_eq_true rfl) (ls := [some (.ref p0), some (.ref p1)]) rfl fun h => ?_
  unfold f6_become
  show PW UX ROX l R6_become cX6_become 2 none RX6 (qEv h) 0 [some (.ref p0), some (.ref p1)] [] h _
  refine p_aload_n rfl dX6_become_0 rfl ?_
  refine p_aload_n rfl dX6_become_1 rfl ?_
  refine p_geti qg_RX6_21 (uX_Script hp1) rfl dX6_become_2 rfl ?_
  refine p_puti qokX qp_RX6_21 (uX_Script hp0) rfl dX6_become_5 rfl ?_
  refine p_nmH (fun h1 => ?_)
  refine p_aload_n rfl dX6_become_8 rfl ?_
  refine p_getr qg_RX6_9 (uX_Script hp1) rfl dX6_become_9 rfl ?_
  refine p_iconst (v := (0 : Int32)) kiconst_0 dX6_become_12 rfl ?_
  refine p_aload_n rfl dX6_become_13 rfl ?_
  refine p_getr qg_RX6_9 (uX_Script hp0) rfl dX6_become_14 rfl ?_
  refine p_iconst (v := (0 : Int32)) kiconst_0 dX6_become_17 rfl ?_
  refine p_bipush (v := (16 : Int32)) kbipush_16 dX6_become_18 rfl ?_
  refine p_copy qokX cpy_RX6_25 (uX_Script_1 hp1) (uX_Script_1 hp0) ⟨Nat.le_of_ble_eq_true rfl, Nat.le_of_ble_eq_true rfl⟩ dX6_become_20 rfl ?_
  refine p_nmH (fun h2 => ?_)
  refine p_aload_n rfl dX6_become_23 rfl ?_
  refine p_getr qg_RX6_15 (uX_Script hp1) rfl dX6_become_24 rfl ?_
  refine p_iconst (v := (0 : Int32)) kiconst_0 dX6_become_27 rfl ?_
  refine p_aload_n rfl dX6_become_28 rfl ?_
  refine p_getr qg_RX6_15 (uX_Script hp0) rfl dX6_become_29 rfl ?_
  refine p_iconst (v := (0 : Int32)) kiconst_0 dX6_become_32 rfl ?_
  refine p_bipush (v := (16 : Int32)) kbipush_16 dX6_become_33 rfl ?_
  refine p_copy qokX cpy_RX6_25 (uX_Script_2 hp1) (uX_Script_2 hp0) ⟨Nat.le_of_ble_eq_true rfl, Nat.le_of_ble_eq_true rfl⟩ dX6_become_35 rfl ?_
  refine p_nmH (fun h3 => ?_)
  refine p_aload_n rfl dX6_become_38 rfl ?_
  refine p_getr qg_RX6_18 (uX_Script hp1) rfl dX6_become_39 rfl ?_
  refine p_iconst (v := (0 : Int32)) kiconst_0 dX6_become_42 rfl ?_
  refine p_aload_n rfl dX6_become_43 rfl ?_
  refine p_getr qg_RX6_18 (uX_Script hp0) rfl dX6_become_44 rfl ?_
  refine p_iconst (v := (0 : Int32)) kiconst_0 dX6_become_47 rfl ?_
  refine p_bipush (v := (16 : Int32)) kbipush_16 dX6_become_48 rfl ?_
  refine p_copy qokX cpy_RX6_25 (uX_Script_3 hp1) (uX_Script_3 hp0) ⟨Nat.le_of_ble_eq_true rfl, Nat.le_of_ble_eq_true rfl⟩ dX6_become_50 rfl ?_
  refine p_nmH (fun h4 => ?_)
  exact p_vret rfl rfl dX6_become_53
noncomputable def f7_putBehind (p0 : Nat) (p1 : Int32) (p2 : Int32) (h : qH) : Option (qH) :=
  qg (qin p1 24) <|
  qlt (qw h (p0 + 7) (ix p1) p2) fun (h1 : qH) =>
  qg (qin p2 8) <|
  qg (qin p1 24) <|
  qlt (qw h1 (p0 + 8) (ix p1) (h1.1 (p0 + 3) (ix p2))) fun (h2 : qH) =>
  qg (qin p1 24) <|
  qlt (qw h2 (p0 + 10) (ix p1) (1 : Int32)) fun (h3 : qH) =>
  qg (qin p2 8) <|
  qg (qin p1 24) <|
  qg (qin p2 8) <|
  qlt (qw h3 (p0 + 3) (ix p2) ((h3.1 (p0 + 3) (ix p2)) + (h3.1 (p0 + 9) (ix p1)))) fun (h4 : qH) =>
  some h4
set_option maxRecDepth 100000 in
set_option maxHeartbeats 4000000 in
theorem m7_putBehind (l : Launch) {p0 : Nat} (hp0 : kStage p0) (p1 : Int32) (p2 : Int32) : qMet UX ROX l yX7_putBehind (qws yX7_putBehind cX7_putBehind 3 none) R7_putBehind [.ref p0, .int p1, .int p2] (f7_putBehind p0 p1 p2) qEv := by
  refine q_met (own := RX7) 0 (by decide) rfl (Nat.le_of_ble_eq_true rfl) (ls := [some (.ref p0), some (.int p1), some (.int p2)]) rfl fun h => ?_
  unfold f7_putBehind
  show PW UX ROX l R7_putBehind cX7_putBehind 3 none RX7 (qEv h) 0 [some (.ref p0), some (.int p1), some (.int p2)] [] h _
  refine p_aload_n rfl dX7_putBehind_0 rfl ?_
  refine p_getr qg_RX7_30 (uX_Stage hp0) rfl dX7_putBehind_1 rfl ?_
  refine p_iload_n rfl dX7_putBehind_4 rfl ?_
  refine p_iload_n rfl dX7_putBehind_5 rfl ?_
  refine p_iast qokX (uX_Stage_7 hp0) dX7_putBehind_6 rfl (fun _ => ?_)
  refine p_nmH (fun h1 => ?_)
  refine p_aload_n rfl dX7_putBehind_7 rfl ?_
  refine p_getr qg_RX7_33 (uX_Stage hp0) rfl dX7_putBehind_8 rfl ?_
  refine p_iload_n rfl dX7_putBehind_11 rfl ?_
  refine p_aload_n rfl dX7_putBehind_12 rfl ?_
  refine p_getr qg_RX7_18 (uX_Stage hp0) rfl dX7_putBehind_13 rfl ?_
  refine p_iload_n rfl dX7_putBehind_16 rfl ?_
  refine p_iald (uX_Stage_3 hp0) dX7_putBehind_17 rfl (fun _ => ?_)
  refine p_iast qokX (uX_Stage_8 hp0) dX7_putBehind_18 rfl (fun _ => ?_)
  refine p_nmH (fun h2 => ?_)
  refine p_aload_n rfl dX7_putBehind_19 rfl ?_
  refine p_getr qg_RX7_39 (uX_Stage hp0) rfl dX7_putBehind_20 rfl ?_
  refine p_iload_n rfl dX7_putBehind_23 rfl ?_
  refine p_iconst (v := (1 : Int32)) kiconst_1 dX7_putBehind_24 rfl ?_
  refine p_iast qokX (uX_Stage_10 hp0) dX7_putBehind_25 rfl (fun _ => ?_)
  refine p_nmH (fun h3 => ?_)
  refine p_aload_n rfl dX7_putBehind_26 rfl ?_
  refine p_getr qg_RX7_18 (uX_Stage hp0) rfl dX7_putBehind_27 rfl ?_
  refine p_iload_n rfl dX7_putBehind_30 rfl ?_
  refine p_dup2 rfl rfl dX7_putBehind_31 rfl ?_
  refine p_iald (uX_Stage_3 hp0) dX7_putBehind_32 rfl (fun _ => ?_)
  refine p_aload_n rfl dX7_putBehind_33 rfl ?_
  refine p_getr qg_RX7_36 (uX_Stage hp0) rfl dX7_putBehind_34 rfl ?_
  refine p_iload_n rfl dX7_putBehind_37 rfl ?_
  refine p_iald (uX_Stage_9 hp0) dX7_putBehind_38 rfl (fun _ => ?_)
  refine p_iadd dX7_putBehind_39 rfl ?_
  refine p_iast qokX (uX_Stage_3 hp0) dX7_putBehind_40 rfl (fun _ => ?_)
  refine p_nmH (fun h4 => ?_)
  exact p_vret rfl rfl dX7_putBehind_41
noncomputable def f7_addFile (p0 : Nat) (p1 : Int32) (p2 : Int32) (h : qH) : Option (qH) :=
  qj (fun (h1 : qH) =>
    some h1) fun j2 =>
  if (24 : Int32) ≤ (h.1 p0 5) then (
    j2 h)
  else (
    qg (qin (h.1 p0 5) 24) <|
    qlt (qw h (p0 + 9) (ix (h.1 p0 5)) p2) fun (h5 : qH) =>
    qg (qin (h5.1 p0 5) 24) <|
    qlt (qw h5 (p0 + 11) (ix (h5.1 p0 5)) (0 : Int32)) fun (h6 : qH) =>
    (f7_putBehind p0 (h6.1 p0 5) p1 h6).bind fun (h7 : qH) =>
    qlt (qw h7 p0 5 ((h7.1 p0 5) + (1 : Int32))) fun (h8 : qH) =>
    j2 h8)
set_option maxRecDepth 100000 in
set_option maxHeartbeats 4000000 in
theorem m7_addFile (l : Launch) {p0 : Nat} (hp0 : kStage p0) (p1 : Int32) (p2 : Int32) : qMet UX ROX l yX7_addFile (qws yX7_addFile cX7_addFile 3 none) R7_addFile [.ref p0, .int p1, .int p2] (f7_addFile p0 p1 p2) qEv := by
  refine q_met (own := RX7) 0 (by decide) rfl (Nat.le_of_ble_eq_true rfl) (ls := [some (.ref p0), some (.int p1), some (.int p2)]) rfl fun h => ?_
  unfold f7_addFile
  show PW UX ROX l R7_addFile cX7_addFile 3 none RX7 (qEv h) 0 [some (.ref p0), some (.int p1), some (.int p2)] [] h _
  refine p_aload_n rfl dX7_addFile_0 rfl ?_
  refine p_geti qg_RX7_63 (uX_Stage hp0) rfl dX7_addFile_1 rfl ?_
  refine p_bipush (v := (24 : Int32)) kbipush_24 dX7_addFile_4 rfl ?_
  refine p_jn (fun j2 => ∀ (h1 : qH), PW UX ROX l R7_addFile cX7_addFile 3 none RX7 (qEv h) 48 [some (.ref p0), some (.int p1), some (.int p2)] [] h1 (j2 h1)) (fun h1 => ?_) (fun j2 J3 => ?_)
  · exact p_vret rfl rfl dX7_addFile_48
  · refine p_if (fun c4 => ?_) (fun c4 => ?_)
    · refine p_icmp_ge_t (tgt := 48) dX7_addFile_6 (by decide) c4 ?_
      exact J3 h
    · refine p_icmp_ge_f (tgt := 48) dX7_addFile_6 (by decide) rfl c4 ?_
      refine p_aload_n rfl dX7_addFile_9 rfl ?_
      refine p_getr qg_RX7_36 (uX_Stage hp0) rfl dX7_addFile_10 rfl ?_
      refine p_aload_n rfl dX7_addFile_13 rfl ?_
      refine p_geti qg_RX7_63 (uX_Stage hp0) rfl dX7_addFile_14 rfl ?_
      refine p_iload_n rfl dX7_addFile_17 rfl ?_
      refine p_iast qokX (uX_Stage_9 hp0) dX7_addFile_18 rfl (fun _ => ?_)
      refine p_nmH (fun h5 => ?_)
      refine p_aload_n rfl dX7_addFile_19 rfl ?_
      refine p_getr qg_RX7_42 (uX_Stage hp0) rfl dX7_addFile_20 rfl ?_
      refine p_aload_n rfl dX7_addFile_23 rfl ?_
      refine p_geti qg_RX7_63 (uX_Stage hp0) rfl dX7_addFile_24 rfl ?_
      refine p_iconst (v := (0 : Int32)) kiconst_0 dX7_addFile_27 rfl ?_
      refine p_iast qokX (uX_Stage_11 hp0) dX7_addFile_28 rfl (fun _ => ?_)
      refine p_nmH (fun h6 => ?_)
      refine p_aload_n rfl dX7_addFile_29 rfl ?_
      refine p_aload_n rfl dX7_addFile_30 rfl ?_
      refine p_geti qg_RX7_63 (uX_Stage hp0) rfl dX7_addFile_31 rfl ?_
      refine p_iload_n rfl dX7_addFile_34 rfl ?_
      refine p_callVv (f := f7_putBehind p0 (h6.1 p0 5) p1) (st := []) [.int (h6.1 p0 5), .int p1] qRokX (m7_putBehind l hp0 (h6.1 p0 5) p1) cal_RX7_226 (uX_Stage hp0) rfl rfl ⟨rfl, rfl⟩ ⟨Nat.le_of_ble_eq_true rfl, Nat.le_of_ble_eq_true rfl⟩ (Nat.le_of_ble_eq_true rfl) dX7_addFile_35 rfl (fun h7 => ?_)
      refine p_aload_n rfl dX7_addFile_38 rfl ?_
      refine p_dup rfl dX7_addFile_39 rfl ?_
      refine p_geti qg_RX7_63 (uX_Stage hp0) rfl dX7_addFile_40 rfl ?_
      refine p_iconst (v := (1 : Int32)) kiconst_1 dX7_addFile_43 rfl ?_
      refine p_iadd dX7_addFile_44 rfl ?_
      refine p_puti qokX qp_RX7_63 (uX_Stage hp0) rfl dX7_addFile_45 rfl ?_
      refine p_nmH (fun h8 => ?_)
      exact J3 h8
noncomputable def f7_hasRoom (p0 : Nat) (p1 : Int32) (p2 : Int32) (h : qH) : Option (Int32) :=
  qg (qin p1 8) <|
  qlt (if (h.1 6 7) < ((h.1 (p0 + 3) (ix p1)) + p2) then (0 : Int32) else (1 : Int32)) fun (x2 : Int32) =>
  qg (qbo x2) <|
  some x2
set_option maxRecDepth 100000 in
set_option maxHeartbeats 4000000 in
theorem m7_hasRoom (l : Launch) {p0 : Nat} (hp0 : kStage p0) (p1 : Int32) (p2 : Int32) : qMet UX ROX l yX7_hasRoom (qws yX7_hasRoom cX7_hasRoom 3 (some .boolean)) R7_hasRoom [.ref p0, .int p1, .int p2] (f7_hasRoom p0 p1 p2) qEr := by
  refine q_met (own := RX7) 0 (by decide) rfl (Nat.le_of_ble_eq_true rfl) (ls := [some (.ref p0), some (.int p1), some (.int p2)]) rfl fun h => ?_
  unfold f7_hasRoom
  refine p_aload_n rfl dX7_hasRoom_0 rfl ?_
  refine p_getr qg_RX7_18 (uX_Stage hp0) rfl dX7_hasRoom_1 rfl ?_
  refine p_iload_n rfl dX7_hasRoom_4 rfl ?_
  refine p_iald (uX_Stage_3 hp0) dX7_hasRoom_5 rfl (fun _ => ?_)
  refine p_iload_n rfl dX7_hasRoom_6 rfl ?_
  refine p_iadd dX7_hasRoom_7 rfl ?_
  refine p_aload_n rfl dX7_hasRoom_8 rfl ?_
  refine p_getr qg_RX7_45 (uX_Stage hp0) rfl dX7_hasRoom_9 rfl ?_
  refine p_geti qg_RX7_237 uX_6 rfl dX7_hasRoom_12 rfl ?_
  refine p_vj 23 [some (.ref p0), some (.int p1), some (.int p2)] [] (fun x2 => ?_) (fun J => ?_)
  · exact p_zretG rfl rfl dX7_hasRoom_23
  · refine p_dia (fun c1 => ?_) (fun c1 => ?_)
    · refine p_icmp_gt_t (tgt := 22) dX7_hasRoom_15 (by decide) c1 ?_
      refine p_iconst (v := (0 : Int32)) kiconst_0 dX7_hasRoom_22 rfl ?_
      exact J _
    · refine p_icmp_gt_f (tgt := 22) dX7_hasRoom_15 (by decide) rfl c1 ?_
      refine p_iconst (v := (1 : Int32)) kiconst_1 dX7_hasRoom_18 rfl ?_
      refine p_goto (tgt := 23) dX7_hasRoom_19 (by decide) ?_
      exact J _
noncomputable def f7_begin_L22 (p0 : Nat) (k : Int32 → qH → Option (qH)) : Nat → Int32 → qH → Option (qH)
  | 0, _, _ => none
  | n + 1, x5, h6 =>
    if (8 : Int32) ≤ x5 then (
      k x5 h6)
    else (
      qg (qin x5 8) <|
      qlt (qw h6 (p0 + 1) (ix x5) (-1 : Int32)) fun (h8 : qH) =>
      qg (qin x5 8) <|
      qlt (qw h8 (p0 + 2) (ix x5) (0 : Int32)) fun (h9 : qH) =>
      qg (qin x5 8) <|
      qlt (qw h9 (p0 + 3) (ix x5) (0 : Int32)) fun (h10 : qH) =>
      qg (qin x5 8) <|
      qg (qin x5 8) <|
      qlt (qw h10 (p0 + 4) (ix x5) (h10.1 9 (ix x5))) fun (h11 : qH) =>
      qg (qin x5 8) <|
      qlt (qw h11 (p0 + 5) (ix x5) (0 : Int32)) fun (h12 : qH) =>
      qg (qin x5 8) <|
      qlt (qw h12 (p0 + 6) (ix x5) (0 : Int32)) fun (h13 : qH) =>
      qlt (x5 + (1 : Int32)) fun (x14 : Int32) =>
      f7_begin_L22 p0 k n x14 h13)
set_option maxRecDepth 100000 in
set_option maxHeartbeats 4000000 in
theorem w7_begin_L22 (l : Launch) (h0 : qH) (p0 : Nat) (hp0 : kStage p0) {k : Int32 → qH → Option (qH)} (hk : ∀ (x5 : Int32) (h6 : qH), PW UX ROX l R7_begin cX7_begin 2 none RX7 (qEv h0) 84 [some (.ref p0), some (.int x5)] [] h6 (k x5 h6)) : ∀ (n : Nat) (x5 : Int32) (h6 : qH), PW UX ROX l R7_begin cX7_begin 2 none RX7 (qEv h0) 22 [some (.ref p0), some (.int x5)] [] h6 (f7_begin_L22 p0 k n x5 h6) := by
  intro n
  induction n with
  | zero => intro _ _; exact p_none
  | succ n ih =>
    intro x5 h6
    unfold f7_begin_L22
    refine p_iload_n rfl dX7_begin_22 rfl ?_
    refine p_bipush (v := (8 : Int32)) kbipush_8 dX7_begin_23 rfl ?_
    refine p_if (fun c7 => ?_) (fun c7 => ?_)
    · refine p_icmp_ge_t (tgt := 84) dX7_begin_25 (by decide) c7 ?_
      exact hk x5 h6
    · refine p_icmp_ge_f (tgt := 84) dX7_begin_25 (by decide) rfl c7 ?_
      refine p_aload_n rfl dX7_begin_28 rfl ?_
      refine p_getr qg_RX7_9 (uX_Stage hp0) rfl dX7_begin_29 rfl ?_
      refine p_iload_n rfl dX7_begin_32 rfl ?_
      refine p_iconst (v := (-1 : Int32)) kiconst_m1 dX7_begin_33 rfl ?_
      refine p_iast qokX (uX_Stage_1 hp0) dX7_begin_34 rfl (fun _ => ?_)
      refine p_nmH (fun h8 => ?_)
      refine p_aload_n rfl dX7_begin_35 rfl ?_
      refine p_getr qg_RX7_15 (uX_Stage hp0) rfl dX7_begin_36 rfl ?_
      refine p_iload_n rfl dX7_begin_39 rfl ?_
      refine p_iconst (v := (0 : Int32)) kiconst_0 dX7_begin_40 rfl ?_
      refine p_iast qokX (uX_Stage_2 hp0) dX7_begin_41 rfl (fun _ => ?_)
      refine p_nmH (fun h9 => ?_)
      refine p_aload_n rfl dX7_begin_42 rfl ?_
      refine p_getr qg_RX7_18 (uX_Stage hp0) rfl dX7_begin_43 rfl ?_
      refine p_iload_n rfl dX7_begin_46 rfl ?_
      refine p_iconst (v := (0 : Int32)) kiconst_0 dX7_begin_47 rfl ?_
      refine p_iast qokX (uX_Stage_3 hp0) dX7_begin_48 rfl (fun _ => ?_)
      refine p_nmH (fun h10 => ?_)
      refine p_aload_n rfl dX7_begin_49 rfl ?_
      refine p_getr qg_RX7_21 (uX_Stage hp0) rfl dX7_begin_50 rfl ?_
      refine p_iload_n rfl dX7_begin_53 rfl ?_
      refine p_aload_n rfl dX7_begin_54 rfl ?_
      refine p_getr qg_RX7_45 (uX_Stage hp0) rfl dX7_begin_55 rfl ?_
      refine p_getr qg_RX7_66 uX_6 rfl dX7_begin_58 rfl ?_
      refine p_iload_n rfl dX7_begin_61 rfl ?_
      refine p_iald uX_9 dX7_begin_62 rfl (fun _ => ?_)
      refine p_iast qokX (uX_Stage_4 hp0) dX7_begin_63 rfl (fun _ => ?_)
      refine p_nmH (fun h11 => ?_)
      refine p_aload_n rfl dX7_begin_64 rfl ?_
      refine p_getr qg_RX7_24 (uX_Stage hp0) rfl dX7_begin_65 rfl ?_
      refine p_iload_n rfl dX7_begin_68 rfl ?_
      refine p_iconst (v := (0 : Int32)) kiconst_0 dX7_begin_69 rfl ?_
      refine p_iast qokX (uX_Stage_5 hp0) dX7_begin_70 rfl (fun _ => ?_)
      refine p_nmH (fun h12 => ?_)
      refine p_aload_n rfl dX7_begin_71 rfl ?_
      refine p_getr qg_RX7_27 (uX_Stage hp0) rfl dX7_begin_72 rfl ?_
      refine p_iload_n rfl dX7_begin_75 rfl ?_
      refine p_iconst (v := (0 : Int32)) kiconst_0 dX7_begin_76 rfl ?_
      refine p_iast qokX (uX_Stage_6 hp0) dX7_begin_77 rfl (fun _ => ?_)
      refine p_nmH (fun h13 => ?_)
      refine p_iiN (v := (1 : Int32)) (lf := fun x14 => [some (.ref p0), some (.int x14)]) kiconst_1 dX7_begin_78 rfl rfl rfl rfl (fun _ => rfl) (fun x14 => ?_)
      refine p_goto (tgt := 22) dX7_begin_81 (by decide) ?_
      exact ih x14 h13
noncomputable def f7_begin_L86 (p0 : Nat) (k : Int32 → qH → Option (qH)) : Nat → Int32 → qH → Option (qH)
  | 0, _, _ => none
  | n + 1, x17, h18 =>
    if (h18.1 6 4) ≤ x17 then (
      k x17 h18)
    else (
      qg (qin x17 24) <|
      (f4_isTape 6 (h18.1 10 (ix x17)) h18).bind fun (z20 : Int32) =>
      qj (fun (h21 : qH) =>
        qlt (x17 + (1 : Int32)) fun (x24 : Int32) =>
        f7_begin_L86 p0 k n x24 h21) fun j22 =>
      if z20 = 0 then (
        j22 h18)
      else (
        qg (qin x17 24) <|
        qg (qin x17 24) <|
        (f7_hasRoom p0 (h18.1 10 (ix x17)) (h18.1 11 (ix x17)) h18).bind fun (z26 : Int32) =>
        if z26 = 0 then (
          j22 h18)
        else (
          qg (qin x17 24) <|
          qg (qin x17 24) <|
          (f7_addFile p0 (h18.1 10 (ix x17)) (h18.1 11 (ix x17)) h18).bind fun (h28 : qH) =>
          j22 h28)))
set_option maxRecDepth 100000 in
set_option maxHeartbeats 4000000 in
theorem w7_begin_L86 (l : Launch) (h0 : qH) (p0 : Nat) (hp0 : kStage p0) {k : Int32 → qH → Option (qH)} (hk : ∀ (x17 : Int32) (h18 : qH), PW UX ROX l R7_begin cX7_begin 2 none RX7 (qEv h0) 169 [some (.ref p0), some (.int x17)] [] h18 (k x17 h18)) : ∀ (n : Nat) (x17 : Int32) (h18 : qH), PW UX ROX l R7_begin cX7_begin 2 none RX7 (qEv h0) 86 [some (.ref p0), some (.int x17)] [] h18 (f7_begin_L86 p0 k n x17 h18) := by
  intro n
  induction n with
  | zero => intro _ _; exact p_none
  | succ n ih =>
    intro x17 h18
    unfold f7_begin_L86
    refine p_iload_n rfl dX7_begin_86 rfl ?_
    refine p_aload_n rfl dX7_begin_87 rfl ?_
    refine p_getr qg_RX7_45 (uX_Stage hp0) rfl dX7_begin_88 rfl ?_
    refine p_geti qg_RX7_71 uX_6 rfl dX7_begin_91 rfl ?_
    refine p_if (fun c19 => ?_) (fun c19 => ?_)
    · refine p_icmp_ge_t (tgt := 169) dX7_begin_94 (by decide) c19 ?_
      exact hk x17 h18
    · refine p_icmp_ge_f (tgt := 169) dX7_begin_94 (by decide) rfl c19 ?_
      refine p_aload_n rfl dX7_begin_97 rfl ?_
      refine p_getr qg_RX7_45 (uX_Stage hp0) rfl dX7_begin_98 rfl ?_
      refine p_aload_n rfl dX7_begin_101 rfl ?_
      refine p_getr qg_RX7_45 (uX_Stage hp0) rfl dX7_begin_102 rfl ?_
      refine p_getr qg_RX7_72 uX_6 rfl dX7_begin_105 rfl ?_
      refine p_iload_n rfl dX7_begin_108 rfl ?_
      refine p_iald uX_10 dX7_begin_109 rfl (fun _ => ?_)
      refine p_callVr (f := f4_isTape 6 (h18.1 10 (ix x17))) (st := []) [.int (h18.1 10 (ix x17))] qRokX (m4_isTape l (kPlan_6) (h18.1 10 (ix x17))) cal_RX7_75 uX_6 rfl rfl ⟨rfl, rfl⟩ ⟨Nat.le_of_ble_eq_true rfl, Nat.le_of_ble_eq_true rfl⟩ (Nat.le_of_ble_eq_true rfl) dX7_begin_110 rfl (fun z20 => ?_)
      refine p_jn (fun j22 => ∀ (h21 : qH), PW UX ROX l R7_begin cX7_begin 2 none RX7 (qEv h0) 163 [some (.ref p0), some (.int x17)] [] h21 (j22 h21)) (fun h21 => ?_) (fun j22 J23 => ?_)
      · refine p_iiN (v := (1 : Int32)) (lf := fun x24 => [some (.ref p0), some (.int x24)]) kiconst_1 dX7_begin_163 rfl rfl rfl rfl (fun _ => rfl) (fun x24 => ?_)
        refine p_goto (tgt := 86) dX7_begin_166 (by decide) ?_
        exact ih x24 h21
      · refine p_if (fun c25 => ?_) (fun c25 => ?_)
        · refine p_if_eq_t (tgt := 163) dX7_begin_113 (by decide) c25 ?_
          exact J23 h18
        · refine p_if_eq_f (tgt := 163) dX7_begin_113 (by decide) rfl c25 ?_
          refine p_aload_n rfl dX7_begin_116 rfl ?_
          refine p_aload_n rfl dX7_begin_117 rfl ?_
          refine p_getr qg_RX7_45 (uX_Stage hp0) rfl dX7_begin_118 rfl ?_
          refine p_getr qg_RX7_72 uX_6 rfl dX7_begin_121 rfl ?_
          refine p_iload_n rfl dX7_begin_124 rfl ?_
          refine p_iald uX_10 dX7_begin_125 rfl (fun _ => ?_)
          refine p_aload_n rfl dX7_begin_126 rfl ?_
          refine p_getr qg_RX7_45 (uX_Stage hp0) rfl dX7_begin_127 rfl ?_
          refine p_getr qg_RX7_79 uX_6 rfl dX7_begin_130 rfl ?_
          refine p_iload_n rfl dX7_begin_133 rfl ?_
          refine p_iald uX_11 dX7_begin_134 rfl (fun _ => ?_)
          refine p_callVr (f := f7_hasRoom p0 (h18.1 10 (ix x17)) (h18.1 11 (ix x17))) (st := []) [.int (h18.1 10 (ix x17)), .int (h18.1 11 (ix x17))] qRokX (m7_hasRoom l hp0 (h18.1 10 (ix x17)) (h18.1 11 (ix x17))) cal_RX7_82 (uX_Stage hp0) rfl rfl ⟨rfl, rfl⟩ ⟨Nat.le_of_ble_eq_true rfl, Nat.le_of_ble_eq_true rfl⟩ (Nat.le_of_ble_eq_true rfl) dX7_begin_135 rfl (fun z26 => ?_)
          refine p_if (fun c27 => ?_) (fun c27 => ?_)
          · refine p_if_eq_t (tgt := 163) dX7_begin_138 (by decide) c27 ?_
            exact J23 h18
          · refine p_if_eq_f (tgt := 163) dX7_begin_138 (by decide) rfl c27 ?_
            refine p_aload_n rfl dX7_begin_141 rfl ?_
            refine p_aload_n rfl dX7_begin_142 rfl ?_
            refine p_getr qg_RX7_45 (uX_Stage hp0) rfl dX7_begin_143 rfl ?_
            refine p_getr qg_RX7_72 uX_6 rfl dX7_begin_146 rfl ?_
            refine p_iload_n rfl dX7_begin_149 rfl ?_
            refine p_iald uX_10 dX7_begin_150 rfl (fun _ => ?_)
            refine p_aload_n rfl dX7_begin_151 rfl ?_
            refine p_getr qg_RX7_45 (uX_Stage hp0) rfl dX7_begin_152 rfl ?_
            refine p_getr qg_RX7_79 uX_6 rfl dX7_begin_155 rfl ?_
            refine p_iload_n rfl dX7_begin_158 rfl ?_
            refine p_iald uX_11 dX7_begin_159 rfl (fun _ => ?_)
            refine p_callVv (f := f7_addFile p0 (h18.1 10 (ix x17)) (h18.1 11 (ix x17))) (st := []) [.int (h18.1 10 (ix x17)), .int (h18.1 11 (ix x17))] qRokX (m7_addFile l hp0 (h18.1 10 (ix x17)) (h18.1 11 (ix x17))) cal_RX7_86 (uX_Stage hp0) rfl rfl ⟨rfl, rfl⟩ ⟨Nat.le_of_ble_eq_true rfl, Nat.le_of_ble_eq_true rfl⟩ (Nat.le_of_ble_eq_true rfl) dX7_begin_160 rfl (fun h28 => ?_)
            exact J23 h28
noncomputable def f7_begin (p0 : Nat) (h : qH) : Option (qH) :=
  qlt (qw h p0 2 (0 : Int32)) fun (h1 : qH) =>
  qlt (qw h1 p0 3 (0 : Int32)) fun (h2 : qH) =>
  qlt (qw h2 p0 4 (0 : Int32)) fun (h3 : qH) =>
  qlt (qw h3 p0 5 (0 : Int32)) fun (h4 : qH) =>
  f7_begin_L22 p0 (fun (x15 : Int32) (h16 : qH) =>
    f7_begin_L86 p0 (fun (x29 : Int32) (h30 : qH) =>
      some h30) qN (0 : Int32) h16) qN (0 : Int32) h4
set_option maxRecDepth 100000 in
set_option maxHeartbeats 4000000 in
theorem m7_begin (l : Launch) {p0 : Nat} (hp0 : kStage p0) : qMet UX ROX l yX7_begin (qws yX7_begin cX7_begin 2 none) R7_begin [.ref p0] (f7_begin p0) qEv := by
  refine q_met (own := RX7) 1 (by decide) rfl (Nat.le_of_ble_eq_true rfl) (ls := [some (.ref p0), none]) rfl fun h => ?_
  unfold f7_begin
  show PW UX ROX l R7_begin cX7_begin 2 none RX7 (qEv h) 0 [some (.ref p0), none] [] h _
  refine p_aload_n rfl dX7_begin_0 rfl ?_
  refine p_iconst (v := (0 : Int32)) kiconst_0 dX7_begin_1 rfl ?_
  refine p_puti qokX qp_RX7_53 (uX_Stage hp0) rfl dX7_begin_2 rfl ?_
  refine p_nmH (fun h1 => ?_)
  refine p_aload_n rfl dX7_begin_5 rfl ?_
  refine p_iconst (v := (0 : Int32)) kiconst_0 dX7_begin_6 rfl ?_
  refine p_puti qokX qp_RX7_57 (uX_Stage hp0) rfl dX7_begin_7 rfl ?_
  refine p_nmH (fun h2 => ?_)
  refine p_aload_n rfl dX7_begin_10 rfl ?_
  refine p_iconst (v := (0 : Int32)) kiconst_0 dX7_begin_11 rfl ?_
  refine p_puti qokX qp_RX7_60 (uX_Stage hp0) rfl dX7_begin_12 rfl ?_
  refine p_nmH (fun h3 => ?_)
  refine p_aload_n rfl dX7_begin_15 rfl ?_
  refine p_iconst (v := (0 : Int32)) kiconst_0 dX7_begin_16 rfl ?_
  refine p_puti qokX qp_RX7_63 (uX_Stage hp0) rfl dX7_begin_17 rfl ?_
  refine p_nmH (fun h4 => ?_)
  refine p_iconst (v := (0 : Int32)) kiconst_0 dX7_begin_20 rfl ?_
  refine p_is_n (ls' := [some (.ref p0), some (.int (0 : Int32))]) dX7_begin_21 rfl rfl rfl rfl ?_
  refine w7_begin_L22 l h p0 hp0 (fun x15 h16 => ?_) qN _ _
  refine p_iconst (v := (0 : Int32)) kiconst_0 dX7_begin_84 rfl ?_
  refine p_is_n (ls' := [some (.ref p0), some (.int (0 : Int32))]) dX7_begin_85 rfl rfl rfl rfl ?_
  refine w7_begin_L86 l h p0 hp0 (fun x29 h30 => ?_) qN _ _
  exact p_vret rfl rfl dX7_begin_169
noncomputable def f7_askedFiles_L4 (p0 : Nat) (h : qH) (k : Int32 → Int32 → Option (Int32)) : Nat → Int32 → Int32 → Option (Int32)
  | 0, _, _ => none
  | n + 1, x1, x2 =>
    if (h.1 p0 5) ≤ x2 then (
      k x1 x2)
    else (
      qg (qin x2 24) <|
      qlt (if (h.1 (p0 + 11) (ix x2)) = 0 then (0 : Int32) else (1 : Int32)) fun (x5 : Int32) =>
      qlt (x1 + x5) fun (x6 : Int32) =>
      qlt (x2 + (1 : Int32)) fun (x7 : Int32) =>
      f7_askedFiles_L4 p0 h k n x6 x7)
set_option maxRecDepth 100000 in
set_option maxHeartbeats 4000000 in
theorem w7_askedFiles_L4 (l : Launch) (p0 : Nat) (h : qH) (hp0 : kStage p0) {k : Int32 → Int32 → Option (Int32)} (hk : ∀ (x1 : Int32) (x2 : Int32), PW UX ROX l R7_askedFiles cX7_askedFiles 3 (some .int) RX7 (qEr h) 35 [some (.ref p0), some (.int x1), some (.int x2)] [] h (k x1 x2)) : ∀ (n : Nat) (x1 : Int32) (x2 : Int32), PW UX ROX l R7_askedFiles cX7_askedFiles 3 (some .int) RX7 (qEr h) 4 [some (.ref p0), some (.int x1), some (.int x2)] [] h (f7_askedFiles_L4 p0 h k n x1 x2) := by
  intro n
  induction n with
  | zero => intro _ _; exact p_none
  | succ n ih =>
    intro x1 x2
    unfold f7_askedFiles_L4
    refine p_iload_n rfl dX7_askedFiles_4 rfl ?_
    refine p_aload_n rfl dX7_askedFiles_5 rfl ?_
    refine p_geti qg_RX7_63 (uX_Stage hp0) rfl dX7_askedFiles_6 rfl ?_
    refine p_if (fun c3 => ?_) (fun c3 => ?_)
    · refine p_icmp_ge_t (tgt := 35) dX7_askedFiles_9 (by decide) c3 ?_
      exact hk x1 x2
    · refine p_icmp_ge_f (tgt := 35) dX7_askedFiles_9 (by decide) rfl c3 ?_
      refine p_iload_n rfl dX7_askedFiles_12 rfl ?_
      refine p_aload_n rfl dX7_askedFiles_13 rfl ?_
      refine p_getr qg_RX7_42 (uX_Stage hp0) rfl dX7_askedFiles_14 rfl ?_
      refine p_iload_n rfl dX7_askedFiles_17 rfl ?_
      refine p_iald (uX_Stage_11 hp0) dX7_askedFiles_18 rfl (fun _ => ?_)
      refine p_vj 27 [some (.ref p0), some (.int x1), some (.int x2)] [.int x1] (fun x5 => ?_) (fun J => ?_)
      · refine p_iadd dX7_askedFiles_27 rfl ?_
        refine p_isN_n (lf := fun x6 => [some (.ref p0), some (.int x6), some (.int x2)]) dX7_askedFiles_28 rfl rfl rfl (fun _ => rfl) (fun x6 => ?_)
        refine p_iiN (v := (1 : Int32)) (lf := fun x7 => [some (.ref p0), some (.int x6), some (.int x7)]) kiconst_1 dX7_askedFiles_29 rfl rfl rfl rfl (fun _ => rfl) (fun x7 => ?_)
        refine p_goto (tgt := 4) dX7_askedFiles_32 (by decide) ?_
        exact ih x6 x7
      · refine p_dia (fun c4 => ?_) (fun c4 => ?_)
        · refine p_if_eq_t (tgt := 26) dX7_askedFiles_19 (by decide) c4 ?_
          refine p_iconst (v := (0 : Int32)) kiconst_0 dX7_askedFiles_26 rfl ?_
          exact J _
        · refine p_if_eq_f (tgt := 26) dX7_askedFiles_19 (by decide) rfl c4 ?_
          refine p_iconst (v := (1 : Int32)) kiconst_1 dX7_askedFiles_22 rfl ?_
          refine p_goto (tgt := 27) dX7_askedFiles_23 (by decide) ?_
          exact J _
noncomputable def f7_askedFiles (p0 : Nat) (h : qH) : Option (Int32) :=
  f7_askedFiles_L4 p0 h (fun (x8 : Int32) (x9 : Int32) =>
    some x8) qN (0 : Int32) (0 : Int32)
set_option maxRecDepth 100000 in
set_option maxHeartbeats 4000000 in
theorem m7_askedFiles (l : Launch) {p0 : Nat} (hp0 : kStage p0) : qMet UX ROX l yX7_askedFiles (qws yX7_askedFiles cX7_askedFiles 3 (some .int)) R7_askedFiles [.ref p0] (f7_askedFiles p0) qEr := by
  refine q_met (own := RX7) 2 (by decide) rfl (Nat.le_of_ble_eq_true rfl) (ls := [some (.ref p0), none, none]) rfl fun h => ?_
  unfold f7_askedFiles
  refine p_iconst (v := (0 : Int32)) kiconst_0 dX7_askedFiles_0 rfl ?_
  refine p_is_n (ls' := [some (.ref p0), some (.int (0 : Int32)), none]) dX7_askedFiles_1 rfl rfl rfl rfl ?_
  refine p_iconst (v := (0 : Int32)) kiconst_0 dX7_askedFiles_2 rfl ?_
  refine p_is_n (ls' := [some (.ref p0), some (.int (0 : Int32)), some (.int (0 : Int32))]) dX7_askedFiles_3 rfl rfl rfl rfl ?_
  refine w7_askedFiles_L4 l p0 h hp0 (fun x8 x9 => ?_) qN _ _
  refine p_iload_n rfl dX7_askedFiles_35 rfl ?_
  exact p_iret rfl rfl dX7_askedFiles_36
noncomputable def f7_isFile (p0 : Nat) (p1 : Int32) (h : qH) : Option (Int32) :=
  qlt (if p1 < 0 then (0 : Int32) else (if (h.1 p0 5) ≤ p1 then (0 : Int32) else (1 : Int32))) fun (x3 : Int32) =>
  qg (qbo x3) <|
  some x3
set_option maxRecDepth 100000 in
set_option maxHeartbeats 4000000 in
theorem m7_isFile (l : Launch) {p0 : Nat} (hp0 : kStage p0) (p1 : Int32) : qMet UX ROX l yX7_isFile (qws yX7_isFile cX7_isFile 2 (some .boolean)) R7_isFile [.ref p0, .int p1] (f7_isFile p0 p1) qEr := by
  refine q_met (own := RX7) 0 (by decide) rfl (Nat.le_of_ble_eq_true rfl) (ls := [some (.ref p0), some (.int p1)]) rfl fun h => ?_
  unfold f7_isFile
  refine p_iload_n rfl dX7_isFile_0 rfl ?_
  refine p_vj 17 [some (.ref p0), some (.int p1)] [] (fun x3 => ?_) (fun J => ?_)
  · exact p_zretG rfl rfl dX7_isFile_17
  · refine p_dia (fun c1 => ?_) (fun c1 => ?_)
    · refine p_if_lt_t (tgt := 16) dX7_isFile_1 (by decide) c1 ?_
      refine p_iconst (v := (0 : Int32)) kiconst_0 dX7_isFile_16 rfl ?_
      exact J _
    · refine p_if_lt_f (tgt := 16) dX7_isFile_1 (by decide) rfl c1 ?_
      refine p_iload_n rfl dX7_isFile_4 rfl ?_
      refine p_aload_n rfl dX7_isFile_5 rfl ?_
      refine p_geti qg_RX7_63 (uX_Stage hp0) rfl dX7_isFile_6 rfl ?_
      refine p_dia (fun c2 => ?_) (fun c2 => ?_)
      · refine p_icmp_ge_t (tgt := 16) dX7_isFile_9 (by decide) c2 ?_
        refine p_iconst (v := (0 : Int32)) kiconst_0 dX7_isFile_16 rfl ?_
        exact J _
      · refine p_icmp_ge_f (tgt := 16) dX7_isFile_9 (by decide) rfl c2 ?_
        refine p_iconst (v := (1 : Int32)) kiconst_1 dX7_isFile_12 rfl ?_
        refine p_goto (tgt := 17) dX7_isFile_13 (by decide) ?_
        exact J _
noncomputable def f7_isThere (p0 : Nat) (p1 : Int32) (h : qH) : Option (Int32) :=
  (f7_isFile p0 p1 h).bind fun (z1 : Int32) =>
  qj (fun (x2 : Int32) =>
    qg (qbo x2) <|
    some x2) fun j3 =>
  if z1 = 0 then (
    j3 (0 : Int32))
  else (
    qg (qin p1 24) <|
    if (h.1 (p0 + 7) (ix p1)) = (-1 : Int32) then (
      j3 (0 : Int32))
    else (
      j3 (1 : Int32)))
set_option maxRecDepth 100000 in
set_option maxHeartbeats 4000000 in
theorem m7_isThere (l : Launch) {p0 : Nat} (hp0 : kStage p0) (p1 : Int32) : qMet UX ROX l yX7_isThere (qws yX7_isThere cX7_isThere 2 (some .boolean)) R7_isThere [.ref p0, .int p1] (f7_isThere p0 p1) qEr := by
  refine q_met (own := RX7) 0 (by decide) rfl (Nat.le_of_ble_eq_true rfl) (ls := [some (.ref p0), some (.int p1)]) rfl fun h => ?_
  unfold f7_isThere
  refine p_aload_n rfl dX7_isThere_0 rfl ?_
  refine p_iload_n rfl dX7_isThere_1 rfl ?_
  refine p_callVr (f := f7_isFile p0 p1) (st := []) [.int p1] qRokX (m7_isFile l hp0 p1) cal_RX7_240 (uX_Stage hp0) rfl rfl ⟨rfl, rfl⟩ ⟨Nat.le_of_ble_eq_true rfl, Nat.le_of_ble_eq_true rfl⟩ (Nat.le_of_ble_eq_true rfl) dX7_isThere_2 rfl (fun z1 => ?_)
  refine p_jn (fun j3 => ∀ (x2 : Int32), PW UX ROX l R7_isThere cX7_isThere 2 (some .boolean) RX7 (qEr h) 23 [some (.ref p0), some (.int p1)] [.int x2] h (j3 x2)) (fun x2 => ?_) (fun j3 J4 => ?_)
  · exact p_zretG rfl rfl dX7_isThere_23
  · refine p_if (fun c5 => ?_) (fun c5 => ?_)
    · refine p_if_eq_t (tgt := 22) dX7_isThere_5 (by decide) c5 ?_
      refine p_iconst (v := (0 : Int32)) kiconst_0 dX7_isThere_22 rfl ?_
      exact J4 (0 : Int32)
    · refine p_if_eq_f (tgt := 22) dX7_isThere_5 (by decide) rfl c5 ?_
      refine p_aload_n rfl dX7_isThere_8 rfl ?_
      refine p_getr qg_RX7_30 (uX_Stage hp0) rfl dX7_isThere_9 rfl ?_
      refine p_iload_n rfl dX7_isThere_12 rfl ?_
      refine p_iald (uX_Stage_7 hp0) dX7_isThere_13 rfl (fun _ => ?_)
      refine p_iconst (v := (-1 : Int32)) kiconst_m1 dX7_isThere_14 rfl ?_
      refine p_if (fun c6 => ?_) (fun c6 => ?_)
      · refine p_icmp_eq_t (tgt := 22) dX7_isThere_15 (by decide) c6 ?_
        refine p_iconst (v := (0 : Int32)) kiconst_0 dX7_isThere_22 rfl ?_
        exact J4 (0 : Int32)
      · refine p_icmp_eq_f (tgt := 22) dX7_isThere_15 (by decide) rfl c6 ?_
        refine p_iconst (v := (1 : Int32)) kiconst_1 dX7_isThere_18 rfl ?_
        refine p_goto (tgt := 23) dX7_isThere_19 (by decide) ?_
        exact J4 (1 : Int32)
noncomputable def f7_askingRefusal (p0 : Nat) (p1 : Int32) (h : qH) : Option (Int32) :=
  (f7_isThere p0 p1 h).bind fun (z1 : Int32) =>
  if z1 = 0 then (
    some (0 : Int32))
  else (
    qg (qin p1 24) <|
    if (h.1 (p0 + 10) (ix p1)) = 0 then (
      some (2 : Int32))
    else (
      qg (qin p1 24) <|
      if (h.1 (p0 + 11) (ix p1)) = 0 then (
        (f7_askedFiles p0 h).bind fun (z5 : Int32) =>
        qlt (if z5 < (12 : Int32) then (-1 : Int32) else (3 : Int32)) fun (x7 : Int32) =>
        some x7)
      else (
        some (2 : Int32))))
set_option maxRecDepth 100000 in
set_option maxHeartbeats 4000000 in
theorem m7_askingRefusal (l : Launch) {p0 : Nat} (hp0 : kStage p0) (p1 : Int32) : qMet UX ROX l yX7_askingRefusal (qws yX7_askingRefusal cX7_askingRefusal 2 (some .int)) R7_askingRefusal [.ref p0, .int p1] (f7_askingRefusal p0 p1) qEr := by
  refine q_met (own := RX7) 0 (by decide) rfl (Nat.le_of_ble_eq_true rfl) (ls := [some (.ref p0), some (.int p1)]) rfl fun h => ?_
  unfold f7_askingRefusal
  refine p_aload_n rfl dX7_askingRefusal_0 rfl ?_
  refine p_iload_n rfl dX7_askingRefusal_1 rfl ?_
  refine p_callVr (f := f7_isThere p0 p1) (st := []) [.int p1] qRokX (m7_isThere l hp0 p1) cal_RX7_104 (uX_Stage hp0) rfl rfl ⟨rfl, rfl⟩ ⟨Nat.le_of_ble_eq_true rfl, Nat.le_of_ble_eq_true rfl⟩ (Nat.le_of_ble_eq_true rfl) dX7_askingRefusal_2 rfl (fun z1 => ?_)
  refine p_if (fun c2 => ?_) (fun c2 => ?_)
  · refine p_if_ne_f (tgt := 10) dX7_askingRefusal_5 (by decide) rfl c2 ?_
    refine p_iconst (v := (0 : Int32)) kiconst_0 dX7_askingRefusal_8 rfl ?_
    exact p_iret rfl rfl dX7_askingRefusal_9
  · refine p_if_ne_t (tgt := 10) dX7_askingRefusal_5 (by decide) c2 ?_
    refine p_aload_n rfl dX7_askingRefusal_10 rfl ?_
    refine p_getr qg_RX7_39 (uX_Stage hp0) rfl dX7_askingRefusal_11 rfl ?_
    refine p_iload_n rfl dX7_askingRefusal_14 rfl ?_
    refine p_iald (uX_Stage_10 hp0) dX7_askingRefusal_15 rfl (fun _ => ?_)
    refine p_if (fun c3 => ?_) (fun c3 => ?_)
    · refine p_if_eq_t (tgt := 28) dX7_askingRefusal_16 (by decide) c3 ?_
      refine p_iconst (v := (2 : Int32)) kiconst_2 dX7_askingRefusal_28 rfl ?_
      exact p_iret rfl rfl dX7_askingRefusal_29
    · refine p_if_eq_f (tgt := 28) dX7_askingRefusal_16 (by decide) rfl c3 ?_
      refine p_aload_n rfl dX7_askingRefusal_19 rfl ?_
      refine p_getr qg_RX7_42 (uX_Stage hp0) rfl dX7_askingRefusal_20 rfl ?_
      refine p_iload_n rfl dX7_askingRefusal_23 rfl ?_
      refine p_iald (uX_Stage_11 hp0) dX7_askingRefusal_24 rfl (fun _ => ?_)
      refine p_if (fun c4 => ?_) (fun c4 => ?_)
      · refine p_if_eq_t (tgt := 30) dX7_askingRefusal_25 (by decide) c4 ?_
        refine p_aload_n rfl dX7_askingRefusal_30 rfl ?_
        refine p_callVr (f := f7_askedFiles p0) (st := []) [] qRokX (m7_askedFiles l hp0) cal_RX7_117 (uX_Stage hp0) rfl rfl ⟨rfl, rfl⟩ ⟨Nat.le_of_ble_eq_true rfl, Nat.le_of_ble_eq_true rfl⟩ (Nat.le_of_ble_eq_true rfl) dX7_askingRefusal_31 rfl (fun z5 => ?_)
        refine p_bipush (v := (12 : Int32)) kbipush_12 dX7_askingRefusal_34 rfl ?_
        refine p_vj 44 [some (.ref p0), some (.int p1)] [] (fun x7 => ?_) (fun J => ?_)
        · exact p_iret rfl rfl dX7_askingRefusal_44
        · refine p_dia (fun c6 => ?_) (fun c6 => ?_)
          · refine p_icmp_lt_t (tgt := 43) dX7_askingRefusal_36 (by decide) c6 ?_
            refine p_iconst (v := (-1 : Int32)) kiconst_m1 dX7_askingRefusal_43 rfl ?_
            exact J _
          · refine p_icmp_lt_f (tgt := 43) dX7_askingRefusal_36 (by decide) rfl c6 ?_
            refine p_iconst (v := (3 : Int32)) kiconst_3 dX7_askingRefusal_39 rfl ?_
            refine p_goto (tgt := 44) dX7_askingRefusal_40 (by decide) ?_
            exact J _
      · refine p_if_eq_f (tgt := 30) dX7_askingRefusal_25 (by decide) rfl c4 ?_
        refine p_iconst (v := (2 : Int32)) kiconst_2 dX7_askingRefusal_28 rfl ?_
        exact p_iret rfl rfl dX7_askingRefusal_29
noncomputable def f7_filesOn_L4 (p0 : Nat) (p1 : Int32) (h : qH) (k : Int32 → Int32 → Option (Int32)) : Nat → Int32 → Int32 → Option (Int32)
  | 0, _, _ => none
  | n + 1, x1, x2 =>
    if (h.1 p0 5) ≤ x2 then (
      k x1 x2)
    else (
      qg (qin x2 24) <|
      qlt (if (h.1 (p0 + 7) (ix x2)) = p1 then (1 : Int32) else (0 : Int32)) fun (x5 : Int32) =>
      qlt (x1 + x5) fun (x6 : Int32) =>
      qlt (x2 + (1 : Int32)) fun (x7 : Int32) =>
      f7_filesOn_L4 p0 p1 h k n x6 x7)
set_option maxRecDepth 100000 in
set_option maxHeartbeats 4000000 in
theorem w7_filesOn_L4 (l : Launch) (p0 : Nat) (p1 : Int32) (h : qH) (hp0 : kStage p0) {k : Int32 → Int32 → Option (Int32)} (hk : ∀ (x1 : Int32) (x2 : Int32), PW UX ROX l R7_filesOn cX7_filesOn 4 (some .int) RX7 (qEr h) 36 [some (.ref p0), some (.int p1), some (.int x1), some (.int x2)] [] h (k x1 x2)) : ∀ (n : Nat) (x1 : Int32) (x2 : Int32), PW UX ROX l R7_filesOn cX7_filesOn 4 (some .int) RX7 (qEr h) 4 [some (.ref p0), some (.int p1), some (.int x1), some (.int x2)] [] h (f7_filesOn_L4 p0 p1 h k n x1 x2) := by
  intro n
  induction n with
  | zero => intro _ _; exact p_none
  | succ n ih =>
    intro x1 x2
    unfold f7_filesOn_L4
    refine p_iload_n rfl dX7_filesOn_4 rfl ?_
    refine p_aload_n rfl dX7_filesOn_5 rfl ?_
    refine p_geti qg_RX7_63 (uX_Stage hp0) rfl dX7_filesOn_6 rfl ?_
    refine p_if (fun c3 => ?_) (fun c3 => ?_)
    · refine p_icmp_ge_t (tgt := 36) dX7_filesOn_9 (by decide) c3 ?_
      exact hk x1 x2
    · refine p_icmp_ge_f (tgt := 36) dX7_filesOn_9 (by decide) rfl c3 ?_
      refine p_iload_n rfl dX7_filesOn_12 rfl ?_
      refine p_aload_n rfl dX7_filesOn_13 rfl ?_
      refine p_getr qg_RX7_30 (uX_Stage hp0) rfl dX7_filesOn_14 rfl ?_
      refine p_iload_n rfl dX7_filesOn_17 rfl ?_
      refine p_iald (uX_Stage_7 hp0) dX7_filesOn_18 rfl (fun _ => ?_)
      refine p_iload_n rfl dX7_filesOn_19 rfl ?_
      refine p_vj 28 [some (.ref p0), some (.int p1), some (.int x1), some (.int x2)] [.int x1] (fun x5 => ?_) (fun J => ?_)
      · refine p_iadd dX7_filesOn_28 rfl ?_
        refine p_isN_n (lf := fun x6 => [some (.ref p0), some (.int p1), some (.int x6), some (.int x2)]) dX7_filesOn_29 rfl rfl rfl (fun _ => rfl) (fun x6 => ?_)
        refine p_iiN (v := (1 : Int32)) (lf := fun x7 => [some (.ref p0), some (.int p1), some (.int x6), some (.int x7)]) kiconst_1 dX7_filesOn_30 rfl rfl rfl rfl (fun _ => rfl) (fun x7 => ?_)
        refine p_goto (tgt := 4) dX7_filesOn_33 (by decide) ?_
        exact ih x6 x7
      · refine p_dia (fun c4 => ?_) (fun c4 => ?_)
        · refine p_icmp_ne_f (tgt := 27) dX7_filesOn_20 (by decide) rfl c4 ?_
          refine p_iconst (v := (1 : Int32)) kiconst_1 dX7_filesOn_23 rfl ?_
          refine p_goto (tgt := 28) dX7_filesOn_24 (by decide) ?_
          exact J _
        · refine p_icmp_ne_t (tgt := 27) dX7_filesOn_20 (by decide) c4 ?_
          refine p_iconst (v := (0 : Int32)) kiconst_0 dX7_filesOn_27 rfl ?_
          exact J _
noncomputable def f7_filesOn (p0 : Nat) (p1 : Int32) (h : qH) : Option (Int32) :=
  f7_filesOn_L4 p0 p1 h (fun (x8 : Int32) (x9 : Int32) =>
    some x8) qN (0 : Int32) (0 : Int32)
set_option maxRecDepth 100000 in
set_option maxHeartbeats 4000000 in
theorem m7_filesOn (l : Launch) {p0 : Nat} (hp0 : kStage p0) (p1 : Int32) : qMet UX ROX l yX7_filesOn (qws yX7_filesOn cX7_filesOn 4 (some .int)) R7_filesOn [.ref p0, .int p1] (f7_filesOn p0 p1) qEr := by
  refine q_met (own := RX7) 2 (by decide) rfl (Nat.le_of_ble_eq_true rfl) (ls := [some (.ref p0), some (.int p1), none, none]) rfl fun h => ?_
  unfold f7_filesOn
  refine p_iconst (v := (0 : Int32)) kiconst_0 dX7_filesOn_0 rfl ?_
  refine p_is_n (ls' := [some (.ref p0), some (.int p1), some (.int (0 : Int32)), none]) dX7_filesOn_1 rfl rfl rfl rfl ?_
  refine p_iconst (v := (0 : Int32)) kiconst_0 dX7_filesOn_2 rfl ?_
  refine p_is_n (ls' := [some (.ref p0), some (.int p1), some (.int (0 : Int32)), some (.int (0 : Int32))]) dX7_filesOn_3 rfl rfl rfl rfl ?_
  refine w7_filesOn_L4 l p0 p1 h hp0 (fun x8 x9 => ?_) qN _ _
  refine p_iload_n rfl dX7_filesOn_36 rfl ?_
  exact p_iret rfl rfl dX7_filesOn_37
noncomputable def f7_copyingRefusal (p0 : Nat) (p1 : Int32) (p2 : Int32) (h : qH) : Option (Int32) :=
  (f4_isTape 6 p1 h).bind fun (z1 : Int32) =>
  if z1 = 0 then (
    some (0 : Int32))
  else (
    (f4_isTape 6 p2 h).bind fun (z3 : Int32) =>
    if z3 = 0 then (
      some (0 : Int32))
    else (
      qj (fun (x5 : Int32) =>
        some x5) fun j6 =>
      if p1 = p2 then (
        j6 (2 : Int32))
      else (
        qg (qin p2 8) <|
        if (h.1 (p0 + 3) (ix p2)) = 0 then (
          (f7_filesOn p0 p1 h).bind fun (z10 : Int32) =>
          if z10 = 0 then (
            j6 (2 : Int32))
          else (
            j6 (-1 : Int32)))
        else (
          j6 (2 : Int32)))))
set_option maxRecDepth 100000 in
set_option maxHeartbeats 4000000 in
theorem m7_copyingRefusal (l : Launch) {p0 : Nat} (hp0 : kStage p0) (p1 : Int32) (p2 : Int32) : qMet UX ROX l yX7_copyingRefusal (qws yX7_copyingRefusal cX7_copyingRefusal 3 (some .int)) R7_copyingRefusal [.ref p0, .int p1, .int p2] (f7_copyingRefusal p0 p1 p2) qEr := by
  refine q_met (own := RX7) 0 (by decide) rfl (Nat.le_of_ble_eq_true rfl) (ls := [some (.ref p0), some (.int p1), some (.int p2)]) rfl fun h => ?_
  unfold f7_copyingRefusal
  refine p_aload_n rfl dX7_copyingRefusal_0 rfl ?_
  refine p_getr qg_RX7_45 (uX_Stage hp0) rfl dX7_copyingRefusal_1 rfl ?_
  refine p_iload_n rfl dX7_copyingRefusal_4 rfl ?_
  refine p_callVr (f := f4_isTape 6 p1) (st := []) [.int p1] qRokX (m4_isTape l (kPlan_6) p1) cal_RX7_75 uX_6 rfl rfl ⟨rfl, rfl⟩ ⟨Nat.le_of_ble_eq_true rfl, Nat.le_of_ble_eq_true rfl⟩ (Nat.le_of_ble_eq_true rfl) dX7_copyingRefusal_5 rfl (fun z1 => ?_)
  refine p_if (fun c2 => ?_) (fun c2 => ?_)
  · refine p_if_eq_t (tgt := 22) dX7_copyingRefusal_8 (by decide) c2 ?_
    refine p_iconst (v := (0 : Int32)) kiconst_0 dX7_copyingRefusal_22 rfl ?_
    exact p_iret rfl rfl dX7_copyingRefusal_23
  · refine p_if_eq_f (tgt := 22) dX7_copyingRefusal_8 (by decide) rfl c2 ?_
    refine p_aload_n rfl dX7_copyingRefusal_11 rfl ?_
    refine p_getr qg_RX7_45 (uX_Stage hp0) rfl dX7_copyingRefusal_12 rfl ?_
    refine p_iload_n rfl dX7_copyingRefusal_15 rfl ?_
    refine p_callVr (f := f4_isTape 6 p2) (st := []) [.int p2] qRokX (m4_isTape l (kPlan_6) p2) cal_RX7_75 uX_6 rfl rfl ⟨rfl, rfl⟩ ⟨Nat.le_of_ble_eq_true rfl, Nat.le_of_ble_eq_true rfl⟩ (Nat.le_of_ble_eq_true rfl) dX7_copyingRefusal_16 rfl (fun z3 => ?_)
    refine p_if (fun c4 => ?_) (fun c4 => ?_)
    · refine p_if_ne_f (tgt := 24) dX7_copyingRefusal_19 (by decide) rfl c4 ?_
      refine p_iconst (v := (0 : Int32)) kiconst_0 dX7_copyingRefusal_22 rfl ?_
      exact p_iret rfl rfl dX7_copyingRefusal_23
    · refine p_if_ne_t (tgt := 24) dX7_copyingRefusal_19 (by decide) c4 ?_
      refine p_iload_n rfl dX7_copyingRefusal_24 rfl ?_
      refine p_iload_n rfl dX7_copyingRefusal_25 rfl ?_
      refine p_jn (fun j6 => ∀ (x5 : Int32), PW UX ROX l R7_copyingRefusal cX7_copyingRefusal 3 (some .int) RX7 (qEr h) 51 [some (.ref p0), some (.int p1), some (.int p2)] [.int x5] h (j6 x5)) (fun x5 => ?_) (fun j6 J7 => ?_)
      · exact p_iret rfl rfl dX7_copyingRefusal_51
      · refine p_if (fun c8 => ?_) (fun c8 => ?_)
        · refine p_icmp_eq_t (tgt := 46) dX7_copyingRefusal_26 (by decide) c8 ?_
          refine p_iconst (v := (2 : Int32)) kiconst_2 dX7_copyingRefusal_46 rfl ?_
          refine p_goto (tgt := 51) dX7_copyingRefusal_47 (by decide) ?_
          exact J7 (2 : Int32)
        · refine p_icmp_eq_f (tgt := 46) dX7_copyingRefusal_26 (by decide) rfl c8 ?_
          refine p_aload_n rfl dX7_copyingRefusal_29 rfl ?_
          refine p_getr qg_RX7_18 (uX_Stage hp0) rfl dX7_copyingRefusal_30 rfl ?_
          refine p_iload_n rfl dX7_copyingRefusal_33 rfl ?_
          refine p_iald (uX_Stage_3 hp0) dX7_copyingRefusal_34 rfl (fun _ => ?_)
          refine p_if (fun c9 => ?_) (fun c9 => ?_)
          · refine p_if_ne_f (tgt := 46) dX7_copyingRefusal_35 (by decide) rfl c9 ?_
            refine p_aload_n rfl dX7_copyingRefusal_38 rfl ?_
            refine p_iload_n rfl dX7_copyingRefusal_39 rfl ?_
            refine p_callVr (f := f7_filesOn p0 p1) (st := []) [.int p1] qRokX (m7_filesOn l hp0 p1) cal_RX7_121 (uX_Stage hp0) rfl rfl ⟨rfl, rfl⟩ ⟨Nat.le_of_ble_eq_true rfl, Nat.le_of_ble_eq_true rfl⟩ (Nat.le_of_ble_eq_true rfl) dX7_copyingRefusal_40 rfl (fun z10 => ?_)
            refine p_if (fun c11 => ?_) (fun c11 => ?_)
            · refine p_if_ne_f (tgt := 50) dX7_copyingRefusal_43 (by decide) rfl c11 ?_
              refine p_iconst (v := (2 : Int32)) kiconst_2 dX7_copyingRefusal_46 rfl ?_
              refine p_goto (tgt := 51) dX7_copyingRefusal_47 (by decide) ?_
              exact J7 (2 : Int32)
            · refine p_if_ne_t (tgt := 50) dX7_copyingRefusal_43 (by decide) c11 ?_
              refine p_iconst (v := (-1 : Int32)) kiconst_m1 dX7_copyingRefusal_50 rfl ?_
              exact J7 (-1 : Int32)
          · refine p_if_ne_t (tgt := 46) dX7_copyingRefusal_35 (by decide) c9 ?_
            refine p_iconst (v := (2 : Int32)) kiconst_2 dX7_copyingRefusal_46 rfl ?_
            refine p_goto (tgt := 51) dX7_copyingRefusal_47 (by decide) ?_
            exact J7 (2 : Int32)
