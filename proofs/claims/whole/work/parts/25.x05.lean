noncomputable def f7_lowestEmptyDrive_L2 (p0 : Nat) (h : qH) (k : Int32 → Option (Int32)) : Nat → Int32 → Option (Int32)
  | 0, _ => none
  | n + 1, x1 =>
    if (h.1 7 1) ≤ x1 then (
      k x1)
    else (
      (f7_tapeIn p0 x1 h).bind fun (z3 : Int32) =>
      if z3 = (-1 : Int32) then (
        some x1)
      else (
        qlt (x1 + (1 : Int32)) fun (x5 : Int32) =>
        f7_lowestEmptyDrive_L2 p0 h k n x5))
set_option maxRecDepth 100000 in
set_option maxHeartbeats 4000000 in
theorem w7_lowestEmptyDrive_L2 (l : Launch) (p0 : Nat) (h : qH) (hp0 : kStage p0) {k : Int32 → Option (Int32)} (hk : ∀ (x1 : Int32), PW UX ROX l R7_lowestEmptyDrive cX7_lowestEmptyDrive 2 (some .int) RX7 (qEr h) 32 [some (.ref p0), some (.int x1)] [] h (k x1)) : ∀ (n : Nat) (x1 : Int32), PW UX ROX l R7_lowestEmptyDrive cX7_lowestEmptyDrive 2 (some .int) RX7 (qEr h) 2 [some (.ref p0), some (.int x1)] [] h (f7_lowestEmptyDrive_L2 p0 h k n x1) := by
  intro n
  induction n with
  | zero => intro _; exact p_none
  | succ n ih =>
    intro x1
    unfold f7_lowestEmptyDrive_L2
    refine p_iload_n rfl dX7_lowestEmptyDrive_2 rfl ?_
    refine p_aload_n rfl dX7_lowestEmptyDrive_3 rfl ?_
    refine p_getr qg_RX7_45 (uX_Stage hp0) rfl dX7_lowestEmptyDrive_4 rfl ?_
    refine p_getr qg_RX7_206 uX_6 rfl dX7_lowestEmptyDrive_7 rfl ?_
    refine p_iconst (v := (1 : Int32)) kiconst_1 dX7_lowestEmptyDrive_10 rfl ?_
    refine p_ialdK uX_7 kix_1 kqin_1_8 dX7_lowestEmptyDrive_11 rfl ?_
    refine p_if (fun c2 => ?_) (fun c2 => ?_)
    · refine p_icmp_ge_t (tgt := 32) dX7_lowestEmptyDrive_12 (by decide) c2 ?_
      exact hk x1
    · refine p_icmp_ge_f (tgt := 32) dX7_lowestEmptyDrive_12 (by decide) rfl c2 ?_
      refine p_aload_n rfl dX7_lowestEmptyDrive_15 rfl ?_
      refine p_iload_n rfl dX7_lowestEmptyDrive_16 rfl ?_
      refine p_callVr (f := f7_tapeIn p0 x1) (st := []) [.int x1] qRokX (m7_tapeIn l hp0 x1) cal_RX7_243 (uX_Stage hp0) rfl rfl ⟨rfl, rfl⟩ ⟨Nat.le_of_ble_eq_true rfl, Nat.le_of_ble_eq_true rfl⟩ (Nat.le_of_ble_eq_true rfl) dX7_lowestEmptyDrive_17 rfl (fun z3 => ?_)
      refine p_iconst (v := (-1 : Int32)) kiconst_m1 dX7_lowestEmptyDrive_20 rfl ?_
      refine p_if (fun c4 => ?_) (fun c4 => ?_)
      · refine p_icmp_ne_f (tgt := 26) dX7_lowestEmptyDrive_21 (by decide) rfl c4 ?_
        refine p_iload_n rfl dX7_lowestEmptyDrive_24 rfl ?_
        exact p_iret rfl rfl dX7_lowestEmptyDrive_25
      · refine p_icmp_ne_t (tgt := 26) dX7_lowestEmptyDrive_21 (by decide) c4 ?_
        refine p_iiN (v := (1 : Int32)) (lf := fun x5 => [some (.ref p0), some (.int x5)]) kiconst_1 dX7_lowestEmptyDrive_26 rfl rfl rfl rfl (fun _ => rfl) (fun x5 => ?_)
        refine p_goto (tgt := 2) dX7_lowestEmptyDrive_29 (by decide) ?_
        exact ih x5
noncomputable def f7_lowestEmptyDrive (p0 : Nat) (h : qH) : Option (Int32) :=
  f7_lowestEmptyDrive_L2 p0 h (fun (x6 : Int32) =>
    some (-1 : Int32)) qN (0 : Int32)
set_option maxRecDepth 100000 in
set_option maxHeartbeats 4000000 in
theorem m7_lowestEmptyDrive (l : Launch) {p0 : Nat} (hp0 : kStage p0) : qMet UX ROX l yX7_lowestEmptyDrive (qws yX7_lowestEmptyDrive cX7_lowestEmptyDrive 2 (some .int)) R7_lowestEmptyDrive [.ref p0] (f7_lowestEmptyDrive p0) qEr := by
  refine q_met (own := RX7) 1 (by decide) rfl (Nat.le_of_ble_eq_true rfl) (ls := [some (.ref p0), none]) rfl fun h => ?_
  unfold f7_lowestEmptyDrive
  refine p_iconst (v := (0 : Int32)) kiconst_0 dX7_lowestEmptyDrive_0 rfl ?_
  refine p_is_n (ls' := [some (.ref p0), some (.int (0 : Int32))]) dX7_lowestEmptyDrive_1 rfl rfl rfl rfl ?_
  refine w7_lowestEmptyDrive_L2 l p0 h hp0 (fun x6 => ?_) qN _
  refine p_iconst (v := (-1 : Int32)) kiconst_m1 dX7_lowestEmptyDrive_32 rfl ?_
  exact p_iret rfl rfl dX7_lowestEmptyDrive_33
noncomputable def f7_putAway (p0 : Nat) (p1 : Int32) (h : qH) : Option (Int32 × qH) :=
  (f4_isTape 6 p1 h).bind fun (z1 : Int32) =>
  if z1 = 0 then (
    some ((0 : Int32), h))
  else (
    qg (qin p1 8) <|
    qlt (h.1 (p0 + 1) (ix p1)) fun (x3 : Int32) =>
    qlt ((h.1 7 0) + x3) fun (x4 : Int32) =>
    qg (qin p1 8) <|
    (f4_seekTime 6 (h.1 (p0 + 2) (ix p1)) (0 : Int32) h).bind fun (z5 : Int32) =>
    qlt (qw h p0 2 ((h.1 p0 2) + (z5 + (h.1 7 4)))) fun (h6 : qH) =>
    (f4_armTime 6 (h6.1 p0 3) x4 h6).bind fun (z7 : Int32) =>
    (f4_armTime 6 x4 p1 h6).bind fun (z8 : Int32) =>
    qlt (qw h6 p0 2 ((h6.1 p0 2) + (z7 + z8))) fun (h9 : qH) =>
    qlt (qw h9 p0 3 p1) fun (h10 : qH) =>
    qg (qin p1 8) <|
    qlt (qw h10 (p0 + 1) (ix p1) (-1 : Int32)) fun (h11 : qH) =>
    qg (qin p1 8) <|
    qlt (qw h11 (p0 + 2) (ix p1) (0 : Int32)) fun (h12 : qH) =>
    some (x3, h12))
set_option maxRecDepth 100000 in
set_option maxHeartbeats 4000000 in
theorem m7_putAway (l : Launch) {p0 : Nat} (hp0 : kStage p0) (p1 : Int32) : qMet UX ROX l yX7_putAway (qws yX7_putAway cX7_putAway 4 (some .int)) R7_putAway [.ref p0, .int p1] (f7_putAway p0 p1) qEw := by
  refine q_met (own := RX7) 2 (by decide) rfl (Nat.le_of_ble_eq_true rfl) (ls := [some (.ref p0), some (.int p1), none, none]) rfl fun h => ?_
  unfold f7_putAway
  show PW UX ROX l R7_putAway cX7_putAway 4 (some .int) RX7 (qEw h) 0 [some (.ref p0), some (.int p1), none, none] [] h _
  refine p_aload_n rfl dX7_putAway_0 rfl ?_
  refine p_getr qg_RX7_45 (uX_Stage hp0) rfl dX7_putAway_1 rfl ?_
  refine p_iload_n rfl dX7_putAway_4 rfl ?_
  refine p_callVr (f := f4_isTape 6 p1) (st := []) [.int p1] qRokX (m4_isTape l (kPlan_6) p1) cal_RX7_75 uX_6 rfl rfl ⟨rfl, rfl⟩ ⟨Nat.le_of_ble_eq_true rfl, Nat.le_of_ble_eq_true rfl⟩ (Nat.le_of_ble_eq_true rfl) dX7_putAway_5 rfl (fun z1 => ?_)
  refine p_if (fun c2 => ?_) (fun c2 => ?_)
  · refine p_if_ne_f (tgt := 13) dX7_putAway_8 (by decide) rfl c2 ?_
    refine p_iconst (v := (0 : Int32)) kiconst_0 dX7_putAway_11 rfl ?_
    exact p_iret rfl rfl dX7_putAway_12
  · refine p_if_ne_t (tgt := 13) dX7_putAway_8 (by decide) c2 ?_
    refine p_aload_n rfl dX7_putAway_13 rfl ?_
    refine p_getr qg_RX7_9 (uX_Stage hp0) rfl dX7_putAway_14 rfl ?_
    refine p_iload_n rfl dX7_putAway_17 rfl ?_
    refine p_iald (uX_Stage_1 hp0) dX7_putAway_18 rfl (fun _ => ?_)
    refine p_isN_n (lf := fun x3 => [some (.ref p0), some (.int p1), some (.int x3), none]) dX7_putAway_19 rfl rfl rfl (fun _ => rfl) (fun x3 => ?_)
    refine p_aload_n rfl dX7_putAway_20 rfl ?_
    refine p_getr qg_RX7_45 (uX_Stage hp0) rfl dX7_putAway_21 rfl ?_
    refine p_getr qg_RX7_206 uX_6 rfl dX7_putAway_24 rfl ?_
    refine p_iconst (v := (0 : Int32)) kiconst_0 dX7_putAway_27 rfl ?_
    refine p_ialdK uX_7 kix_0 kqin_0_8 dX7_putAway_28 rfl ?_
    refine p_iload_n rfl dX7_putAway_29 rfl ?_
    refine p_iadd dX7_putAway_30 rfl ?_
    refine p_isN_n (lf := fun x4 => [some (.ref p0), some (.int p1), some (.int x3), some (.int x4)]) dX7_putAway_31 rfl rfl rfl (fun _ => rfl) (fun x4 => ?_)
    refine p_aload_n rfl dX7_putAway_32 rfl ?_
    refine p_dup rfl dX7_putAway_33 rfl ?_
    refine p_geti qg_RX7_53 (uX_Stage hp0) rfl dX7_putAway_34 rfl ?_
    refine p_aload_n rfl dX7_putAway_37 rfl ?_
    refine p_getr qg_RX7_45 (uX_Stage hp0) rfl dX7_putAway_38 rfl ?_
    refine p_aload_n rfl dX7_putAway_41 rfl ?_
    refine p_getr qg_RX7_15 (uX_Stage hp0) rfl dX7_putAway_42 rfl ?_
    refine p_iload_n rfl dX7_putAway_45 rfl ?_
    refine p_iald (uX_Stage_2 hp0) dX7_putAway_46 rfl (fun _ => ?_)
    refine p_iconst (v := (0 : Int32)) kiconst_0 dX7_putAway_47 rfl ?_
    refine p_callVr (f := f4_seekTime 6 (h.1 (p0 + 2) (ix p1)) (0 : Int32)) (st := [.int (h.1 p0 2), .ref p0]) [.int (h.1 (p0 + 2) (ix p1)), .int (0 : Int32)] qRokX (m4_seekTime l (kPlan_6) (h.1 (p0 + 2) (ix p1)) (0 : Int32)) cal_RX7_220 uX_6 rfl rfl ⟨rfl, rfl⟩ ⟨Nat.le_of_ble_eq_true rfl, Nat.le_of_ble_eq_true rfl⟩ (Nat.le_of_ble_eq_true rfl) dX7_putAway_48 rfl (fun z5 => ?_)
    refine p_aload_n rfl dX7_putAway_51 rfl ?_
    refine p_getr qg_RX7_45 (uX_Stage hp0) rfl dX7_putAway_52 rfl ?_
    refine p_getr qg_RX7_206 uX_6 rfl dX7_putAway_55 rfl ?_
    refine p_iconst (v := (4 : Int32)) kiconst_4 dX7_putAway_58 rfl ?_
    refine p_ialdK uX_7 kix_4 kqin_4_8 dX7_putAway_59 rfl ?_
    refine p_iadd dX7_putAway_60 rfl ?_
    refine p_iadd dX7_putAway_61 rfl ?_
    refine p_puti qokX qp_RX7_53 (uX_Stage hp0) rfl dX7_putAway_62 rfl ?_
    refine p_nmH (fun h6 => ?_)
    refine p_aload_n rfl dX7_putAway_65 rfl ?_
    refine p_dup rfl dX7_putAway_66 rfl ?_
    refine p_geti qg_RX7_53 (uX_Stage hp0) rfl dX7_putAway_67 rfl ?_
    refine p_aload_n rfl dX7_putAway_70 rfl ?_
    refine p_getr qg_RX7_45 (uX_Stage hp0) rfl dX7_putAway_71 rfl ?_
    refine p_aload_n rfl dX7_putAway_74 rfl ?_
    refine p_geti qg_RX7_57 (uX_Stage hp0) rfl dX7_putAway_75 rfl ?_
    refine p_iload_n rfl dX7_putAway_78 rfl ?_
    refine p_callVr (f := f4_armTime 6 (h6.1 p0 3) x4) (st := [.int (h6.1 p0 2), .ref p0]) [.int (h6.1 p0 3), .int x4] qRokX (m4_armTime l (kPlan_6) (h6.1 p0 3) x4) cal_RX7_209 uX_6 rfl rfl ⟨rfl, rfl⟩ ⟨Nat.le_of_ble_eq_true rfl, Nat.le_of_ble_eq_true rfl⟩ (Nat.le_of_ble_eq_true rfl) dX7_putAway_79 rfl (fun z7 => ?_)
    refine p_aload_n rfl dX7_putAway_82 rfl ?_
    refine p_getr qg_RX7_45 (uX_Stage hp0) rfl dX7_putAway_83 rfl ?_
    refine p_iload_n rfl dX7_putAway_86 rfl ?_
    refine p_iload_n rfl dX7_putAway_87 rfl ?_
    refine p_callVr (f := f4_armTime 6 x4 p1) (st := [.int z7, .int (h6.1 p0 2), .ref p0]) [.int x4, .int p1] qRokX (m4_armTime l (kPlan_6) x4 p1) cal_RX7_209 uX_6 rfl rfl ⟨rfl, rfl⟩ ⟨Nat.le_of_ble_eq_true rfl, Nat.le_of_ble_eq_true rfl⟩ (Nat.le_of_ble_eq_true rfl) dX7_putAway_88 rfl (fun z8 => ?_)
    refine p_iadd dX7_putAway_91 rfl ?_
    refine p_iadd dX7_putAway_92 rfl ?_
    refine p_puti qokX qp_RX7_53 (uX_Stage hp0) rfl dX7_putAway_93 rfl ?_
    refine p_nmH (fun h9 => ?_)
    refine p_aload_n rfl dX7_putAway_96 rfl ?_
    refine p_iload_n rfl dX7_putAway_97 rfl ?_
    refine p_puti qokX qp_RX7_57 (uX_Stage hp0) rfl dX7_putAway_98 rfl ?_
    refine p_nmH (fun h10 => ?_)
    refine p_aload_n rfl dX7_putAway_101 rfl ?_
    refine p_getr qg_RX7_9 (uX_Stage hp0) rfl dX7_putAway_102 rfl ?_
    refine p_iload_n rfl dX7_putAway_105 rfl ?_
    refine p_iconst (v := (-1 : Int32)) kiconst_m1 dX7_putAway_106 rfl ?_
    refine p_iast qokX (uX_Stage_1 hp0) dX7_putAway_107 rfl (fun _ => ?_)
    refine p_nmH (fun h11 => ?_)
    refine p_aload_n rfl dX7_putAway_108 rfl ?_
    refine p_getr qg_RX7_15 (uX_Stage hp0) rfl dX7_putAway_109 rfl ?_
    refine p_iload_n rfl dX7_putAway_112 rfl ?_
    refine p_iconst (v := (0 : Int32)) kiconst_0 dX7_putAway_113 rfl ?_
    refine p_iast qokX (uX_Stage_2 hp0) dX7_putAway_114 rfl (fun _ => ?_)
    refine p_nmH (fun h12 => ?_)
    refine p_iload_n rfl dX7_putAway_115 rfl ?_
    exact p_iret rfl rfl dX7_putAway_116
noncomputable def f7_bringIn (p0 : Nat) (p1 : Int32) (h : qH) : Option (Int32 × qH) :=
  qg (qin p1 8) <|
  if (h.1 (p0 + 1) (ix p1)) = (-1 : Int32) then (
    (f7_lowestEmptyDrive p0 h).bind fun (z2 : Int32) =>
    qj (fun (x3 : Int32) (h4 : qH) =>
      qlt ((h4.1 7 0) + x3) fun (x7 : Int32) =>
      (f4_armTime 6 (h4.1 p0 3) p1 h4).bind fun (z8 : Int32) =>
      (f4_armTime 6 p1 x7 h4).bind fun (z9 : Int32) =>
      qlt (qw h4 p0 2 ((h4.1 p0 2) + ((z8 + z9) + (h4.1 7 4)))) fun (h10 : qH) =>
      qlt (qw h10 p0 3 x7) fun (h11 : qH) =>
      qg (qin p1 8) <|
      qlt (qw h11 (p0 + 1) (ix p1) x3) fun (h12 : qH) =>
      qg (qin p1 8) <|
      qlt (qw h12 (p0 + 2) (ix p1) (0 : Int32)) fun (h13 : qH) =>
      qg (qin p1 8) <|
      qg (qin p1 8) <|
      qlt (qw h13 (p0 + 4) (ix p1) (if (99 : Int32) < ((h13.1 (p0 + 4) (ix p1)) + (1 : Int32)) then (99 : Int32) else ((h13.1 (p0 + 4) (ix p1)) + (1 : Int32)))) fun (h14 : qH) =>
      qg (qin p1 8) <|
      qlt (qw h14 (p0 + 6) (ix p1) (h14.1 p0 2)) fun (h15 : qH) =>
      qlt (qw h15 p0 6 ((h15.1 p0 6) + (1 : Int32))) fun (h16 : qH) =>
      some (x3, h16)) fun j5 =>
    if z2 = (-1 : Int32) then (
      (f7_longestUnused p0 h).bind fun (z18 : Int32) =>
      qb2 (f7_putAway p0 z18 h) fun (z19 : Int32) (h20 : qH) =>
      j5 z19 h20)
    else (
      j5 z2 h))
  else (
    qg (qin p1 8) <|
    some ((h.1 (p0 + 1) (ix p1)), h))
set_option maxRecDepth 100000 in
set_option maxHeartbeats 4000000 in
theorem m7_bringIn (l : Launch) {p0 : Nat} (hp0 : kStage p0) (p1 : Int32) : qMet UX ROX l yX7_bringIn (qws yX7_bringIn cX7_bringIn 4 (some .int)) R7_bringIn [.ref p0, .int p1] (f7_bringIn p0 p1) qEw := by
  refine q_met (own := RX7) 2 (by decide) rfl (Nat.le_of_ble_eq_true rfl) (ls := [some (.ref p0), some (.int p1), none, none]) rfl fun h => ?_
  unfold f7_bringIn
  show PW UX ROX l R7_bringIn cX7_bringIn 4 (some .int) RX7 (qEw h) 0 [some (.ref p0), some (.int p1), none, none] [] h _
  refine p_aload_n rfl dX7_bringIn_0 rfl ?_
  refine p_getr qg_RX7_9 (uX_Stage hp0) rfl dX7_bringIn_1 rfl ?_
  refine p_iload_n rfl dX7_bringIn_4 rfl ?_
  refine p_iald (uX_Stage_1 hp0) dX7_bringIn_5 rfl (fun _ => ?_)
  refine p_iconst (v := (-1 : Int32)) kiconst_m1 dX7_bringIn_6 rfl ?_
  refine p_if (fun c1 => ?_) (fun c1 => ?_)
  · refine p_icmp_eq_t (tgt := 17) dX7_bringIn_7 (by decide) c1 ?_
    refine p_aload_n rfl dX7_bringIn_17 rfl ?_
    refine p_callVr (f := f7_lowestEmptyDrive p0) (st := []) [] qRokX (m7_lowestEmptyDrive l hp0) cal_RX7_200 (uX_Stage hp0) rfl rfl ⟨rfl, rfl⟩ ⟨Nat.le_of_ble_eq_true rfl, Nat.le_of_ble_eq_true rfl⟩ (Nat.le_of_ble_eq_true rfl) dX7_bringIn_18 rfl (fun z2 => ?_)
    refine p_is_n (ls' := [some (.ref p0), some (.int p1), some (.int z2), none]) dX7_bringIn_21 rfl rfl rfl rfl ?_
    refine p_iload_n rfl dX7_bringIn_22 rfl ?_
    refine p_iconst (v := (-1 : Int32)) kiconst_m1 dX7_bringIn_23 rfl ?_
    refine p_jn (fun j5 => ∀ (x3 : Int32) (h4 : qH), PW UX ROX l R7_bringIn cX7_bringIn 4 (some .int) RX7 (qEw h) 36 [some (.ref p0), some (.int p1), some (.int x3), none] [] h4 (j5 x3 h4)) (fun x3 h4 => ?_) (fun j5 J6 => ?_)
    · refine p_aload_n rfl dX7_bringIn_36 rfl ?_
      refine p_getr qg_RX7_45 (uX_Stage hp0) rfl dX7_bringIn_37 rfl ?_
      refine p_getr qg_RX7_206 uX_6 rfl dX7_bringIn_40 rfl ?_
      refine p_iconst (v := (0 : Int32)) kiconst_0 dX7_bringIn_43 rfl ?_
      refine p_ialdK uX_7 kix_0 kqin_0_8 dX7_bringIn_44 rfl ?_
      refine p_iload_n rfl dX7_bringIn_45 rfl ?_
      refine p_iadd dX7_bringIn_46 rfl ?_
      refine p_isN_n (lf := fun x7 => [some (.ref p0), some (.int p1), some (.int x3), some (.int x7)]) dX7_bringIn_47 rfl rfl rfl (fun _ => rfl) (fun x7 => ?_)
      refine p_aload_n rfl dX7_bringIn_48 rfl ?_
      refine p_dup rfl dX7_bringIn_49 rfl ?_
      refine p_geti qg_RX7_53 (uX_Stage hp0) rfl dX7_bringIn_50 rfl ?_
      refine p_aload_n rfl dX7_bringIn_53 rfl ?_
      refine p_getr qg_RX7_45 (uX_Stage hp0) rfl dX7_bringIn_54 rfl ?_
      refine p_aload_n rfl dX7_bringIn_57 rfl ?_
      refine p_geti qg_RX7_57 (uX_Stage hp0) rfl dX7_bringIn_58 rfl ?_
      refine p_iload_n rfl dX7_bringIn_61 rfl ?_
      refine p_callVr (f := f4_armTime 6 (h4.1 p0 3) p1) (st := [.int (h4.1 p0 2), .ref p0]) [.int (h4.1 p0 3), .int p1] qRokX (m4_armTime l (kPlan_6) (h4.1 p0 3) p1) cal_RX7_209 uX_6 rfl rfl ⟨rfl, rfl⟩ ⟨Nat.le_of_ble_eq_true rfl, Nat.le_of_ble_eq_true rfl⟩ (Nat.le_of_ble_eq_true rfl) dX7_bringIn_62 rfl (fun z8 => ?_)
      refine p_aload_n rfl dX7_bringIn_65 rfl ?_
      refine p_getr qg_RX7_45 (uX_Stage hp0) rfl dX7_bringIn_66 rfl ?_
      refine p_iload_n rfl dX7_bringIn_69 rfl ?_
      refine p_iload_n rfl dX7_bringIn_70 rfl ?_
      refine p_callVr (f := f4_armTime 6 p1 x7) (st := [.int z8, .int (h4.1 p0 2), .ref p0]) [.int p1, .int x7] qRokX (m4_armTime l (kPlan_6) p1 x7) cal_RX7_209 uX_6 rfl rfl ⟨rfl, rfl⟩ ⟨Nat.le_of_ble_eq_true rfl, Nat.le_of_ble_eq_true rfl⟩ (Nat.le_of_ble_eq_true rfl) dX7_bringIn_71 rfl (fun z9 => ?_)
      refine p_iadd dX7_bringIn_74 rfl ?_
      refine p_aload_n rfl dX7_bringIn_75 rfl ?_
      refine p_getr qg_RX7_45 (uX_Stage hp0) rfl dX7_bringIn_76 rfl ?_
      refine p_getr qg_RX7_206 uX_6 rfl dX7_bringIn_79 rfl ?_
      refine p_iconst (v := (4 : Int32)) kiconst_4 dX7_bringIn_82 rfl ?_
      refine p_ialdK uX_7 kix_4 kqin_4_8 dX7_bringIn_83 rfl ?_
      refine p_iadd dX7_bringIn_84 rfl ?_
      refine p_iadd dX7_bringIn_85 rfl ?_
      refine p_puti qokX qp_RX7_53 (uX_Stage hp0) rfl dX7_bringIn_86 rfl ?_
      refine p_nmH (fun h10 => ?_)
      refine p_aload_n rfl dX7_bringIn_89 rfl ?_
      refine p_iload_n rfl dX7_bringIn_90 rfl ?_
      refine p_puti qokX qp_RX7_57 (uX_Stage hp0) rfl dX7_bringIn_91 rfl ?_
      refine p_nmH (fun h11 => ?_)
      refine p_aload_n rfl dX7_bringIn_94 rfl ?_
      refine p_getr qg_RX7_9 (uX_Stage hp0) rfl dX7_bringIn_95 rfl ?_
      refine p_iload_n rfl dX7_bringIn_98 rfl ?_
      refine p_iload_n rfl dX7_bringIn_99 rfl ?_
      refine p_iast qokX (uX_Stage_1 hp0) dX7_bringIn_100 rfl (fun _ => ?_)
      refine p_nmH (fun h12 => ?_)
      refine p_aload_n rfl dX7_bringIn_101 rfl ?_
      refine p_getr qg_RX7_15 (uX_Stage hp0) rfl dX7_bringIn_102 rfl ?_
      refine p_iload_n rfl dX7_bringIn_105 rfl ?_
      refine p_iconst (v := (0 : Int32)) kiconst_0 dX7_bringIn_106 rfl ?_
      refine p_iast qokX (uX_Stage_2 hp0) dX7_bringIn_107 rfl (fun _ => ?_)
      refine p_nmH (fun h13 => ?_)
      refine p_aload_n rfl dX7_bringIn_108 rfl ?_
      refine p_getr qg_RX7_21 (uX_Stage hp0) rfl dX7_bringIn_109 rfl ?_
      refine p_iload_n rfl dX7_bringIn_112 rfl ?_
      refine p_aload_n rfl dX7_bringIn_113 rfl ?_
      refine p_getr qg_RX7_21 (uX_Stage hp0) rfl dX7_bringIn_114 rfl ?_
      refine p_iload_n rfl dX7_bringIn_117 rfl ?_
      refine p_iald (uX_Stage_4 hp0) dX7_bringIn_118 rfl (fun _ => ?_)
      refine p_iconst (v := (1 : Int32)) kiconst_1 dX7_bringIn_119 rfl ?_
      refine p_iadd dX7_bringIn_120 rfl ?_
      refine p_bipush (v := (99 : Int32)) kbipush_99 dX7_bringIn_121 rfl ?_
      refine p_min qmin_RX7_212 ⟨Nat.le_of_ble_eq_true rfl, Nat.le_of_ble_eq_true rfl⟩ dX7_bringIn_123 rfl ?_
      refine p_iast qokX (uX_Stage_4 hp0) dX7_bringIn_126 rfl (fun _ => ?_)
      refine p_nmH (fun h14 => ?_)
      refine p_aload_n rfl dX7_bringIn_127 rfl ?_
      refine p_getr qg_RX7_27 (uX_Stage hp0) rfl dX7_bringIn_128 rfl ?_
      refine p_iload_n rfl dX7_bringIn_131 rfl ?_
      refine p_aload_n rfl dX7_bringIn_132 rfl ?_
      refine p_geti qg_RX7_53 (uX_Stage hp0) rfl dX7_bringIn_133 rfl ?_
      refine p_iast qokX (uX_Stage_6 hp0) dX7_bringIn_136 rfl (fun _ => ?_)
      refine p_nmH (fun h15 => ?_)
      refine p_aload_n rfl dX7_bringIn_137 rfl ?_
      refine p_dup rfl dX7_bringIn_138 rfl ?_
      refine p_geti qg_RX7_217 (uX_Stage hp0) rfl dX7_bringIn_139 rfl ?_
      refine p_iconst (v := (1 : Int32)) kiconst_1 dX7_bringIn_142 rfl ?_
      refine p_iadd dX7_bringIn_143 rfl ?_
      refine p_puti qokX qp_RX7_217 (uX_Stage hp0) rfl dX7_bringIn_144 rfl ?_
      refine p_nmH (fun h16 => ?_)
      refine p_iload_n rfl dX7_bringIn_147 rfl ?_
      exact p_iret rfl rfl dX7_bringIn_148
    · refine p_if (fun c17 => ?_) (fun c17 => ?_)
      · refine p_icmp_ne_f (tgt := 36) dX7_bringIn_24 (by decide) rfl c17 ?_
        refine p_aload_n rfl dX7_bringIn_27 rfl ?_
        refine p_aload_n rfl dX7_bringIn_28 rfl ?_
        refine p_callVr (f := f7_longestUnused p0) (st := [.ref p0]) [] qRokX (m7_longestUnused l hp0) cal_RX7_203 (uX_Stage hp0) rfl rfl ⟨rfl, rfl⟩ ⟨Nat.le_of_ble_eq_true rfl, Nat.le_of_ble_eq_true rfl⟩ (Nat.le_of_ble_eq_true rfl) dX7_bringIn_29 rfl (fun z18 => ?_)
        refine p_cVw (f := f7_putAway p0 z18) (st := []) [.int z18] qRokX (m7_putAway l hp0 z18) cal_RX7_154 (uX_Stage hp0) rfl rfl ⟨rfl, rfl⟩ ⟨Nat.le_of_ble_eq_true rfl, Nat.le_of_ble_eq_true rfl⟩ (Nat.le_of_ble_eq_true rfl) dX7_bringIn_32 rfl (fun z19 h20 => ?_)
        refine p_is_n (ls' := [some (.ref p0), some (.int p1), some (.int z19), none]) dX7_bringIn_35 rfl rfl rfl rfl ?_
        exact J6 z19 h20
      · refine p_icmp_ne_t (tgt := 36) dX7_bringIn_24 (by decide) c17 ?_
        exact J6 z2 h
  · refine p_icmp_eq_f (tgt := 17) dX7_bringIn_7 (by decide) rfl c1 ?_
    refine p_aload_n rfl dX7_bringIn_10 rfl ?_
    refine p_getr qg_RX7_9 (uX_Stage hp0) rfl dX7_bringIn_11 rfl ?_
    refine p_iload_n rfl dX7_bringIn_14 rfl ?_
    refine p_iald (uX_Stage_1 hp0) dX7_bringIn_15 rfl (fun _ => ?_)
    exact p_iret rfl rfl dX7_bringIn_16
noncomputable def f7_firstFile_L5 (p0 : Nat) (p1 : Int32) (p2 : Int32) (h : qH) (k : Int32 → Int32 → Option (Int32)) : Nat → Int32 → Int32 → Option (Int32)
  | 0, _, _ => none
  | n + 1, x1, x2 =>
    if (h.1 p0 5) ≤ x2 then (
      k x1 x2)
    else (
      qg (qin x2 24) <|
      qj (fun (x4 : Int32) =>
        qj (fun (x7 : Int32) =>
          qlt (x2 + (1 : Int32)) fun (x10 : Int32) =>
          f7_firstFile_L5 p0 p1 p2 h k n x7 x10) fun j8 =>
        if x4 = 0 then (
          j8 x1)
        else (
          if x1 = (-1 : Int32) then (
            j8 x2)
          else (
            qg (qin x2 24) <|
            qg (qin x1 24) <|
            if (h.1 (p0 + 8) (ix x1)) ≤ (h.1 (p0 + 8) (ix x2)) then (
              j8 x1)
            else (
              j8 x2)))) fun j5 =>
      if (h.1 (p0 + 7) (ix x2)) = p1 then (
        qg (qin x2 24) <|
        if (h.1 (p0 + 8) (ix x2)) < p2 then (
          j5 (0 : Int32))
        else (
          j5 (1 : Int32)))
      else (
        j5 (0 : Int32)))
set_option maxRecDepth 100000 in
set_option maxHeartbeats 4000000 in
theorem w7_firstFile_L5 (l : Launch) (p0 : Nat) (p1 : Int32) (p2 : Int32) (h : qH) (hp0 : kStage p0) {k : Int32 → Int32 → Option (Int32)} (hk : ∀ (x1 : Int32) (x2 : Int32), PW UX ROX l R7_firstFile cX7_firstFile 6 (some .int) RX7 (qEr h) 78 [some (.ref p0), some (.int p1), some (.int p2), some (.int x1), some (.int x2), none] [] h (k x1 x2)) : ∀ (n : Nat) (x1 : Int32) (x2 : Int32), PW UX ROX l R7_firstFile cX7_firstFile 6 (some .int) RX7 (qEr h) 5 [some (.ref p0), some (.int p1), some (.int p2), some (.int x1), some (.int x2), none] [] h (f7_firstFile_L5 p0 p1 p2 h k n x1 x2) := by
  intro n
  induction n with
  | zero => intro _ _; exact p_none
  | succ n ih =>
    intro x1 x2
    unfold f7_firstFile_L5
    refine p_iload rfl dX7_firstFile_5 rfl ?_
    refine p_aload_n rfl dX7_firstFile_7 rfl ?_
    refine p_geti qg_RX7_63 (uX_Stage hp0) rfl dX7_firstFile_8 rfl ?_
    refine p_if (fun c3 => ?_) (fun c3 => ?_)
    · refine p_icmp_ge_t (tgt := 78) dX7_firstFile_11 (by decide) c3 ?_
      exact hk x1 x2
    · refine p_icmp_ge_f (tgt := 78) dX7_firstFile_11 (by decide) rfl c3 ?_
      refine p_aload_n rfl dX7_firstFile_14 rfl ?_
      refine p_getr qg_RX7_30 (uX_Stage hp0) rfl dX7_firstFile_15 rfl ?_
      refine p_iload rfl dX7_firstFile_18 rfl ?_
      refine p_iald (uX_Stage_7 hp0) dX7_firstFile_20 rfl (fun _ => ?_)
      refine p_iload_n rfl dX7_firstFile_21 rfl ?_
      refine p_jn (fun j5 => ∀ (x4 : Int32), PW UX ROX l R7_firstFile cX7_firstFile 6 (some .int) RX7 (qEr h) 41 [some (.ref p0), some (.int p1), some (.int p2), some (.int x1), some (.int x2), none] [.int x4] h (j5 x4)) (fun x4 => ?_) (fun j5 J6 => ?_)
      · refine p_is (ls' := [some (.ref p0), some (.int p1), some (.int p2), some (.int x1), some (.int x2), some (.int x4)]) dX7_firstFile_41 rfl rfl rfl rfl ?_
        refine p_iload rfl dX7_firstFile_43 rfl ?_
        refine p_jn (fun j8 => ∀ (x7 : Int32), PW UX ROX l R7_firstFile cX7_firstFile 6 (some .int) RX7 (qEr h) 72 [some (.ref p0), some (.int p1), some (.int p2), some (.int x7), some (.int x2), some (.int x4)] [] h (j8 x7)) (fun x7 => ?_) (fun j8 J9 => ?_)
        · refine p_iiN (v := (1 : Int32)) (lf := fun x10 => [some (.ref p0), some (.int p1), some (.int p2), some (.int x7), some (.int x10), some (.int x4)]) kiconst_1 dX7_firstFile_72 rfl rfl rfl rfl (fun _ => rfl) (fun x10 => ?_)
          refine p_goto (tgt := 5) dX7_firstFile_75 (by decide) ?_
          exact p_wk (ls' := [some (.ref p0), some (.int p1), some (.int p2), some (.int x7), some (.int x10), none]) ⟨rfl, rfl, rfl, rfl, rfl, trivial⟩ (ih x7 x10)
        · refine p_if (fun c11 => ?_) (fun c11 => ?_)
          · refine p_if_eq_t (tgt := 72) dX7_firstFile_45 (by decide) c11 ?_
            exact J9 x1
          · refine p_if_eq_f (tgt := 72) dX7_firstFile_45 (by decide) rfl c11 ?_
            refine p_iload_n rfl dX7_firstFile_48 rfl ?_
            refine p_iconst (v := (-1 : Int32)) kiconst_m1 dX7_firstFile_49 rfl ?_
            refine p_if (fun c12 => ?_) (fun c12 => ?_)
            · refine p_icmp_eq_t (tgt := 69) dX7_firstFile_50 (by decide) c12 ?_
              refine p_iload rfl dX7_firstFile_69 rfl ?_
              refine p_is_n (ls' := [some (.ref p0), some (.int p1), some (.int p2), some (.int x2), some (.int x2), some (.int x4)]) dX7_firstFile_71 rfl rfl rfl rfl ?_
              exact J9 x2
            · refine p_icmp_eq_f (tgt := 69) dX7_firstFile_50 (by decide) rfl c12 ?_
              refine p_aload_n rfl dX7_firstFile_53 rfl ?_
              refine p_getr qg_RX7_33 (uX_Stage hp0) rfl dX7_firstFile_54 rfl ?_
              refine p_iload rfl dX7_firstFile_57 rfl ?_
              refine p_iald (uX_Stage_8 hp0) dX7_firstFile_59 rfl (fun _ => ?_)
              refine p_aload_n rfl dX7_firstFile_60 rfl ?_
              refine p_getr qg_RX7_33 (uX_Stage hp0) rfl dX7_firstFile_61 rfl ?_
              refine p_iload_n rfl dX7_firstFile_64 rfl ?_
              refine p_iald (uX_Stage_8 hp0) dX7_firstFile_65 rfl (fun _ => ?_)
              refine p_if (fun c13 => ?_) (fun c13 => ?_)
              · refine p_icmp_ge_t (tgt := 72) dX7_firstFile_66 (by decide) c13 ?_
                exact J9 x1
              · refine p_icmp_ge_f (tgt := 72) dX7_firstFile_66 (by decide) rfl c13 ?_
                refine p_iload rfl dX7_firstFile_69 rfl ?_
                refine p_is_n (ls' := [some (.ref p0), some (.int p1), some (.int p2), some (.int x2), some (.int x2), some (.int x4)]) dX7_firstFile_71 rfl rfl rfl rfl ?_
                exact J9 x2
      · refine p_if (fun c14 => ?_) (fun c14 => ?_)
        · refine p_icmp_ne_f (tgt := 40) dX7_firstFile_22 (by decide) rfl c14 ?_
          refine p_aload_n rfl dX7_firstFile_25 rfl ?_
          refine p_getr qg_RX7_33 (uX_Stage hp0) rfl dX7_firstFile_26 rfl ?_
          refine p_iload rfl dX7_firstFile_29 rfl ?_
          refine p_iald (uX_Stage_8 hp0) dX7_firstFile_31 rfl (fun _ => ?_)
          refine p_iload_n rfl dX7_firstFile_32 rfl ?_
          refine p_if (fun c15 => ?_) (fun c15 => ?_)
          · refine p_icmp_lt_t (tgt := 40) dX7_firstFile_33 (by decide) c15 ?_
            refine p_iconst (v := (0 : Int32)) kiconst_0 dX7_firstFile_40 rfl ?_
            exact J6 (0 : Int32)
          · refine p_icmp_lt_f (tgt := 40) dX7_firstFile_33 (by decide) rfl c15 ?_
            refine p_iconst (v := (1 : Int32)) kiconst_1 dX7_firstFile_36 rfl ?_
            refine p_goto (tgt := 41) dX7_firstFile_37 (by decide) ?_
            exact J6 (1 : Int32)
        · refine p_icmp_ne_t (tgt := 40) dX7_firstFile_22 (by decide) c14 ?_
          refine p_iconst (v := (0 : Int32)) kiconst_0 dX7_firstFile_40 rfl ?_
          exact J6 (0 : Int32)
noncomputable def f7_firstFile (p0 : Nat) (p1 : Int32) (p2 : Int32) (h : qH) : Option (Int32) :=
  f7_firstFile_L5 p0 p1 p2 h (fun (x16 : Int32) (x17 : Int32) =>
    some x16) qN (-1 : Int32) (0 : Int32)
set_option maxRecDepth 100000 in
set_option maxHeartbeats 4000000 in
theorem m7_firstFile (l : Launch) {p0 : Nat} (hp0 : kStage p0) (p1 : Int32) (p2 : Int32) : qMet UX ROX l yX7_firstFile (qws yX7_firstFile cX7_firstFile 6 (some .int)) R7_firstFile [.ref p0, .int p1, .int p2] (f7_firstFile p0 p1 p2) qEr := by
  refine q_met (own := RX7) 3 (by decide) rfl (Nat.le_of_ble_eq_true rfl) (ls := [some (.ref p0), some (.int p1), some (.int p2), none, none, none]) rfl fun h => ?_
  unfold f7_firstFile
  refine p_iconst (v := (-1 : Int32)) kiconst_m1 dX7_firstFile_0 rfl ?_
  refine p_is_n (ls' := [some (.ref p0), some (.int p1), some (.int p2), some (.int (-1 : Int32)), none, none]) dX7_firstFile_1 rfl rfl rfl rfl ?_
  refine p_iconst (v := (0 : Int32)) kiconst_0 dX7_firstFile_2 rfl ?_
  refine p_is (ls' := [some (.ref p0), some (.int p1), some (.int p2), some (.int (-1 : Int32)), some (.int (0 : Int32)), none]) dX7_firstFile_3 rfl rfl rfl rfl ?_
  refine w7_firstFile_L5 l p0 p1 p2 h hp0 (fun x16 x17 => ?_) qN _ _
  refine p_iload_n rfl dX7_firstFile_78 rfl ?_
  exact p_iret rfl rfl dX7_firstFile_79
noncomputable def f7_writeRow (p0 : Nat) (p1 : Int32) (p2 : Int32) (p3 : Int32) (h : qH) : Option (qH) :=
  qg (qin p1 8) <|
  (f4_seekTime 6 (h.1 (p0 + 2) (ix p1)) p2 h).bind fun (z1 : Int32) =>
  qlt (qw h p0 2 ((h.1 p0 2) + (z1 + p3))) fun (h2 : qH) =>
  qg (qin p1 8) <|
  qlt (qw h2 (p0 + 2) (ix p1) ((p2 + p3) - (1 : Int32))) fun (h3 : qH) =>
  qg (qin p1 8) <|
  qlt (qw h3 (p0 + 6) (ix p1) (h3.1 p0 2)) fun (h4 : qH) =>
  some h4
set_option maxRecDepth 100000 in
set_option maxHeartbeats 4000000 in
theorem m7_writeRow (l : Launch) {p0 : Nat} (hp0 : kStage p0) (p1 : Int32) (p2 : Int32) (p3 : Int32) : qMet UX ROX l yX7_writeRow (qws yX7_writeRow cX7_writeRow 4 none) R7_writeRow [.ref p0, .int p1, .int p2, .int p3] (f7_writeRow p0 p1 p2 p3) qEv := by
  refine q_met (own := RX7) 0 (by decide) rfl (Nat.le_of_ble_eq_true rfl) (ls := [some (.ref p0), some (.int p1), some (.int p2), some (.int p3)]) rfl fun h => ?_
  unfold f7_writeRow
  show PW UX ROX l R7_writeRow cX7_writeRow 4 none RX7 (qEv h) 0 [some (.ref p0), some (.int p1), some (.int p2), some (.int p3)] [] h _
  refine p_aload_n rfl dX7_writeRow_0 rfl ?_
  refine p_dup rfl dX7_writeRow_1 rfl ?_
  refine p_geti qg_RX7_53 (uX_Stage hp0) rfl dX7_writeRow_2 rfl ?_
  refine p_aload_n rfl dX7_writeRow_5 rfl ?_
  refine p_getr qg_RX7_45 (uX_Stage hp0) rfl dX7_writeRow_6 rfl ?_
  refine p_aload_n rfl dX7_writeRow_9 rfl ?_
  refine p_getr qg_RX7_15 (uX_Stage hp0) rfl dX7_writeRow_10 rfl ?_
  refine p_iload_n rfl dX7_writeRow_13 rfl ?_
  refine p_iald (uX_Stage_2 hp0) dX7_writeRow_14 rfl (fun _ => ?_)
  refine p_iload_n rfl dX7_writeRow_15 rfl ?_
  refine p_callVr (f := f4_seekTime 6 (h.1 (p0 + 2) (ix p1)) p2) (st := [.int (h.1 p0 2), .ref p0]) [.int (h.1 (p0 + 2) (ix p1)), .int p2] qRokX (m4_seekTime l (kPlan_6) (h.1 (p0 + 2) (ix p1)) p2) cal_RX7_220 uX_6 rfl rfl ⟨rfl, rfl⟩ ⟨Nat.le_of_ble_eq_true rfl, Nat.le_of_ble_eq_true rfl⟩ (Nat.le_of_ble_eq_true rfl) dX7_writeRow_16 rfl (fun z1 => ?_)
  refine p_iload_n rfl dX7_writeRow_19 rfl ?_
  refine p_iadd dX7_writeRow_20 rfl ?_
  refine p_iadd dX7_writeRow_21 rfl ?_
  refine p_puti qokX qp_RX7_53 (uX_Stage hp0) rfl dX7_writeRow_22 rfl ?_
  refine p_nmH (fun h2 => ?_)
  refine p_aload_n rfl dX7_writeRow_25 rfl ?_
  refine p_getr qg_RX7_15 (uX_Stage hp0) rfl dX7_writeRow_26 rfl ?_
  refine p_iload_n rfl dX7_writeRow_29 rfl ?_
  refine p_iload_n rfl dX7_writeRow_30 rfl ?_
  refine p_iload_n rfl dX7_writeRow_31 rfl ?_
  refine p_iadd dX7_writeRow_32 rfl ?_
  refine p_iconst (v := (1 : Int32)) kiconst_1 dX7_writeRow_33 rfl ?_
  refine p_isub dX7_writeRow_34 rfl ?_
  refine p_iast qokX (uX_Stage_2 hp0) dX7_writeRow_35 rfl (fun _ => ?_)
  refine p_nmH (fun h3 => ?_)
  refine p_aload_n rfl dX7_writeRow_36 rfl ?_
  refine p_getr qg_RX7_27 (uX_Stage hp0) rfl dX7_writeRow_37 rfl ?_
  refine p_iload_n rfl dX7_writeRow_40 rfl ?_
  refine p_aload_n rfl dX7_writeRow_41 rfl ?_
  refine p_geti qg_RX7_53 (uX_Stage hp0) rfl dX7_writeRow_42 rfl ?_
  refine p_iast qokX (uX_Stage_6 hp0) dX7_writeRow_45 rfl (fun _ => ?_)
  refine p_nmH (fun h4 => ?_)
  exact p_vret rfl rfl dX7_writeRow_46
noncomputable def f7_readRow (p0 : Nat) (p1 : Int32) (p2 : Int32) (p3 : Int32) (h : qH) : Option (qH) :=
  (f7_writeRow p0 p1 p2 p3 h).bind fun (h1 : qH) =>
  qg (qin p1 8) <|
  qj (fun (h2 : qH) =>
    some h2) fun j3 =>
  if (h1.1 (p0 + 4) (ix p1)) ≤ (h1.1 7 6) then (
    j3 h1)
  else (
    qg (qin p1 8) <|
    qg (qin p1 8) <|
    qlt (qw h1 (p0 + 5) (ix p1) ((h1.1 (p0 + 5) (ix p1)) + p3)) fun (h6 : qH) =>
    j3 h6)
set_option maxRecDepth 100000 in
set_option maxHeartbeats 4000000 in
theorem m7_readRow (l : Launch) {p0 : Nat} (hp0 : kStage p0) (p1 : Int32) (p2 : Int32) (p3 : Int32) : qMet UX ROX l yX7_readRow (qws yX7_readRow cX7_readRow 4 none) R7_readRow [.ref p0, .int p1, .int p2, .int p3] (f7_readRow p0 p1 p2 p3) qEv := by
  refine q_met (own := RX7) 0 (by decide) rfl (Nat.le_of_ble_eq_true rfl) (ls := [some (.ref p0), some (.int p1), some (.int p2), some (.int p3)]) rfl fun h => ?_
  unfold f7_readRow
  show PW UX ROX l R7_readRow cX7_readRow 4 none RX7 (qEv h) 0 [some (.ref p0), some (.int p1), some (.int p2), some (.int p3)] [] h _
  refine p_aload_n rfl dX7_readRow_0 rfl ?_
  refine p_iload_n rfl dX7_readRow_1 rfl ?_
  refine p_iload_n rfl dX7_readRow_2 rfl ?_
  refine p_iload_n rfl dX7_readRow_3 rfl ?_
  refine p_callVv (f := f7_writeRow p0 p1 p2 p3) (st := []) [.int p1, .int p2, .int p3] qRokX (m7_writeRow l hp0 p1 p2 p3) cal_RX7_197 (uX_Stage hp0) rfl rfl ⟨rfl, rfl⟩ ⟨Nat.le_of_ble_eq_true rfl, Nat.le_of_ble_eq_true rfl⟩ (Nat.le_of_ble_eq_true rfl) dX7_readRow_4 rfl (fun h1 => ?_)
  refine p_aload_n rfl dX7_readRow_7 rfl ?_
  refine p_getr qg_RX7_21 (uX_Stage hp0) rfl dX7_readRow_8 rfl ?_
  refine p_iload_n rfl dX7_readRow_11 rfl ?_
  refine p_iald (uX_Stage_4 hp0) dX7_readRow_12 rfl (fun _ => ?_)
  refine p_aload_n rfl dX7_readRow_13 rfl ?_
  refine p_getr qg_RX7_45 (uX_Stage hp0) rfl dX7_readRow_14 rfl ?_
  refine p_getr qg_RX7_206 uX_6 rfl dX7_readRow_17 rfl ?_
  refine p_bipush (v := (6 : Int32)) kbipush_6 dX7_readRow_20 rfl ?_
  refine p_ialdK uX_7 kix_6 kqin_6_8 dX7_readRow_22 rfl ?_
  refine p_jn (fun j3 => ∀ (h2 : qH), PW UX ROX l R7_readRow cX7_readRow 4 none RX7 (qEv h) 36 [some (.ref p0), some (.int p1), some (.int p2), some (.int p3)] [] h2 (j3 h2)) (fun h2 => ?_) (fun j3 J4 => ?_)
  · exact p_vret rfl rfl dX7_readRow_36
  · refine p_if (fun c5 => ?_) (fun c5 => ?_)
    · refine p_icmp_le_t (tgt := 36) dX7_readRow_23 (by decide) c5 ?_
      exact J4 h1
    · refine p_icmp_le_f (tgt := 36) dX7_readRow_23 (by decide) rfl c5 ?_
      refine p_aload_n rfl dX7_readRow_26 rfl ?_
      refine p_getr qg_RX7_24 (uX_Stage hp0) rfl dX7_readRow_27 rfl ?_
      refine p_iload_n rfl dX7_readRow_30 rfl ?_
      refine p_dup2 rfl rfl dX7_readRow_31 rfl ?_
      refine p_iald (uX_Stage_5 hp0) dX7_readRow_32 rfl (fun _ => ?_)
      refine p_iload_n rfl dX7_readRow_33 rfl ?_
      refine p_iadd dX7_readRow_34 rfl ?_
      refine p_iast qokX (uX_Stage_5 hp0) dX7_readRow_35 rfl (fun _ => ?_)
      refine p_nmH (fun h6 => ?_)
      exact J4 h6
noncomputable def f7_copyTo_L11 (p0 : Nat) (p1 : Int32) (p2 : Int32) (k : Int32 → Int32 → qH → Option (Int32 × qH)) : Nat → Int32 → Int32 → qH → Option (Int32 × qH)
  | 0, _, _, _ => none
  | n + 1, x3, x4, h5 =>
    if (h5.1 p0 5) ≤ x4 then (
      k x3 x4 h5)
    else (
      (f7_firstFile p0 p1 x3 h5).bind fun (z7 : Int32) =>
      if z7 = (-1 : Int32) then (
        k x3 x4 h5)
      else (
        qg (qin z7 24) <|
        qg (qin z7 24) <|
        (f7_readRow p0 p1 (h5.1 (p0 + 8) (ix z7)) (h5.1 (p0 + 9) (ix z7)) h5).bind fun (h9 : qH) =>
        qg (qin z7 24) <|
        qg (qin z7 24) <|
        qlt ((h9.1 (p0 + 8) (ix z7)) + (h9.1 (p0 + 9) (ix z7))) fun (x10 : Int32) =>
        qlt (x4 + (1 : Int32)) fun (x11 : Int32) =>
        f7_copyTo_L11 p0 p1 p2 k n x10 x11 h9))
set_option maxRecDepth 100000 in
set_option maxHeartbeats 4000000 in
theorem w7_copyTo_L11 (l : Launch) (h0 : qH) (p0 : Nat) (p1 : Int32) (p2 : Int32) (hp0 : kStage p0) {k : Int32 → Int32 → qH → Option (Int32 × qH)} (hk : ∀ (x3 : Int32) (x4 : Int32) (h5 : qH), PW UX ROX l R7_copyTo cX7_copyTo 7 (some .int) RX7 (qEw h0) 78 [some (.ref p0), some (.int p1), some (.int p2), some (.int x3), some (.int x4), none, none] [] h5 (k x3 x4 h5)) : ∀ (n : Nat) (x3 : Int32) (x4 : Int32) (h5 : qH), PW UX ROX l R7_copyTo cX7_copyTo 7 (some .int) RX7 (qEw h0) 11 [some (.ref p0), some (.int p1), some (.int p2), some (.int x3), some (.int x4), none, none] [] h5 (f7_copyTo_L11 p0 p1 p2 k n x3 x4 h5) := by
  intro n
  induction n with
  | zero => intro _ _ _; exact p_none
  | succ n ih =>
    intro x3 x4 h5
    unfold f7_copyTo_L11
    refine p_iload rfl dX7_copyTo_11 rfl ?_
    refine p_aload_n rfl dX7_copyTo_13 rfl ?_
    refine p_geti qg_RX7_63 (uX_Stage hp0) rfl dX7_copyTo_14 rfl ?_
    refine p_if (fun c6 => ?_) (fun c6 => ?_)
    · refine p_icmp_ge_t (tgt := 78) dX7_copyTo_17 (by decide) c6 ?_
      exact hk x3 x4 h5
    · refine p_icmp_ge_f (tgt := 78) dX7_copyTo_17 (by decide) rfl c6 ?_
      refine p_aload_n rfl dX7_copyTo_20 rfl ?_
      refine p_iload_n rfl dX7_copyTo_21 rfl ?_
      refine p_iload_n rfl dX7_copyTo_22 rfl ?_
      refine p_callVr (f := f7_firstFile p0 p1 x3) (st := []) [.int p1, .int x3] qRokX (m7_firstFile l hp0 p1 x3) cal_RX7_223 (uX_Stage hp0) rfl rfl ⟨rfl, rfl⟩ ⟨Nat.le_of_ble_eq_true rfl, Nat.le_of_ble_eq_true rfl⟩ (Nat.le_of_ble_eq_true rfl) dX7_copyTo_23 rfl (fun z7 => ?_)
      refine p_is (ls' := [some (.ref p0), some (.int p1), some (.int p2), some (.int x3), some (.int x4), some (.int z7), none]) dX7_copyTo_26 rfl rfl rfl rfl ?_
      refine p_iload rfl dX7_copyTo_28 rfl ?_
      refine p_iconst (v := (-1 : Int32)) kiconst_m1 dX7_copyTo_30 rfl ?_
      refine p_if (fun c8 => ?_) (fun c8 => ?_)
      · refine p_icmp_ne_f (tgt := 37) dX7_copyTo_31 (by decide) rfl c8 ?_
        refine p_goto (tgt := 78) dX7_copyTo_34 (by decide) ?_
        exact p_wk (ls' := [some (.ref p0), some (.int p1), some (.int p2), some (.int x3), some (.int x4), none, none]) ⟨rfl, rfl, rfl, rfl, rfl, trivial⟩ (hk x3 x4 h5)
      · refine p_icmp_ne_t (tgt := 37) dX7_copyTo_31 (by decide) c8 ?_
        refine p_aload_n rfl dX7_copyTo_37 rfl ?_
        refine p_iload_n rfl dX7_copyTo_38 rfl ?_
        refine p_aload_n rfl dX7_copyTo_39 rfl ?_
        refine p_getr qg_RX7_33 (uX_Stage hp0) rfl dX7_copyTo_40 rfl ?_
        refine p_iload rfl dX7_copyTo_43 rfl ?_
        refine p_iald (uX_Stage_8 hp0) dX7_copyTo_45 rfl (fun _ => ?_)
        refine p_aload_n rfl dX7_copyTo_46 rfl ?_
        refine p_getr qg_RX7_36 (uX_Stage hp0) rfl dX7_copyTo_47 rfl ?_
        refine p_iload rfl dX7_copyTo_50 rfl ?_
        refine p_iald (uX_Stage_9 hp0) dX7_copyTo_52 rfl (fun _ => ?_)
        refine p_callVv (f := f7_readRow p0 p1 (h5.1 (p0 + 8) (ix z7)) (h5.1 (p0 + 9) (ix z7))) (st := []) [.int p1, .int (h5.1 (p0 + 8) (ix z7)), .int (h5.1 (p0 + 9) (ix z7))] qRokX (m7_readRow l hp0 p1 (h5.1 (p0 + 8) (ix z7)) (h5.1 (p0 + 9) (ix z7))) cal_RX7_190 (uX_Stage hp0) rfl rfl ⟨rfl, rfl⟩ ⟨Nat.le_of_ble_eq_true rfl, Nat.le_of_ble_eq_true rfl⟩ (Nat.le_of_ble_eq_true rfl) dX7_copyTo_53 rfl (fun h9 => ?_)
        refine p_aload_n rfl dX7_copyTo_56 rfl ?_
        refine p_getr qg_RX7_33 (uX_Stage hp0) rfl dX7_copyTo_57 rfl ?_
        refine p_iload rfl dX7_copyTo_60 rfl ?_
        refine p_iald (uX_Stage_8 hp0) dX7_copyTo_62 rfl (fun _ => ?_)
        refine p_aload_n rfl dX7_copyTo_63 rfl ?_
        refine p_getr qg_RX7_36 (uX_Stage hp0) rfl dX7_copyTo_64 rfl ?_
        refine p_iload rfl dX7_copyTo_67 rfl ?_
        refine p_iald (uX_Stage_9 hp0) dX7_copyTo_69 rfl (fun _ => ?_)
        refine p_iadd dX7_copyTo_70 rfl ?_
        refine p_isN_n (lf := fun x10 => [some (.ref p0), some (.int p1), some (.int p2), some (.int x10), some (.int x4), some (.int z7), none]) dX7_copyTo_71 rfl rfl rfl (fun _ => rfl) (fun x10 => ?_)
        refine p_iiN (v := (1 : Int32)) (lf := fun x11 => [some (.ref p0), some (.int p1), some (.int p2), some (.int x10), some (.int x11), some (.int z7), none]) kiconst_1 dX7_copyTo_72 rfl rfl rfl rfl (fun _ => rfl) (fun x11 => ?_)
        refine p_goto (tgt := 11) dX7_copyTo_75 (by decide) ?_
        exact p_wk (ls' := [some (.ref p0), some (.int p1), some (.int p2), some (.int x10), some (.int x11), none, none]) ⟨rfl, rfl, rfl, rfl, rfl, trivial⟩ (ih x10 x11 h9)
noncomputable def f7_copyTo_L90 (p0 : Nat) (p1 : Int32) (p2 : Int32) (k : Int32 → Int32 → qH → Option (Int32 × qH)) : Nat → Int32 → Int32 → qH → Option (Int32 × qH)
  | 0, _, _, _ => none
  | n + 1, x17, x18, h19 =>
    if (h19.1 p0 5) ≤ x18 then (
      k x17 x18 h19)
    else (
      (f7_firstFile p0 p1 (0 : Int32) h19).bind fun (z21 : Int32) =>
      if z21 = (-1 : Int32) then (
        k x17 x18 h19)
      else (
        qg (qin p2 8) <|
        qg (qin z21 24) <|
        (f7_writeRow p0 p2 (h19.1 (p0 + 3) (ix p2)) (h19.1 (p0 + 9) (ix z21)) h19).bind fun (h23 : qH) =>
        (f7_putBehind p0 z21 p2 h23).bind fun (h24 : qH) =>
        qlt (x17 + (1 : Int32)) fun (x25 : Int32) =>
        qlt (x18 + (1 : Int32)) fun (x26 : Int32) =>
        f7_copyTo_L90 p0 p1 p2 k n x25 x26 h24))
set_option maxRecDepth 100000 in
set_option maxHeartbeats 4000000 in
theorem w7_copyTo_L90 (l : Launch) (h0 : qH) (p0 : Nat) (p1 : Int32) (p2 : Int32) (hp0 : kStage p0) {k : Int32 → Int32 → qH → Option (Int32 × qH)} (hk : ∀ (x17 : Int32) (x18 : Int32) (h19 : qH), PW UX ROX l R7_copyTo cX7_copyTo 7 (some .int) RX7 (qEw h0) 150 [some (.ref p0), some (.int p1), some (.int p2), none, some (.int x17), some (.int x18), none] [] h19 (k x17 x18 h19)) : ∀ (n : Nat) (x17 : Int32) (x18 : Int32) (h19 : qH), PW UX ROX l R7_copyTo cX7_copyTo 7 (some .int) RX7 (qEw h0) 90 [some (.ref p0), some (.int p1), some (.int p2), none, some (.int x17), some (.int x18), none] [] h19 (f7_copyTo_L90 p0 p1 p2 k n x17 x18 h19) := by
  intro n
  induction n with
  | zero => intro _ _ _; exact p_none
  | succ n ih =>
    intro x17 x18 h19
    unfold f7_copyTo_L90
    refine p_iload rfl dX7_copyTo_90 rfl ?_
    refine p_aload_n rfl dX7_copyTo_92 rfl ?_
    refine p_geti qg_RX7_63 (uX_Stage hp0) rfl dX7_copyTo_93 rfl ?_
    refine p_if (fun c20 => ?_) (fun c20 => ?_)
    · refine p_icmp_ge_t (tgt := 150) dX7_copyTo_96 (by decide) c20 ?_
      exact hk x17 x18 h19
    · refine p_icmp_ge_f (tgt := 150) dX7_copyTo_96 (by decide) rfl c20 ?_
      refine p_aload_n rfl dX7_copyTo_99 rfl ?_
      refine p_iload_n rfl dX7_copyTo_100 rfl ?_
      refine p_iconst (v := (0 : Int32)) kiconst_0 dX7_copyTo_101 rfl ?_
      refine p_callVr (f := f7_firstFile p0 p1 (0 : Int32)) (st := []) [.int p1, .int (0 : Int32)] qRokX (m7_firstFile l hp0 p1 (0 : Int32)) cal_RX7_223 (uX_Stage hp0) rfl rfl ⟨rfl, rfl⟩ ⟨Nat.le_of_ble_eq_true rfl, Nat.le_of_ble_eq_true rfl⟩ (Nat.le_of_ble_eq_true rfl) dX7_copyTo_102 rfl (fun z21 => ?_)
      refine p_is (ls' := [some (.ref p0), some (.int p1), some (.int p2), none, some (.int x17), some (.int x18), some (.int z21)]) dX7_copyTo_105 rfl rfl rfl rfl ?_
      refine p_iload rfl dX7_copyTo_107 rfl ?_
      refine p_iconst (v := (-1 : Int32)) kiconst_m1 dX7_copyTo_109 rfl ?_
      refine p_if (fun c22 => ?_) (fun c22 => ?_)
      · refine p_icmp_ne_f (tgt := 116) dX7_copyTo_110 (by decide) rfl c22 ?_
        refine p_goto (tgt := 150) dX7_copyTo_113 (by decide) ?_
        exact p_wk (ls' := [some (.ref p0), some (.int p1), some (.int p2), none, some (.int x17), some (.int x18), none]) ⟨rfl, rfl, rfl, rfl, rfl, trivial⟩ (hk x17 x18 h19)
      · refine p_icmp_ne_t (tgt := 116) dX7_copyTo_110 (by decide) c22 ?_
        refine p_aload_n rfl dX7_copyTo_116 rfl ?_
        refine p_iload_n rfl dX7_copyTo_117 rfl ?_
        refine p_aload_n rfl dX7_copyTo_118 rfl ?_
        refine p_getr qg_RX7_18 (uX_Stage hp0) rfl dX7_copyTo_119 rfl ?_
        refine p_iload_n rfl dX7_copyTo_122 rfl ?_
        refine p_iald (uX_Stage_3 hp0) dX7_copyTo_123 rfl (fun _ => ?_)
        refine p_aload_n rfl dX7_copyTo_124 rfl ?_
        refine p_getr qg_RX7_36 (uX_Stage hp0) rfl dX7_copyTo_125 rfl ?_
        refine p_iload rfl dX7_copyTo_128 rfl ?_
        refine p_iald (uX_Stage_9 hp0) dX7_copyTo_130 rfl (fun _ => ?_)
        refine p_callVv (f := f7_writeRow p0 p2 (h19.1 (p0 + 3) (ix p2)) (h19.1 (p0 + 9) (ix z21))) (st := []) [.int p2, .int (h19.1 (p0 + 3) (ix p2)), .int (h19.1 (p0 + 9) (ix z21))] qRokX (m7_writeRow l hp0 p2 (h19.1 (p0 + 3) (ix p2)) (h19.1 (p0 + 9) (ix z21))) cal_RX7_197 (uX_Stage hp0) rfl rfl ⟨rfl, rfl⟩ ⟨Nat.le_of_ble_eq_true rfl, Nat.le_of_ble_eq_true rfl⟩ (Nat.le_of_ble_eq_true rfl) dX7_copyTo_131 rfl (fun h23 => ?_)
        refine p_aload_n rfl dX7_copyTo_134 rfl ?_
        refine p_iload rfl dX7_copyTo_135 rfl ?_
        refine p_iload_n rfl dX7_copyTo_137 rfl ?_
        refine p_callVv (f := f7_putBehind p0 z21 p2) (st := []) [.int z21, .int p2] qRokX (m7_putBehind l hp0 z21 p2) cal_RX7_226 (uX_Stage hp0) rfl rfl ⟨rfl, rfl⟩ ⟨Nat.le_of_ble_eq_true rfl, Nat.le_of_ble_eq_true rfl⟩ (Nat.le_of_ble_eq_true rfl) dX7_copyTo_138 rfl (fun h24 => ?_)
        refine p_iiN (v := (1 : Int32)) (lf := fun x25 => [some (.ref p0), some (.int p1), some (.int p2), none, some (.int x25), some (.int x18), some (.int z21)]) kiconst_1 dX7_copyTo_141 rfl rfl rfl rfl (fun _ => rfl) (fun x25 => ?_)
        refine p_iiN (v := (1 : Int32)) (lf := fun x26 => [some (.ref p0), some (.int p1), some (.int p2), none, some (.int x25), some (.int x26), some (.int z21)]) kiconst_1 dX7_copyTo_144 rfl rfl rfl rfl (fun _ => rfl) (fun x26 => ?_)
        refine p_goto (tgt := 90) dX7_copyTo_147 (by decide) ?_
        exact p_wk (ls' := [some (.ref p0), some (.int p1), some (.int p2), none, some (.int x25), some (.int x26), none]) ⟨rfl, rfl, rfl, rfl, rfl, trivial⟩ (ih x25 x26 h24)
noncomputable def f7_copyTo (p0 : Nat) (p1 : Int32) (p2 : Int32) (h : qH) : Option (Int32 × qH) :=
  qb2 (f7_bringIn p0 p1 h) fun (z1 : Int32) (h2 : qH) =>
  f7_copyTo_L11 p0 p1 p2 (fun (x12 : Int32) (x13 : Int32) (h14 : qH) =>
    qb2 (f7_bringIn p0 p2 h14) fun (z15 : Int32) (h16 : qH) =>
    f7_copyTo_L90 p0 p1 p2 (fun (x27 : Int32) (x28 : Int32) (h29 : qH) =>
      qg (qin p1 8) <|
      qlt (qw h29 (p0 + 3) (ix p1) (0 : Int32)) fun (h30 : qH) =>
      qg (qin p1 8) <|
      qlt (qw h30 (p0 + 5) (ix p1) (0 : Int32)) fun (h31 : qH) =>
      some (x27, h31)) qN (0 : Int32) (0 : Int32) h16) qN (0 : Int32) (0 : Int32) h2
set_option maxRecDepth 100000 in
set_option maxHeartbeats 4000000 in
theorem m7_copyTo (l : Launch) {p0 : Nat} (hp0 : kStage p0) (p1 : Int32) (p2 : Int32) : qMet UX ROX l yX7_copyTo (qws yX7_copyTo cX7_copyTo 7 (some .int)) R7_copyTo [.ref p0, .int p1, .int p2] (f7_copyTo p0 p1 p2) qEw := by
  refine q_met (own := RX7) 4 (by decide) rfl (Nat.le_of_ble_eq_true rfl) (ls := [some (.ref p0), some (.int p1), some (.int p2), none, none, none, none]) rfl fun h => ?_
  unfold f7_copyTo
  show PW UX ROX l R7_copyTo cX7_copyTo 7 (some .int) RX7 (qEw h) 0 [some (.ref p0), some (.int p1), some (.int p2), none, none, none, none] [] h _
  refine p_aload_n rfl dX7_copyTo_0 rfl ?_
  refine p_iload_n rfl dX7_copyTo_1 rfl ?_
  refine p_cVw (f := f7_bringIn p0 p1) (st := []) [.int p1] qRokX (m7_bringIn l hp0 p1) cal_RX7_151 (uX_Stage hp0) rfl rfl ⟨rfl, rfl⟩ ⟨Nat.le_of_ble_eq_true rfl, Nat.le_of_ble_eq_true rfl⟩ (Nat.le_of_ble_eq_true rfl) dX7_copyTo_2 rfl (fun z1 h2 => ?_)
  refine p_pop rfl dX7_copyTo_5 rfl ?_
  refine p_iconst (v := (0 : Int32)) kiconst_0 dX7_copyTo_6 rfl ?_
  refine p_is_n (ls' := [some (.ref p0), some (.int p1), some (.int p2), some (.int (0 : Int32)), none, none, none]) dX7_copyTo_7 rfl rfl rfl rfl ?_
  refine p_iconst (v := (0 : Int32)) kiconst_0 dX7_copyTo_8 rfl ?_
  refine p_is (ls' := [some (.ref p0), some (.int p1), some (.int p2), some (.int (0 : Int32)), some (.int (0 : Int32)), none, none]) dX7_copyTo_9 rfl rfl rfl rfl ?_
  refine w7_copyTo_L11 l h p0 p1 p2 hp0 (fun x12 x13 h14 => ?_) qN _ _ _
  refine p_aload_n rfl dX7_copyTo_78 rfl ?_
  refine p_iload_n rfl dX7_copyTo_79 rfl ?_
  refine p_cVw (f := f7_bringIn p0 p2) (st := []) [.int p2] qRokX (m7_bringIn l hp0 p2) cal_RX7_151 (uX_Stage hp0) rfl rfl ⟨rfl, rfl⟩ ⟨Nat.le_of_ble_eq_true rfl, Nat.le_of_ble_eq_true rfl⟩ (Nat.le_of_ble_eq_true rfl) dX7_copyTo_80 rfl (fun z15 h16 => ?_)
  refine p_pop rfl dX7_copyTo_83 rfl ?_
  refine p_iconst (v := (0 : Int32)) kiconst_0 dX7_copyTo_84 rfl ?_
  refine p_is (ls' := [some (.ref p0), some (.int p1), some (.int p2), some (.int x12), some (.int (0 : Int32)), none, none]) dX7_copyTo_85 rfl rfl rfl rfl ?_
  refine p_iconst (v := (0 : Int32)) kiconst_0 dX7_copyTo_87 rfl ?_
  refine p_is (ls' := [some (.ref p0), some (.int p1), some (.int p2), some (.int x12), some (.int (0 : Int32)), some (.int (0 : Int32)), none]) dX7_copyTo_88 rfl rfl rfl rfl ?_
  refine p_wk (ls' := [some (.ref p0), some (.int p1), some (.int p2), none, some (.int (0 : Int32)), some (.int (0 : Int32)), none]) ⟨rfl, rfl, rfl, rfl, rfl, trivial⟩ ?_
  refine w7_copyTo_L90 l h p0 p1 p2 hp0 (fun x27 x28 h29 => ?_) qN _ _ _
  refine p_aload_n rfl dX7_copyTo_150 rfl ?_
  refine p_getr qg_RX7_18 (uX_Stage hp0) rfl dX7_copyTo_151 rfl ?_
  refine p_iload_n rfl dX7_copyTo_154 rfl ?_
  refine p_iconst (v := (0 : Int32)) kiconst_0 dX7_copyTo_155 rfl ?_
  refine p_iast qokX (uX_Stage_3 hp0) dX7_copyTo_156 rfl (fun _ => ?_)
  refine p_nmH (fun h30 => ?_)
  refine p_aload_n rfl dX7_copyTo_157 rfl ?_
  refine p_getr qg_RX7_24 (uX_Stage hp0) rfl dX7_copyTo_158 rfl ?_
  refine p_iload_n rfl dX7_copyTo_161 rfl ?_
  refine p_iconst (v := (0 : Int32)) kiconst_0 dX7_copyTo_162 rfl ?_
  refine p_iast qokX (uX_Stage_5 hp0) dX7_copyTo_163 rfl (fun _ => ?_)
  refine p_nmH (fun h31 => ?_)
  refine p_iload rfl dX7_copyTo_164 rfl ?_
  exact p_iret rfl rfl dX7_copyTo_166
noncomputable def f7_dropFile (p0 : Nat) (p1 : Int32) (h : qH) : Option (Int32 × qH) :=
  qg (qin p1 24) <|
  qlt (qw h (p0 + 7) (ix p1) (-1 : Int32)) fun (h1 : qH) =>
  qg (qin p1 24) <|
  qlt (qw h1 (p0 + 10) (ix p1) (0 : Int32)) fun (h2 : qH) =>
  qg (qin p1 24) <|
  qlt (qw h2 (p0 + 11) (ix p1) (0 : Int32)) fun (h3 : qH) =>
  qg (qin p1 24) <|
  some ((h3.1 (p0 + 9) (ix p1)), h3)
set_option maxRecDepth 100000 in
set_option maxHeartbeats 4000000 in
theorem m7_dropFile (l : Launch) {p0 : Nat} (hp0 : kStage p0) (p1 : Int32) : qMet UX ROX l yX7_dropFile (qws yX7_dropFile cX7_dropFile 2 (some .int)) R7_dropFile [.ref p0, .int p1] (f7_dropFile p0 p1) qEw := by
  refine q_met (own := RX7) 0 (by decide) rfl (Nat.le_of_ble_eq_true rfl) (ls := [some (.ref p0), some (.int p1)]) rfl fun h => ?_
  unfold f7_dropFile
  show PW UX ROX l R7_dropFile cX7_dropFile 2 (some .int) RX7 (qEw h) 0 [some (.ref p0), some (.int p1)] [] h _
  refine p_aload_n rfl dX7_dropFile_0 rfl ?_
  refine p_getr qg_RX7_30 (uX_Stage hp0) rfl dX7_dropFile_1 rfl ?_
  refine p_iload_n rfl dX7_dropFile_4 rfl ?_
  refine p_iconst (v := (-1 : Int32)) kiconst_m1 dX7_dropFile_5 rfl ?_
  refine p_iast qokX (uX_Stage_7 hp0) dX7_dropFile_6 rfl (fun _ => ?_)
  refine p_nmH (fun h1 => ?_)
  refine p_aload_n rfl dX7_dropFile_7 rfl ?_
  refine p_getr qg_RX7_39 (uX_Stage hp0) rfl dX7_dropFile_8 rfl ?_
  refine p_iload_n rfl dX7_dropFile_11 rfl ?_
  refine p_iconst (v := (0 : Int32)) kiconst_0 dX7_dropFile_12 rfl ?_
  refine p_iast qokX (uX_Stage_10 hp0) dX7_dropFile_13 rfl (fun _ => ?_)
  refine p_nmH (fun h2 => ?_)
  refine p_aload_n rfl dX7_dropFile_14 rfl ?_
  refine p_getr qg_RX7_42 (uX_Stage hp0) rfl dX7_dropFile_15 rfl ?_
  refine p_iload_n rfl dX7_dropFile_18 rfl ?_
  refine p_iconst (v := (0 : Int32)) kiconst_0 dX7_dropFile_19 rfl ?_
  refine p_iast qokX (uX_Stage_11 hp0) dX7_dropFile_20 rfl (fun _ => ?_)
  refine p_nmH (fun h3 => ?_)
  refine p_aload_n rfl dX7_dropFile_21 rfl ?_
  refine p_getr qg_RX7_36 (uX_Stage hp0) rfl dX7_dropFile_22 rfl ?_
  refine p_iload_n rfl dX7_dropFile_25 rfl ?_
  refine p_iald (uX_Stage_9 hp0) dX7_dropFile_26 rfl (fun _ => ?_)
  exact p_iret rfl rfl dX7_dropFile_27
noncomputable def f7_loseCatalog_L7 (p0 : Nat) (z1 : Int32) (k : Int32 → qH → Option (Int32 × qH)) : Nat → Int32 → qH → Option (Int32 × qH)
  | 0, _, _ => none
  | n + 1, x2, h3 =>
    if (h3.1 p0 5) ≤ x2 then (
      k x2 h3)
    else (
      qg (qin x2 24) <|
      qlt (qw h3 (p0 + 10) (ix x2) (0 : Int32)) fun (h5 : qH) =>
      qg (qin x2 24) <|
      qlt (qw h5 (p0 + 11) (ix x2) (0 : Int32)) fun (h6 : qH) =>
      qlt (x2 + (1 : Int32)) fun (x7 : Int32) =>
      f7_loseCatalog_L7 p0 z1 k n x7 h6)
set_option maxRecDepth 100000 in
set_option maxHeartbeats 4000000 in
theorem w7_loseCatalog_L7 (l : Launch) (h0 : qH) (p0 : Nat) (z1 : Int32) (hp0 : kStage p0) {k : Int32 → qH → Option (Int32 × qH)} (hk : ∀ (x2 : Int32) (h3 : qH), PW UX ROX l R7_loseCatalog cX7_loseCatalog 3 (some .int) RX7 (qEw h0) 35 [some (.ref p0), some (.int z1), some (.int x2)] [] h3 (k x2 h3)) : ∀ (n : Nat) (x2 : Int32) (h3 : qH), PW UX ROX l R7_loseCatalog cX7_loseCatalog 3 (some .int) RX7 (qEw h0) 7 [some (.ref p0), some (.int z1), some (.int x2)] [] h3 (f7_loseCatalog_L7 p0 z1 k n x2 h3) := by
  intro n
  induction n with
  | zero => intro _ _; exact p_none
  | succ n ih =>
    intro x2 h3
    unfold f7_loseCatalog_L7
    refine p_iload_n rfl dX7_loseCatalog_7 rfl ?_
    refine p_aload_n rfl dX7_loseCatalog_8 rfl ?_
    refine p_geti qg_RX7_63 (uX_Stage hp0) rfl dX7_loseCatalog_9 rfl ?_
    refine p_if (fun c4 => ?_) (fun c4 => ?_)
    · refine p_icmp_ge_t (tgt := 35) dX7_loseCatalog_12 (by decide) c4 ?_
      exact hk x2 h3
    · refine p_icmp_ge_f (tgt := 35) dX7_loseCatalog_12 (by decide) rfl c4 ?_
      refine p_aload_n rfl dX7_loseCatalog_15 rfl ?_
      refine p_getr qg_RX7_39 (uX_Stage hp0) rfl dX7_loseCatalog_16 rfl ?_
      refine p_iload_n rfl dX7_loseCatalog_19 rfl ?_
      refine p_iconst (v := (0 : Int32)) kiconst_0 dX7_loseCatalog_20 rfl ?_
      refine p_iast qokX (uX_Stage_10 hp0) dX7_loseCatalog_21 rfl (fun _ => ?_)
      refine p_nmH (fun h5 => ?_)
      refine p_aload_n rfl dX7_loseCatalog_22 rfl ?_
      refine p_getr qg_RX7_42 (uX_Stage hp0) rfl dX7_loseCatalog_23 rfl ?_
      refine p_iload_n rfl dX7_loseCatalog_26 rfl ?_
      refine p_iconst (v := (0 : Int32)) kiconst_0 dX7_loseCatalog_27 rfl ?_
      refine p_iast qokX (uX_Stage_11 hp0) dX7_loseCatalog_28 rfl (fun _ => ?_)
      refine p_nmH (fun h6 => ?_)
      refine p_iiN (v := (1 : Int32)) (lf := fun x7 => [some (.ref p0), some (.int z1), some (.int x7)]) kiconst_1 dX7_loseCatalog_29 rfl rfl rfl rfl (fun _ => rfl) (fun x7 => ?_)
      refine p_goto (tgt := 7) dX7_loseCatalog_32 (by decide) ?_
      exact ih x7 h6
noncomputable def f7_loseCatalog (p0 : Nat) (h : qH) : Option (Int32 × qH) :=
  (f7_knownFiles p0 h).bind fun (z1 : Int32) =>
  f7_loseCatalog_L7 p0 z1 (fun (x8 : Int32) (h9 : qH) =>
    some (z1, h9)) qN (0 : Int32) h
set_option maxRecDepth 100000 in
set_option maxHeartbeats 4000000 in
theorem m7_loseCatalog (l : Launch) {p0 : Nat} (hp0 : kStage p0) : qMet UX ROX l yX7_loseCatalog (qws yX7_loseCatalog cX7_loseCatalog 3 (some .int)) R7_loseCatalog [.ref p0] (f7_loseCatalog p0) qEw := by
  refine q_met (own := RX7) 2 (by decide) rfl (Nat.le_of_ble_eq_true rfl) (ls := [some (.ref p0), none, none]) rfl fun h => ?_
  unfold f7_loseCatalog
  show PW UX ROX l R7_loseCatalog cX7_loseCatalog 3 (some .int) RX7 (qEw h) 0 [some (.ref p0), none, none] [] h _
  refine p_aload_n rfl dX7_loseCatalog_0 rfl ?_
  refine p_callVr (f := f7_knownFiles p0) (st := []) [] qRokX (m7_knownFiles l hp0) cal_RX7_124 (uX_Stage hp0) rfl rfl ⟨rfl, rfl⟩ ⟨Nat.le_of_ble_eq_true rfl, Nat.le_of_ble_eq_true rfl⟩ (Nat.le_of_ble_eq_true rfl) dX7_loseCatalog_1 rfl (fun z1 => ?_)
  refine p_is_n (ls' := [some (.ref p0), some (.int z1), none]) dX7_loseCatalog_4 rfl rfl rfl rfl ?_
  refine p_iconst (v := (0 : Int32)) kiconst_0 dX7_loseCatalog_5 rfl ?_
  refine p_is_n (ls' := [some (.ref p0), some (.int z1), some (.int (0 : Int32))]) dX7_loseCatalog_6 rfl rfl rfl rfl ?_
  refine w7_loseCatalog_L7 l h p0 z1 hp0 (fun x8 h9 => ?_) qN _ _
  refine p_iload_n rfl dX7_loseCatalog_35 rfl ?_
  exact p_iret rfl rfl dX7_loseCatalog_36
