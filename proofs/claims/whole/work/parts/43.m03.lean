noncomputable def f9_askedOn_L4 (p1 : Int32) (h : qH) (k : Int32 → Int32 → Option (Int32)) : Nat → Int32 → Int32 → Option (Int32)
  | 0, _, _ => none
  | n + 1, x1, x2 =>
    if (h.1 9 168) ≤ x2 then (
      k x1 x2)
    else (
      (f9_isOn x2 p1 h).bind fun (z4 : Int32) =>
      qj (fun (x5 : Int32) =>
        qlt (x1 + x5) fun (x8 : Int32) =>
        qlt (x2 + (1 : Int32)) fun (x9 : Int32) =>
        f9_askedOn_L4 p1 h k n x8 x9) fun j6 =>
      if z4 = 0 then (
        j6 (0 : Int32))
      else (
        qg (qin ((144 : Int32) + x2) 353) <|
        if (h.1 9 (ix ((144 : Int32) + x2))) ≤ 0 then (
          j6 (0 : Int32))
        else (
          j6 (1 : Int32))))
set_option maxRecDepth 100000 in
set_option maxHeartbeats 4000000 in
theorem w9_askedOn_L4 (l : Launch) (p1 : Int32) (h : qH) {k : Int32 → Int32 → Option (Int32)} (hk : ∀ (x1 : Int32) (x2 : Int32), PW UM ROM l R9_askedOn cX9_askedOn 4 (some .int) RX9 (qEr h) 52 [some (.ref 0), some (.int p1), some (.int x1), some (.int x2)] [] h (k x1 x2)) : ∀ (n : Nat) (x1 : Int32) (x2 : Int32), PW UM ROM l R9_askedOn cX9_askedOn 4 (some .int) RX9 (qEr h) 4 [some (.ref 0), some (.int p1), some (.int x1), some (.int x2)] [] h (f9_askedOn_L4 p1 h k n x1 x2) := by
  intro n
  induction n with
  | zero => intro _ _; exact p_none
  | succ n ih =>
    intro x1 x2
    unfold f9_askedOn_L4
    refine p_iload_n rfl dX9_askedOn_4 rfl ?_
    refine p_aload_n rfl dX9_askedOn_5 rfl ?_
    refine p_getr qg_RX9_34 uM_0 rfl dX9_askedOn_6 rfl ?_
    refine p_sipush (v := (168 : Int32)) ksipush_168 dX9_askedOn_9 rfl ?_
    refine p_ialdK uM_9 kix_168 kqin_168_353 dX9_askedOn_12 rfl ?_
    refine p_if (fun c3 => ?_) (fun c3 => ?_)
    · refine p_icmp_ge_t (tgt := 52) dX9_askedOn_13 (by decide) c3 ?_
      exact hk x1 x2
    · refine p_icmp_ge_f (tgt := 52) dX9_askedOn_13 (by decide) rfl c3 ?_
      refine p_iload_n rfl dX9_askedOn_16 rfl ?_
      refine p_aload_n rfl dX9_askedOn_17 rfl ?_
      refine p_iload_n rfl dX9_askedOn_18 rfl ?_
      refine p_iload_n rfl dX9_askedOn_19 rfl ?_
      refine p_callVr (f := f9_isOn x2 p1) (st := [.int x1]) [.int x2, .int p1] qRokM (m9_isOn l x2 p1) cal_RX9_163 uM_0 rfl rfl ⟨rfl, rfl⟩ ⟨Nat.le_of_ble_eq_true rfl, Nat.le_of_ble_eq_true rfl⟩ (Nat.le_of_ble_eq_true rfl) dX9_askedOn_20 rfl (fun z4 => ?_)
      refine p_jn (fun j6 => ∀ (x5 : Int32), PW UM ROM l R9_askedOn cX9_askedOn 4 (some .int) RX9 (qEr h) 44 [some (.ref 0), some (.int p1), some (.int x1), some (.int x2)] [.int x5, .int x1] h (j6 x5)) (fun x5 => ?_) (fun j6 J7 => ?_)
      · refine p_iadd dX9_askedOn_44 rfl ?_
        refine p_isN_n (lf := fun x8 => [some (.ref 0), some (.int p1), some (.int x8), some (.int x2)]) dX9_askedOn_45 rfl rfl rfl (fun _ => rfl) (fun x8 => ?_)
        refine p_iiN (v := (1 : Int32)) (lf := fun x9 => [some (.ref 0), some (.int p1), some (.int x8), some (.int x9)]) kiconst_1 dX9_askedOn_46 rfl rfl rfl rfl (fun _ => rfl) (fun x9 => ?_)
        refine p_goto (tgt := 4) dX9_askedOn_49 (by decide) ?_
        exact ih x8 x9
      · refine p_if (fun c10 => ?_) (fun c10 => ?_)
        · refine p_if_eq_t (tgt := 43) dX9_askedOn_23 (by decide) c10 ?_
          refine p_iconst (v := (0 : Int32)) kiconst_0 dX9_askedOn_43 rfl ?_
          exact J7 (0 : Int32)
        · refine p_if_eq_f (tgt := 43) dX9_askedOn_23 (by decide) rfl c10 ?_
          refine p_aload_n rfl dX9_askedOn_26 rfl ?_
          refine p_getr qg_RX9_34 uM_0 rfl dX9_askedOn_27 rfl ?_
          refine p_sipush (v := (144 : Int32)) ksipush_144 dX9_askedOn_30 rfl ?_
          refine p_iload_n rfl dX9_askedOn_33 rfl ?_
          refine p_iadd dX9_askedOn_34 rfl ?_
          refine p_iald uM_9 dX9_askedOn_35 rfl (fun _ => ?_)
          refine p_if (fun c11 => ?_) (fun c11 => ?_)
          · refine p_if_le_t (tgt := 43) dX9_askedOn_36 (by decide) c11 ?_
            refine p_iconst (v := (0 : Int32)) kiconst_0 dX9_askedOn_43 rfl ?_
            exact J7 (0 : Int32)
          · refine p_if_le_f (tgt := 43) dX9_askedOn_36 (by decide) rfl c11 ?_
            refine p_iconst (v := (1 : Int32)) kiconst_1 dX9_askedOn_39 rfl ?_
            refine p_goto (tgt := 44) dX9_askedOn_40 (by decide) ?_
            exact J7 (1 : Int32)
noncomputable def f9_askedOn (p1 : Int32) (h : qH) : Option (Int32) :=
  f9_askedOn_L4 p1 h (fun (x12 : Int32) (x13 : Int32) =>
    some x12) qN (0 : Int32) (0 : Int32)
set_option maxRecDepth 100000 in
set_option maxHeartbeats 4000000 in
theorem m9_askedOn (l : Launch) (p1 : Int32) : qMet UM ROM l yX9_askedOn (qws yX9_askedOn cX9_askedOn 4 (some .int)) R9_askedOn [.ref 0, .int p1] (f9_askedOn p1) qEr := by
  refine q_met (own := RX9) 2 (by decide) rfl (Nat.le_of_ble_eq_true rfl) (ls := [some (.ref 0), some (.int p1), none, none]) rfl fun h => ?_
  unfold f9_askedOn
  refine p_iconst (v := (0 : Int32)) kiconst_0 dX9_askedOn_0 rfl ?_
  refine p_is_n (ls' := [some (.ref 0), some (.int p1), some (.int (0 : Int32)), none]) dX9_askedOn_1 rfl rfl rfl rfl ?_
  refine p_iconst (v := (0 : Int32)) kiconst_0 dX9_askedOn_2 rfl ?_
  refine p_is_n (ls' := [some (.ref 0), some (.int p1), some (.int (0 : Int32)), some (.int (0 : Int32))]) dX9_askedOn_3 rfl rfl rfl rfl ?_
  refine w9_askedOn_L4 l p1 h (fun x12 x13 => ?_) qN _ _
  refine p_iload_n rfl dX9_askedOn_52 rfl ?_
  exact p_iret rfl rfl dX9_askedOn_53
noncomputable def f9_askedOfAll_L4 (h : qH) (k : Int32 → Int32 → Option (Int32)) : Nat → Int32 → Int32 → Option (Int32)
  | 0, _, _ => none
  | n + 1, x1, x2 =>
    if (h.1 0 12) ≤ x2 then (
      k x1 x2)
    else (
      (f9_askedOn x2 h).bind fun (z4 : Int32) =>
      qlt (x1 + z4) fun (x5 : Int32) =>
      qlt (x2 + (1 : Int32)) fun (x6 : Int32) =>
      f9_askedOfAll_L4 h k n x5 x6)
set_option maxRecDepth 100000 in
set_option maxHeartbeats 4000000 in
theorem w9_askedOfAll_L4 (l : Launch) (h : qH) {k : Int32 → Int32 → Option (Int32)} (hk : ∀ (x1 : Int32) (x2 : Int32), PW UM ROM l R9_askedOfAll cX9_askedOfAll 3 (some .int) RX9 (qEr h) 26 [some (.ref 0), some (.int x1), some (.int x2)] [] h (k x1 x2)) : ∀ (n : Nat) (x1 : Int32) (x2 : Int32), PW UM ROM l R9_askedOfAll cX9_askedOfAll 3 (some .int) RX9 (qEr h) 4 [some (.ref 0), some (.int x1), some (.int x2)] [] h (f9_askedOfAll_L4 h k n x1 x2) := by
  intro n
  induction n with
  | zero => intro _ _; exact p_none
  | succ n ih =>
    intro x1 x2
    unfold f9_askedOfAll_L4
    refine p_iload_n rfl dX9_askedOfAll_4 rfl ?_
    refine p_aload_n rfl dX9_askedOfAll_5 rfl ?_
    refine p_geti qg_RX9_153 uM_0 rfl dX9_askedOfAll_6 rfl ?_
    refine p_if (fun c3 => ?_) (fun c3 => ?_)
    · refine p_icmp_ge_t (tgt := 26) dX9_askedOfAll_9 (by decide) c3 ?_
      exact hk x1 x2
    · refine p_icmp_ge_f (tgt := 26) dX9_askedOfAll_9 (by decide) rfl c3 ?_
      refine p_iload_n rfl dX9_askedOfAll_12 rfl ?_
      refine p_aload_n rfl dX9_askedOfAll_13 rfl ?_
      refine p_iload_n rfl dX9_askedOfAll_14 rfl ?_
      refine p_callVr (f := f9_askedOn x2) (st := [.int x1]) [.int x2] qRokM (m9_askedOn l x2) cal_RX9_166 uM_0 rfl rfl ⟨rfl, rfl⟩ ⟨Nat.le_of_ble_eq_true rfl, Nat.le_of_ble_eq_true rfl⟩ (Nat.le_of_ble_eq_true rfl) dX9_askedOfAll_15 rfl (fun z4 => ?_)
      refine p_iadd dX9_askedOfAll_18 rfl ?_
      refine p_isN_n (lf := fun x5 => [some (.ref 0), some (.int x5), some (.int x2)]) dX9_askedOfAll_19 rfl rfl rfl (fun _ => rfl) (fun x5 => ?_)
      refine p_iiN (v := (1 : Int32)) (lf := fun x6 => [some (.ref 0), some (.int x5), some (.int x6)]) kiconst_1 dX9_askedOfAll_20 rfl rfl rfl rfl (fun _ => rfl) (fun x6 => ?_)
      refine p_goto (tgt := 4) dX9_askedOfAll_23 (by decide) ?_
      exact ih x5 x6
noncomputable def f9_askedOfAll (h : qH) : Option (Int32) :=
  f9_askedOfAll_L4 h (fun (x7 : Int32) (x8 : Int32) =>
    some x7) qN (0 : Int32) (0 : Int32)
set_option maxRecDepth 100000 in
set_option maxHeartbeats 4000000 in
theorem m9_askedOfAll (l : Launch) : qMet UM ROM l yX9_askedOfAll (qws yX9_askedOfAll cX9_askedOfAll 3 (some .int)) R9_askedOfAll [.ref 0] f9_askedOfAll qEr := by
  refine q_met (own := RX9) 2 (by decide) rfl (Nat.le_of_ble_eq_true rfl) (ls := [some (.ref 0), none, none]) rfl fun h => ?_
  unfold f9_askedOfAll
  refine p_iconst (v := (0 : Int32)) kiconst_0 dX9_askedOfAll_0 rfl ?_
  refine p_is_n (ls' := [some (.ref 0), some (.int (0 : Int32)), none]) dX9_askedOfAll_1 rfl rfl rfl rfl ?_
  refine p_iconst (v := (0 : Int32)) kiconst_0 dX9_askedOfAll_2 rfl ?_
  refine p_is_n (ls' := [some (.ref 0), some (.int (0 : Int32)), some (.int (0 : Int32))]) dX9_askedOfAll_3 rfl rfl rfl rfl ?_
  refine w9_askedOfAll_L4 l h (fun x7 x8 => ?_) qN _ _
  refine p_iload_n rfl dX9_askedOfAll_26 rfl ?_
  exact p_iret rfl rfl dX9_askedOfAll_27
noncomputable def f9_newFile (p1 : Int32) (p2 : Int32) (h : qH) : Option (Int32 × qH) :=
  qlt (h.1 9 168) fun (x1 : Int32) =>
  qlt (qw h 9 168 ((h.1 9 168) + (1 : Int32))) fun (h2 : qH) =>
  qg (qin ((48 : Int32) + x1) 353) <|
  qlt (qw h2 9 (ix ((48 : Int32) + x1)) p1) fun (h3 : qH) =>
  qg (qin ((16 : Int32) + p1) 353) <|
  qg (qin ((72 : Int32) + x1) 353) <|
  qlt (qw h3 9 (ix ((72 : Int32) + x1)) (h3.1 9 (ix ((16 : Int32) + p1)))) fun (h4 : qH) =>
  qg (qin ((96 : Int32) + x1) 353) <|
  qlt (qw h4 9 (ix ((96 : Int32) + x1)) p2) fun (h5 : qH) =>
  qg (qin ((120 : Int32) + x1) 353) <|
  qlt (qw h5 9 (ix ((120 : Int32) + x1)) (1 : Int32)) fun (h6 : qH) =>
  qg (qin ((144 : Int32) + x1) 353) <|
  qlt (qw h6 9 (ix ((144 : Int32) + x1)) (0 : Int32)) fun (h7 : qH) =>
  qg (qin ((16 : Int32) + p1) 353) <|
  qg (qin ((16 : Int32) + p1) 353) <|
  qlt (qw h7 9 (ix ((16 : Int32) + p1)) ((h7.1 9 (ix ((16 : Int32) + p1))) + p2)) fun (h8 : qH) =>
  some (x1, h8)
set_option maxRecDepth 100000 in
set_option maxHeartbeats 4000000 in
theorem m9_newFile (l : Launch) (p1 : Int32) (p2 : Int32) : qMet UM ROM l yX9_newFile (qws yX9_newFile cX9_newFile 4 (some .int)) R9_newFile [.ref 0, .int p1, .int p2] (f9_newFile p1 p2) qEw := by
  refine q_met (own := RX9) 1 (by decide) rfl (Nat.le_of_ble_eq_true rfl) (ls := [some (.ref 0), some (.int p1), some (.int p2), none]) rfl fun h => ?_
  unfold f9_newFile
  show PW UM ROM l R9_newFile cX9_newFile 4 (some .int) RX9 (qEw h) 0 [some (.ref 0), some (.int p1), some (.int p2), none] [] h _
  refine p_aload_n rfl dX9_newFile_0 rfl ?_
  refine p_getr qg_RX9_34 uM_0 rfl dX9_newFile_1 rfl ?_
  refine p_sipush (v := (168 : Int32)) ksipush_168 dX9_newFile_4 rfl ?_
  refine p_ialdK uM_9 kix_168 kqin_168_353 dX9_newFile_7 rfl ?_
  refine p_isN_n (lf := fun x1 => [some (.ref 0), some (.int p1), some (.int p2), some (.int x1)]) dX9_newFile_8 rfl rfl rfl (fun _ => rfl) (fun x1 => ?_)
  refine p_aload_n rfl dX9_newFile_9 rfl ?_
  refine p_getr qg_RX9_34 uM_0 rfl dX9_newFile_10 rfl ?_
  refine p_sipush (v := (168 : Int32)) ksipush_168 dX9_newFile_13 rfl ?_
  refine p_dup2 rfl rfl dX9_newFile_16 rfl ?_
  refine p_ialdK uM_9 kix_168 kqin_168_353 dX9_newFile_17 rfl ?_
  refine p_iconst (v := (1 : Int32)) kiconst_1 dX9_newFile_18 rfl ?_
  refine p_iadd dX9_newFile_19 rfl ?_
  refine p_iastK qokM uM_9 kix_168 kqin_168_353 dX9_newFile_20 rfl ?_
  refine p_nmH (fun h2 => ?_)
  refine p_aload_n rfl dX9_newFile_21 rfl ?_
  refine p_getr qg_RX9_34 uM_0 rfl dX9_newFile_22 rfl ?_
  refine p_bipush (v := (48 : Int32)) kbipush_48 dX9_newFile_25 rfl ?_
  refine p_iload_n rfl dX9_newFile_27 rfl ?_
  refine p_iadd dX9_newFile_28 rfl ?_
  refine p_iload_n rfl dX9_newFile_29 rfl ?_
  refine p_iast qokM uM_9 dX9_newFile_30 rfl (fun _ => ?_)
  refine p_nmH (fun h3 => ?_)
  refine p_aload_n rfl dX9_newFile_31 rfl ?_
  refine p_getr qg_RX9_34 uM_0 rfl dX9_newFile_32 rfl ?_
  refine p_bipush (v := (72 : Int32)) kbipush_72 dX9_newFile_35 rfl ?_
  refine p_iload_n rfl dX9_newFile_37 rfl ?_
  refine p_iadd dX9_newFile_38 rfl ?_
  refine p_aload_n rfl dX9_newFile_39 rfl ?_
  refine p_getr qg_RX9_34 uM_0 rfl dX9_newFile_40 rfl ?_
  refine p_bipush (v := (16 : Int32)) kbipush_16 dX9_newFile_43 rfl ?_
  refine p_iload_n rfl dX9_newFile_45 rfl ?_
  refine p_iadd dX9_newFile_46 rfl ?_
  refine p_iald uM_9 dX9_newFile_47 rfl (fun _ => ?_)
  refine p_iast qokM uM_9 dX9_newFile_48 rfl (fun _ => ?_)
  refine p_nmH (fun h4 => ?_)
  refine p_aload_n rfl dX9_newFile_49 rfl ?_
  refine p_getr qg_RX9_34 uM_0 rfl dX9_newFile_50 rfl ?_
  refine p_bipush (v := (96 : Int32)) kbipush_96 dX9_newFile_53 rfl ?_
  refine p_iload_n rfl dX9_newFile_55 rfl ?_
  refine p_iadd dX9_newFile_56 rfl ?_
  refine p_iload_n rfl dX9_newFile_57 rfl ?_
  refine p_iast qokM uM_9 dX9_newFile_58 rfl (fun _ => ?_)
  refine p_nmH (fun h5 => ?_)
  refine p_aload_n rfl dX9_newFile_59 rfl ?_
  refine p_getr qg_RX9_34 uM_0 rfl dX9_newFile_60 rfl ?_
  refine p_bipush (v := (120 : Int32)) kbipush_120 dX9_newFile_63 rfl ?_
  refine p_iload_n rfl dX9_newFile_65 rfl ?_
  refine p_iadd dX9_newFile_66 rfl ?_
  refine p_iconst (v := (1 : Int32)) kiconst_1 dX9_newFile_67 rfl ?_
  refine p_iast qokM uM_9 dX9_newFile_68 rfl (fun _ => ?_)
  refine p_nmH (fun h6 => ?_)
  refine p_aload_n rfl dX9_newFile_69 rfl ?_
  refine p_getr qg_RX9_34 uM_0 rfl dX9_newFile_70 rfl ?_
  refine p_sipush (v := (144 : Int32)) ksipush_144 dX9_newFile_73 rfl ?_
  refine p_iload_n rfl dX9_newFile_76 rfl ?_
  refine p_iadd dX9_newFile_77 rfl ?_
  refine p_iconst (v := (0 : Int32)) kiconst_0 dX9_newFile_78 rfl ?_
  refine p_iast qokM uM_9 dX9_newFile_79 rfl (fun _ => ?_)
  refine p_nmH (fun h7 => ?_)
  refine p_aload_n rfl dX9_newFile_80 rfl ?_
  refine p_getr qg_RX9_34 uM_0 rfl dX9_newFile_81 rfl ?_
  refine p_bipush (v := (16 : Int32)) kbipush_16 dX9_newFile_84 rfl ?_
  refine p_iload_n rfl dX9_newFile_86 rfl ?_
  refine p_iadd dX9_newFile_87 rfl ?_
  refine p_dup2 rfl rfl dX9_newFile_88 rfl ?_
  refine p_iald uM_9 dX9_newFile_89 rfl (fun _ => ?_)
  refine p_iload_n rfl dX9_newFile_90 rfl ?_
  refine p_iadd dX9_newFile_91 rfl ?_
  refine p_iast qokM uM_9 dX9_newFile_92 rfl (fun _ => ?_)
  refine p_nmH (fun h8 => ?_)
  refine p_iload_n rfl dX9_newFile_93 rfl ?_
  exact p_iret rfl rfl dX9_newFile_94
noncomputable def f9_takeHall_L10 (k : Int32 → qH → Option (Int32 × qH)) : Nat → Int32 → qH → Option (Int32 × qH)
  | 0, _, _ => none
  | n + 1, x2, h3 =>
    if (8 : Int32) ≤ x2 then (
      k x2 h3)
    else (
      qg (qin x2 8) <|
      qg (qin x2 8) <|
      qlt (qw h3 5 (ix x2) (h3.1 2 (ix x2))) fun (h5 : qH) =>
      qlt (x2 + (1 : Int32)) fun (x6 : Int32) =>
      f9_takeHall_L10 k n x6 h5)
set_option maxRecDepth 100000 in
set_option maxHeartbeats 4000000 in
theorem w9_takeHall_L10 (l : Launch) (h0 : qH) {k : Int32 → qH → Option (Int32 × qH)} (hk : ∀ (x2 : Int32) (h3 : qH), PW UM ROM l R9_takeHall cX9_takeHall 3 (some .int) RX9 (qEw h0) 34 [some (.ref 0), some (.int x2), none] [] h3 (k x2 h3)) : ∀ (n : Nat) (x2 : Int32) (h3 : qH), PW UM ROM l R9_takeHall cX9_takeHall 3 (some .int) RX9 (qEw h0) 10 [some (.ref 0), some (.int x2), none] [] h3 (f9_takeHall_L10 k n x2 h3) := by
  intro n
  induction n with
  | zero => intro _ _; exact p_none
  | succ n ih =>
    intro x2 h3
    unfold f9_takeHall_L10
    refine p_iload_n rfl dX9_takeHall_10 rfl ?_
    refine p_bipush (v := (8 : Int32)) kbipush_8 dX9_takeHall_11 rfl ?_
    refine p_if (fun c4 => ?_) (fun c4 => ?_)
    · refine p_icmp_ge_t (tgt := 34) dX9_takeHall_13 (by decide) c4 ?_
      exact hk x2 h3
    · refine p_icmp_ge_f (tgt := 34) dX9_takeHall_13 (by decide) rfl c4 ?_
      refine p_aload_n rfl dX9_takeHall_16 rfl ?_
      refine p_getr qg_RX9_22 uM_0 rfl dX9_takeHall_17 rfl ?_
      refine p_iload_n rfl dX9_takeHall_20 rfl ?_
      refine p_aload_n rfl dX9_takeHall_21 rfl ?_
      refine p_getr qg_RX9_13 uM_0 rfl dX9_takeHall_22 rfl ?_
      refine p_iload_n rfl dX9_takeHall_25 rfl ?_
      refine p_iald uM_2 dX9_takeHall_26 rfl (fun _ => ?_)
      refine p_iast qokM uM_5 dX9_takeHall_27 rfl (fun _ => ?_)
      refine p_nmH (fun h5 => ?_)
      refine p_iiN (v := (1 : Int32)) (lf := fun x6 => [some (.ref 0), some (.int x6), none]) kiconst_1 dX9_takeHall_28 rfl rfl rfl rfl (fun _ => rfl) (fun x6 => ?_)
      refine p_goto (tgt := 10) dX9_takeHall_31 (by decide) ?_
      exact ih x6 h5
noncomputable def f9_takeHall_L36 (k : Int32 → qH → Option (Int32 × qH)) : Nat → Int32 → qH → Option (Int32 × qH)
  | 0, _, _ => none
  | n + 1, x9, h10 =>
    if (353 : Int32) ≤ x9 then (
      k x9 h10)
    else (
      qg (qin x9 353) <|
      qlt (qw h10 9 (ix x9) (0 : Int32)) fun (h12 : qH) =>
      qlt (x9 + (1 : Int32)) fun (x13 : Int32) =>
      f9_takeHall_L36 k n x13 h12)
set_option maxRecDepth 100000 in
set_option maxHeartbeats 4000000 in
theorem w9_takeHall_L36 (l : Launch) (h0 : qH) {k : Int32 → qH → Option (Int32 × qH)} (hk : ∀ (x9 : Int32) (h10 : qH), PW UM ROM l R9_takeHall cX9_takeHall 3 (some .int) RX9 (qEw h0) 56 [some (.ref 0), some (.int x9), none] [] h10 (k x9 h10)) : ∀ (n : Nat) (x9 : Int32) (h10 : qH), PW UM ROM l R9_takeHall cX9_takeHall 3 (some .int) RX9 (qEw h0) 36 [some (.ref 0), some (.int x9), none] [] h10 (f9_takeHall_L36 k n x9 h10) := by
  intro n
  induction n with
  | zero => intro _ _; exact p_none
  | succ n ih =>
    intro x9 h10
    unfold f9_takeHall_L36
    refine p_iload_n rfl dX9_takeHall_36 rfl ?_
    refine p_sipush (v := (353 : Int32)) ksipush_353 dX9_takeHall_37 rfl ?_
    refine p_if (fun c11 => ?_) (fun c11 => ?_)
    · refine p_icmp_ge_t (tgt := 56) dX9_takeHall_40 (by decide) c11 ?_
      exact hk x9 h10
    · refine p_icmp_ge_f (tgt := 56) dX9_takeHall_40 (by decide) rfl c11 ?_
      refine p_aload_n rfl dX9_takeHall_43 rfl ?_
      refine p_getr qg_RX9_34 uM_0 rfl dX9_takeHall_44 rfl ?_
      refine p_iload_n rfl dX9_takeHall_47 rfl ?_
      refine p_iconst (v := (0 : Int32)) kiconst_0 dX9_takeHall_48 rfl ?_
      refine p_iast qokM uM_9 dX9_takeHall_49 rfl (fun _ => ?_)
      refine p_nmH (fun h12 => ?_)
      refine p_iiN (v := (1 : Int32)) (lf := fun x13 => [some (.ref 0), some (.int x13), none]) kiconst_1 dX9_takeHall_50 rfl rfl rfl rfl (fun _ => rfl) (fun x13 => ?_)
      refine p_goto (tgt := 36) dX9_takeHall_53 (by decide) ?_
      exact ih x13 h12
noncomputable def f9_takeHall_L58 (k : Int32 → qH → Option (Int32 × qH)) : Nat → Int32 → qH → Option (Int32 × qH)
  | 0, _, _ => none
  | n + 1, x16, h17 =>
    if (h17.1 0 12) ≤ x16 then (
      k x16 h17)
    else (
      qg (qin ((2 : Int32) * x16) 16) <|
      qg (qin x16 8) <|
      qlt (qw h17 6 (ix x16) (h17.1 3 (ix ((2 : Int32) * x16)))) fun (h19 : qH) =>
      qg (qin ((0 : Int32) + x16) 353) <|
      qlt (qw h19 9 (ix ((0 : Int32) + x16)) x16) fun (h20 : qH) =>
      qg (qin ((8 : Int32) + x16) 353) <|
      qlt (qw h20 9 (ix ((8 : Int32) + x16)) (-1 : Int32)) fun (h21 : qH) =>
      qg (qin (((2 : Int32) * x16) + (1 : Int32)) 16) <|
      qg (qin ((24 : Int32) + x16) 353) <|
      qlt (qw h21 9 (ix ((24 : Int32) + x16)) (h21.1 3 (ix (((2 : Int32) * x16) + (1 : Int32))))) fun (h22 : qH) =>
      qlt (x16 + (1 : Int32)) fun (x23 : Int32) =>
      f9_takeHall_L58 k n x23 h22)
set_option maxRecDepth 100000 in
set_option maxHeartbeats 4000000 in
theorem w9_takeHall_L58 (l : Launch) (h0 : qH) {k : Int32 → qH → Option (Int32 × qH)} (hk : ∀ (x16 : Int32) (h17 : qH), PW UM ROM l R9_takeHall cX9_takeHall 3 (some .int) RX9 (qEw h0) 124 [some (.ref 0), some (.int x16), none] [] h17 (k x16 h17)) : ∀ (n : Nat) (x16 : Int32) (h17 : qH), PW UM ROM l R9_takeHall cX9_takeHall 3 (some .int) RX9 (qEw h0) 58 [some (.ref 0), some (.int x16), none] [] h17 (f9_takeHall_L58 k n x16 h17) := by
  intro n
  induction n with
  | zero => intro _ _; exact p_none
  | succ n ih =>
    intro x16 h17
    unfold f9_takeHall_L58
    refine p_iload_n rfl dX9_takeHall_58 rfl ?_
    refine p_aload_n rfl dX9_takeHall_59 rfl ?_
    refine p_geti qg_RX9_153 uM_0 rfl dX9_takeHall_60 rfl ?_
    refine p_if (fun c18 => ?_) (fun c18 => ?_)
    · refine p_icmp_ge_t (tgt := 124) dX9_takeHall_63 (by decide) c18 ?_
      exact hk x16 h17
    · refine p_icmp_ge_f (tgt := 124) dX9_takeHall_63 (by decide) rfl c18 ?_
      refine p_aload_n rfl dX9_takeHall_66 rfl ?_
      refine p_getr qg_RX9_25 uM_0 rfl dX9_takeHall_67 rfl ?_
      refine p_iload_n rfl dX9_takeHall_70 rfl ?_
      refine p_aload_n rfl dX9_takeHall_71 rfl ?_
      refine p_getr qg_RX9_16 uM_0 rfl dX9_takeHall_72 rfl ?_
      refine p_iconst (v := (2 : Int32)) kiconst_2 dX9_takeHall_75 rfl ?_
      refine p_iload_n rfl dX9_takeHall_76 rfl ?_
      refine p_imul dX9_takeHall_77 rfl ?_
      refine p_iald uM_3 dX9_takeHall_78 rfl (fun _ => ?_)
      refine p_iast qokM uM_6 dX9_takeHall_79 rfl (fun _ => ?_)
      refine p_nmH (fun h19 => ?_)
      refine p_aload_n rfl dX9_takeHall_80 rfl ?_
      refine p_getr qg_RX9_34 uM_0 rfl dX9_takeHall_81 rfl ?_
      refine p_iconst (v := (0 : Int32)) kiconst_0 dX9_takeHall_84 rfl ?_
      refine p_iload_n rfl dX9_takeHall_85 rfl ?_
      refine p_iadd dX9_takeHall_86 rfl ?_
      refine p_iload_n rfl dX9_takeHall_87 rfl ?_
      refine p_iast qokM uM_9 dX9_takeHall_88 rfl (fun _ => ?_)
      refine p_nmH (fun h20 => ?_)
      refine p_aload_n rfl dX9_takeHall_89 rfl ?_
      refine p_getr qg_RX9_34 uM_0 rfl dX9_takeHall_90 rfl ?_
      refine p_bipush (v := (8 : Int32)) kbipush_8 dX9_takeHall_93 rfl ?_
      refine p_iload_n rfl dX9_takeHall_95 rfl ?_
      refine p_iadd dX9_takeHall_96 rfl ?_
      refine p_iconst (v := (-1 : Int32)) kiconst_m1 dX9_takeHall_97 rfl ?_
      refine p_iast qokM uM_9 dX9_takeHall_98 rfl (fun _ => ?_)
      refine p_nmH (fun h21 => ?_)
      refine p_aload_n rfl dX9_takeHall_99 rfl ?_
      refine p_getr qg_RX9_34 uM_0 rfl dX9_takeHall_100 rfl ?_
      refine p_bipush (v := (24 : Int32)) kbipush_24 dX9_takeHall_103 rfl ?_
      refine p_iload_n rfl dX9_takeHall_105 rfl ?_
      refine p_iadd dX9_takeHall_106 rfl ?_
      refine p_aload_n rfl dX9_takeHall_107 rfl ?_
      refine p_getr qg_RX9_16 uM_0 rfl dX9_takeHall_108 rfl ?_
      refine p_iconst (v := (2 : Int32)) kiconst_2 dX9_takeHall_111 rfl ?_
      refine p_iload_n rfl dX9_takeHall_112 rfl ?_
      refine p_imul dX9_takeHall_113 rfl ?_
      refine p_iconst (v := (1 : Int32)) kiconst_1 dX9_takeHall_114 rfl ?_
      refine p_iadd dX9_takeHall_115 rfl ?_
      refine p_iald uM_3 dX9_takeHall_116 rfl (fun _ => ?_)
      refine p_iast qokM uM_9 dX9_takeHall_117 rfl (fun _ => ?_)
      refine p_nmH (fun h22 => ?_)
      refine p_iiN (v := (1 : Int32)) (lf := fun x23 => [some (.ref 0), some (.int x23), none]) kiconst_1 dX9_takeHall_118 rfl rfl rfl rfl (fun _ => rfl) (fun x23 => ?_)
      refine p_goto (tgt := 58) dX9_takeHall_121 (by decide) ?_
      exact ih x23 h22
noncomputable def f9_takeHall_L126 (k : Int32 → qH → Option (Int32 × qH)) : Nat → Int32 → qH → Option (Int32 × qH)
  | 0, _, _ => none
  | n + 1, x26, h27 =>
    if (h27.1 0 9) ≤ x26 then (
      k x26 h27)
    else (
      qg (qin ((2 : Int32) * x26) 48) <|
      qlt (h27.1 4 (ix ((2 : Int32) * x26))) fun (x29 : Int32) =>
      (f9_isTape x29 h27).bind fun (z30 : Int32) =>
      qj (fun (h31 : qH) =>
        qlt (x26 + (1 : Int32)) fun (x34 : Int32) =>
        f9_takeHall_L126 k n x34 h31) fun j32 =>
      if z30 = 0 then (
        j32 h27)
      else (
        qg (qin ((16 : Int32) + x29) 353) <|
        qg (qin (((2 : Int32) * x26) + (1 : Int32)) 48) <|
        (f9_blocksOfTape h27).bind fun (z36 : Int32) =>
        if z36 < ((h27.1 9 (ix ((16 : Int32) + x29))) + (h27.1 4 (ix (((2 : Int32) * x26) + (1 : Int32))))) then (
          j32 h27)
        else (
          qg (qin (((2 : Int32) * x26) + (1 : Int32)) 48) <|
          qb2 (f9_newFile x29 (h27.1 4 (ix (((2 : Int32) * x26) + (1 : Int32)))) h27) fun (z38 : Int32) (h39 : qH) =>
          j32 h39)))
set_option maxRecDepth 100000 in
set_option maxHeartbeats 4000000 in
theorem w9_takeHall_L126 (l : Launch) (h0 : qH) {k : Int32 → qH → Option (Int32 × qH)} (hk : ∀ (x26 : Int32) (h27 : qH), PW UM ROM l R9_takeHall cX9_takeHall 3 (some .int) RX9 (qEw h0) 200 [some (.ref 0), some (.int x26), none] [] h27 (k x26 h27)) : ∀ (n : Nat) (x26 : Int32) (h27 : qH), PW UM ROM l R9_takeHall cX9_takeHall 3 (some .int) RX9 (qEw h0) 126 [some (.ref 0), some (.int x26), none] [] h27 (f9_takeHall_L126 k n x26 h27) := by
  intro n
  induction n with
  | zero => intro _ _; exact p_none
  | succ n ih =>
    intro x26 h27
    unfold f9_takeHall_L126
    refine p_iload_n rfl dX9_takeHall_126 rfl ?_
    refine p_aload_n rfl dX9_takeHall_127 rfl ?_
    refine p_geti qg_RX9_127 uM_0 rfl dX9_takeHall_128 rfl ?_
    refine p_if (fun c28 => ?_) (fun c28 => ?_)
    · refine p_icmp_ge_t (tgt := 200) dX9_takeHall_131 (by decide) c28 ?_
      exact hk x26 h27
    · refine p_icmp_ge_f (tgt := 200) dX9_takeHall_131 (by decide) rfl c28 ?_
      refine p_aload_n rfl dX9_takeHall_134 rfl ?_
      refine p_getr qg_RX9_19 uM_0 rfl dX9_takeHall_135 rfl ?_
      refine p_iconst (v := (2 : Int32)) kiconst_2 dX9_takeHall_138 rfl ?_
      refine p_iload_n rfl dX9_takeHall_139 rfl ?_
      refine p_imul dX9_takeHall_140 rfl ?_
      refine p_iald uM_4 dX9_takeHall_141 rfl (fun _ => ?_)
      refine p_isN_n (lf := fun x29 => [some (.ref 0), some (.int x26), some (.int x29)]) dX9_takeHall_142 rfl rfl rfl (fun _ => rfl) (fun x29 => ?_)
      refine p_aload_n rfl dX9_takeHall_143 rfl ?_
      refine p_iload_n rfl dX9_takeHall_144 rfl ?_
      refine p_callVr (f := f9_isTape x29) (st := []) [.int x29] qRokM (m9_isTape l x29) cal_RX9_169 uM_0 rfl rfl ⟨rfl, rfl⟩ ⟨Nat.le_of_ble_eq_true rfl, Nat.le_of_ble_eq_true rfl⟩ (Nat.le_of_ble_eq_true rfl) dX9_takeHall_145 rfl (fun z30 => ?_)
      refine p_jn (fun j32 => ∀ (h31 : qH), PW UM ROM l R9_takeHall cX9_takeHall 3 (some .int) RX9 (qEw h0) 194 [some (.ref 0), some (.int x26), some (.int x29)] [] h31 (j32 h31)) (fun h31 => ?_) (fun j32 J33 => ?_)
      · refine p_iiN (v := (1 : Int32)) (lf := fun x34 => [some (.ref 0), some (.int x34), some (.int x29)]) kiconst_1 dX9_takeHall_194 rfl rfl rfl rfl (fun _ => rfl) (fun x34 => ?_)
        refine p_goto (tgt := 126) dX9_takeHall_197 (by decide) ?_
        exact p_wk (ls' := [some (.ref 0), some (.int x34), none]) ⟨rfl, rfl, trivial⟩ (ih x34 h31)
      · refine p_if (fun c35 => ?_) (fun c35 => ?_)
        · refine p_if_eq_t (tgt := 194) dX9_takeHall_148 (by decide) c35 ?_
          exact J33 h27
        · refine p_if_eq_f (tgt := 194) dX9_takeHall_148 (by decide) rfl c35 ?_
          refine p_aload_n rfl dX9_takeHall_151 rfl ?_
          refine p_getr qg_RX9_34 uM_0 rfl dX9_takeHall_152 rfl ?_
          refine p_bipush (v := (16 : Int32)) kbipush_16 dX9_takeHall_155 rfl ?_
          refine p_iload_n rfl dX9_takeHall_157 rfl ?_
          refine p_iadd dX9_takeHall_158 rfl ?_
          refine p_iald uM_9 dX9_takeHall_159 rfl (fun _ => ?_)
          refine p_aload_n rfl dX9_takeHall_160 rfl ?_
          refine p_getr qg_RX9_19 uM_0 rfl dX9_takeHall_161 rfl ?_
          refine p_iconst (v := (2 : Int32)) kiconst_2 dX9_takeHall_164 rfl ?_
          refine p_iload_n rfl dX9_takeHall_165 rfl ?_
          refine p_imul dX9_takeHall_166 rfl ?_
          refine p_iconst (v := (1 : Int32)) kiconst_1 dX9_takeHall_167 rfl ?_
          refine p_iadd dX9_takeHall_168 rfl ?_
          refine p_iald uM_4 dX9_takeHall_169 rfl (fun _ => ?_)
          refine p_iadd dX9_takeHall_170 rfl ?_
          refine p_aload_n rfl dX9_takeHall_171 rfl ?_
          refine p_callVr (f := f9_blocksOfTape) (st := [.int ((h27.1 9 (ix ((16 : Int32) + x29))) + (h27.1 4 (ix (((2 : Int32) * x26) + (1 : Int32)))))]) [] qRokM (m9_blocksOfTape l) cal_RX9_172 uM_0 rfl rfl ⟨rfl, rfl⟩ ⟨Nat.le_of_ble_eq_true rfl, Nat.le_of_ble_eq_true rfl⟩ (Nat.le_of_ble_eq_true rfl) dX9_takeHall_172 rfl (fun z36 => ?_)
          refine p_if (fun c37 => ?_) (fun c37 => ?_)
          · refine p_icmp_gt_t (tgt := 194) dX9_takeHall_175 (by decide) c37 ?_
            exact J33 h27
          · refine p_icmp_gt_f (tgt := 194) dX9_takeHall_175 (by decide) rfl c37 ?_
            refine p_aload_n rfl dX9_takeHall_178 rfl ?_
            refine p_iload_n rfl dX9_takeHall_179 rfl ?_
            refine p_aload_n rfl dX9_takeHall_180 rfl ?_
            refine p_getr qg_RX9_19 uM_0 rfl dX9_takeHall_181 rfl ?_
            refine p_iconst (v := (2 : Int32)) kiconst_2 dX9_takeHall_184 rfl ?_
            refine p_iload_n rfl dX9_takeHall_185 rfl ?_
            refine p_imul dX9_takeHall_186 rfl ?_
            refine p_iconst (v := (1 : Int32)) kiconst_1 dX9_takeHall_187 rfl ?_
            refine p_iadd dX9_takeHall_188 rfl ?_
            refine p_iald uM_4 dX9_takeHall_189 rfl (fun _ => ?_)
            refine p_cVw (f := f9_newFile x29 (h27.1 4 (ix (((2 : Int32) * x26) + (1 : Int32))))) (st := []) [.int x29, .int (h27.1 4 (ix (((2 : Int32) * x26) + (1 : Int32))))] qRokM (m9_newFile l x29 (h27.1 4 (ix (((2 : Int32) * x26) + (1 : Int32))))) cal_RX9_175 uM_0 rfl rfl ⟨rfl, rfl⟩ ⟨Nat.le_of_ble_eq_true rfl, Nat.le_of_ble_eq_true rfl⟩ (Nat.le_of_ble_eq_true rfl) dX9_takeHall_190 rfl (fun z38 h39 => ?_)
            refine p_pop rfl dX9_takeHall_193 rfl ?_
            exact J33 h39
noncomputable def f9_takeHall (h : qH) : Option (Int32 × qH) :=
  qlt (qw h 0 12 (h.1 0 8)) fun (h1 : qH) =>
  f9_takeHall_L10 (fun (x7 : Int32) (h8 : qH) =>
    f9_takeHall_L36 (fun (x14 : Int32) (h15 : qH) =>
      f9_takeHall_L58 (fun (x24 : Int32) (h25 : qH) =>
        f9_takeHall_L126 (fun (x40 : Int32) (h41 : qH) =>
          qlt (qw h41 0 23 (0 : Int32)) fun (h42 : qH) =>
          qlt (qw h42 0 34 (0 : Int32)) fun (h43 : qH) =>
          some ((h43.1 0 12), h43)) qN (0 : Int32) h25) qN (0 : Int32) h15) qN (0 : Int32) h8) qN (0 : Int32) h1
set_option maxRecDepth 100000 in
set_option maxHeartbeats 4000000 in
theorem m9_takeHall (l : Launch) : qMet UM ROM l yX9_takeHall (qws yX9_takeHall cX9_takeHall 3 (some .int)) R9_takeHall [.ref 0] f9_takeHall qEw := by
  refine q_met (own := RX9) 2 (by decide) rfl (Nat.le_of_ble_eq_true rfl) (ls := [some (.ref 0), none, none]) rfl fun h => ?_
  unfold f9_takeHall
  show PW UM ROM l R9_takeHall cX9_takeHall 3 (some .int) RX9 (qEw h) 0 [some (.ref 0), none, none] [] h _
  refine p_aload_n rfl dX9_takeHall_0 rfl ?_
  refine p_aload_n rfl dX9_takeHall_1 rfl ?_
  refine p_geti qg_RX9_124 uM_0 rfl dX9_takeHall_2 rfl ?_
  refine p_puti qokM qp_RX9_153 uM_0 rfl dX9_takeHall_5 rfl ?_
  refine p_nmH (fun h1 => ?_)
  refine p_iconst (v := (0 : Int32)) kiconst_0 dX9_takeHall_8 rfl ?_
  refine p_is_n (ls' := [some (.ref 0), some (.int (0 : Int32)), none]) dX9_takeHall_9 rfl rfl rfl rfl ?_
  refine w9_takeHall_L10 l h (fun x7 h8 => ?_) qN _ _
  refine p_iconst (v := (0 : Int32)) kiconst_0 dX9_takeHall_34 rfl ?_
  refine p_is_n (ls' := [some (.ref 0), some (.int (0 : Int32)), none]) dX9_takeHall_35 rfl rfl rfl rfl ?_
  refine w9_takeHall_L36 l h (fun x14 h15 => ?_) qN _ _
  refine p_iconst (v := (0 : Int32)) kiconst_0 dX9_takeHall_56 rfl ?_
  refine p_is_n (ls' := [some (.ref 0), some (.int (0 : Int32)), none]) dX9_takeHall_57 rfl rfl rfl rfl ?_
  refine w9_takeHall_L58 l h (fun x24 h25 => ?_) qN _ _
  refine p_iconst (v := (0 : Int32)) kiconst_0 dX9_takeHall_124 rfl ?_
  refine p_is_n (ls' := [some (.ref 0), some (.int (0 : Int32)), none]) dX9_takeHall_125 rfl rfl rfl rfl ?_
  refine w9_takeHall_L126 l h (fun x40 h41 => ?_) qN _ _
  refine p_aload_n rfl dX9_takeHall_200 rfl ?_
  refine p_iconst (v := (0 : Int32)) kiconst_0 dX9_takeHall_201 rfl ?_
  refine p_puti qokM qp_RX9_178 uM_0 rfl dX9_takeHall_202 rfl ?_
  refine p_nmH (fun h42 => ?_)
  refine p_aload_n rfl dX9_takeHall_205 rfl ?_
  refine p_iconst (v := (0 : Int32)) kiconst_0 dX9_takeHall_206 rfl ?_
  refine p_putz qokM kz_0 qp_RX9_181 uM_0 rfl dX9_takeHall_207 rfl ?_
  refine p_nmH (fun h43 => ?_)
  refine p_aload_n rfl dX9_takeHall_210 rfl ?_
  refine p_geti qg_RX9_153 uM_0 rfl dX9_takeHall_211 rfl ?_
  exact p_iret rfl rfl dX9_takeHall_214
noncomputable def f9_text (p1 : Int32) (h : qH) : Option (Int32 × qH) :=
  qj (fun (h1 : qH) =>
    if p1 = (1 : Int32) then (
      if (4 : Int32) ≤ (h1.1 0 15) then (
        some ((-1 : Int32), h1))
      else (
        qb2 (f9_readScript (h1.1 0 15) h1) fun (z6 : Int32) (h7 : qH) =>
        if z6 = (-1 : Int32) then (
          qlt (qw h7 0 2 (0 : Int32)) fun (h9 : qH) =>
          qlt (qw h9 0 15 ((h9.1 0 15) + (1 : Int32))) fun (h10 : qH) =>
          some (((h10.1 0 15) - (1 : Int32)), h10))
        else (
          some ((-1 : Int32), h7))))
    else (
      some ((-1 : Int32), h1))) fun j2 =>
  if p1 = 0 then (
    qb2 (f9_readHall h) fun (z12 : Int32) (h13 : qH) =>
    if z12 = (-1 : Int32) then (
      qlt (qw h13 0 2 (0 : Int32)) fun (h15 : qH) =>
      qb2 (f9_takeHall h15) fun (z16 : Int32) (h17 : qH) =>
      some (z16, h17))
    else (
      j2 h13))
  else (
    j2 h)
set_option maxRecDepth 100000 in
set_option maxHeartbeats 4000000 in
theorem m9_text (l : Launch) (p1 : Int32) : qMet UM ROM l yX9_text (qws yX9_text cX9_text 2 (some .int)) R9_text [.ref 0, .int p1] (f9_text p1) qEw := by
  refine q_met (own := RX9) 0 (by decide) rfl (Nat.le_of_ble_eq_true rfl) (ls := [some (.ref 0), some (.int p1)]) rfl fun h => ?_
  unfold f9_text
  show PW UM ROM l R9_text cX9_text 2 (some .int) RX9 (qEw h) 0 [some (.ref 0), some (.int p1)] [] h _
  refine p_iload_n rfl dX9_text_0 rfl ?_
  refine p_jn (fun j2 => ∀ (h1 : qH), PW UM ROM l R9_text cX9_text 2 (some .int) RX9 (qEw h) 22 [some (.ref 0), some (.int p1)] [] h1 (j2 h1)) (fun h1 => ?_) (fun j2 J3 => ?_)
  · refine p_iload_n rfl dX9_text_22 rfl ?_
    refine p_iconst (v := (1 : Int32)) kiconst_1 dX9_text_23 rfl ?_
    refine p_if (fun c4 => ?_) (fun c4 => ?_)
    · refine p_icmp_ne_f (tgt := 69) dX9_text_24 (by decide) rfl c4 ?_
      refine p_aload_n rfl dX9_text_27 rfl ?_
      refine p_geti qg_RX9_188 uM_0 rfl dX9_text_28 rfl ?_
      refine p_iconst (v := (4 : Int32)) kiconst_4 dX9_text_31 rfl ?_
      refine p_if (fun c5 => ?_) (fun c5 => ?_)
      · refine p_icmp_ge_t (tgt := 69) dX9_text_32 (by decide) c5 ?_
        refine p_iconst (v := (-1 : Int32)) kiconst_m1 dX9_text_69 rfl ?_
        exact p_iret rfl rfl dX9_text_70
      · refine p_icmp_ge_f (tgt := 69) dX9_text_32 (by decide) rfl c5 ?_
        refine p_aload_n rfl dX9_text_35 rfl ?_
        refine p_aload_n rfl dX9_text_36 rfl ?_
        refine p_geti qg_RX9_188 uM_0 rfl dX9_text_37 rfl ?_
        refine p_cVw (f := f9_readScript (h1.1 0 15)) (st := []) [.int (h1.1 0 15)] qRokM (m9_readScript l (h1.1 0 15)) cal_RX9_150 uM_0 rfl rfl ⟨rfl, rfl⟩ ⟨Nat.le_of_ble_eq_true rfl, Nat.le_of_ble_eq_true rfl⟩ (Nat.le_of_ble_eq_true rfl) dX9_text_40 rfl (fun z6 h7 => ?_)
        refine p_iconst (v := (-1 : Int32)) kiconst_m1 dX9_text_43 rfl ?_
        refine p_if (fun c8 => ?_) (fun c8 => ?_)
        · refine p_icmp_ne_f (tgt := 69) dX9_text_44 (by decide) rfl c8 ?_
          refine p_aload_n rfl dX9_text_47 rfl ?_
          refine p_iconst (v := (0 : Int32)) kiconst_0 dX9_text_48 rfl ?_
          refine p_puti qokM qp_RX9_73 uM_0 rfl dX9_text_49 rfl ?_
          refine p_nmH (fun h9 => ?_)
          refine p_aload_n rfl dX9_text_52 rfl ?_
          refine p_dup rfl dX9_text_53 rfl ?_
          refine p_geti qg_RX9_188 uM_0 rfl dX9_text_54 rfl ?_
          refine p_iconst (v := (1 : Int32)) kiconst_1 dX9_text_57 rfl ?_
          refine p_iadd dX9_text_58 rfl ?_
          refine p_puti qokM qp_RX9_188 uM_0 rfl dX9_text_59 rfl ?_
          refine p_nmH (fun h10 => ?_)
          refine p_aload_n rfl dX9_text_62 rfl ?_
          refine p_geti qg_RX9_188 uM_0 rfl dX9_text_63 rfl ?_
          refine p_iconst (v := (1 : Int32)) kiconst_1 dX9_text_66 rfl ?_
          refine p_isub dX9_text_67 rfl ?_
          exact p_iret rfl rfl dX9_text_68
        · refine p_icmp_ne_t (tgt := 69) dX9_text_44 (by decide) c8 ?_
          refine p_iconst (v := (-1 : Int32)) kiconst_m1 dX9_text_69 rfl ?_
          exact p_iret rfl rfl dX9_text_70
    · refine p_icmp_ne_t (tgt := 69) dX9_text_24 (by decide) c4 ?_
      refine p_iconst (v := (-1 : Int32)) kiconst_m1 dX9_text_69 rfl ?_
      exact p_iret rfl rfl dX9_text_70
  · refine p_if (fun c11 => ?_) (fun c11 => ?_)
    · refine p_if_ne_f (tgt := 22) dX9_text_1 (by decide) rfl c11 ?_
      refine p_aload_n rfl dX9_text_4 rfl ?_
      refine p_cVw (f := f9_readHall) (st := []) [] qRokM (m9_readHall l) cal_RX9_147 uM_0 rfl rfl ⟨rfl, rfl⟩ ⟨Nat.le_of_ble_eq_true rfl, Nat.le_of_ble_eq_true rfl⟩ (Nat.le_of_ble_eq_true rfl) dX9_text_5 rfl (fun z12 h13 => ?_)
      refine p_iconst (v := (-1 : Int32)) kiconst_m1 dX9_text_8 rfl ?_
      refine p_if (fun c14 => ?_) (fun c14 => ?_)
      · refine p_icmp_ne_f (tgt := 22) dX9_text_9 (by decide) rfl c14 ?_
        refine p_aload_n rfl dX9_text_12 rfl ?_
        refine p_iconst (v := (0 : Int32)) kiconst_0 dX9_text_13 rfl ?_
        refine p_puti qokM qp_RX9_73 uM_0 rfl dX9_text_14 rfl ?_
        refine p_nmH (fun h15 => ?_)
        refine p_aload_n rfl dX9_text_17 rfl ?_
        refine p_cVw (f := f9_takeHall) (st := []) [] qRokM (m9_takeHall l) cal_RX9_185 uM_0 rfl rfl ⟨rfl, rfl⟩ ⟨Nat.le_of_ble_eq_true rfl, Nat.le_of_ble_eq_true rfl⟩ (Nat.le_of_ble_eq_true rfl) dX9_text_18 rfl (fun z16 h17 => ?_)
        exact p_iret rfl rfl dX9_text_21
      · refine p_icmp_ne_t (tgt := 22) dX9_text_9 (by decide) c14 ?_
        exact J3 h13
    · refine p_if_ne_t (tgt := 22) dX9_text_1 (by decide) c11 ?_
      exact J3 h
noncomputable def f9_wrapOf (p1 : Int32) (h : qH) : Option (Int32) :=
  qg (decide (¬ (h.1 5 2) = 0)) <|
  some (p1 / (h.1 5 2))
set_option maxRecDepth 100000 in
set_option maxHeartbeats 4000000 in
theorem m9_wrapOf (l : Launch) (p1 : Int32) : qMet UM ROM l yX9_wrapOf (qws yX9_wrapOf cX9_wrapOf 2 (some .int)) R9_wrapOf [.ref 0, .int p1] (f9_wrapOf p1) qEr := by
  refine q_met (own := RX9) 0 (by decide) rfl (Nat.le_of_ble_eq_true rfl) (ls := [some (.ref 0), some (.int p1)]) rfl fun h => ?_
  unfold f9_wrapOf
  refine p_iload_n rfl dX9_wrapOf_0 rfl ?_
  refine p_aload_n rfl dX9_wrapOf_1 rfl ?_
  refine p_getr qg_RX9_22 uM_0 rfl dX9_wrapOf_2 rfl ?_
  refine p_iconst (v := (2 : Int32)) kiconst_2 dX9_wrapOf_5 rfl ?_
  refine p_ialdK uM_5 kix_2 kqin_2_8 dX9_wrapOf_6 rfl ?_
  refine p_idiv dX9_wrapOf_7 rfl (fun _ => ?_)
  exact p_iret rfl rfl dX9_wrapOf_8
noncomputable def f9_spotOf (p1 : Int32) (h : qH) : Option (Int32) :=
  qg (decide (¬ (h.1 5 2) = 0)) <|
  qlt (p1 - p1 / (h.1 5 2) * (h.1 5 2)) fun (x1 : Int32) =>
  (f9_wrapOf p1 h).bind fun (z2 : Int32) =>
  qg (decide (¬ (2 : Int32) = 0)) <|
  qj (fun (x3 : Int32) =>
    some x3) fun j4 =>
  if (z2 - z2 / (2 : Int32) * (2 : Int32)) = (1 : Int32) then (
    j4 (((h.1 5 2) - (1 : Int32)) - x1))
  else (
    j4 x1)
set_option maxRecDepth 100000 in
set_option maxHeartbeats 4000000 in
theorem m9_spotOf (l : Launch) (p1 : Int32) : qMet UM ROM l yX9_spotOf (qws yX9_spotOf cX9_spotOf 3 (some .int)) R9_spotOf [.ref 0, .int p1] (f9_spotOf p1) qEr := by
  refine q_met (own := RX9) 1 (by decide) rfl (Nat.le_of_ble_eq_true rfl) (ls := [some (.ref 0), some (.int p1), none]) rfl fun h => ?_
  unfold f9_spotOf
  refine p_iload_n rfl dX9_spotOf_0 rfl ?_
  refine p_aload_n rfl dX9_spotOf_1 rfl ?_
  refine p_getr qg_RX9_22 uM_0 rfl dX9_spotOf_2 rfl ?_
  refine p_iconst (v := (2 : Int32)) kiconst_2 dX9_spotOf_5 rfl ?_
  refine p_ialdK uM_5 kix_2 kqin_2_8 dX9_spotOf_6 rfl ?_
  refine p_irem dX9_spotOf_7 rfl (fun _ => ?_)
  refine p_isN_n (lf := fun x1 => [some (.ref 0), some (.int p1), some (.int x1)]) dX9_spotOf_8 rfl rfl rfl (fun _ => rfl) (fun x1 => ?_)
  refine p_aload_n rfl dX9_spotOf_9 rfl ?_
  refine p_iload_n rfl dX9_spotOf_10 rfl ?_
  refine p_callVr (f := f9_wrapOf p1) (st := []) [.int p1] qRokM (m9_wrapOf l p1) cal_RX9_191 uM_0 rfl rfl ⟨rfl, rfl⟩ ⟨Nat.le_of_ble_eq_true rfl, Nat.le_of_ble_eq_true rfl⟩ (Nat.le_of_ble_eq_true rfl) dX9_spotOf_11 rfl (fun z2 => ?_)
  refine p_iconst (v := (2 : Int32)) kiconst_2 dX9_spotOf_14 rfl ?_
  refine p_irem dX9_spotOf_15 rfl (fun _ => ?_)
  refine p_iconst (v := (1 : Int32)) kiconst_1 dX9_spotOf_16 rfl ?_
  refine p_jn (fun j4 => ∀ (x3 : Int32), PW UM ROM l R9_spotOf cX9_spotOf 3 (some .int) RX9 (qEr h) 34 [some (.ref 0), some (.int p1), some (.int x1)] [.int x3] h (j4 x3)) (fun x3 => ?_) (fun j4 J5 => ?_)
  · exact p_iret rfl rfl dX9_spotOf_34
  · refine p_if (fun c6 => ?_) (fun c6 => ?_)
    · refine p_icmp_ne_f (tgt := 33) dX9_spotOf_17 (by decide) rfl c6 ?_
      refine p_aload_n rfl dX9_spotOf_20 rfl ?_
      refine p_getr qg_RX9_22 uM_0 rfl dX9_spotOf_21 rfl ?_
      refine p_iconst (v := (2 : Int32)) kiconst_2 dX9_spotOf_24 rfl ?_
      refine p_ialdK uM_5 kix_2 kqin_2_8 dX9_spotOf_25 rfl ?_
      refine p_iconst (v := (1 : Int32)) kiconst_1 dX9_spotOf_26 rfl ?_
      refine p_isub dX9_spotOf_27 rfl ?_
      refine p_iload_n rfl dX9_spotOf_28 rfl ?_
      refine p_isub dX9_spotOf_29 rfl ?_
      refine p_goto (tgt := 34) dX9_spotOf_30 (by decide) ?_
      exact J5 (((h.1 5 2) - (1 : Int32)) - x1)
    · refine p_icmp_ne_t (tgt := 33) dX9_spotOf_17 (by decide) c6 ?_
      refine p_iload_n rfl dX9_spotOf_33 rfl ?_
      exact J5 x1
noncomputable def f9_seekOf (p1 : Int32) (p2 : Int32) (h : qH) : Option (Int32) :=
  (f9_spotOf p1 h).bind fun (z1 : Int32) =>
  (f9_spotOf p2 h).bind fun (z2 : Int32) =>
  (f9_apart z1 z2 h).bind fun (z3 : Int32) =>
  (f9_wrapOf p1 h).bind fun (z4 : Int32) =>
  (f9_wrapOf p2 h).bind fun (z5 : Int32) =>
  qlt (if z4 = z5 then (0 : Int32) else (2 : Int32)) fun (x7 : Int32) =>
  some (z3 + x7)
set_option maxRecDepth 100000 in
set_option maxHeartbeats 4000000 in
theorem m9_seekOf (l : Launch) (p1 : Int32) (p2 : Int32) : qMet UM ROM l yX9_seekOf (qws yX9_seekOf cX9_seekOf 3 (some .int)) R9_seekOf [.ref 0, .int p1, .int p2] (f9_seekOf p1 p2) qEr := by
  refine q_met (own := RX9) 0 (by decide) rfl (Nat.le_of_ble_eq_true rfl) (ls := [some (.ref 0), some (.int p1), some (.int p2)]) rfl fun h => ?_
  unfold f9_seekOf
  refine p_aload_n rfl dX9_seekOf_0 rfl ?_
  refine p_iload_n rfl dX9_seekOf_1 rfl ?_
  refine p_callVr (f := f9_spotOf p1) (st := []) [.int p1] qRokM (m9_spotOf l p1) cal_RX9_194 uM_0 rfl rfl ⟨rfl, rfl⟩ ⟨Nat.le_of_ble_eq_true rfl, Nat.le_of_ble_eq_true rfl⟩ (Nat.le_of_ble_eq_true rfl) dX9_seekOf_2 rfl (fun z1 => ?_)
  refine p_aload_n rfl dX9_seekOf_5 rfl ?_
  refine p_iload_n rfl dX9_seekOf_6 rfl ?_
  refine p_callVr (f := f9_spotOf p2) (st := [.int z1]) [.int p2] qRokM (m9_spotOf l p2) cal_RX9_194 uM_0 rfl rfl ⟨rfl, rfl⟩ ⟨Nat.le_of_ble_eq_true rfl, Nat.le_of_ble_eq_true rfl⟩ (Nat.le_of_ble_eq_true rfl) dX9_seekOf_7 rfl (fun z2 => ?_)
  refine p_callSr (f := f9_apart z1 z2) (st := []) [.int z1, .int z2] qRokM (m9_apart l z1 z2) cal_RX9_197 rfl ⟨rfl, rfl⟩ ⟨Nat.le_of_ble_eq_true rfl, Nat.le_of_ble_eq_true rfl⟩ (Nat.le_of_ble_eq_true rfl) dX9_seekOf_10 rfl (fun z3 => ?_)
  refine p_aload_n rfl dX9_seekOf_13 rfl ?_
  refine p_iload_n rfl dX9_seekOf_14 rfl ?_
  refine p_callVr (f := f9_wrapOf p1) (st := [.int z3]) [.int p1] qRokM (m9_wrapOf l p1) cal_RX9_191 uM_0 rfl rfl ⟨rfl, rfl⟩ ⟨Nat.le_of_ble_eq_true rfl, Nat.le_of_ble_eq_true rfl⟩ (Nat.le_of_ble_eq_true rfl) dX9_seekOf_15 rfl (fun z4 => ?_)
  refine p_aload_n rfl dX9_seekOf_18 rfl ?_
  refine p_iload_n rfl dX9_seekOf_19 rfl ?_
  refine p_callVr (f := f9_wrapOf p2) (st := [.int z4, .int z3]) [.int p2] qRokM (m9_wrapOf l p2) cal_RX9_191 uM_0 rfl rfl ⟨rfl, rfl⟩ ⟨Nat.le_of_ble_eq_true rfl, Nat.le_of_ble_eq_true rfl⟩ (Nat.le_of_ble_eq_true rfl) dX9_seekOf_20 rfl (fun z5 => ?_)
  refine p_vj 31 [some (.ref 0), some (.int p1), some (.int p2)] [.int z3] (fun x7 => ?_) (fun J => ?_)
  · refine p_iadd dX9_seekOf_31 rfl ?_
    exact p_iret rfl rfl dX9_seekOf_32
  · refine p_dia (fun c6 => ?_) (fun c6 => ?_)
    · refine p_icmp_eq_t (tgt := 30) dX9_seekOf_23 (by decide) c6 ?_
      refine p_iconst (v := (0 : Int32)) kiconst_0 dX9_seekOf_30 rfl ?_
      exact J _
    · refine p_icmp_eq_f (tgt := 30) dX9_seekOf_23 (by decide) rfl c6 ?_
      refine p_iconst (v := (2 : Int32)) kiconst_2 dX9_seekOf_26 rfl ?_
      refine p_goto (tgt := 31) dX9_seekOf_27 (by decide) ?_
      exact J _
noncomputable def f9_armTo (p1 : Int32) (h : qH) : Option (qH) :=
  (f9_apart p1 (h.1 9 169) h).bind fun (z1 : Int32) =>
  qlt (qw h 9 170 ((h.1 9 170) + ((h.1 5 5) * z1))) fun (h2 : qH) =>
  qlt (qw h2 9 169 p1) fun (h3 : qH) =>
  some h3
set_option maxRecDepth 100000 in
set_option maxHeartbeats 4000000 in
theorem m9_armTo (l : Launch) (p1 : Int32) : qMet UM ROM l yX9_armTo (qws yX9_armTo cX9_armTo 2 none) R9_armTo [.ref 0, .int p1] (f9_armTo p1) qEv := by
  refine q_met (own := RX9) 0 (by decide) rfl (Nat.le_of_ble_eq_true rfl) (ls := [some (.ref 0), some (.int p1)]) rfl fun h => ?_
  unfold f9_armTo
  show PW UM ROM l R9_armTo cX9_armTo 2 none RX9 (qEv h) 0 [some (.ref 0), some (.int p1)] [] h _
  refine p_aload_n rfl dX9_armTo_0 rfl ?_
  refine p_getr qg_RX9_34 uM_0 rfl dX9_armTo_1 rfl ?_
  refine p_sipush (v := (170 : Int32)) ksipush_170 dX9_armTo_4 rfl ?_
  refine p_dup2 rfl rfl dX9_armTo_7 rfl ?_
  refine p_ialdK uM_9 kix_170 kqin_170_353 dX9_armTo_8 rfl ?_
  refine p_aload_n rfl dX9_armTo_9 rfl ?_
  refine p_getr qg_RX9_22 uM_0 rfl dX9_armTo_10 rfl ?_
  refine p_iconst (v := (5 : Int32)) kiconst_5 dX9_armTo_13 rfl ?_
  refine p_ialdK uM_5 kix_5 kqin_5_8 dX9_armTo_14 rfl ?_
  refine p_iload_n rfl dX9_armTo_15 rfl ?_
  refine p_aload_n rfl dX9_armTo_16 rfl ?_
  refine p_getr qg_RX9_34 uM_0 rfl dX9_armTo_17 rfl ?_
  refine p_sipush (v := (169 : Int32)) ksipush_169 dX9_armTo_20 rfl ?_
  refine p_ialdK uM_9 kix_169 kqin_169_353 dX9_armTo_23 rfl ?_
  refine p_callSr (f := f9_apart p1 (h.1 9 169)) (st := [.int (h.1 5 5), .int (h.1 9 170), .int (170 : Int32), .ref 9]) [.int p1, .int (h.1 9 169)] qRokM (m9_apart l p1 (h.1 9 169)) cal_RX9_197 rfl ⟨rfl, rfl⟩ ⟨Nat.le_of_ble_eq_true rfl, Nat.le_of_ble_eq_true rfl⟩ (Nat.le_of_ble_eq_true rfl) dX9_armTo_24 rfl (fun z1 => ?_)
  refine p_imul dX9_armTo_27 rfl ?_
  refine p_iadd dX9_armTo_28 rfl ?_
  refine p_iastK qokM uM_9 kix_170 kqin_170_353 dX9_armTo_29 rfl ?_
  refine p_nmH (fun h2 => ?_)
  refine p_aload_n rfl dX9_armTo_30 rfl ?_
  refine p_getr qg_RX9_34 uM_0 rfl dX9_armTo_31 rfl ?_
  refine p_sipush (v := (169 : Int32)) ksipush_169 dX9_armTo_34 rfl ?_
  refine p_iload_n rfl dX9_armTo_37 rfl ?_
  refine p_iastK qokM uM_9 kix_169 kqin_169_353 dX9_armTo_38 rfl ?_
  refine p_nmH (fun h3 => ?_)
  exact p_vret rfl rfl dX9_armTo_39
noncomputable def f9_unmounts (p1 : Int32) (h : qH) : Option (qH) :=
  qg (qin ((8 : Int32) + p1) 353) <|
  (f9_seekOf (h.1 9 (ix ((8 : Int32) + p1))) (0 : Int32) h).bind fun (z1 : Int32) =>
  qlt (qw h 9 170 ((h.1 9 170) + (z1 + (h.1 5 4)))) fun (h2 : qH) =>
  qg (qin ((0 : Int32) + p1) 353) <|
  (f9_armTo (h2.1 9 (ix ((0 : Int32) + p1))) h2).bind fun (h3 : qH) =>
  (f9_armTo p1 h3).bind fun (h4 : qH) =>
  qg (qin ((0 : Int32) + p1) 353) <|
  qlt (qw h4 9 (ix ((0 : Int32) + p1)) p1) fun (h5 : qH) =>
  qg (qin ((8 : Int32) + p1) 353) <|
  qlt (qw h5 9 (ix ((8 : Int32) + p1)) (-1 : Int32)) fun (h6 : qH) =>
  some h6
set_option maxRecDepth 100000 in
set_option maxHeartbeats 4000000 in
theorem m9_unmounts (l : Launch) (p1 : Int32) : qMet UM ROM l yX9_unmounts (qws yX9_unmounts cX9_unmounts 2 none) R9_unmounts [.ref 0, .int p1] (f9_unmounts p1) qEv := by
  refine q_met (own := RX9) 0 (by decide) rfl (Nat.le_of_ble_eq_true rfl) (ls := [some (.ref 0), some (.int p1)]) rfl fun h => ?_
  unfold f9_unmounts
  show PW UM ROM l R9_unmounts cX9_unmounts 2 none RX9 (qEv h) 0 [some (.ref 0), some (.int p1)] [] h _
  refine p_aload_n rfl dX9_unmounts_0 rfl ?_
  refine p_getr qg_RX9_34 uM_0 rfl dX9_unmounts_1 rfl ?_
  refine p_sipush (v := (170 : Int32)) ksipush_170 dX9_unmounts_4 rfl ?_
  refine p_dup2 rfl rfl dX9_unmounts_7 rfl ?_
  refine p_ialdK uM_9 kix_170 kqin_170_353 dX9_unmounts_8 rfl ?_
  refine p_aload_n rfl dX9_unmounts_9 rfl ?_
  refine p_aload_n rfl dX9_unmounts_10 rfl ?_
  refine p_getr qg_RX9_34 uM_0 rfl dX9_unmounts_11 rfl ?_
  refine p_bipush (v := (8 : Int32)) kbipush_8 dX9_unmounts_14 rfl ?_
  refine p_iload_n rfl dX9_unmounts_16 rfl ?_
  refine p_iadd dX9_unmounts_17 rfl ?_
  refine p_iald uM_9 dX9_unmounts_18 rfl (fun _ => ?_)
  refine p_iconst (v := (0 : Int32)) kiconst_0 dX9_unmounts_19 rfl ?_
  refine p_callVr (f := f9_seekOf (h.1 9 (ix ((8 : Int32) + p1))) (0 : Int32)) (st := [.int (h.1 9 170), .int (170 : Int32), .ref 9]) [.int (h.1 9 (ix ((8 : Int32) + p1))), .int (0 : Int32)] qRokM (m9_seekOf l (h.1 9 (ix ((8 : Int32) + p1))) (0 : Int32)) cal_RX9_200 uM_0 rfl rfl ⟨rfl, rfl⟩ ⟨Nat.le_of_ble_eq_true rfl, Nat.le_of_ble_eq_true rfl⟩ (Nat.le_of_ble_eq_true rfl) dX9_unmounts_20 rfl (fun z1 => ?_)
  refine p_aload_n rfl dX9_unmounts_23 rfl ?_
  refine p_getr qg_RX9_22 uM_0 rfl dX9_unmounts_24 rfl ?_
  refine p_iconst (v := (4 : Int32)) kiconst_4 dX9_unmounts_27 rfl ?_
  refine p_ialdK uM_5 kix_4 kqin_4_8 dX9_unmounts_28 rfl ?_
  refine p_iadd dX9_unmounts_29 rfl ?_
  refine p_iadd dX9_unmounts_30 rfl ?_
  refine p_iastK qokM uM_9 kix_170 kqin_170_353 dX9_unmounts_31 rfl ?_
  refine p_nmH (fun h2 => ?_)
  refine p_aload_n rfl dX9_unmounts_32 rfl ?_
  refine p_aload_n rfl dX9_unmounts_33 rfl ?_
  refine p_getr qg_RX9_34 uM_0 rfl dX9_unmounts_34 rfl ?_
  refine p_iconst (v := (0 : Int32)) kiconst_0 dX9_unmounts_37 rfl ?_
  refine p_iload_n rfl dX9_unmounts_38 rfl ?_
  refine p_iadd dX9_unmounts_39 rfl ?_
  refine p_iald uM_9 dX9_unmounts_40 rfl (fun _ => ?_)
  refine p_callVv (f := f9_armTo (h2.1 9 (ix ((0 : Int32) + p1)))) (st := []) [.int (h2.1 9 (ix ((0 : Int32) + p1)))] qRokM (m9_armTo l (h2.1 9 (ix ((0 : Int32) + p1)))) cal_RX9_203 uM_0 rfl rfl ⟨rfl, rfl⟩ ⟨Nat.le_of_ble_eq_true rfl, Nat.le_of_ble_eq_true rfl⟩ (Nat.le_of_ble_eq_true rfl) dX9_unmounts_41 rfl (fun h3 => ?_)
  refine p_aload_n rfl dX9_unmounts_44 rfl ?_
  refine p_iload_n rfl dX9_unmounts_45 rfl ?_
  refine p_callVv (f := f9_armTo p1) (st := []) [.int p1] qRokM (m9_armTo l p1) cal_RX9_203 uM_0 rfl rfl ⟨rfl, rfl⟩ ⟨Nat.le_of_ble_eq_true rfl, Nat.le_of_ble_eq_true rfl⟩ (Nat.le_of_ble_eq_true rfl) dX9_unmounts_46 rfl (fun h4 => ?_)
  refine p_aload_n rfl dX9_unmounts_49 rfl ?_
  refine p_getr qg_RX9_34 uM_0 rfl dX9_unmounts_50 rfl ?_
  refine p_iconst (v := (0 : Int32)) kiconst_0 dX9_unmounts_53 rfl ?_
  refine p_iload_n rfl dX9_unmounts_54 rfl ?_
  refine p_iadd dX9_unmounts_55 rfl ?_
  refine p_iload_n rfl dX9_unmounts_56 rfl ?_
  refine p_iast qokM uM_9 dX9_unmounts_57 rfl (fun _ => ?_)
  refine p_nmH (fun h5 => ?_)
  refine p_aload_n rfl dX9_unmounts_58 rfl ?_
  refine p_getr qg_RX9_34 uM_0 rfl dX9_unmounts_59 rfl ?_
  refine p_bipush (v := (8 : Int32)) kbipush_8 dX9_unmounts_62 rfl ?_
  refine p_iload_n rfl dX9_unmounts_64 rfl ?_
  refine p_iadd dX9_unmounts_65 rfl ?_
  refine p_iconst (v := (-1 : Int32)) kiconst_m1 dX9_unmounts_66 rfl ?_
  refine p_iast qokM uM_9 dX9_unmounts_67 rfl (fun _ => ?_)
  refine p_nmH (fun h6 => ?_)
  exact p_vret rfl rfl dX9_unmounts_68
noncomputable def f9_inDrive_L2 (p1 : Int32) (h : qH) (k : Int32 → Option (Int32)) : Nat → Int32 → Option (Int32)
  | 0, _ => none
  | n + 1, x1 =>
    if (h.1 0 12) ≤ x1 then (
      k x1)
    else (
      qg (qin ((0 : Int32) + x1) 353) <|
      if (h.1 9 (ix ((0 : Int32) + x1))) = ((h.1 5 0) + p1) then (
        some x1)
      else (
        qlt (x1 + (1 : Int32)) fun (x4 : Int32) =>
        f9_inDrive_L2 p1 h k n x4))
set_option maxRecDepth 100000 in
set_option maxHeartbeats 4000000 in
theorem w9_inDrive_L2 (l : Launch) (p1 : Int32) (h : qH) {k : Int32 → Option (Int32)} (hk : ∀ (x1 : Int32), PW UM ROM l R9_inDrive cX9_inDrive 3 (some .int) RX9 (qEr h) 37 [some (.ref 0), some (.int p1), some (.int x1)] [] h (k x1)) : ∀ (n : Nat) (x1 : Int32), PW UM ROM l R9_inDrive cX9_inDrive 3 (some .int) RX9 (qEr h) 2 [some (.ref 0), some (.int p1), some (.int x1)] [] h (f9_inDrive_L2 p1 h k n x1) := by
  intro n
  induction n with
  | zero => intro _; exact p_none
  | succ n ih =>
    intro x1
    unfold f9_inDrive_L2
    refine p_iload_n rfl dX9_inDrive_2 rfl ?_
    refine p_aload_n rfl dX9_inDrive_3 rfl ?_
    refine p_geti qg_RX9_153 uM_0 rfl dX9_inDrive_4 rfl ?_
    refine p_if (fun c2 => ?_) (fun c2 => ?_)
    · refine p_icmp_ge_t (tgt := 37) dX9_inDrive_7 (by decide) c2 ?_
      exact hk x1
    · refine p_icmp_ge_f (tgt := 37) dX9_inDrive_7 (by decide) rfl c2 ?_
      refine p_aload_n rfl dX9_inDrive_10 rfl ?_
      refine p_getr qg_RX9_34 uM_0 rfl dX9_inDrive_11 rfl ?_
      refine p_iconst (v := (0 : Int32)) kiconst_0 dX9_inDrive_14 rfl ?_
      refine p_iload_n rfl dX9_inDrive_15 rfl ?_
      refine p_iadd dX9_inDrive_16 rfl ?_
      refine p_iald uM_9 dX9_inDrive_17 rfl (fun _ => ?_)
      refine p_aload_n rfl dX9_inDrive_18 rfl ?_
      refine p_getr qg_RX9_22 uM_0 rfl dX9_inDrive_19 rfl ?_
      refine p_iconst (v := (0 : Int32)) kiconst_0 dX9_inDrive_22 rfl ?_
      refine p_ialdK uM_5 kix_0 kqin_0_8 dX9_inDrive_23 rfl ?_
      refine p_iload_n rfl dX9_inDrive_24 rfl ?_
      refine p_iadd dX9_inDrive_25 rfl ?_
      refine p_if (fun c3 => ?_) (fun c3 => ?_)
      · refine p_icmp_ne_f (tgt := 31) dX9_inDrive_26 (by decide) rfl c3 ?_
        refine p_iload_n rfl dX9_inDrive_29 rfl ?_
        exact p_iret rfl rfl dX9_inDrive_30
      · refine p_icmp_ne_t (tgt := 31) dX9_inDrive_26 (by decide) c3 ?_
        refine p_iiN (v := (1 : Int32)) (lf := fun x4 => [some (.ref 0), some (.int p1), some (.int x4)]) kiconst_1 dX9_inDrive_31 rfl rfl rfl rfl (fun _ => rfl) (fun x4 => ?_)
        refine p_goto (tgt := 2) dX9_inDrive_34 (by decide) ?_
        exact ih x4
noncomputable def f9_inDrive (p1 : Int32) (h : qH) : Option (Int32) :=
  f9_inDrive_L2 p1 h (fun (x5 : Int32) =>
    some (-1 : Int32)) qN (0 : Int32)
set_option maxRecDepth 100000 in
set_option maxHeartbeats 4000000 in
theorem m9_inDrive (l : Launch) (p1 : Int32) : qMet UM ROM l yX9_inDrive (qws yX9_inDrive cX9_inDrive 3 (some .int)) R9_inDrive [.ref 0, .int p1] (f9_inDrive p1) qEr := by
  refine q_met (own := RX9) 1 (by decide) rfl (Nat.le_of_ble_eq_true rfl) (ls := [some (.ref 0), some (.int p1), none]) rfl fun h => ?_
  unfold f9_inDrive
  refine p_iconst (v := (0 : Int32)) kiconst_0 dX9_inDrive_0 rfl ?_
  refine p_is_n (ls' := [some (.ref 0), some (.int p1), some (.int (0 : Int32))]) dX9_inDrive_1 rfl rfl rfl rfl ?_
  refine w9_inDrive_L2 l p1 h (fun x5 => ?_) qN _
  refine p_iconst (v := (-1 : Int32)) kiconst_m1 dX9_inDrive_37 rfl ?_
  exact p_iret rfl rfl dX9_inDrive_38
