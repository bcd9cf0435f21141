noncomputable def f9_emptyDrive_L2 (h : qH) (k : Int32 → Option (Int32)) : Nat → Int32 → Option (Int32)
  | 0, _ => none
  | n + 1, x1 =>
    if (h.1 5 1) ≤ x1 then (
      k x1)
    else (
      (f9_inDrive x1 h).bind fun (z3 : Int32) =>
      if z3 = (-1 : Int32) then (
        some x1)
      else (
        qlt (x1 + (1 : Int32)) fun (x5 : Int32) =>
        f9_emptyDrive_L2 h k n x5))
set_option maxRecDepth 100000 in
set_option maxHeartbeats 4000000 in
theorem w9_emptyDrive_L2 (l : Launch) (h : qH) {k : Int32 → Option (Int32)} (hk : ∀ (x1 : Int32), PW UM ROM l R9_emptyDrive cX9_emptyDrive 2 (some .int) RX9 (qEr h) 29 [some (.ref 0), some (.int x1)] [] h (k x1)) : ∀ (n : Nat) (x1 : Int32), PW UM ROM l R9_emptyDrive cX9_emptyDrive 2 (some .int) RX9 (qEr h) 2 [some (.ref 0), some (.int x1)] [] h (f9_emptyDrive_L2 h k n x1) := by
  intro n
  induction n with
  | zero => intro _; exact p_none
  | succ n ih =>
    intro x1
    unfold f9_emptyDrive_L2
    refine p_iload_n rfl dX9_emptyDrive_2 rfl ?_
    refine p_aload_n rfl dX9_emptyDrive_3 rfl ?_
    refine p_getr qg_RX9_22 uM_0 rfl dX9_emptyDrive_4 rfl ?_
    refine p_iconst (v := (1 : Int32)) kiconst_1 dX9_emptyDrive_7 rfl ?_
    refine p_ialdK uM_5 kix_1 kqin_1_8 dX9_emptyDrive_8 rfl ?_
    refine p_if (fun c2 => ?_) (fun c2 => ?_)
    · refine p_icmp_ge_t (tgt := 29) dX9_emptyDrive_9 (by decide) c2 ?_
      exact hk x1
    · refine p_icmp_ge_f (tgt := 29) dX9_emptyDrive_9 (by decide) rfl c2 ?_
      refine p_aload_n rfl dX9_emptyDrive_12 rfl ?_
      refine p_iload_n rfl dX9_emptyDrive_13 rfl ?_
      refine p_callVr (f := f9_inDrive x1) (st := []) [.int x1] qRokM (m9_inDrive l x1) cal_RX9_206 uM_0 rfl rfl ⟨rfl, rfl⟩ ⟨Nat.le_of_ble_eq_true rfl, Nat.le_of_ble_eq_true rfl⟩ (Nat.le_of_ble_eq_true rfl) dX9_emptyDrive_14 rfl (fun z3 => ?_)
      refine p_iconst (v := (-1 : Int32)) kiconst_m1 dX9_emptyDrive_17 rfl ?_
      refine p_if (fun c4 => ?_) (fun c4 => ?_)
      · refine p_icmp_ne_f (tgt := 23) dX9_emptyDrive_18 (by decide) rfl c4 ?_
        refine p_iload_n rfl dX9_emptyDrive_21 rfl ?_
        exact p_iret rfl rfl dX9_emptyDrive_22
      · refine p_icmp_ne_t (tgt := 23) dX9_emptyDrive_18 (by decide) c4 ?_
        refine p_iiN (v := (1 : Int32)) (lf := fun x5 => [some (.ref 0), some (.int x5)]) kiconst_1 dX9_emptyDrive_23 rfl rfl rfl rfl (fun _ => rfl) (fun x5 => ?_)
        refine p_goto (tgt := 2) dX9_emptyDrive_26 (by decide) ?_
        exact ih x5
noncomputable def f9_emptyDrive (h : qH) : Option (Int32) :=
  f9_emptyDrive_L2 h (fun (x6 : Int32) =>
    some (-1 : Int32)) qN (0 : Int32)
set_option maxRecDepth 100000 in
set_option maxHeartbeats 4000000 in
theorem m9_emptyDrive (l : Launch) : qMet UM ROM l yX9_emptyDrive (qws yX9_emptyDrive cX9_emptyDrive 2 (some .int)) R9_emptyDrive [.ref 0] f9_emptyDrive qEr := by
  refine q_met (own := RX9) 1 (by decide) rfl (Nat.le_of_ble_eq_true rfl) (ls := [some (.ref 0), none]) rfl fun h => ?_
  unfold f9_emptyDrive
  refine p_iconst (v := (0 : Int32)) kiconst_0 dX9_emptyDrive_0 rfl ?_
  refine p_is_n (ls' := [some (.ref 0), some (.int (0 : Int32))]) dX9_emptyDrive_1 rfl rfl rfl rfl ?_
  refine w9_emptyDrive_L2 l h (fun x6 => ?_) qN _
  refine p_iconst (v := (-1 : Int32)) kiconst_m1 dX9_emptyDrive_29 rfl ?_
  exact p_iret rfl rfl dX9_emptyDrive_30
noncomputable def f9_oldest_L4 (h : qH) (k : Int32 → Int32 → Option (Int32)) : Nat → Int32 → Int32 → Option (Int32)
  | 0, _, _ => none
  | n + 1, x1, x2 =>
    if (h.1 0 12) ≤ x2 then (
      k x1 x2)
    else (
      (f9_isDriven x2 h).bind fun (z4 : Int32) =>
      qj (fun (x5 : Int32) =>
        qlt (x2 + (1 : Int32)) fun (x8 : Int32) =>
        f9_oldest_L4 h k n x5 x8) fun j6 =>
      if z4 = 0 then (
        j6 x1)
      else (
        qj (fun (x10 : Int32) =>
          j6 x10) fun j11 =>
        if x1 = (-1 : Int32) then (
          j11 x2)
        else (
          qg (qin ((40 : Int32) + x2) 353) <|
          qg (qin ((40 : Int32) + x1) 353) <|
          if (h.1 9 (ix ((40 : Int32) + x1))) ≤ (h.1 9 (ix ((40 : Int32) + x2))) then (
            j11 x1)
          else (
            j11 x2))))
set_option maxRecDepth 100000 in
set_option maxHeartbeats 4000000 in
theorem w9_oldest_L4 (l : Launch) (h : qH) {k : Int32 → Int32 → Option (Int32)} (hk : ∀ (x1 : Int32) (x2 : Int32), PW UM ROM l R9_oldest cX9_oldest 3 (some .int) RX9 (qEr h) 58 [some (.ref 0), some (.int x1), some (.int x2)] [] h (k x1 x2)) : ∀ (n : Nat) (x1 : Int32) (x2 : Int32), PW UM ROM l R9_oldest cX9_oldest 3 (some .int) RX9 (qEr h) 4 [some (.ref 0), some (.int x1), some (.int x2)] [] h (f9_oldest_L4 h k n x1 x2) := by
  intro n
  induction n with
  | zero => intro _ _; exact p_none
  | succ n ih =>
    intro x1 x2
    unfold f9_oldest_L4
    refine p_iload_n rfl dX9_oldest_4 rfl ?_
    refine p_aload_n rfl dX9_oldest_5 rfl ?_
    refine p_geti qg_RX9_153 uM_0 rfl dX9_oldest_6 rfl ?_
    refine p_if (fun c3 => ?_) (fun c3 => ?_)
    · refine p_icmp_ge_t (tgt := 58) dX9_oldest_9 (by decide) c3 ?_
      exact hk x1 x2
    · refine p_icmp_ge_f (tgt := 58) dX9_oldest_9 (by decide) rfl c3 ?_
      refine p_aload_n rfl dX9_oldest_12 rfl ?_
      refine p_iload_n rfl dX9_oldest_13 rfl ?_
      refine p_callVr (f := f9_isDriven x2) (st := []) [.int x2] qRokM (m9_isDriven l x2) cal_RX9_209 uM_0 rfl rfl ⟨rfl, rfl⟩ ⟨Nat.le_of_ble_eq_true rfl, Nat.le_of_ble_eq_true rfl⟩ (Nat.le_of_ble_eq_true rfl) dX9_oldest_14 rfl (fun z4 => ?_)
      refine p_jn (fun j6 => ∀ (x5 : Int32), PW UM ROM l R9_oldest cX9_oldest 3 (some .int) RX9 (qEr h) 52 [some (.ref 0), some (.int x5), some (.int x2)] [] h (j6 x5)) (fun x5 => ?_) (fun j6 J7 => ?_)
      · refine p_iiN (v := (1 : Int32)) (lf := fun x8 => [some (.ref 0), some (.int x5), some (.int x8)]) kiconst_1 dX9_oldest_52 rfl rfl rfl rfl (fun _ => rfl) (fun x8 => ?_)
        refine p_goto (tgt := 4) dX9_oldest_55 (by decide) ?_
        exact ih x5 x8
      · refine p_if (fun c9 => ?_) (fun c9 => ?_)
        · refine p_if_eq_t (tgt := 52) dX9_oldest_17 (by decide) c9 ?_
          exact J7 x1
        · refine p_if_eq_f (tgt := 52) dX9_oldest_17 (by decide) rfl c9 ?_
          refine p_iload_n rfl dX9_oldest_20 rfl ?_
          refine p_iconst (v := (-1 : Int32)) kiconst_m1 dX9_oldest_21 rfl ?_
          refine p_jn (fun j11 => ∀ (x10 : Int32), PW UM ROM l R9_oldest cX9_oldest 3 (some .int) RX9 (qEr h) 51 [some (.ref 0), some (.int x1), some (.int x2)] [.int x10] h (j11 x10)) (fun x10 => ?_) (fun j11 J12 => ?_)
          · refine p_is_n (ls' := [some (.ref 0), some (.int x10), some (.int x2)]) dX9_oldest_51 rfl rfl rfl rfl ?_
            exact J7 x10
          · refine p_if (fun c13 => ?_) (fun c13 => ?_)
            · refine p_icmp_eq_t (tgt := 46) dX9_oldest_22 (by decide) c13 ?_
              refine p_iload_n rfl dX9_oldest_46 rfl ?_
              refine p_goto (tgt := 51) dX9_oldest_47 (by decide) ?_
              exact J12 x2
            · refine p_icmp_eq_f (tgt := 46) dX9_oldest_22 (by decide) rfl c13 ?_
              refine p_aload_n rfl dX9_oldest_25 rfl ?_
              refine p_getr qg_RX9_34 uM_0 rfl dX9_oldest_26 rfl ?_
              refine p_bipush (v := (40 : Int32)) kbipush_40 dX9_oldest_29 rfl ?_
              refine p_iload_n rfl dX9_oldest_31 rfl ?_
              refine p_iadd dX9_oldest_32 rfl ?_
              refine p_iald uM_9 dX9_oldest_33 rfl (fun _ => ?_)
              refine p_aload_n rfl dX9_oldest_34 rfl ?_
              refine p_getr qg_RX9_34 uM_0 rfl dX9_oldest_35 rfl ?_
              refine p_bipush (v := (40 : Int32)) kbipush_40 dX9_oldest_38 rfl ?_
              refine p_iload_n rfl dX9_oldest_40 rfl ?_
              refine p_iadd dX9_oldest_41 rfl ?_
              refine p_iald uM_9 dX9_oldest_42 rfl (fun _ => ?_)
              refine p_if (fun c14 => ?_) (fun c14 => ?_)
              · refine p_icmp_ge_t (tgt := 50) dX9_oldest_43 (by decide) c14 ?_
                refine p_iload_n rfl dX9_oldest_50 rfl ?_
                exact J12 x1
              · refine p_icmp_ge_f (tgt := 50) dX9_oldest_43 (by decide) rfl c14 ?_
                refine p_iload_n rfl dX9_oldest_46 rfl ?_
                refine p_goto (tgt := 51) dX9_oldest_47 (by decide) ?_
                exact J12 x2
noncomputable def f9_oldest (h : qH) : Option (Int32) :=
  f9_oldest_L4 h (fun (x15 : Int32) (x16 : Int32) =>
    some x15) qN (-1 : Int32) (0 : Int32)
set_option maxRecDepth 100000 in
set_option maxHeartbeats 4000000 in
theorem m9_oldest (l : Launch) : qMet UM ROM l yX9_oldest (qws yX9_oldest cX9_oldest 3 (some .int)) R9_oldest [.ref 0] f9_oldest qEr := by
  refine q_met (own := RX9) 2 (by decide) rfl (Nat.le_of_ble_eq_true rfl) (ls := [some (.ref 0), none, none]) rfl fun h => ?_
  unfold f9_oldest
  refine p_iconst (v := (-1 : Int32)) kiconst_m1 dX9_oldest_0 rfl ?_
  refine p_is_n (ls' := [some (.ref 0), some (.int (-1 : Int32)), none]) dX9_oldest_1 rfl rfl rfl rfl ?_
  refine p_iconst (v := (0 : Int32)) kiconst_0 dX9_oldest_2 rfl ?_
  refine p_is_n (ls' := [some (.ref 0), some (.int (-1 : Int32)), some (.int (0 : Int32))]) dX9_oldest_3 rfl rfl rfl rfl ?_
  refine w9_oldest_L4 l h (fun x15 x16 => ?_) qN _ _
  refine p_iload_n rfl dX9_oldest_58 rfl ?_
  exact p_iret rfl rfl dX9_oldest_59
noncomputable def f9_mounts (p1 : Int32) (h : qH) : Option (qH) :=
  (f9_emptyDrive h).bind fun (z1 : Int32) =>
  qj (fun (h2 : qH) =>
    (f9_emptyDrive h2).bind fun (z5 : Int32) =>
    (f9_armTo p1 h2).bind fun (h6 : qH) =>
    (f9_armTo ((h6.1 5 0) + z5) h6).bind fun (h7 : qH) =>
    qlt (qw h7 9 170 ((h7.1 9 170) + (h7.1 5 4))) fun (h8 : qH) =>
    qg (qin ((0 : Int32) + p1) 353) <|
    qlt (qw h8 9 (ix ((0 : Int32) + p1)) ((h8.1 5 0) + z5)) fun (h9 : qH) =>
    qg (qin ((8 : Int32) + p1) 353) <|
    qlt (qw h9 9 (ix ((8 : Int32) + p1)) (0 : Int32)) fun (h10 : qH) =>
    qg (qin ((24 : Int32) + p1) 353) <|
    qg (qin ((24 : Int32) + p1) 353) <|
    qlt (qw h10 9 (ix ((24 : Int32) + p1)) (if ((h10.1 9 (ix ((24 : Int32) + p1))) + (1 : Int32)) < (99 : Int32) then ((h10.1 9 (ix ((24 : Int32) + p1))) + (1 : Int32)) else (99 : Int32))) fun (h11 : qH) =>
    qg (qin ((40 : Int32) + p1) 353) <|
    qlt (qw h11 9 (ix ((40 : Int32) + p1)) (h11.1 9 170)) fun (h12 : qH) =>
    qlt (qw h12 0 18 ((h12.1 0 18) + (1 : Int32))) fun (h13 : qH) =>
    some h13) fun j3 =>
  if z1 = (-1 : Int32) then (
    (f9_oldest h).bind fun (z15 : Int32) =>
    (f9_unmounts z15 h).bind fun (h16 : qH) =>
    j3 h16)
  else (
    j3 h)
set_option maxRecDepth 100000 in
set_option maxHeartbeats 4000000 in
theorem m9_mounts (l : Launch) (p1 : Int32) : qMet UM ROM l yX9_mounts (qws yX9_mounts cX9_mounts 3 none) R9_mounts [.ref 0, .int p1] (f9_mounts p1) qEv := by
  refine q_met (own := RX9) 1 (by decide) rfl (Nat.le_of_ble_eq_true rfl) (ls := [some (.ref 0), some (.int p1), none]) rfl fun h => ?_
  unfold f9_mounts
  show PW UM ROM l R9_mounts cX9_mounts 3 none RX9 (qEv h) 0 [some (.ref 0), some (.int p1), none] [] h _
  refine p_aload_n rfl dX9_mounts_0 rfl ?_
  refine p_callVr (f := f9_emptyDrive) (st := []) [] qRokM (m9_emptyDrive l) cal_RX9_212 uM_0 rfl rfl ⟨rfl, rfl⟩ ⟨Nat.le_of_ble_eq_true rfl, Nat.le_of_ble_eq_true rfl⟩ (Nat.le_of_ble_eq_true rfl) dX9_mounts_1 rfl (fun z1 => ?_)
  refine p_iconst (v := (-1 : Int32)) kiconst_m1 dX9_mounts_4 rfl ?_
  refine p_jn (fun j3 => ∀ (h2 : qH), PW UM ROM l R9_mounts cX9_mounts 3 none RX9 (qEv h) 16 [some (.ref 0), some (.int p1), none] [] h2 (j3 h2)) (fun h2 => ?_) (fun j3 J4 => ?_)
  · refine p_aload_n rfl dX9_mounts_16 rfl ?_
    refine p_callVr (f := f9_emptyDrive) (st := []) [] qRokM (m9_emptyDrive l) cal_RX9_212 uM_0 rfl rfl ⟨rfl, rfl⟩ ⟨Nat.le_of_ble_eq_true rfl, Nat.le_of_ble_eq_true rfl⟩ (Nat.le_of_ble_eq_true rfl) dX9_mounts_17 rfl (fun z5 => ?_)
    refine p_is_n (ls' := [some (.ref 0), some (.int p1), some (.int z5)]) dX9_mounts_20 rfl rfl rfl rfl ?_
    refine p_aload_n rfl dX9_mounts_21 rfl ?_
    refine p_iload_n rfl dX9_mounts_22 rfl ?_
    refine p_callVv (f := f9_armTo p1) (st := []) [.int p1] qRokM (m9_armTo l p1) cal_RX9_203 uM_0 rfl rfl ⟨rfl, rfl⟩ ⟨Nat.le_of_ble_eq_true rfl, Nat.le_of_ble_eq_true rfl⟩ (Nat.le_of_ble_eq_true rfl) dX9_mounts_23 rfl (fun h6 => ?_)
    refine p_aload_n rfl dX9_mounts_26 rfl ?_
    refine p_aload_n rfl dX9_mounts_27 rfl ?_
    refine p_getr qg_RX9_22 uM_0 rfl dX9_mounts_28 rfl ?_
    refine p_iconst (v := (0 : Int32)) kiconst_0 dX9_mounts_31 rfl ?_
    refine p_ialdK uM_5 kix_0 kqin_0_8 dX9_mounts_32 rfl ?_
    refine p_iload_n rfl dX9_mounts_33 rfl ?_
    refine p_iadd dX9_mounts_34 rfl ?_
    refine p_callVv (f := f9_armTo ((h6.1 5 0) + z5)) (st := []) [.int ((h6.1 5 0) + z5)] qRokM (m9_armTo l ((h6.1 5 0) + z5)) cal_RX9_203 uM_0 rfl rfl ⟨rfl, rfl⟩ ⟨Nat.le_of_ble_eq_true rfl, Nat.le_of_ble_eq_true rfl⟩ (Nat.le_of_ble_eq_true rfl) dX9_mounts_35 rfl (fun h7 => ?_)
    refine p_aload_n rfl dX9_mounts_38 rfl ?_
    refine p_getr qg_RX9_34 uM_0 rfl dX9_mounts_39 rfl ?_
    refine p_sipush (v := (170 : Int32)) ksipush_170 dX9_mounts_42 rfl ?_
    refine p_dup2 rfl rfl dX9_mounts_45 rfl ?_
    refine p_ialdK uM_9 kix_170 kqin_170_353 dX9_mounts_46 rfl ?_
    refine p_aload_n rfl dX9_mounts_47 rfl ?_
    refine p_getr qg_RX9_22 uM_0 rfl dX9_mounts_48 rfl ?_
    refine p_iconst (v := (4 : Int32)) kiconst_4 dX9_mounts_51 rfl ?_
    refine p_ialdK uM_5 kix_4 kqin_4_8 dX9_mounts_52 rfl ?_
    refine p_iadd dX9_mounts_53 rfl ?_
    refine p_iastK qokM uM_9 kix_170 kqin_170_353 dX9_mounts_54 rfl ?_
    refine p_nmH (fun h8 => ?_)
    refine p_aload_n rfl dX9_mounts_55 rfl ?_
    refine p_getr qg_RX9_34 uM_0 rfl dX9_mounts_56 rfl ?_
    refine p_iconst (v := (0 : Int32)) kiconst_0 dX9_mounts_59 rfl ?_
    refine p_iload_n rfl dX9_mounts_60 rfl ?_
    refine p_iadd dX9_mounts_61 rfl ?_
    refine p_aload_n rfl dX9_mounts_62 rfl ?_
    refine p_getr qg_RX9_22 uM_0 rfl dX9_mounts_63 rfl ?_
    refine p_iconst (v := (0 : Int32)) kiconst_0 dX9_mounts_66 rfl ?_
    refine p_ialdK uM_5 kix_0 kqin_0_8 dX9_mounts_67 rfl ?_
    refine p_iload_n rfl dX9_mounts_68 rfl ?_
    refine p_iadd dX9_mounts_69 rfl ?_
    refine p_iast qokM uM_9 dX9_mounts_70 rfl (fun _ => ?_)
    refine p_nmH (fun h9 => ?_)
    refine p_aload_n rfl dX9_mounts_71 rfl ?_
    refine p_getr qg_RX9_34 uM_0 rfl dX9_mounts_72 rfl ?_
    refine p_bipush (v := (8 : Int32)) kbipush_8 dX9_mounts_75 rfl ?_
    refine p_iload_n rfl dX9_mounts_77 rfl ?_
    refine p_iadd dX9_mounts_78 rfl ?_
    refine p_iconst (v := (0 : Int32)) kiconst_0 dX9_mounts_79 rfl ?_
    refine p_iast qokM uM_9 dX9_mounts_80 rfl (fun _ => ?_)
    refine p_nmH (fun h10 => ?_)
    refine p_aload_n rfl dX9_mounts_81 rfl ?_
    refine p_getr qg_RX9_34 uM_0 rfl dX9_mounts_82 rfl ?_
    refine p_bipush (v := (24 : Int32)) kbipush_24 dX9_mounts_85 rfl ?_
    refine p_iload_n rfl dX9_mounts_87 rfl ?_
    refine p_iadd dX9_mounts_88 rfl ?_
    refine p_bipush (v := (99 : Int32)) kbipush_99 dX9_mounts_89 rfl ?_
    refine p_aload_n rfl dX9_mounts_91 rfl ?_
    refine p_getr qg_RX9_34 uM_0 rfl dX9_mounts_92 rfl ?_
    refine p_bipush (v := (24 : Int32)) kbipush_24 dX9_mounts_95 rfl ?_
    refine p_iload_n rfl dX9_mounts_97 rfl ?_
    refine p_iadd dX9_mounts_98 rfl ?_
    refine p_iald uM_9 dX9_mounts_99 rfl (fun _ => ?_)
    refine p_iconst (v := (1 : Int32)) kiconst_1 dX9_mounts_100 rfl ?_
    refine p_iadd dX9_mounts_101 rfl ?_
    refine p_min qmin_RX9_221 ⟨Nat.le_of_ble_eq_true rfl, Nat.le_of_ble_eq_true rfl⟩ dX9_mounts_102 rfl ?_
    refine p_iast qokM uM_9 dX9_mounts_105 rfl (fun _ => ?_)
    refine p_nmH (fun h11 => ?_)
    refine p_aload_n rfl dX9_mounts_106 rfl ?_
    refine p_getr qg_RX9_34 uM_0 rfl dX9_mounts_107 rfl ?_
    refine p_bipush (v := (40 : Int32)) kbipush_40 dX9_mounts_110 rfl ?_
    refine p_iload_n rfl dX9_mounts_112 rfl ?_
    refine p_iadd dX9_mounts_113 rfl ?_
    refine p_aload_n rfl dX9_mounts_114 rfl ?_
    refine p_getr qg_RX9_34 uM_0 rfl dX9_mounts_115 rfl ?_
    refine p_sipush (v := (170 : Int32)) ksipush_170 dX9_mounts_118 rfl ?_
    refine p_ialdK uM_9 kix_170 kqin_170_353 dX9_mounts_121 rfl ?_
    refine p_iast qokM uM_9 dX9_mounts_122 rfl (fun _ => ?_)
    refine p_nmH (fun h12 => ?_)
    refine p_aload_n rfl dX9_mounts_123 rfl ?_
    refine p_dup rfl dX9_mounts_124 rfl ?_
    refine p_geti qg_RX9_226 uM_0 rfl dX9_mounts_125 rfl ?_
    refine p_iconst (v := (1 : Int32)) kiconst_1 dX9_mounts_128 rfl ?_
    refine p_iadd dX9_mounts_129 rfl ?_
    refine p_puti qokM qp_RX9_226 uM_0 rfl dX9_mounts_130 rfl ?_
    refine p_nmH (fun h13 => ?_)
    exact p_vret rfl rfl dX9_mounts_133
  · refine p_if (fun c14 => ?_) (fun c14 => ?_)
    · refine p_icmp_ne_f (tgt := 16) dX9_mounts_5 (by decide) rfl c14 ?_
      refine p_aload_n rfl dX9_mounts_8 rfl ?_
      refine p_aload_n rfl dX9_mounts_9 rfl ?_
      refine p_callVr (f := f9_oldest) (st := [.ref 0]) [] qRokM (m9_oldest l) cal_RX9_215 uM_0 rfl rfl ⟨rfl, rfl⟩ ⟨Nat.le_of_ble_eq_true rfl, Nat.le_of_ble_eq_true rfl⟩ (Nat.le_of_ble_eq_true rfl) dX9_mounts_10 rfl (fun z15 => ?_)
      refine p_callVv (f := f9_unmounts z15) (st := []) [.int z15] qRokM (m9_unmounts l z15) cal_RX9_218 uM_0 rfl rfl ⟨rfl, rfl⟩ ⟨Nat.le_of_ble_eq_true rfl, Nat.le_of_ble_eq_true rfl⟩ (Nat.le_of_ble_eq_true rfl) dX9_mounts_13 rfl (fun h16 => ?_)
      exact J4 h16
    · refine p_icmp_ne_t (tgt := 16) dX9_mounts_5 (by decide) c14 ?_
      exact J4 h
noncomputable def f9_brings (p1 : Int32) (h : qH) : Option (qH) :=
  (f9_isDriven p1 h).bind fun (z1 : Int32) =>
  qj (fun (h2 : qH) =>
    some h2) fun j3 =>
  if z1 = 0 then (
    (f9_mounts p1 h).bind fun (h6 : qH) =>
    j3 h6)
  else (
    j3 h)
set_option maxRecDepth 100000 in
set_option maxHeartbeats 4000000 in
theorem m9_brings (l : Launch) (p1 : Int32) : qMet UM ROM l yX9_brings (qws yX9_brings cX9_brings 2 none) R9_brings [.ref 0, .int p1] (f9_brings p1) qEv := by
  refine q_met (own := RX9) 0 (by decide) rfl (Nat.le_of_ble_eq_true rfl) (ls := [some (.ref 0), some (.int p1)]) rfl fun h => ?_
  unfold f9_brings
  show PW UM ROM l R9_brings cX9_brings 2 none RX9 (qEv h) 0 [some (.ref 0), some (.int p1)] [] h _
  refine p_aload_n rfl dX9_brings_0 rfl ?_
  refine p_iload_n rfl dX9_brings_1 rfl ?_
  refine p_callVr (f := f9_isDriven p1) (st := []) [.int p1] qRokM (m9_isDriven l p1) cal_RX9_209 uM_0 rfl rfl ⟨rfl, rfl⟩ ⟨Nat.le_of_ble_eq_true rfl, Nat.le_of_ble_eq_true rfl⟩ (Nat.le_of_ble_eq_true rfl) dX9_brings_2 rfl (fun z1 => ?_)
  refine p_jn (fun j3 => ∀ (h2 : qH), PW UM ROM l R9_brings cX9_brings 2 none RX9 (qEv h) 13 [some (.ref 0), some (.int p1)] [] h2 (j3 h2)) (fun h2 => ?_) (fun j3 J4 => ?_)
  · exact p_vret rfl rfl dX9_brings_13
  · refine p_if (fun c5 => ?_) (fun c5 => ?_)
    · refine p_if_ne_f (tgt := 13) dX9_brings_5 (by decide) rfl c5 ?_
      refine p_aload_n rfl dX9_brings_8 rfl ?_
      refine p_iload_n rfl dX9_brings_9 rfl ?_
      refine p_callVv (f := f9_mounts p1) (st := []) [.int p1] qRokM (m9_mounts l p1) cal_RX9_229 uM_0 rfl rfl ⟨rfl, rfl⟩ ⟨Nat.le_of_ble_eq_true rfl, Nat.le_of_ble_eq_true rfl⟩ (Nat.le_of_ble_eq_true rfl) dX9_brings_10 rfl (fun h6 => ?_)
      exact J4 h6
    · refine p_if_ne_t (tgt := 13) dX9_brings_5 (by decide) c5 ?_
      exact J4 h
noncomputable def f9_runs (p1 : Int32) (p2 : Int32) (p3 : Int32) (h : qH) : Option (qH) :=
  qg (qin ((8 : Int32) + p1) 353) <|
  (f9_seekOf (h.1 9 (ix ((8 : Int32) + p1))) p2 h).bind fun (z1 : Int32) =>
  qlt (qw h 9 170 ((h.1 9 170) + (z1 + p3))) fun (h2 : qH) =>
  qg (qin ((8 : Int32) + p1) 353) <|
  qlt (qw h2 9 (ix ((8 : Int32) + p1)) ((p2 + p3) - (1 : Int32))) fun (h3 : qH) =>
  qg (qin ((40 : Int32) + p1) 353) <|
  qlt (qw h3 9 (ix ((40 : Int32) + p1)) (h3.1 9 170)) fun (h4 : qH) =>
  some h4
set_option maxRecDepth 100000 in
set_option maxHeartbeats 4000000 in
theorem m9_runs (l : Launch) (p1 : Int32) (p2 : Int32) (p3 : Int32) : qMet UM ROM l yX9_runs (qws yX9_runs cX9_runs 4 none) R9_runs [.ref 0, .int p1, .int p2, .int p3] (f9_runs p1 p2 p3) qEv := by
  refine q_met (own := RX9) 0 (by decide) rfl (Nat.le_of_ble_eq_true rfl) (ls := [some (.ref 0), some (.int p1), some (.int p2), some (.int p3)]) rfl fun h => ?_
  unfold f9_runs
  show PW UM ROM l R9_runs cX9_runs 4 none RX9 (qEv h) 0 [some (.ref 0), some (.int p1), some (.int p2), some (.int p3)] [] h _
  refine p_aload_n rfl dX9_runs_0 rfl ?_
  refine p_getr qg_RX9_34 uM_0 rfl dX9_runs_1 rfl ?_
  refine p_sipush (v := (170 : Int32)) ksipush_170 dX9_runs_4 rfl ?_
  refine p_dup2 rfl rfl dX9_runs_7 rfl ?_
  refine p_ialdK uM_9 kix_170 kqin_170_353 dX9_runs_8 rfl ?_
  refine p_aload_n rfl dX9_runs_9 rfl ?_
  refine p_aload_n rfl dX9_runs_10 rfl ?_
  refine p_getr qg_RX9_34 uM_0 rfl dX9_runs_11 rfl ?_
  refine p_bipush (v := (8 : Int32)) kbipush_8 dX9_runs_14 rfl ?_
  refine p_iload_n rfl dX9_runs_16 rfl ?_
  refine p_iadd dX9_runs_17 rfl ?_
  refine p_iald uM_9 dX9_runs_18 rfl (fun _ => ?_)
  refine p_iload_n rfl dX9_runs_19 rfl ?_
  refine p_callVr (f := f9_seekOf (h.1 9 (ix ((8 : Int32) + p1))) p2) (st := [.int (h.1 9 170), .int (170 : Int32), .ref 9]) [.int (h.1 9 (ix ((8 : Int32) + p1))), .int p2] qRokM (m9_seekOf l (h.1 9 (ix ((8 : Int32) + p1))) p2) cal_RX9_200 uM_0 rfl rfl ⟨rfl, rfl⟩ ⟨Nat.le_of_ble_eq_true rfl, Nat.le_of_ble_eq_true rfl⟩ (Nat.le_of_ble_eq_true rfl) dX9_runs_20 rfl (fun z1 => ?_)
  refine p_iload_n rfl dX9_runs_23 rfl ?_
  refine p_iadd dX9_runs_24 rfl ?_
  refine p_iadd dX9_runs_25 rfl ?_
  refine p_iastK qokM uM_9 kix_170 kqin_170_353 dX9_runs_26 rfl ?_
  refine p_nmH (fun h2 => ?_)
  refine p_aload_n rfl dX9_runs_27 rfl ?_
  refine p_getr qg_RX9_34 uM_0 rfl dX9_runs_28 rfl ?_
  refine p_bipush (v := (8 : Int32)) kbipush_8 dX9_runs_31 rfl ?_
  refine p_iload_n rfl dX9_runs_33 rfl ?_
  refine p_iadd dX9_runs_34 rfl ?_
  refine p_iload_n rfl dX9_runs_35 rfl ?_
  refine p_iload_n rfl dX9_runs_36 rfl ?_
  refine p_iadd dX9_runs_37 rfl ?_
  refine p_iconst (v := (1 : Int32)) kiconst_1 dX9_runs_38 rfl ?_
  refine p_isub dX9_runs_39 rfl ?_
  refine p_iast qokM uM_9 dX9_runs_40 rfl (fun _ => ?_)
  refine p_nmH (fun h3 => ?_)
  refine p_aload_n rfl dX9_runs_41 rfl ?_
  refine p_getr qg_RX9_34 uM_0 rfl dX9_runs_42 rfl ?_
  refine p_bipush (v := (40 : Int32)) kbipush_40 dX9_runs_45 rfl ?_
  refine p_iload_n rfl dX9_runs_47 rfl ?_
  refine p_iadd dX9_runs_48 rfl ?_
  refine p_aload_n rfl dX9_runs_49 rfl ?_
  refine p_getr qg_RX9_34 uM_0 rfl dX9_runs_50 rfl ?_
  refine p_sipush (v := (170 : Int32)) ksipush_170 dX9_runs_53 rfl ?_
  refine p_ialdK uM_9 kix_170 kqin_170_353 dX9_runs_56 rfl ?_
  refine p_iast qokM uM_9 dX9_runs_57 rfl (fun _ => ?_)
  refine p_nmH (fun h4 => ?_)
  exact p_vret rfl rfl dX9_runs_58
noncomputable def f9_reads (p1 : Int32) (p2 : Int32) (p3 : Int32) (h : qH) : Option (qH) :=
  (f9_runs p1 p2 p3 h).bind fun (h1 : qH) =>
  qg (qin ((32 : Int32) + p1) 353) <|
  qg (qin ((24 : Int32) + p1) 353) <|
  qlt (if (h1.1 9 (ix ((24 : Int32) + p1))) ≤ (h1.1 5 6) then (0 : Int32) else p3) fun (x3 : Int32) =>
  qg (qin ((32 : Int32) + p1) 353) <|
  qlt (qw h1 9 (ix ((32 : Int32) + p1)) ((h1.1 9 (ix ((32 : Int32) + p1))) + x3)) fun (h4 : qH) =>
  some h4
set_option maxRecDepth 100000 in
set_option maxHeartbeats 4000000 in
theorem m9_reads (l : Launch) (p1 : Int32) (p2 : Int32) (p3 : Int32) : qMet UM ROM l yX9_reads (qws yX9_reads cX9_reads 4 none) R9_reads [.ref 0, .int p1, .int p2, .int p3] (f9_reads p1 p2 p3) qEv := by
  refine q_met (own := RX9) 0 (by decide) rfl (Nat.le_of_ble_eq_true rfl) (ls := [some (.ref 0), some (.int p1), some (.int p2), some (.int p3)]) rfl fun h => ?_
  unfold f9_reads
  show PW UM ROM l R9_reads cX9_reads 4 none RX9 (qEv h) 0 [some (.ref 0), some (.int p1), some (.int p2), some (.int p3)] [] h _
  refine p_aload_n rfl dX9_reads_0 rfl ?_
  refine p_iload_n rfl dX9_reads_1 rfl ?_
  refine p_iload_n rfl dX9_reads_2 rfl ?_
  refine p_iload_n rfl dX9_reads_3 rfl ?_
  refine p_callVv (f := f9_runs p1 p2 p3) (st := []) [.int p1, .int p2, .int p3] qRokM (m9_runs l p1 p2 p3) cal_RX9_232 uM_0 rfl rfl ⟨rfl, rfl⟩ ⟨Nat.le_of_ble_eq_true rfl, Nat.le_of_ble_eq_true rfl⟩ (Nat.le_of_ble_eq_true rfl) dX9_reads_4 rfl (fun h1 => ?_)
  refine p_aload_n rfl dX9_reads_7 rfl ?_
  refine p_getr qg_RX9_34 uM_0 rfl dX9_reads_8 rfl ?_
  refine p_bipush (v := (32 : Int32)) kbipush_32 dX9_reads_11 rfl ?_
  refine p_iload_n rfl dX9_reads_13 rfl ?_
  refine p_iadd dX9_reads_14 rfl ?_
  refine p_dup2 rfl rfl dX9_reads_15 rfl ?_
  refine p_iald uM_9 dX9_reads_16 rfl (fun _ => ?_)
  refine p_aload_n rfl dX9_reads_17 rfl ?_
  refine p_getr qg_RX9_34 uM_0 rfl dX9_reads_18 rfl ?_
  refine p_bipush (v := (24 : Int32)) kbipush_24 dX9_reads_21 rfl ?_
  refine p_iload_n rfl dX9_reads_23 rfl ?_
  refine p_iadd dX9_reads_24 rfl ?_
  refine p_iald uM_9 dX9_reads_25 rfl (fun _ => ?_)
  refine p_aload_n rfl dX9_reads_26 rfl ?_
  refine p_getr qg_RX9_22 uM_0 rfl dX9_reads_27 rfl ?_
  refine p_bipush (v := (6 : Int32)) kbipush_6 dX9_reads_30 rfl ?_
  refine p_ialdK uM_5 kix_6 kqin_6_8 dX9_reads_32 rfl ?_
  refine p_vj 41 [some (.ref 0), some (.int p1), some (.int p2), some (.int p3)] [.int (h1.1 9 (ix ((32 : Int32) + p1))), .int ((32 : Int32) + p1), .ref 9] (fun x3 => ?_) (fun J => ?_)
  · refine p_iadd dX9_reads_41 rfl ?_
    refine p_iast qokM uM_9 dX9_reads_42 rfl (fun _ => ?_)
    refine p_nmH (fun h4 => ?_)
    exact p_vret rfl rfl dX9_reads_43
  · refine p_dia (fun c2 => ?_) (fun c2 => ?_)
    · refine p_icmp_le_t (tgt := 40) dX9_reads_33 (by decide) c2 ?_
      refine p_iconst (v := (0 : Int32)) kiconst_0 dX9_reads_40 rfl ?_
      exact J _
    · refine p_icmp_le_f (tgt := 40) dX9_reads_33 (by decide) rfl c2 ?_
      refine p_iload_n rfl dX9_reads_36 rfl ?_
      refine p_goto (tgt := 41) dX9_reads_37 (by decide) ?_
      exact J _
noncomputable def f9_isAhead (p1 : Int32) (p2 : Int32) (p3 : Int32) (p4 : Int32) (h : qH) : Option (Int32) :=
  if p1 = (2 : Int32) then (
    qg (qin ((144 : Int32) + p2) 353) <|
    qg (qin ((144 : Int32) + p3) 353) <|
    qlt (if (h.1 9 (ix ((144 : Int32) + p3))) ≤ (h.1 9 (ix ((144 : Int32) + p2))) then (0 : Int32) else (1 : Int32)) fun (x3 : Int32) =>
    qg (qbo x3) <|
    some x3)
  else (
    qj (fun (x4 : Int32) =>
      qj (fun (x7 : Int32) =>
        qj (fun (x10 : Int32) =>
          qg (qbo x10) <|
          some x10) fun j11 =>
        if x4 < x7 then (
          j11 (1 : Int32))
        else (
          if x4 = x7 then (
            qg (qin ((72 : Int32) + p2) 353) <|
            qg (qin ((72 : Int32) + p3) 353) <|
            if (h.1 9 (ix ((72 : Int32) + p3))) ≤ (h.1 9 (ix ((72 : Int32) + p2))) then (
              j11 (0 : Int32))
            else (
              j11 (1 : Int32)))
          else (
            j11 (0 : Int32)))) fun j8 =>
      if p1 = (1 : Int32) then (
        qg (qin ((72 : Int32) + p3) 353) <|
        (f9_seekOf p4 (h.1 9 (ix ((72 : Int32) + p3))) h).bind fun (z17 : Int32) =>
        j8 z17)
      else (
        j8 (0 : Int32))) fun j5 =>
    if p1 = (1 : Int32) then (
      qg (qin ((72 : Int32) + p2) 353) <|
      (f9_seekOf p4 (h.1 9 (ix ((72 : Int32) + p2))) h).bind fun (z19 : Int32) =>
      j5 z19)
    else (
      j5 (0 : Int32)))
set_option maxRecDepth 100000 in
set_option maxHeartbeats 4000000 in
theorem m9_isAhead (l : Launch) (p1 : Int32) (p2 : Int32) (p3 : Int32) (p4 : Int32) : qMet UM ROM l yX9_isAhead (qws yX9_isAhead cX9_isAhead 7 (some .boolean)) R9_isAhead [.ref 0, .int p1, .int p2, .int p3, .int p4] (f9_isAhead p1 p2 p3 p4) qEr := by
  refine q_met (own := RX9) 2 (by decide) rfl (Nat.le_of_ble_eq_true rfl) (ls := [some (.ref 0), some (.int p1), some (.int p2), some (.int p3), some (.int p4), none, none]) rfl fun h => ?_
  unfold f9_isAhead
  refine p_iload_n rfl dX9_isAhead_0 rfl ?_
  refine p_iconst (v := (2 : Int32)) kiconst_2 dX9_isAhead_1 rfl ?_
  refine p_if (fun c1 => ?_) (fun c1 => ?_)
  · refine p_icmp_ne_f (tgt := 34) dX9_isAhead_2 (by decide) rfl c1 ?_
    refine p_aload_n rfl dX9_isAhead_5 rfl ?_
    refine p_getr qg_RX9_34 uM_0 rfl dX9_isAhead_6 rfl ?_
    refine p_sipush (v := (144 : Int32)) ksipush_144 dX9_isAhead_9 rfl ?_
    refine p_iload_n rfl dX9_isAhead_12 rfl ?_
    refine p_iadd dX9_isAhead_13 rfl ?_
    refine p_iald uM_9 dX9_isAhead_14 rfl (fun _ => ?_)
    refine p_aload_n rfl dX9_isAhead_15 rfl ?_
    refine p_getr qg_RX9_34 uM_0 rfl dX9_isAhead_16 rfl ?_
    refine p_sipush (v := (144 : Int32)) ksipush_144 dX9_isAhead_19 rfl ?_
    refine p_iload_n rfl dX9_isAhead_22 rfl ?_
    refine p_iadd dX9_isAhead_23 rfl ?_
    refine p_iald uM_9 dX9_isAhead_24 rfl (fun _ => ?_)
    refine p_vj 33 [some (.ref 0), some (.int p1), some (.int p2), some (.int p3), some (.int p4), none, none] [] (fun x3 => ?_) (fun J => ?_)
    · exact p_zretG rfl rfl dX9_isAhead_33
    · refine p_dia (fun c2 => ?_) (fun c2 => ?_)
      · refine p_icmp_ge_t (tgt := 32) dX9_isAhead_25 (by decide) c2 ?_
        refine p_iconst (v := (0 : Int32)) kiconst_0 dX9_isAhead_32 rfl ?_
        exact J _
      · refine p_icmp_ge_f (tgt := 32) dX9_isAhead_25 (by decide) rfl c2 ?_
        refine p_iconst (v := (1 : Int32)) kiconst_1 dX9_isAhead_28 rfl ?_
        refine p_goto (tgt := 33) dX9_isAhead_29 (by decide) ?_
        exact J _
  · refine p_icmp_ne_t (tgt := 34) dX9_isAhead_2 (by decide) c1 ?_
    refine p_iload_n rfl dX9_isAhead_34 rfl ?_
    refine p_iconst (v := (1 : Int32)) kiconst_1 dX9_isAhead_35 rfl ?_
    refine p_jn (fun j5 => ∀ (x4 : Int32), PW UM ROM l R9_isAhead cX9_isAhead 7 (some .boolean) RX9 (qEr h) 58 [some (.ref 0), some (.int p1), some (.int p2), some (.int p3), some (.int p4), none, none] [.int x4] h (j5 x4)) (fun x4 => ?_) (fun j5 J6 => ?_)
    · refine p_is (ls' := [some (.ref 0), some (.int p1), some (.int p2), some (.int p3), some (.int p4), some (.int x4), none]) dX9_isAhead_58 rfl rfl rfl rfl ?_
      refine p_iload_n rfl dX9_isAhead_60 rfl ?_
      refine p_iconst (v := (1 : Int32)) kiconst_1 dX9_isAhead_61 rfl ?_
      refine p_jn (fun j8 => ∀ (x7 : Int32), PW UM ROM l R9_isAhead cX9_isAhead 7 (some .boolean) RX9 (qEr h) 84 [some (.ref 0), some (.int p1), some (.int p2), some (.int p3), some (.int p4), some (.int x4), none] [.int x7] h (j8 x7)) (fun x7 => ?_) (fun j8 J9 => ?_)
      · refine p_is (ls' := [some (.ref 0), some (.int p1), some (.int p2), some (.int p3), some (.int p4), some (.int x4), some (.int x7)]) dX9_isAhead_84 rfl rfl rfl rfl ?_
        refine p_iload rfl dX9_isAhead_86 rfl ?_
        refine p_iload rfl dX9_isAhead_88 rfl ?_
        refine p_jn (fun j11 => ∀ (x10 : Int32), PW UM ROM l R9_isAhead cX9_isAhead 7 (some .boolean) RX9 (qEr h) 126 [some (.ref 0), some (.int p1), some (.int p2), some (.int p3), some (.int p4), some (.int x4), some (.int x7)] [.int x10] h (j11 x10)) (fun x10 => ?_) (fun j11 J12 => ?_)
        · exact p_zretG rfl rfl dX9_isAhead_126
        · refine p_if (fun c13 => ?_) (fun c13 => ?_)
          · refine p_icmp_lt_t (tgt := 121) dX9_isAhead_90 (by decide) c13 ?_
            refine p_iconst (v := (1 : Int32)) kiconst_1 dX9_isAhead_121 rfl ?_
            refine p_goto (tgt := 126) dX9_isAhead_122 (by decide) ?_
            exact J12 (1 : Int32)
          · refine p_icmp_lt_f (tgt := 121) dX9_isAhead_90 (by decide) rfl c13 ?_
            refine p_iload rfl dX9_isAhead_93 rfl ?_
            refine p_iload rfl dX9_isAhead_95 rfl ?_
            refine p_if (fun c14 => ?_) (fun c14 => ?_)
            · refine p_icmp_ne_f (tgt := 125) dX9_isAhead_97 (by decide) rfl c14 ?_
              refine p_aload_n rfl dX9_isAhead_100 rfl ?_
              refine p_getr qg_RX9_34 uM_0 rfl dX9_isAhead_101 rfl ?_
              refine p_bipush (v := (72 : Int32)) kbipush_72 dX9_isAhead_104 rfl ?_
              refine p_iload_n rfl dX9_isAhead_106 rfl ?_
              refine p_iadd dX9_isAhead_107 rfl ?_
              refine p_iald uM_9 dX9_isAhead_108 rfl (fun _ => ?_)
              refine p_aload_n rfl dX9_isAhead_109 rfl ?_
              refine p_getr qg_RX9_34 uM_0 rfl dX9_isAhead_110 rfl ?_
              refine p_bipush (v := (72 : Int32)) kbipush_72 dX9_isAhead_113 rfl ?_
              refine p_iload_n rfl dX9_isAhead_115 rfl ?_
              refine p_iadd dX9_isAhead_116 rfl ?_
              refine p_iald uM_9 dX9_isAhead_117 rfl (fun _ => ?_)
              refine p_if (fun c15 => ?_) (fun c15 => ?_)
              · refine p_icmp_ge_t (tgt := 125) dX9_isAhead_118 (by decide) c15 ?_
                refine p_iconst (v := (0 : Int32)) kiconst_0 dX9_isAhead_125 rfl ?_
                exact J12 (0 : Int32)
              · refine p_icmp_ge_f (tgt := 125) dX9_isAhead_118 (by decide) rfl c15 ?_
                refine p_iconst (v := (1 : Int32)) kiconst_1 dX9_isAhead_121 rfl ?_
                refine p_goto (tgt := 126) dX9_isAhead_122 (by decide) ?_
                exact J12 (1 : Int32)
            · refine p_icmp_ne_t (tgt := 125) dX9_isAhead_97 (by decide) c14 ?_
              refine p_iconst (v := (0 : Int32)) kiconst_0 dX9_isAhead_125 rfl ?_
              exact J12 (0 : Int32)
      · refine p_if (fun c16 => ?_) (fun c16 => ?_)
        · refine p_icmp_ne_f (tgt := 83) dX9_isAhead_62 (by decide) rfl c16 ?_
          refine p_aload_n rfl dX9_isAhead_65 rfl ?_
          refine p_iload rfl dX9_isAhead_66 rfl ?_
          refine p_aload_n rfl dX9_isAhead_68 rfl ?_
          refine p_getr qg_RX9_34 uM_0 rfl dX9_isAhead_69 rfl ?_
          refine p_bipush (v := (72 : Int32)) kbipush_72 dX9_isAhead_72 rfl ?_
          refine p_iload_n rfl dX9_isAhead_74 rfl ?_
          refine p_iadd dX9_isAhead_75 rfl ?_
          refine p_iald uM_9 dX9_isAhead_76 rfl (fun _ => ?_)
          refine p_callVr (f := f9_seekOf p4 (h.1 9 (ix ((72 : Int32) + p3)))) (st := []) [.int p4, .int (h.1 9 (ix ((72 : Int32) + p3)))] qRokM (m9_seekOf l p4 (h.1 9 (ix ((72 : Int32) + p3)))) cal_RX9_200 uM_0 rfl rfl ⟨rfl, rfl⟩ ⟨Nat.le_of_ble_eq_true rfl, Nat.le_of_ble_eq_true rfl⟩ (Nat.le_of_ble_eq_true rfl) dX9_isAhead_77 rfl (fun z17 => ?_)
          refine p_goto (tgt := 84) dX9_isAhead_80 (by decide) ?_
          exact J9 z17
        · refine p_icmp_ne_t (tgt := 83) dX9_isAhead_62 (by decide) c16 ?_
          refine p_iconst (v := (0 : Int32)) kiconst_0 dX9_isAhead_83 rfl ?_
          exact J9 (0 : Int32)
    · refine p_if (fun c18 => ?_) (fun c18 => ?_)
      · refine p_icmp_ne_f (tgt := 57) dX9_isAhead_36 (by decide) rfl c18 ?_
        refine p_aload_n rfl dX9_isAhead_39 rfl ?_
        refine p_iload rfl dX9_isAhead_40 rfl ?_
        refine p_aload_n rfl dX9_isAhead_42 rfl ?_
        refine p_getr qg_RX9_34 uM_0 rfl dX9_isAhead_43 rfl ?_
        refine p_bipush (v := (72 : Int32)) kbipush_72 dX9_isAhead_46 rfl ?_
        refine p_iload_n rfl dX9_isAhead_48 rfl ?_
        refine p_iadd dX9_isAhead_49 rfl ?_
        refine p_iald uM_9 dX9_isAhead_50 rfl (fun _ => ?_)
        refine p_callVr (f := f9_seekOf p4 (h.1 9 (ix ((72 : Int32) + p2)))) (st := []) [.int p4, .int (h.1 9 (ix ((72 : Int32) + p2)))] qRokM (m9_seekOf l p4 (h.1 9 (ix ((72 : Int32) + p2)))) cal_RX9_200 uM_0 rfl rfl ⟨rfl, rfl⟩ ⟨Nat.le_of_ble_eq_true rfl, Nat.le_of_ble_eq_true rfl⟩ (Nat.le_of_ble_eq_true rfl) dX9_isAhead_51 rfl (fun z19 => ?_)
        refine p_goto (tgt := 58) dX9_isAhead_54 (by decide) ?_
        exact J6 z19
      · refine p_icmp_ne_t (tgt := 57) dX9_isAhead_36 (by decide) c18 ?_
        refine p_iconst (v := (0 : Int32)) kiconst_0 dX9_isAhead_57 rfl ?_
        exact J6 (0 : Int32)
noncomputable def f9_laysOrder_L36 (p1 : Int32) (p2 : Int32) (x3 : Int32) (x4 : Int32) (x5 : Int32) (z1 : Int32) (h : qH) (k : Int32 → Int32 → Option (Int32 × qH)) : Nat → Int32 → Int32 → Option (Int32 × qH)
  | 0, _, _ => none
  | n + 1, x8, x9 =>
    if (h.1 9 168) ≤ x9 then (
      k x8 x9)
    else (
      (f9_isOn x9 p1 h).bind fun (z11 : Int32) =>
      qj (fun (x12 : Int32) =>
        qj (fun (x15 : Int32) =>
          qlt (x9 + (1 : Int32)) fun (x18 : Int32) =>
          f9_laysOrder_L36 p1 p2 x3 x4 x5 z1 h k n x15 x18) fun j16 =>
        if x12 = 0 then (
          j16 x8)
        else (
          if x8 = (-1 : Int32) then (
            j16 x9)
          else (
            (f9_isAhead p2 x9 x8 x3 h).bind fun (z21 : Int32) =>
            if z21 = 0 then (
              j16 x8)
            else (
              j16 x9)))) fun j13 =>
      if z11 = 0 then (
        j13 (0 : Int32))
      else (
        qg (qin ((144 : Int32) + x9) 353) <|
        if (h.1 9 (ix ((144 : Int32) + x9))) ≤ 0 then (
          j13 (0 : Int32))
        else (
          (f9_has x5 x9 h).bind fun (z25 : Int32) =>
          if z25 = 0 then (
            j13 (1 : Int32))
          else (
            j13 (0 : Int32)))))
set_option maxRecDepth 100000 in
set_option maxHeartbeats 4000000 in
theorem w9_laysOrder_L36 (l : Launch) (h0 : qH) (p1 : Int32) (p2 : Int32) (x3 : Int32) (x4 : Int32) (x5 : Int32) (z1 : Int32) (h : qH) {k : Int32 → Int32 → Option (Int32 × qH)} (hk : ∀ (x8 : Int32) (x9 : Int32), PW UM ROM l R9_laysOrder cX9_laysOrder 11 (some .int) RX9 (qEw h0) 125 [some (.ref 0), some (.int p1), some (.int p2), none, some (.int x3), some (.int x4), some (.int x5), some (.int z1), some (.int x8), some (.int x9), none] [] h (k x8 x9)) : ∀ (n : Nat) (x8 : Int32) (x9 : Int32), PW UM ROM l R9_laysOrder cX9_laysOrder 11 (some .int) RX9 (qEw h0) 36 [some (.ref 0), some (.int p1), some (.int p2), none, some (.int x3), some (.int x4), some (.int x5), some (.int z1), some (.int x8), some (.int x9), none] [] h (f9_laysOrder_L36 p1 p2 x3 x4 x5 z1 h k n x8 x9) := by
  intro n
  induction n with
  | zero => intro _ _; exact p_none
  | succ n ih =>
    intro x8 x9
    unfold f9_laysOrder_L36
    refine p_iload rfl dX9_laysOrder_36 rfl ?_
    refine p_aload_n rfl dX9_laysOrder_38 rfl ?_
    refine p_getr qg_RX9_34 uM_0 rfl dX9_laysOrder_39 rfl ?_
    refine p_sipush (v := (168 : Int32)) ksipush_168 dX9_laysOrder_42 rfl ?_
    refine p_ialdK uM_9 kix_168 kqin_168_353 dX9_laysOrder_45 rfl ?_
    refine p_if (fun c10 => ?_) (fun c10 => ?_)
    · refine p_icmp_ge_t (tgt := 125) dX9_laysOrder_46 (by decide) c10 ?_
      exact hk x8 x9
    · refine p_icmp_ge_f (tgt := 125) dX9_laysOrder_46 (by decide) rfl c10 ?_
      refine p_aload_n rfl dX9_laysOrder_49 rfl ?_
      refine p_iload rfl dX9_laysOrder_50 rfl ?_
      refine p_iload_n rfl dX9_laysOrder_52 rfl ?_
      refine p_callVr (f := f9_isOn x9 p1) (st := []) [.int x9, .int p1] qRokM (m9_isOn l x9 p1) cal_RX9_163 uM_0 rfl rfl ⟨rfl, rfl⟩ ⟨Nat.le_of_ble_eq_true rfl, Nat.le_of_ble_eq_true rfl⟩ (Nat.le_of_ble_eq_true rfl) dX9_laysOrder_53 rfl (fun z11 => ?_)
      refine p_jn (fun j13 => ∀ (x12 : Int32), PW UM ROM l R9_laysOrder cX9_laysOrder 11 (some .int) RX9 (qEw h0) 88 [some (.ref 0), some (.int p1), some (.int p2), none, some (.int x3), some (.int x4), some (.int x5), some (.int z1), some (.int x8), some (.int x9), none] [.int x12] h (j13 x12)) (fun x12 => ?_) (fun j13 J14 => ?_)
      · refine p_is (ls' := [some (.ref 0), some (.int p1), some (.int p2), none, some (.int x3), some (.int x4), some (.int x5), some (.int z1), some (.int x8), some (.int x9), some (.int x12)]) dX9_laysOrder_88 rfl rfl rfl rfl ?_
        refine p_iload rfl dX9_laysOrder_90 rfl ?_
        refine p_jn (fun j16 => ∀ (x15 : Int32), PW UM ROM l R9_laysOrder cX9_laysOrder 11 (some .int) RX9 (qEw h0) 119 [some (.ref 0), some (.int p1), some (.int p2), none, some (.int x3), some (.int x4), some (.int x5), some (.int z1), some (.int x15), some (.int x9), some (.int x12)] [] h (j16 x15)) (fun x15 => ?_) (fun j16 J17 => ?_)
        · refine p_iiN (v := (1 : Int32)) (lf := fun x18 => [some (.ref 0), some (.int p1), some (.int p2), none, some (.int x3), some (.int x4), some (.int x5), some (.int z1), some (.int x15), some (.int x18), some (.int x12)]) kiconst_1 dX9_laysOrder_119 rfl rfl rfl rfl (fun _ => rfl) (fun x18 => ?_)
          refine p_goto (tgt := 36) dX9_laysOrder_122 (by decide) ?_
          exact p_wk (ls' := [some (.ref 0), some (.int p1), some (.int p2), none, some (.int x3), some (.int x4), some (.int x5), some (.int z1), some (.int x15), some (.int x18), none]) ⟨rfl, rfl, rfl, rfl, rfl, rfl, rfl, rfl, rfl, trivial⟩ (ih x15 x18)
        · refine p_if (fun c19 => ?_) (fun c19 => ?_)
          · refine p_if_eq_t (tgt := 119) dX9_laysOrder_92 (by decide) c19 ?_
            exact J17 x8
          · refine p_if_eq_f (tgt := 119) dX9_laysOrder_92 (by decide) rfl c19 ?_
            refine p_iload rfl dX9_laysOrder_95 rfl ?_
            refine p_iconst (v := (-1 : Int32)) kiconst_m1 dX9_laysOrder_97 rfl ?_
            refine p_if (fun c20 => ?_) (fun c20 => ?_)
            · refine p_icmp_eq_t (tgt := 115) dX9_laysOrder_98 (by decide) c20 ?_
              refine p_iload rfl dX9_laysOrder_115 rfl ?_
              refine p_is (ls' := [some (.ref 0), some (.int p1), some (.int p2), none, some (.int x3), some (.int x4), some (.int x5), some (.int z1), some (.int x9), some (.int x9), some (.int x12)]) dX9_laysOrder_117 rfl rfl rfl rfl ?_
              exact J17 x9
            · refine p_icmp_eq_f (tgt := 115) dX9_laysOrder_98 (by decide) rfl c20 ?_
              refine p_aload_n rfl dX9_laysOrder_101 rfl ?_
              refine p_iload_n rfl dX9_laysOrder_102 rfl ?_
              refine p_iload rfl dX9_laysOrder_103 rfl ?_
              refine p_iload rfl dX9_laysOrder_105 rfl ?_
              refine p_iload rfl dX9_laysOrder_107 rfl ?_
              refine p_callVr (f := f9_isAhead p2 x9 x8 x3) (st := []) [.int p2, .int x9, .int x8, .int x3] qRokM (m9_isAhead l p2 x9 x8 x3) cal_RX9_239 uM_0 rfl rfl ⟨rfl, rfl⟩ ⟨Nat.le_of_ble_eq_true rfl, Nat.le_of_ble_eq_true rfl⟩ (Nat.le_of_ble_eq_true rfl) dX9_laysOrder_109 rfl (fun z21 => ?_)
              refine p_if (fun c22 => ?_) (fun c22 => ?_)
              · refine p_if_eq_t (tgt := 119) dX9_laysOrder_112 (by decide) c22 ?_
                exact J17 x8
              · refine p_if_eq_f (tgt := 119) dX9_laysOrder_112 (by decide) rfl c22 ?_
                refine p_iload rfl dX9_laysOrder_115 rfl ?_
                refine p_is (ls' := [some (.ref 0), some (.int p1), some (.int p2), none, some (.int x3), some (.int x4), some (.int x5), some (.int z1), some (.int x9), some (.int x9), some (.int x12)]) dX9_laysOrder_117 rfl rfl rfl rfl ?_
                exact J17 x9
      · refine p_if (fun c23 => ?_) (fun c23 => ?_)
        · refine p_if_eq_t (tgt := 87) dX9_laysOrder_56 (by decide) c23 ?_
          refine p_iconst (v := (0 : Int32)) kiconst_0 dX9_laysOrder_87 rfl ?_
          exact J14 (0 : Int32)
        · refine p_if_eq_f (tgt := 87) dX9_laysOrder_56 (by decide) rfl c23 ?_
          refine p_aload_n rfl dX9_laysOrder_59 rfl ?_
          refine p_getr qg_RX9_34 uM_0 rfl dX9_laysOrder_60 rfl ?_
          refine p_sipush (v := (144 : Int32)) ksipush_144 dX9_laysOrder_63 rfl ?_
          refine p_iload rfl dX9_laysOrder_66 rfl ?_
          refine p_iadd dX9_laysOrder_68 rfl ?_
          refine p_iald uM_9 dX9_laysOrder_69 rfl (fun _ => ?_)
          refine p_if (fun c24 => ?_) (fun c24 => ?_)
          · refine p_if_le_t (tgt := 87) dX9_laysOrder_70 (by decide) c24 ?_
            refine p_iconst (v := (0 : Int32)) kiconst_0 dX9_laysOrder_87 rfl ?_
            exact J14 (0 : Int32)
          · refine p_if_le_f (tgt := 87) dX9_laysOrder_70 (by decide) rfl c24 ?_
            refine p_iload rfl dX9_laysOrder_73 rfl ?_
            refine p_iload rfl dX9_laysOrder_75 rfl ?_
            refine p_callSr (f := f9_has x5 x9) (st := []) [.int x5, .int x9] qRokM (m9_has l x5 x9) cal_RX9_111 rfl ⟨rfl, rfl⟩ ⟨Nat.le_of_ble_eq_true rfl, Nat.le_of_ble_eq_true rfl⟩ (Nat.le_of_ble_eq_true rfl) dX9_laysOrder_77 rfl (fun z25 => ?_)
            refine p_if (fun c26 => ?_) (fun c26 => ?_)
            · refine p_if_ne_f (tgt := 87) dX9_laysOrder_80 (by decide) rfl c26 ?_
              refine p_iconst (v := (1 : Int32)) kiconst_1 dX9_laysOrder_83 rfl ?_
              refine p_goto (tgt := 88) dX9_laysOrder_84 (by decide) ?_
              exact J14 (1 : Int32)
            · refine p_if_ne_t (tgt := 87) dX9_laysOrder_80 (by decide) c26 ?_
              refine p_iconst (v := (0 : Int32)) kiconst_0 dX9_laysOrder_87 rfl ?_
              exact J14 (0 : Int32)
noncomputable def f9_laysOrder_L21 (p1 : Int32) (p2 : Int32) (z1 : Int32) (k : Int32 → Int32 → Int32 → qH → Option (Int32 × qH)) : Nat → Int32 → Int32 → Int32 → qH → Option (Int32 × qH)
  | 0, _, _, _, _ => none
  | n + 1, x3, x4, x5, h6 =>
    if z1 ≤ (h6.1 0 20) then (
      k x3 x4 x5 h6)
    else (
      f9_laysOrder_L36 p1 p2 x3 x4 x5 z1 h6 (fun (x27 : Int32) (x28 : Int32) =>
        qlt (x5 ||| ((1 : Int32) <<< (x27 &&& 31))) fun (x29 : Int32) =>
        qg (qin (h6.1 0 20) 24) <|
        qlt (qw h6 11 (ix (h6.1 0 20)) x27) fun (h30 : qH) =>
        qg (qin ((72 : Int32) + x27) 353) <|
        (f9_seekOf x3 (h30.1 9 (ix ((72 : Int32) + x27))) h30).bind fun (z31 : Int32) =>
        qg (qin ((96 : Int32) + x27) 353) <|
        qlt (x4 + (z31 + (h30.1 9 (ix ((96 : Int32) + x27))))) fun (x32 : Int32) =>
        qg (qin ((72 : Int32) + x27) 353) <|
        qg (qin ((96 : Int32) + x27) 353) <|
        qlt (((h30.1 9 (ix ((72 : Int32) + x27))) + (h30.1 9 (ix ((96 : Int32) + x27)))) - (1 : Int32)) fun (x33 : Int32) =>
        qlt (qw h30 0 20 ((h30.1 0 20) + (1 : Int32))) fun (h34 : qH) =>
        f9_laysOrder_L21 p1 p2 z1 k n x33 x32 x29 h34) qN (-1 : Int32) (0 : Int32))
set_option maxRecDepth 100000 in
set_option maxHeartbeats 4000000 in
theorem w9_laysOrder_L21 (l : Launch) (h0 : qH) (p1 : Int32) (p2 : Int32) (z1 : Int32) {k : Int32 → Int32 → Int32 → qH → Option (Int32 × qH)} (hk : ∀ (x3 : Int32) (x4 : Int32) (x5 : Int32) (h6 : qH), PW UM ROM l R9_laysOrder cX9_laysOrder 11 (some .int) RX9 (qEw h0) 215 [some (.ref 0), some (.int p1), some (.int p2), none, some (.int x3), some (.int x4), some (.int x5), some (.int z1), none, none, none] [] h6 (k x3 x4 x5 h6)) : ∀ (n : Nat) (x3 : Int32) (x4 : Int32) (x5 : Int32) (h6 : qH), PW UM ROM l R9_laysOrder cX9_laysOrder 11 (some .int) RX9 (qEw h0) 21 [some (.ref 0), some (.int p1), some (.int p2), none, some (.int x3), some (.int x4), some (.int x5), some (.int z1), none, none, none] [] h6 (f9_laysOrder_L21 p1 p2 z1 k n x3 x4 x5 h6) := by
  intro n
  induction n with
  | zero => intro _ _ _ _; exact p_none
  | succ n ih =>
    intro x3 x4 x5 h6
    unfold f9_laysOrder_L21
    refine p_aload_n rfl dX9_laysOrder_21 rfl ?_
    refine p_geti qg_RX9_236 uM_0 rfl dX9_laysOrder_22 rfl ?_
    refine p_iload rfl dX9_laysOrder_25 rfl ?_
    refine p_if (fun c7 => ?_) (fun c7 => ?_)
    · refine p_icmp_ge_t (tgt := 215) dX9_laysOrder_27 (by decide) c7 ?_
      exact hk x3 x4 x5 h6
    · refine p_icmp_ge_f (tgt := 215) dX9_laysOrder_27 (by decide) rfl c7 ?_
      refine p_iconst (v := (-1 : Int32)) kiconst_m1 dX9_laysOrder_30 rfl ?_
      refine p_is (ls' := [some (.ref 0), some (.int p1), some (.int p2), none, some (.int x3), some (.int x4), some (.int x5), some (.int z1), some (.int (-1 : Int32)), none, none]) dX9_laysOrder_31 rfl rfl rfl rfl ?_
      refine p_iconst (v := (0 : Int32)) kiconst_0 dX9_laysOrder_33 rfl ?_
      refine p_is (ls' := [some (.ref 0), some (.int p1), some (.int p2), none, some (.int x3), some (.int x4), some (.int x5), some (.int z1), some (.int (-1 : Int32)), some (.int (0 : Int32)), none]) dX9_laysOrder_34 rfl rfl rfl rfl ?_
      refine w9_laysOrder_L36 l h0 p1 p2 x3 x4 x5 z1 h6 (fun x27 x28 => ?_) qN _ _
      refine p_iload rfl dX9_laysOrder_125 rfl ?_
      refine p_iconst (v := (1 : Int32)) kiconst_1 dX9_laysOrder_127 rfl ?_
      refine p_iload rfl dX9_laysOrder_128 rfl ?_
      refine p_ishl dX9_laysOrder_130 rfl ?_
      refine p_ior dX9_laysOrder_131 rfl ?_
      refine p_isN (lf := fun x29 => [some (.ref 0), some (.int p1), some (.int p2), none, some (.int x3), some (.int x4), some (.int x29), some (.int z1), some (.int x27), some (.int x28), none]) dX9_laysOrder_132 rfl rfl rfl (fun _ => rfl) (fun x29 => ?_)
      refine p_aload_n rfl dX9_laysOrder_134 rfl ?_
      refine p_getr qg_RX9_40 uM_0 rfl dX9_laysOrder_135 rfl ?_
      refine p_aload_n rfl dX9_laysOrder_138 rfl ?_
      refine p_geti qg_RX9_236 uM_0 rfl dX9_laysOrder_139 rfl ?_
      refine p_iload rfl dX9_laysOrder_142 rfl ?_
      refine p_iast qokM uM_11 dX9_laysOrder_144 rfl (fun _ => ?_)
      refine p_nmH (fun h30 => ?_)
      refine p_iload rfl dX9_laysOrder_145 rfl ?_
      refine p_aload_n rfl dX9_laysOrder_147 rfl ?_
      refine p_iload rfl dX9_laysOrder_148 rfl ?_
      refine p_aload_n rfl dX9_laysOrder_150 rfl ?_
      refine p_getr qg_RX9_34 uM_0 rfl dX9_laysOrder_151 rfl ?_
      refine p_bipush (v := (72 : Int32)) kbipush_72 dX9_laysOrder_154 rfl ?_
      refine p_iload rfl dX9_laysOrder_156 rfl ?_
      refine p_iadd dX9_laysOrder_158 rfl ?_
      refine p_iald uM_9 dX9_laysOrder_159 rfl (fun _ => ?_)
      refine p_callVr (f := f9_seekOf x3 (h30.1 9 (ix ((72 : Int32) + x27)))) (st := [.int x4]) [.int x3, .int (h30.1 9 (ix ((72 : Int32) + x27)))] qRokM (m9_seekOf l x3 (h30.1 9 (ix ((72 : Int32) + x27)))) cal_RX9_200 uM_0 rfl rfl ⟨rfl, rfl⟩ ⟨Nat.le_of_ble_eq_true rfl, Nat.le_of_ble_eq_true rfl⟩ (Nat.le_of_ble_eq_true rfl) dX9_laysOrder_160 rfl (fun z31 => ?_)
      refine p_aload_n rfl dX9_laysOrder_163 rfl ?_
      refine p_getr qg_RX9_34 uM_0 rfl dX9_laysOrder_164 rfl ?_
      refine p_bipush (v := (96 : Int32)) kbipush_96 dX9_laysOrder_167 rfl ?_
      refine p_iload rfl dX9_laysOrder_169 rfl ?_
      refine p_iadd dX9_laysOrder_171 rfl ?_
      refine p_iald uM_9 dX9_laysOrder_172 rfl (fun _ => ?_)
      refine p_iadd dX9_laysOrder_173 rfl ?_
      refine p_iadd dX9_laysOrder_174 rfl ?_
      refine p_isN (lf := fun x32 => [some (.ref 0), some (.int p1), some (.int p2), none, some (.int x3), some (.int x32), some (.int x29), some (.int z1), some (.int x27), some (.int x28), none]) dX9_laysOrder_175 rfl rfl rfl (fun _ => rfl) (fun x32 => ?_)
      refine p_aload_n rfl dX9_laysOrder_177 rfl ?_
      refine p_getr qg_RX9_34 uM_0 rfl dX9_laysOrder_178 rfl ?_
      refine p_bipush (v := (72 : Int32)) kbipush_72 dX9_laysOrder_181 rfl ?_
      refine p_iload rfl dX9_laysOrder_183 rfl ?_
      refine p_iadd dX9_laysOrder_185 rfl ?_
      refine p_iald uM_9 dX9_laysOrder_186 rfl (fun _ => ?_)
      refine p_aload_n rfl dX9_laysOrder_187 rfl ?_
      refine p_getr qg_RX9_34 uM_0 rfl dX9_laysOrder_188 rfl ?_
      refine p_bipush (v := (96 : Int32)) kbipush_96 dX9_laysOrder_191 rfl ?_
      refine p_iload rfl dX9_laysOrder_193 rfl ?_
      refine p_iadd dX9_laysOrder_195 rfl ?_
      refine p_iald uM_9 dX9_laysOrder_196 rfl (fun _ => ?_)
      refine p_iadd dX9_laysOrder_197 rfl ?_
      refine p_iconst (v := (1 : Int32)) kiconst_1 dX9_laysOrder_198 rfl ?_
      refine p_isub dX9_laysOrder_199 rfl ?_
      refine p_isN (lf := fun x33 => [some (.ref 0), some (.int p1), some (.int p2), none, some (.int x33), some (.int x32), some (.int x29), some (.int z1), some (.int x27), some (.int x28), none]) dX9_laysOrder_200 rfl rfl rfl (fun _ => rfl) (fun x33 => ?_)
      refine p_aload_n rfl dX9_laysOrder_202 rfl ?_
      refine p_dup rfl dX9_laysOrder_203 rfl ?_
      refine p_geti qg_RX9_236 uM_0 rfl dX9_laysOrder_204 rfl ?_
      refine p_iconst (v := (1 : Int32)) kiconst_1 dX9_laysOrder_207 rfl ?_
      refine p_iadd dX9_laysOrder_208 rfl ?_
      refine p_puti qokM qp_RX9_236 uM_0 rfl dX9_laysOrder_209 rfl ?_
      refine p_nmH (fun h34 => ?_)
      refine p_goto (tgt := 21) dX9_laysOrder_212 (by decide) ?_
      exact p_wk (ls' := [some (.ref 0), some (.int p1), some (.int p2), none, some (.int x33), some (.int x32), some (.int x29), some (.int z1), none, none, none]) ⟨rfl, rfl, rfl, rfl, rfl, rfl, rfl, trivial⟩ (ih x33 x32 x29 h34)
noncomputable def f9_laysOrder (p1 : Int32) (p2 : Int32) (p3 : Int32) (h : qH) : Option (Int32 × qH) :=
  (f9_askedOn p1 h).bind fun (z1 : Int32) =>
  qlt (qw h 0 20 (0 : Int32)) fun (h2 : qH) =>
  f9_laysOrder_L21 p1 p2 z1 (fun (x35 : Int32) (x36 : Int32) (x37 : Int32) (h38 : qH) =>
    some (x36, h38)) qN p3 (0 : Int32) (0 : Int32) h2
set_option maxRecDepth 100000 in
set_option maxHeartbeats 4000000 in
theorem m9_laysOrder (l : Launch) (p1 : Int32) (p2 : Int32) (p3 : Int32) : qMet UM ROM l yX9_laysOrder (qws yX9_laysOrder cX9_laysOrder 11 (some .int)) R9_laysOrder [.ref 0, .int p1, .int p2, .int p3] (f9_laysOrder p1 p2 p3) qEw := by
  refine q_met (own := RX9) 7 (by decide) rfl (Nat.le_of_ble_eq_true rfl) (ls := [some (.ref 0), some (.int p1), some (.int p2), some (.int p3), none, none, none, none, none, none, none]) rfl fun h => ?_
  unfold f9_laysOrder
  show PW UM ROM l R9_laysOrder cX9_laysOrder 11 (some .int) RX9 (qEw h) 0 [some (.ref 0), some (.int p1), some (.int p2), some (.int p3), none, none, none, none, none, none, none] [] h _
  refine p_iload_n rfl dX9_laysOrder_0 rfl ?_
  refine p_is (ls' := [some (.ref 0), some (.int p1), some (.int p2), some (.int p3), some (.int p3), none, none, none, none, none, none]) dX9_laysOrder_1 rfl rfl rfl rfl ?_
  refine p_iconst (v := (0 : Int32)) kiconst_0 dX9_laysOrder_3 rfl ?_
  refine p_is (ls' := [some (.ref 0), some (.int p1), some (.int p2), some (.int p3), some (.int p3), some (.int (0 : Int32)), none, none, none, none, none]) dX9_laysOrder_4 rfl rfl rfl rfl ?_
  refine p_iconst (v := (0 : Int32)) kiconst_0 dX9_laysOrder_6 rfl ?_
  refine p_is (ls' := [some (.ref 0), some (.int p1), some (.int p2), some (.int p3), some (.int p3), some (.int (0 : Int32)), some (.int (0 : Int32)), none, none, none, none]) dX9_laysOrder_7 rfl rfl rfl rfl ?_
  refine p_aload_n rfl dX9_laysOrder_9 rfl ?_
  refine p_iload_n rfl dX9_laysOrder_10 rfl ?_
  refine p_callVr (f := f9_askedOn p1) (st := []) [.int p1] qRokM (m9_askedOn l p1) cal_RX9_166 uM_0 rfl rfl ⟨rfl, rfl⟩ ⟨Nat.le_of_ble_eq_true rfl, Nat.le_of_ble_eq_true rfl⟩ (Nat.le_of_ble_eq_true rfl) dX9_laysOrder_11 rfl (fun z1 => ?_)
  refine p_is (ls' := [some (.ref 0), some (.int p1), some (.int p2), some (.int p3), some (.int p3), some (.int (0 : Int32)), some (.int (0 : Int32)), some (.int z1), none, none, none]) dX9_laysOrder_14 rfl rfl rfl rfl ?_
  refine p_aload_n rfl dX9_laysOrder_16 rfl ?_
  refine p_iconst (v := (0 : Int32)) kiconst_0 dX9_laysOrder_17 rfl ?_
  refine p_puti qokM qp_RX9_236 uM_0 rfl dX9_laysOrder_18 rfl ?_
  refine p_nmH (fun h2 => ?_)
  refine p_wk (ls' := [some (.ref 0), some (.int p1), some (.int p2), none, some (.int p3), some (.int (0 : Int32)), some (.int (0 : Int32)), some (.int z1), none, none, none]) ⟨rfl, rfl, rfl, rfl, rfl, rfl, rfl, trivial⟩ ?_
  refine w9_laysOrder_L21 l h p1 p2 z1 (fun x35 x36 x37 h38 => ?_) qN _ _ _ _
  refine p_iload rfl dX9_laysOrder_215 rfl ?_
  exact p_iret rfl rfl dX9_laysOrder_217
noncomputable def f9_headOf (p1 : Int32) (h : qH) : Option (Int32) :=
  (f9_isDriven p1 h).bind fun (z1 : Int32) =>
  qj (fun (x2 : Int32) =>
    some x2) fun j3 =>
  if z1 = 0 then (
    j3 (0 : Int32))
  else (
    qg (qin ((8 : Int32) + p1) 353) <|
    j3 (h.1 9 (ix ((8 : Int32) + p1))))
set_option maxRecDepth 100000 in
set_option maxHeartbeats 4000000 in
theorem m9_headOf (l : Launch) (p1 : Int32) : qMet UM ROM l yX9_headOf (qws yX9_headOf cX9_headOf 2 (some .int)) R9_headOf [.ref 0, .int p1] (f9_headOf p1) qEr := by
  refine q_met (own := RX9) 0 (by decide) rfl (Nat.le_of_ble_eq_true rfl) (ls := [some (.ref 0), some (.int p1)]) rfl fun h => ?_
  unfold f9_headOf
  refine p_aload_n rfl dX9_headOf_0 rfl ?_
  refine p_iload_n rfl dX9_headOf_1 rfl ?_
  refine p_callVr (f := f9_isDriven p1) (st := []) [.int p1] qRokM (m9_isDriven l p1) cal_RX9_209 uM_0 rfl rfl ⟨rfl, rfl⟩ ⟨Nat.le_of_ble_eq_true rfl, Nat.le_of_ble_eq_true rfl⟩ (Nat.le_of_ble_eq_true rfl) dX9_headOf_2 rfl (fun z1 => ?_)
  refine p_jn (fun j3 => ∀ (x2 : Int32), PW UM ROM l R9_headOf cX9_headOf 2 (some .int) RX9 (qEr h) 21 [some (.ref 0), some (.int p1)] [.int x2] h (j3 x2)) (fun x2 => ?_) (fun j3 J4 => ?_)
  · exact p_iret rfl rfl dX9_headOf_21
  · refine p_if (fun c5 => ?_) (fun c5 => ?_)
    · refine p_if_eq_t (tgt := 20) dX9_headOf_5 (by decide) c5 ?_
      refine p_iconst (v := (0 : Int32)) kiconst_0 dX9_headOf_20 rfl ?_
      exact J4 (0 : Int32)
    · refine p_if_eq_f (tgt := 20) dX9_headOf_5 (by decide) rfl c5 ?_
      refine p_aload_n rfl dX9_headOf_8 rfl ?_
      refine p_getr qg_RX9_34 uM_0 rfl dX9_headOf_9 rfl ?_
      refine p_bipush (v := (8 : Int32)) kbipush_8 dX9_headOf_12 rfl ?_
      refine p_iload_n rfl dX9_headOf_14 rfl ?_
      refine p_iadd dX9_headOf_15 rfl ?_
      refine p_iald uM_9 dX9_headOf_16 rfl (fun _ => ?_)
      refine p_goto (tgt := 21) dX9_headOf_17 (by decide) ?_
      exact J4 (h.1 9 (ix ((8 : Int32) + p1)))
