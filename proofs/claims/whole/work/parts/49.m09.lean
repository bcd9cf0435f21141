noncomputable def f9_file (p1 : Int32) (p2 : Int32) (h : qH) : Option (Int32) :=
  (f9_isFile p1 h).bind fun (z1 : Int32) =>
  if z1 = 0 then (
    some (-1000000 : Int32))
  else (
    (f9_in p2 (0 : Int32) (4 : Int32) h).bind fun (z3 : Int32) =>
    if z3 = 0 then (
      some (-1000000 : Int32))
    else (
      qg (qin ((48 : Int32) + p1) 353) <|
      qj (fun (x5 : Int32) =>
        some x5) fun j6 =>
      qj (qg (qin (((48 : Int32) + ((24 : Int32) * p2)) + p1) 353) <|
        j6 (h.1 9 (ix (((48 : Int32) + ((24 : Int32) * p2)) + p1)))) fun j8 =>
      if (h.1 9 (ix ((48 : Int32) + p1))) = (-1 : Int32) then (
        if p2 = (1 : Int32) then (
          j6 (-1000000 : Int32))
        else (
          if p2 = (2 : Int32) then (
            j6 (-1000000 : Int32))
          else (
            j8)))
      else (
        j8)))
set_option maxRecDepth 100000 in
set_option maxHeartbeats 4000000 in
theorem m9_file (l : Launch) (p1 : Int32) (p2 : Int32) : qMet UM ROM l yX9_file (qws yX9_file cX9_file 3 (some .int)) R9_file [.ref 0, .int p1, .int p2] (f9_file p1 p2) qEr := by
  refine q_met (own := RX9) 0 (by decide) rfl (Nat.le_of_ble_eq_true rfl) (ls := [some (.ref 0), some (.int p1), some (.int p2)]) rfl fun h => ?_
  unfold f9_file
  refine p_aload_n rfl dX9_file_0 rfl ?_
  refine p_iload_n rfl dX9_file_1 rfl ?_
  refine p_callVr (f := f9_isFile p1) (st := []) [.int p1] qRokM (m9_isFile l p1) cal_RX9_160 uM_0 rfl rfl ⟨rfl, rfl⟩ ⟨Nat.le_of_ble_eq_true rfl, Nat.le_of_ble_eq_true rfl⟩ (Nat.le_of_ble_eq_true rfl) dX9_file_2 rfl (fun z1 => ?_)
  refine p_if (fun c2 => ?_) (fun c2 => ?_)
  · refine p_if_eq_t (tgt := 17) dX9_file_5 (by decide) c2 ?_
    refine p_ldcw (v := (-1000000 : Int32)) kcRX9_363 dX9_file_17 rfl ?_
    exact p_iret rfl rfl dX9_file_20
  · refine p_if_eq_f (tgt := 17) dX9_file_5 (by decide) rfl c2 ?_
    refine p_iload_n rfl dX9_file_8 rfl ?_
    refine p_iconst (v := (0 : Int32)) kiconst_0 dX9_file_9 rfl ?_
    refine p_iconst (v := (4 : Int32)) kiconst_4 dX9_file_10 rfl ?_
    refine p_callSr (f := f9_in p2 (0 : Int32) (4 : Int32)) (st := []) [.int p2, .int (0 : Int32), .int (4 : Int32)] qRokM (m9_in l p2 (0 : Int32) (4 : Int32)) cal_RX9_76 rfl ⟨rfl, rfl⟩ ⟨Nat.le_of_ble_eq_true rfl, Nat.le_of_ble_eq_true rfl⟩ (Nat.le_of_ble_eq_true rfl) dX9_file_11 rfl (fun z3 => ?_)
    refine p_if (fun c4 => ?_) (fun c4 => ?_)
    · refine p_if_ne_f (tgt := 21) dX9_file_14 (by decide) rfl c4 ?_
      refine p_ldcw (v := (-1000000 : Int32)) kcRX9_363 dX9_file_17 rfl ?_
      exact p_iret rfl rfl dX9_file_20
    · refine p_if_ne_t (tgt := 21) dX9_file_14 (by decide) c4 ?_
      refine p_aload_n rfl dX9_file_21 rfl ?_
      refine p_getr qg_RX9_34 uM_0 rfl dX9_file_22 rfl ?_
      refine p_bipush (v := (48 : Int32)) kbipush_48 dX9_file_25 rfl ?_
      refine p_iload_n rfl dX9_file_27 rfl ?_
      refine p_iadd dX9_file_28 rfl ?_
      refine p_iald uM_9 dX9_file_29 rfl (fun _ => ?_)
      refine p_iconst (v := (-1 : Int32)) kiconst_m1 dX9_file_30 rfl ?_
      refine p_jn (fun j6 => ∀ (x5 : Int32), PW UM ROM l R9_file cX9_file 3 (some .int) RX9 (qEr h) 64 [some (.ref 0), some (.int p1), some (.int p2)] [.int x5] h (j6 x5)) (fun x5 => ?_) (fun j6 J7 => ?_)
      · exact p_iret rfl rfl dX9_file_64
      · refine p_jn (fun j8 => PW UM ROM l R9_file cX9_file 3 (some .int) RX9 (qEr h) 50 [some (.ref 0), some (.int p1), some (.int p2)] [] h j8) ?_ (fun j8 J9 => ?_)
        · refine p_aload_n rfl dX9_file_50 rfl ?_
          refine p_getr qg_RX9_34 uM_0 rfl dX9_file_51 rfl ?_
          refine p_bipush (v := (48 : Int32)) kbipush_48 dX9_file_54 rfl ?_
          refine p_bipush (v := (24 : Int32)) kbipush_24 dX9_file_56 rfl ?_
          refine p_iload_n rfl dX9_file_58 rfl ?_
          refine p_imul dX9_file_59 rfl ?_
          refine p_iadd dX9_file_60 rfl ?_
          refine p_iload_n rfl dX9_file_61 rfl ?_
          refine p_iadd dX9_file_62 rfl ?_
          refine p_iald uM_9 dX9_file_63 rfl (fun _ => ?_)
          exact J7 (h.1 9 (ix (((48 : Int32) + ((24 : Int32) * p2)) + p1)))
        · refine p_if (fun c10 => ?_) (fun c10 => ?_)
          · refine p_icmp_ne_f (tgt := 50) dX9_file_31 (by decide) rfl c10 ?_
            refine p_iload_n rfl dX9_file_34 rfl ?_
            refine p_iconst (v := (1 : Int32)) kiconst_1 dX9_file_35 rfl ?_
            refine p_if (fun c11 => ?_) (fun c11 => ?_)
            · refine p_icmp_eq_t (tgt := 44) dX9_file_36 (by decide) c11 ?_
              refine p_ldcw (v := (-1000000 : Int32)) kcRX9_363 dX9_file_44 rfl ?_
              refine p_goto (tgt := 64) dX9_file_47 (by decide) ?_
              exact J7 (-1000000 : Int32)
            · refine p_icmp_eq_f (tgt := 44) dX9_file_36 (by decide) rfl c11 ?_
              refine p_iload_n rfl dX9_file_39 rfl ?_
              refine p_iconst (v := (2 : Int32)) kiconst_2 dX9_file_40 rfl ?_
              refine p_if (fun c12 => ?_) (fun c12 => ?_)
              · refine p_icmp_ne_f (tgt := 50) dX9_file_41 (by decide) rfl c12 ?_
                refine p_ldcw (v := (-1000000 : Int32)) kcRX9_363 dX9_file_44 rfl ?_
                refine p_goto (tgt := 64) dX9_file_47 (by decide) ?_
                exact J7 (-1000000 : Int32)
              · refine p_icmp_ne_t (tgt := 50) dX9_file_41 (by decide) c12 ?_
                exact J9
          · refine p_icmp_ne_t (tgt := 50) dX9_file_31 (by decide) c10 ?_
            exact J9
noncomputable def f9_drive (p1 : Int32) (h : qH) : Option (Int32) :=
  (f9_isHall h).bind fun (z1 : Int32) =>
  qj (fun (x2 : Int32) =>
    some x2) fun j3 =>
  if z1 = 0 then (
    j3 (-1 : Int32))
  else (
    (f9_in p1 (0 : Int32) ((h.1 5 1) - (1 : Int32)) h).bind fun (z6 : Int32) =>
    if z6 = 0 then (
      j3 (-1 : Int32))
    else (
      (f9_inDrive p1 h).bind fun (z8 : Int32) =>
      j3 z8))
set_option maxRecDepth 100000 in
set_option maxHeartbeats 4000000 in
theorem m9_drive (l : Launch) (p1 : Int32) : qMet UM ROM l yX9_drive (qws yX9_drive cX9_drive 2 (some .int)) R9_drive [.ref 0, .int p1] (f9_drive p1) qEr := by
  refine q_met (own := RX9) 0 (by decide) rfl (Nat.le_of_ble_eq_true rfl) (ls := [some (.ref 0), some (.int p1)]) rfl fun h => ?_
  unfold f9_drive
  refine p_aload_n rfl dX9_drive_0 rfl ?_
  refine p_callVr (f := f9_isHall) (st := []) [] qRokM (m9_isHall l) cal_RX9_156 uM_0 rfl rfl ⟨rfl, rfl⟩ ⟨Nat.le_of_ble_eq_true rfl, Nat.le_of_ble_eq_true rfl⟩ (Nat.le_of_ble_eq_true rfl) dX9_drive_1 rfl (fun z1 => ?_)
  refine p_jn (fun j3 => ∀ (x2 : Int32), PW UM ROM l R9_drive cX9_drive 2 (some .int) RX9 (qEr h) 32 [some (.ref 0), some (.int p1)] [.int x2] h (j3 x2)) (fun x2 => ?_) (fun j3 J4 => ?_)
  · exact p_iret rfl rfl dX9_drive_32
  · refine p_if (fun c5 => ?_) (fun c5 => ?_)
    · refine p_if_eq_t (tgt := 31) dX9_drive_4 (by decide) c5 ?_
      refine p_iconst (v := (-1 : Int32)) kiconst_m1 dX9_drive_31 rfl ?_
      exact J4 (-1 : Int32)
    · refine p_if_eq_f (tgt := 31) dX9_drive_4 (by decide) rfl c5 ?_
      refine p_iload_n rfl dX9_drive_7 rfl ?_
      refine p_iconst (v := (0 : Int32)) kiconst_0 dX9_drive_8 rfl ?_
      refine p_aload_n rfl dX9_drive_9 rfl ?_
      refine p_getr qg_RX9_22 uM_0 rfl dX9_drive_10 rfl ?_
      refine p_iconst (v := (1 : Int32)) kiconst_1 dX9_drive_13 rfl ?_
      refine p_ialdK uM_5 kix_1 kqin_1_8 dX9_drive_14 rfl ?_
      refine p_iconst (v := (1 : Int32)) kiconst_1 dX9_drive_15 rfl ?_
      refine p_isub dX9_drive_16 rfl ?_
      refine p_callSr (f := f9_in p1 (0 : Int32) ((h.1 5 1) - (1 : Int32))) (st := []) [.int p1, .int (0 : Int32), .int ((h.1 5 1) - (1 : Int32))] qRokM (m9_in l p1 (0 : Int32) ((h.1 5 1) - (1 : Int32))) cal_RX9_76 rfl ⟨rfl, rfl⟩ ⟨Nat.le_of_ble_eq_true rfl, Nat.le_of_ble_eq_true rfl⟩ (Nat.le_of_ble_eq_true rfl) dX9_drive_17 rfl (fun z6 => ?_)
      refine p_if (fun c7 => ?_) (fun c7 => ?_)
      · refine p_if_eq_t (tgt := 31) dX9_drive_20 (by decide) c7 ?_
        refine p_iconst (v := (-1 : Int32)) kiconst_m1 dX9_drive_31 rfl ?_
        exact J4 (-1 : Int32)
      · refine p_if_eq_f (tgt := 31) dX9_drive_20 (by decide) rfl c7 ?_
        refine p_aload_n rfl dX9_drive_23 rfl ?_
        refine p_iload_n rfl dX9_drive_24 rfl ?_
        refine p_callVr (f := f9_inDrive p1) (st := []) [.int p1] qRokM (m9_inDrive l p1) cal_RX9_206 uM_0 rfl rfl ⟨rfl, rfl⟩ ⟨Nat.le_of_ble_eq_true rfl, Nat.le_of_ble_eq_true rfl⟩ (Nat.le_of_ble_eq_true rfl) dX9_drive_25 rfl (fun z8 => ?_)
        refine p_goto (tgt := 32) dX9_drive_28 (by decide) ?_
        exact J4 z8
noncomputable def f9_labelled_L2 (p1 : Int32) (h : qH) (k : Int32 → Option (Int32)) : Nat → Int32 → Option (Int32)
  | 0, _ => none
  | n + 1, x1 =>
    if (h.1 0 12) ≤ x1 then (
      k x1)
    else (
      qg (qin x1 8) <|
      if (h.1 6 (ix x1)) = p1 then (
        some x1)
      else (
        qlt (x1 + (1 : Int32)) fun (x4 : Int32) =>
        f9_labelled_L2 p1 h k n x4))
set_option maxRecDepth 100000 in
set_option maxHeartbeats 4000000 in
theorem w9_labelled_L2 (l : Launch) (p1 : Int32) (h : qH) {k : Int32 → Option (Int32)} (hk : ∀ (x1 : Int32), PW UM ROM l R9_labelled cX9_labelled 3 (some .int) RX9 (qEr h) 28 [some (.ref 0), some (.int p1), some (.int x1)] [] h (k x1)) : ∀ (n : Nat) (x1 : Int32), PW UM ROM l R9_labelled cX9_labelled 3 (some .int) RX9 (qEr h) 2 [some (.ref 0), some (.int p1), some (.int x1)] [] h (f9_labelled_L2 p1 h k n x1) := by
  intro n
  induction n with
  | zero => intro _; exact p_none
  | succ n ih =>
    intro x1
    unfold f9_labelled_L2
    refine p_iload_n rfl dX9_labelled_2 rfl ?_
    refine p_aload_n rfl dX9_labelled_3 rfl ?_
    refine p_geti qg_RX9_153 uM_0 rfl dX9_labelled_4 rfl ?_
    refine p_if (fun c2 => ?_) (fun c2 => ?_)
    · refine p_icmp_ge_t (tgt := 28) dX9_labelled_7 (by decide) c2 ?_
      exact hk x1
    · refine p_icmp_ge_f (tgt := 28) dX9_labelled_7 (by decide) rfl c2 ?_
      refine p_aload_n rfl dX9_labelled_10 rfl ?_
      refine p_getr qg_RX9_25 uM_0 rfl dX9_labelled_11 rfl ?_
      refine p_iload_n rfl dX9_labelled_14 rfl ?_
      refine p_iald uM_6 dX9_labelled_15 rfl (fun _ => ?_)
      refine p_iload_n rfl dX9_labelled_16 rfl ?_
      refine p_if (fun c3 => ?_) (fun c3 => ?_)
      · refine p_icmp_ne_f (tgt := 22) dX9_labelled_17 (by decide) rfl c3 ?_
        refine p_iload_n rfl dX9_labelled_20 rfl ?_
        exact p_iret rfl rfl dX9_labelled_21
      · refine p_icmp_ne_t (tgt := 22) dX9_labelled_17 (by decide) c3 ?_
        refine p_iiN (v := (1 : Int32)) (lf := fun x4 => [some (.ref 0), some (.int p1), some (.int x4)]) kiconst_1 dX9_labelled_22 rfl rfl rfl rfl (fun _ => rfl) (fun x4 => ?_)
        refine p_goto (tgt := 2) dX9_labelled_25 (by decide) ?_
        exact ih x4
noncomputable def f9_labelled (p1 : Int32) (h : qH) : Option (Int32) :=
  f9_labelled_L2 p1 h (fun (x5 : Int32) =>
    some (-1 : Int32)) qN (0 : Int32)
set_option maxRecDepth 100000 in
set_option maxHeartbeats 4000000 in
theorem m9_labelled (l : Launch) (p1 : Int32) : qMet UM ROM l yX9_labelled (qws yX9_labelled cX9_labelled 3 (some .int)) R9_labelled [.ref 0, .int p1] (f9_labelled p1) qEr := by
  refine q_met (own := RX9) 1 (by decide) rfl (Nat.le_of_ble_eq_true rfl) (ls := [some (.ref 0), some (.int p1), none]) rfl fun h => ?_
  unfold f9_labelled
  refine p_iconst (v := (0 : Int32)) kiconst_0 dX9_labelled_0 rfl ?_
  refine p_is_n (ls' := [some (.ref 0), some (.int p1), some (.int (0 : Int32))]) dX9_labelled_1 rfl rfl rfl rfl ?_
  refine w9_labelled_L2 l p1 h (fun x5 => ?_) qN _
  refine p_iconst (v := (-1 : Int32)) kiconst_m1 dX9_labelled_28 rfl ?_
  exact p_iret rfl rfl dX9_labelled_29
noncomputable def f9_isPlace (p1 : Int32) (h : qH) : Option (Int32) :=
  (f9_isHall h).bind fun (z1 : Int32) =>
  qj (fun (x2 : Int32) =>
    qg (qbo x2) <|
    some x2) fun j3 =>
  if z1 = 0 then (
    j3 (0 : Int32))
  else (
    (f9_in p1 (0 : Int32) (((h.1 5 0) + (h.1 5 1)) - (1 : Int32)) h).bind fun (z6 : Int32) =>
    if z6 = 0 then (
      j3 (0 : Int32))
    else (
      j3 (1 : Int32)))
set_option maxRecDepth 100000 in
set_option maxHeartbeats 4000000 in
theorem m9_isPlace (l : Launch) (p1 : Int32) : qMet UM ROM l yX9_isPlace (qws yX9_isPlace cX9_isPlace 2 (some .boolean)) R9_isPlace [.ref 0, .int p1] (f9_isPlace p1) qEr := by
  refine q_met (own := RX9) 0 (by decide) rfl (Nat.le_of_ble_eq_true rfl) (ls := [some (.ref 0), some (.int p1)]) rfl fun h => ?_
  unfold f9_isPlace
  refine p_aload_n rfl dX9_isPlace_0 rfl ?_
  refine p_callVr (f := f9_isHall) (st := []) [] qRokM (m9_isHall l) cal_RX9_156 uM_0 rfl rfl ⟨rfl, rfl⟩ ⟨Nat.le_of_ble_eq_true rfl, Nat.le_of_ble_eq_true rfl⟩ (Nat.le_of_ble_eq_true rfl) dX9_isPlace_1 rfl (fun z1 => ?_)
  refine p_jn (fun j3 => ∀ (x2 : Int32), PW UM ROM l R9_isPlace cX9_isPlace 2 (some .boolean) RX9 (qEr h) 35 [some (.ref 0), some (.int p1)] [.int x2] h (j3 x2)) (fun x2 => ?_) (fun j3 J4 => ?_)
  · exact p_zretG rfl rfl dX9_isPlace_35
  · refine p_if (fun c5 => ?_) (fun c5 => ?_)
    · refine p_if_eq_t (tgt := 34) dX9_isPlace_4 (by decide) c5 ?_
      refine p_iconst (v := (0 : Int32)) kiconst_0 dX9_isPlace_34 rfl ?_
      exact J4 (0 : Int32)
    · refine p_if_eq_f (tgt := 34) dX9_isPlace_4 (by decide) rfl c5 ?_
      refine p_iload_n rfl dX9_isPlace_7 rfl ?_
      refine p_iconst (v := (0 : Int32)) kiconst_0 dX9_isPlace_8 rfl ?_
      refine p_aload_n rfl dX9_isPlace_9 rfl ?_
      refine p_getr qg_RX9_22 uM_0 rfl dX9_isPlace_10 rfl ?_
      refine p_iconst (v := (0 : Int32)) kiconst_0 dX9_isPlace_13 rfl ?_
      refine p_ialdK uM_5 kix_0 kqin_0_8 dX9_isPlace_14 rfl ?_
      refine p_aload_n rfl dX9_isPlace_15 rfl ?_
      refine p_getr qg_RX9_22 uM_0 rfl dX9_isPlace_16 rfl ?_
      refine p_iconst (v := (1 : Int32)) kiconst_1 dX9_isPlace_19 rfl ?_
      refine p_ialdK uM_5 kix_1 kqin_1_8 dX9_isPlace_20 rfl ?_
      refine p_iadd dX9_isPlace_21 rfl ?_
      refine p_iconst (v := (1 : Int32)) kiconst_1 dX9_isPlace_22 rfl ?_
      refine p_isub dX9_isPlace_23 rfl ?_
      refine p_callSr (f := f9_in p1 (0 : Int32) (((h.1 5 0) + (h.1 5 1)) - (1 : Int32))) (st := []) [.int p1, .int (0 : Int32), .int (((h.1 5 0) + (h.1 5 1)) - (1 : Int32))] qRokM (m9_in l p1 (0 : Int32) (((h.1 5 0) + (h.1 5 1)) - (1 : Int32))) cal_RX9_76 rfl ⟨rfl, rfl⟩ ⟨Nat.le_of_ble_eq_true rfl, Nat.le_of_ble_eq_true rfl⟩ (Nat.le_of_ble_eq_true rfl) dX9_isPlace_24 rfl (fun z6 => ?_)
      refine p_if (fun c7 => ?_) (fun c7 => ?_)
      · refine p_if_eq_t (tgt := 34) dX9_isPlace_27 (by decide) c7 ?_
        refine p_iconst (v := (0 : Int32)) kiconst_0 dX9_isPlace_34 rfl ?_
        exact J4 (0 : Int32)
      · refine p_if_eq_f (tgt := 34) dX9_isPlace_27 (by decide) rfl c7 ?_
        refine p_iconst (v := (1 : Int32)) kiconst_1 dX9_isPlace_30 rfl ?_
        refine p_goto (tgt := 35) dX9_isPlace_31 (by decide) ?_
        exact J4 (1 : Int32)
noncomputable def f9_way (p1 : Int32) (p2 : Int32) (h : qH) : Option (Int32) :=
  (f9_isPlace p1 h).bind fun (z1 : Int32) =>
  qj (fun (x2 : Int32) =>
    some x2) fun j3 =>
  if z1 = 0 then (
    j3 (-1 : Int32))
  else (
    (f9_isPlace p2 h).bind fun (z6 : Int32) =>
    if z6 = 0 then (
      j3 (-1 : Int32))
    else (
      (f9_apart p1 p2 h).bind fun (z8 : Int32) =>
      j3 ((h.1 5 5) * z8)))
set_option maxRecDepth 100000 in
set_option maxHeartbeats 4000000 in
theorem m9_way (l : Launch) (p1 : Int32) (p2 : Int32) : qMet UM ROM l yX9_way (qws yX9_way cX9_way 3 (some .int)) R9_way [.ref 0, .int p1, .int p2] (f9_way p1 p2) qEr := by
  refine q_met (own := RX9) 0 (by decide) rfl (Nat.le_of_ble_eq_true rfl) (ls := [some (.ref 0), some (.int p1), some (.int p2)]) rfl fun h => ?_
  unfold f9_way
  refine p_aload_n rfl dX9_way_0 rfl ?_
  refine p_iload_n rfl dX9_way_1 rfl ?_
  refine p_callVr (f := f9_isPlace p1) (st := []) [.int p1] qRokM (m9_isPlace l p1) cal_RX9_370 uM_0 rfl rfl ⟨rfl, rfl⟩ ⟨Nat.le_of_ble_eq_true rfl, Nat.le_of_ble_eq_true rfl⟩ (Nat.le_of_ble_eq_true rfl) dX9_way_2 rfl (fun z1 => ?_)
  refine p_jn (fun j3 => ∀ (x2 : Int32), PW UM ROM l R9_way cX9_way 3 (some .int) RX9 (qEr h) 32 [some (.ref 0), some (.int p1), some (.int p2)] [.int x2] h (j3 x2)) (fun x2 => ?_) (fun j3 J4 => ?_)
  · exact p_iret rfl rfl dX9_way_32
  · refine p_if (fun c5 => ?_) (fun c5 => ?_)
    · refine p_if_eq_t (tgt := 31) dX9_way_5 (by decide) c5 ?_
      refine p_iconst (v := (-1 : Int32)) kiconst_m1 dX9_way_31 rfl ?_
      exact J4 (-1 : Int32)
    · refine p_if_eq_f (tgt := 31) dX9_way_5 (by decide) rfl c5 ?_
      refine p_aload_n rfl dX9_way_8 rfl ?_
      refine p_iload_n rfl dX9_way_9 rfl ?_
      refine p_callVr (f := f9_isPlace p2) (st := []) [.int p2] qRokM (m9_isPlace l p2) cal_RX9_370 uM_0 rfl rfl ⟨rfl, rfl⟩ ⟨Nat.le_of_ble_eq_true rfl, Nat.le_of_ble_eq_true rfl⟩ (Nat.le_of_ble_eq_true rfl) dX9_way_10 rfl (fun z6 => ?_)
      refine p_if (fun c7 => ?_) (fun c7 => ?_)
      · refine p_if_eq_t (tgt := 31) dX9_way_13 (by decide) c7 ?_
        refine p_iconst (v := (-1 : Int32)) kiconst_m1 dX9_way_31 rfl ?_
        exact J4 (-1 : Int32)
      · refine p_if_eq_f (tgt := 31) dX9_way_13 (by decide) rfl c7 ?_
        refine p_aload_n rfl dX9_way_16 rfl ?_
        refine p_getr qg_RX9_22 uM_0 rfl dX9_way_17 rfl ?_
        refine p_iconst (v := (5 : Int32)) kiconst_5 dX9_way_20 rfl ?_
        refine p_ialdK uM_5 kix_5 kqin_5_8 dX9_way_21 rfl ?_
        refine p_iload_n rfl dX9_way_22 rfl ?_
        refine p_iload_n rfl dX9_way_23 rfl ?_
        refine p_callSr (f := f9_apart p1 p2) (st := [.int (h.1 5 5)]) [.int p1, .int p2] qRokM (m9_apart l p1 p2) cal_RX9_197 rfl ⟨rfl, rfl⟩ ⟨Nat.le_of_ble_eq_true rfl, Nat.le_of_ble_eq_true rfl⟩ (Nat.le_of_ble_eq_true rfl) dX9_way_24 rfl (fun z8 => ?_)
        refine p_imul dX9_way_27 rfl ?_
        refine p_goto (tgt := 32) dX9_way_28 (by decide) ?_
        exact J4 ((h.1 5 5) * z8)
noncomputable def f9_isBlock (p1 : Int32) (h : qH) : Option (Int32) :=
  (f9_isHall h).bind fun (z1 : Int32) =>
  qj (fun (x2 : Int32) =>
    qg (qbo x2) <|
    some x2) fun j3 =>
  if z1 = 0 then (
    j3 (0 : Int32))
  else (
    (f9_blocksOfTape h).bind fun (z6 : Int32) =>
    (f9_in p1 (0 : Int32) (z6 - (1 : Int32)) h).bind fun (z7 : Int32) =>
    if z7 = 0 then (
      j3 (0 : Int32))
    else (
      j3 (1 : Int32)))
set_option maxRecDepth 100000 in
set_option maxHeartbeats 4000000 in
theorem m9_isBlock (l : Launch) (p1 : Int32) : qMet UM ROM l yX9_isBlock (qws yX9_isBlock cX9_isBlock 2 (some .boolean)) R9_isBlock [.ref 0, .int p1] (f9_isBlock p1) qEr := by
  refine q_met (own := RX9) 0 (by decide) rfl (Nat.le_of_ble_eq_true rfl) (ls := [some (.ref 0), some (.int p1)]) rfl fun h => ?_
  unfold f9_isBlock
  refine p_aload_n rfl dX9_isBlock_0 rfl ?_
  refine p_callVr (f := f9_isHall) (st := []) [] qRokM (m9_isHall l) cal_RX9_156 uM_0 rfl rfl ⟨rfl, rfl⟩ ⟨Nat.le_of_ble_eq_true rfl, Nat.le_of_ble_eq_true rfl⟩ (Nat.le_of_ble_eq_true rfl) dX9_isBlock_1 rfl (fun z1 => ?_)
  refine p_jn (fun j3 => ∀ (x2 : Int32), PW UM ROM l R9_isBlock cX9_isBlock 2 (some .boolean) RX9 (qEr h) 26 [some (.ref 0), some (.int p1)] [.int x2] h (j3 x2)) (fun x2 => ?_) (fun j3 J4 => ?_)
  · exact p_zretG rfl rfl dX9_isBlock_26
  · refine p_if (fun c5 => ?_) (fun c5 => ?_)
    · refine p_if_eq_t (tgt := 25) dX9_isBlock_4 (by decide) c5 ?_
      refine p_iconst (v := (0 : Int32)) kiconst_0 dX9_isBlock_25 rfl ?_
      exact J4 (0 : Int32)
    · refine p_if_eq_f (tgt := 25) dX9_isBlock_4 (by decide) rfl c5 ?_
      refine p_iload_n rfl dX9_isBlock_7 rfl ?_
      refine p_iconst (v := (0 : Int32)) kiconst_0 dX9_isBlock_8 rfl ?_
      refine p_aload_n rfl dX9_isBlock_9 rfl ?_
      refine p_callVr (f := f9_blocksOfTape) (st := [.int (0 : Int32), .int p1]) [] qRokM (m9_blocksOfTape l) cal_RX9_172 uM_0 rfl rfl ⟨rfl, rfl⟩ ⟨Nat.le_of_ble_eq_true rfl, Nat.le_of_ble_eq_true rfl⟩ (Nat.le_of_ble_eq_true rfl) dX9_isBlock_10 rfl (fun z6 => ?_)
      refine p_iconst (v := (1 : Int32)) kiconst_1 dX9_isBlock_13 rfl ?_
      refine p_isub dX9_isBlock_14 rfl ?_
      refine p_callSr (f := f9_in p1 (0 : Int32) (z6 - (1 : Int32))) (st := []) [.int p1, .int (0 : Int32), .int (z6 - (1 : Int32))] qRokM (m9_in l p1 (0 : Int32) (z6 - (1 : Int32))) cal_RX9_76 rfl ⟨rfl, rfl⟩ ⟨Nat.le_of_ble_eq_true rfl, Nat.le_of_ble_eq_true rfl⟩ (Nat.le_of_ble_eq_true rfl) dX9_isBlock_15 rfl (fun z7 => ?_)
      refine p_if (fun c8 => ?_) (fun c8 => ?_)
      · refine p_if_eq_t (tgt := 25) dX9_isBlock_18 (by decide) c8 ?_
        refine p_iconst (v := (0 : Int32)) kiconst_0 dX9_isBlock_25 rfl ?_
        exact J4 (0 : Int32)
      · refine p_if_eq_f (tgt := 25) dX9_isBlock_18 (by decide) rfl c8 ?_
        refine p_iconst (v := (1 : Int32)) kiconst_1 dX9_isBlock_21 rfl ?_
        refine p_goto (tgt := 26) dX9_isBlock_22 (by decide) ?_
        exact J4 (1 : Int32)
noncomputable def f9_seek (p1 : Int32) (p2 : Int32) (h : qH) : Option (Int32) :=
  (f9_isBlock p1 h).bind fun (z1 : Int32) =>
  qj (fun (x2 : Int32) =>
    some x2) fun j3 =>
  if z1 = 0 then (
    j3 (-1 : Int32))
  else (
    (f9_isBlock p2 h).bind fun (z6 : Int32) =>
    if z6 = 0 then (
      j3 (-1 : Int32))
    else (
      (f9_seekOf p1 p2 h).bind fun (z8 : Int32) =>
      j3 z8))
set_option maxRecDepth 100000 in
set_option maxHeartbeats 4000000 in
theorem m9_seek (l : Launch) (p1 : Int32) (p2 : Int32) : qMet UM ROM l yX9_seek (qws yX9_seek cX9_seek 3 (some .int)) R9_seek [.ref 0, .int p1, .int p2] (f9_seek p1 p2) qEr := by
  refine q_met (own := RX9) 0 (by decide) rfl (Nat.le_of_ble_eq_true rfl) (ls := [some (.ref 0), some (.int p1), some (.int p2)]) rfl fun h => ?_
  unfold f9_seek
  refine p_aload_n rfl dX9_seek_0 rfl ?_
  refine p_iload_n rfl dX9_seek_1 rfl ?_
  refine p_callVr (f := f9_isBlock p1) (st := []) [.int p1] qRokM (m9_isBlock l p1) cal_RX9_373 uM_0 rfl rfl ⟨rfl, rfl⟩ ⟨Nat.le_of_ble_eq_true rfl, Nat.le_of_ble_eq_true rfl⟩ (Nat.le_of_ble_eq_true rfl) dX9_seek_2 rfl (fun z1 => ?_)
  refine p_jn (fun j3 => ∀ (x2 : Int32), PW UM ROM l R9_seek cX9_seek 3 (some .int) RX9 (qEr h) 26 [some (.ref 0), some (.int p1), some (.int p2)] [.int x2] h (j3 x2)) (fun x2 => ?_) (fun j3 J4 => ?_)
  · exact p_iret rfl rfl dX9_seek_26
  · refine p_if (fun c5 => ?_) (fun c5 => ?_)
    · refine p_if_eq_t (tgt := 25) dX9_seek_5 (by decide) c5 ?_
      refine p_iconst (v := (-1 : Int32)) kiconst_m1 dX9_seek_25 rfl ?_
      exact J4 (-1 : Int32)
    · refine p_if_eq_f (tgt := 25) dX9_seek_5 (by decide) rfl c5 ?_
      refine p_aload_n rfl dX9_seek_8 rfl ?_
      refine p_iload_n rfl dX9_seek_9 rfl ?_
      refine p_callVr (f := f9_isBlock p2) (st := []) [.int p2] qRokM (m9_isBlock l p2) cal_RX9_373 uM_0 rfl rfl ⟨rfl, rfl⟩ ⟨Nat.le_of_ble_eq_true rfl, Nat.le_of_ble_eq_true rfl⟩ (Nat.le_of_ble_eq_true rfl) dX9_seek_10 rfl (fun z6 => ?_)
      refine p_if (fun c7 => ?_) (fun c7 => ?_)
      · refine p_if_eq_t (tgt := 25) dX9_seek_13 (by decide) c7 ?_
        refine p_iconst (v := (-1 : Int32)) kiconst_m1 dX9_seek_25 rfl ?_
        exact J4 (-1 : Int32)
      · refine p_if_eq_f (tgt := 25) dX9_seek_13 (by decide) rfl c7 ?_
        refine p_aload_n rfl dX9_seek_16 rfl ?_
        refine p_iload_n rfl dX9_seek_17 rfl ?_
        refine p_iload_n rfl dX9_seek_18 rfl ?_
        refine p_callVr (f := f9_seekOf p1 p2) (st := []) [.int p1, .int p2] qRokM (m9_seekOf l p1 p2) cal_RX9_200 uM_0 rfl rfl ⟨rfl, rfl⟩ ⟨Nat.le_of_ble_eq_true rfl, Nat.le_of_ble_eq_true rfl⟩ (Nat.le_of_ble_eq_true rfl) dX9_seek_19 rfl (fun z8 => ?_)
        refine p_goto (tgt := 26) dX9_seek_22 (by decide) ?_
        exact J4 z8
noncomputable def f9_path (p1 : Int32) (p2 : Int32) (p3 : Int32) (h : qH) : Option (Int32) :=
  (f9_isHeld p1 h).bind fun (z1 : Int32) =>
  if z1 = 0 then (
    some (-1 : Int32))
  else (
    qg (qin ((96 : Int32) + p1) 353) <|
    (f9_in p2 (0 : Int32) ((h.1 9 (ix ((96 : Int32) + p1))) - (1 : Int32)) h).bind fun (z3 : Int32) =>
    if z3 = 0 then (
      some (-1 : Int32))
    else (
      (f9_in p3 (0 : Int32) (1 : Int32) h).bind fun (z5 : Int32) =>
      if z5 = 0 then (
        some (-1 : Int32))
      else (
        qg (qin ((72 : Int32) + p1) 353) <|
        qlt ((h.1 9 (ix ((72 : Int32) + p1))) + p2) fun (x7 : Int32) =>
        qj (fun (x8 : Int32) =>
          some x8) fun j9 =>
        if p3 = 0 then (
          (f9_spotOf x7 h).bind fun (z12 : Int32) =>
          j9 z12)
        else (
          (f9_wrapOf x7 h).bind fun (z13 : Int32) =>
          j9 z13))))
set_option maxRecDepth 100000 in
set_option maxHeartbeats 4000000 in
theorem m9_path (l : Launch) (p1 : Int32) (p2 : Int32) (p3 : Int32) : qMet UM ROM l yX9_path (qws yX9_path cX9_path 5 (some .int)) R9_path [.ref 0, .int p1, .int p2, .int p3] (f9_path p1 p2 p3) qEr := by
  refine q_met (own := RX9) 1 (by decide) rfl (Nat.le_of_ble_eq_true rfl) (ls := [some (.ref 0), some (.int p1), some (.int p2), some (.int p3), none]) rfl fun h => ?_
  unfold f9_path
  refine p_aload_n rfl dX9_path_0 rfl ?_
  refine p_iload_n rfl dX9_path_1 rfl ?_
  refine p_callVr (f := f9_isHeld p1) (st := []) [.int p1] qRokM (m9_isHeld l p1) cal_RX9_289 uM_0 rfl rfl ⟨rfl, rfl⟩ ⟨Nat.le_of_ble_eq_true rfl, Nat.le_of_ble_eq_true rfl⟩ (Nat.le_of_ble_eq_true rfl) dX9_path_2 rfl (fun z1 => ?_)
  refine p_if (fun c2 => ?_) (fun c2 => ?_)
  · refine p_if_eq_t (tgt := 36) dX9_path_5 (by decide) c2 ?_
    refine p_iconst (v := (-1 : Int32)) kiconst_m1 dX9_path_36 rfl ?_
    exact p_iret rfl rfl dX9_path_37
  · refine p_if_eq_f (tgt := 36) dX9_path_5 (by decide) rfl c2 ?_
    refine p_iload_n rfl dX9_path_8 rfl ?_
    refine p_iconst (v := (0 : Int32)) kiconst_0 dX9_path_9 rfl ?_
    refine p_aload_n rfl dX9_path_10 rfl ?_
    refine p_getr qg_RX9_34 uM_0 rfl dX9_path_11 rfl ?_
    refine p_bipush (v := (96 : Int32)) kbipush_96 dX9_path_14 rfl ?_
    refine p_iload_n rfl dX9_path_16 rfl ?_
    refine p_iadd dX9_path_17 rfl ?_
    refine p_iald uM_9 dX9_path_18 rfl (fun _ => ?_)
    refine p_iconst (v := (1 : Int32)) kiconst_1 dX9_path_19 rfl ?_
    refine p_isub dX9_path_20 rfl ?_
    refine p_callSr (f := f9_in p2 (0 : Int32) ((h.1 9 (ix ((96 : Int32) + p1))) - (1 : Int32))) (st := []) [.int p2, .int (0 : Int32), .int ((h.1 9 (ix ((96 : Int32) + p1))) - (1 : Int32))] qRokM (m9_in l p2 (0 : Int32) ((h.1 9 (ix ((96 : Int32) + p1))) - (1 : Int32))) cal_RX9_76 rfl ⟨rfl, rfl⟩ ⟨Nat.le_of_ble_eq_true rfl, Nat.le_of_ble_eq_true rfl⟩ (Nat.le_of_ble_eq_true rfl) dX9_path_21 rfl (fun z3 => ?_)
    refine p_if (fun c4 => ?_) (fun c4 => ?_)
    · refine p_if_eq_t (tgt := 36) dX9_path_24 (by decide) c4 ?_
      refine p_iconst (v := (-1 : Int32)) kiconst_m1 dX9_path_36 rfl ?_
      exact p_iret rfl rfl dX9_path_37
    · refine p_if_eq_f (tgt := 36) dX9_path_24 (by decide) rfl c4 ?_
      refine p_iload_n rfl dX9_path_27 rfl ?_
      refine p_iconst (v := (0 : Int32)) kiconst_0 dX9_path_28 rfl ?_
      refine p_iconst (v := (1 : Int32)) kiconst_1 dX9_path_29 rfl ?_
      refine p_callSr (f := f9_in p3 (0 : Int32) (1 : Int32)) (st := []) [.int p3, .int (0 : Int32), .int (1 : Int32)] qRokM (m9_in l p3 (0 : Int32) (1 : Int32)) cal_RX9_76 rfl ⟨rfl, rfl⟩ ⟨Nat.le_of_ble_eq_true rfl, Nat.le_of_ble_eq_true rfl⟩ (Nat.le_of_ble_eq_true rfl) dX9_path_30 rfl (fun z5 => ?_)
      refine p_if (fun c6 => ?_) (fun c6 => ?_)
      · refine p_if_ne_f (tgt := 38) dX9_path_33 (by decide) rfl c6 ?_
        refine p_iconst (v := (-1 : Int32)) kiconst_m1 dX9_path_36 rfl ?_
        exact p_iret rfl rfl dX9_path_37
      · refine p_if_ne_t (tgt := 38) dX9_path_33 (by decide) c6 ?_
        refine p_aload_n rfl dX9_path_38 rfl ?_
        refine p_getr qg_RX9_34 uM_0 rfl dX9_path_39 rfl ?_
        refine p_bipush (v := (72 : Int32)) kbipush_72 dX9_path_42 rfl ?_
        refine p_iload_n rfl dX9_path_44 rfl ?_
        refine p_iadd dX9_path_45 rfl ?_
        refine p_iald uM_9 dX9_path_46 rfl (fun _ => ?_)
        refine p_iload_n rfl dX9_path_47 rfl ?_
        refine p_iadd dX9_path_48 rfl ?_
        refine p_isN (lf := fun x7 => [some (.ref 0), some (.int p1), some (.int p2), some (.int p3), some (.int x7)]) dX9_path_49 rfl rfl rfl (fun _ => rfl) (fun x7 => ?_)
        refine p_iload_n rfl dX9_path_51 rfl ?_
        refine p_jn (fun j9 => ∀ (x8 : Int32), PW UM ROM l R9_path cX9_path 5 (some .int) RX9 (qEr h) 70 [some (.ref 0), some (.int p1), some (.int p2), some (.int p3), some (.int x7)] [.int x8] h (j9 x8)) (fun x8 => ?_) (fun j9 J10 => ?_)
        · exact p_iret rfl rfl dX9_path_70
        · refine p_if (fun c11 => ?_) (fun c11 => ?_)
          · refine p_if_ne_f (tgt := 64) dX9_path_52 (by decide) rfl c11 ?_
            refine p_aload_n rfl dX9_path_55 rfl ?_
            refine p_iload rfl dX9_path_56 rfl ?_
            refine p_callVr (f := f9_spotOf x7) (st := []) [.int x7] qRokM (m9_spotOf l x7) cal_RX9_194 uM_0 rfl rfl ⟨rfl, rfl⟩ ⟨Nat.le_of_ble_eq_true rfl, Nat.le_of_ble_eq_true rfl⟩ (Nat.le_of_ble_eq_true rfl) dX9_path_58 rfl (fun z12 => ?_)
            refine p_goto (tgt := 70) dX9_path_61 (by decide) ?_
            exact J10 z12
          · refine p_if_ne_t (tgt := 64) dX9_path_52 (by decide) c11 ?_
            refine p_aload_n rfl dX9_path_64 rfl ?_
            refine p_iload rfl dX9_path_65 rfl ?_
            refine p_callVr (f := f9_wrapOf x7) (st := []) [.int x7] qRokM (m9_wrapOf l x7) cal_RX9_191 uM_0 rfl rfl ⟨rfl, rfl⟩ ⟨Nat.le_of_ble_eq_true rfl, Nat.le_of_ble_eq_true rfl⟩ (Nat.le_of_ble_eq_true rfl) dX9_path_67 rfl (fun z13 => ?_)
            exact J10 z13
noncomputable def f9_putAside_L2 (k : Int32 → qH → Option (qH)) : Nat → Int32 → qH → Option (qH)
  | 0, _, _ => none
  | n + 1, x1, h2 =>
    if (172 : Int32) ≤ x1 then (
      k x1 h2)
    else (
      qg (qin x1 353) <|
      qg (qin x1 172) <|
      qlt (qw h2 14 (ix x1) (h2.1 9 (ix x1))) fun (h4 : qH) =>
      qlt (x1 + (1 : Int32)) fun (x5 : Int32) =>
      f9_putAside_L2 k n x5 h4)
set_option maxRecDepth 100000 in
set_option maxHeartbeats 4000000 in
theorem w9_putAside_L2 (l : Launch) (h0 : qH) {k : Int32 → qH → Option (qH)} (hk : ∀ (x1 : Int32) (h2 : qH), PW UM ROM l R9_putAside cX9_putAside 2 none RX9 (qEv h0) 27 [some (.ref 0), some (.int x1)] [] h2 (k x1 h2)) : ∀ (n : Nat) (x1 : Int32) (h2 : qH), PW UM ROM l R9_putAside cX9_putAside 2 none RX9 (qEv h0) 2 [some (.ref 0), some (.int x1)] [] h2 (f9_putAside_L2 k n x1 h2) := by
  intro n
  induction n with
  | zero => intro _ _; exact p_none
  | succ n ih =>
    intro x1 h2
    unfold f9_putAside_L2
    refine p_iload_n rfl dX9_putAside_2 rfl ?_
    refine p_sipush (v := (172 : Int32)) ksipush_172 dX9_putAside_3 rfl ?_
    refine p_if (fun c3 => ?_) (fun c3 => ?_)
    · refine p_icmp_ge_t (tgt := 27) dX9_putAside_6 (by decide) c3 ?_
      exact hk x1 h2
    · refine p_icmp_ge_f (tgt := 27) dX9_putAside_6 (by decide) rfl c3 ?_
      refine p_aload_n rfl dX9_putAside_9 rfl ?_
      refine p_getr qg_RX9_49 uM_0 rfl dX9_putAside_10 rfl ?_
      refine p_iload_n rfl dX9_putAside_13 rfl ?_
      refine p_aload_n rfl dX9_putAside_14 rfl ?_
      refine p_getr qg_RX9_34 uM_0 rfl dX9_putAside_15 rfl ?_
      refine p_iload_n rfl dX9_putAside_18 rfl ?_
      refine p_iald uM_9 dX9_putAside_19 rfl (fun _ => ?_)
      refine p_iast qokM uM_14 dX9_putAside_20 rfl (fun _ => ?_)
      refine p_nmH (fun h4 => ?_)
      refine p_iiN (v := (1 : Int32)) (lf := fun x5 => [some (.ref 0), some (.int x5)]) kiconst_1 dX9_putAside_21 rfl rfl rfl rfl (fun _ => rfl) (fun x5 => ?_)
      refine p_goto (tgt := 2) dX9_putAside_24 (by decide) ?_
      exact ih x5 h4
noncomputable def f9_putAside (h : qH) : Option (qH) :=
  f9_putAside_L2 (fun (x6 : Int32) (h7 : qH) =>
    some h7) qN (0 : Int32) h
set_option maxRecDepth 100000 in
set_option maxHeartbeats 4000000 in
theorem m9_putAside (l : Launch) : qMet UM ROM l yX9_putAside (qws yX9_putAside cX9_putAside 2 none) R9_putAside [.ref 0] f9_putAside qEv := by
  refine q_met (own := RX9) 1 (by decide) rfl (Nat.le_of_ble_eq_true rfl) (ls := [some (.ref 0), none]) rfl fun h => ?_
  unfold f9_putAside
  show PW UM ROM l R9_putAside cX9_putAside 2 none RX9 (qEv h) 0 [some (.ref 0), none] [] h _
  refine p_iconst (v := (0 : Int32)) kiconst_0 dX9_putAside_0 rfl ?_
  refine p_is_n (ls' := [some (.ref 0), some (.int (0 : Int32))]) dX9_putAside_1 rfl rfl rfl rfl ?_
  refine w9_putAside_L2 l h (fun x6 h7 => ?_) qN _ _
  exact p_vret rfl rfl dX9_putAside_27
noncomputable def f9_bringBack_L2 (k : Int32 → qH → Option (qH)) : Nat → Int32 → qH → Option (qH)
  | 0, _, _ => none
  | n + 1, x1, h2 =>
    if (172 : Int32) ≤ x1 then (
      k x1 h2)
    else (
      qg (qin x1 172) <|
      qg (qin x1 353) <|
      qlt (qw h2 9 (ix x1) (h2.1 14 (ix x1))) fun (h4 : qH) =>
      qlt (x1 + (1 : Int32)) fun (x5 : Int32) =>
      f9_bringBack_L2 k n x5 h4)
set_option maxRecDepth 100000 in
set_option maxHeartbeats 4000000 in
theorem w9_bringBack_L2 (l : Launch) (h0 : qH) {k : Int32 → qH → Option (qH)} (hk : ∀ (x1 : Int32) (h2 : qH), PW UM ROM l R9_bringBack cX9_bringBack 2 none RX9 (qEv h0) 27 [some (.ref 0), some (.int x1)] [] h2 (k x1 h2)) : ∀ (n : Nat) (x1 : Int32) (h2 : qH), PW UM ROM l R9_bringBack cX9_bringBack 2 none RX9 (qEv h0) 2 [some (.ref 0), some (.int x1)] [] h2 (f9_bringBack_L2 k n x1 h2) := by
  intro n
  induction n with
  | zero => intro _ _; exact p_none
  | succ n ih =>
    intro x1 h2
    unfold f9_bringBack_L2
    refine p_iload_n rfl dX9_bringBack_2 rfl ?_
    refine p_sipush (v := (172 : Int32)) ksipush_172 dX9_bringBack_3 rfl ?_
    refine p_if (fun c3 => ?_) (fun c3 => ?_)
    · refine p_icmp_ge_t (tgt := 27) dX9_bringBack_6 (by decide) c3 ?_
      exact hk x1 h2
    · refine p_icmp_ge_f (tgt := 27) dX9_bringBack_6 (by decide) rfl c3 ?_
      refine p_aload_n rfl dX9_bringBack_9 rfl ?_
      refine p_getr qg_RX9_34 uM_0 rfl dX9_bringBack_10 rfl ?_
      refine p_iload_n rfl dX9_bringBack_13 rfl ?_
      refine p_aload_n rfl dX9_bringBack_14 rfl ?_
      refine p_getr qg_RX9_49 uM_0 rfl dX9_bringBack_15 rfl ?_
      refine p_iload_n rfl dX9_bringBack_18 rfl ?_
      refine p_iald uM_14 dX9_bringBack_19 rfl (fun _ => ?_)
      refine p_iast qokM uM_9 dX9_bringBack_20 rfl (fun _ => ?_)
      refine p_nmH (fun h4 => ?_)
      refine p_iiN (v := (1 : Int32)) (lf := fun x5 => [some (.ref 0), some (.int x5)]) kiconst_1 dX9_bringBack_21 rfl rfl rfl rfl (fun _ => rfl) (fun x5 => ?_)
      refine p_goto (tgt := 2) dX9_bringBack_24 (by decide) ?_
      exact ih x5 h4
noncomputable def f9_bringBack (h : qH) : Option (qH) :=
  f9_bringBack_L2 (fun (x6 : Int32) (h7 : qH) =>
    some h7) qN (0 : Int32) h
set_option maxRecDepth 100000 in
set_option maxHeartbeats 4000000 in
theorem m9_bringBack (l : Launch) : qMet UM ROM l yX9_bringBack (qws yX9_bringBack cX9_bringBack 2 none) R9_bringBack [.ref 0] f9_bringBack qEv := by
  refine q_met (own := RX9) 1 (by decide) rfl (Nat.le_of_ble_eq_true rfl) (ls := [some (.ref 0), none]) rfl fun h => ?_
  unfold f9_bringBack
  show PW UM ROM l R9_bringBack cX9_bringBack 2 none RX9 (qEv h) 0 [some (.ref 0), none] [] h _
  refine p_iconst (v := (0 : Int32)) kiconst_0 dX9_bringBack_0 rfl ?_
  refine p_is_n (ls' := [some (.ref 0), some (.int (0 : Int32))]) dX9_bringBack_1 rfl rfl rfl rfl ?_
  refine w9_bringBack_L2 l h (fun x6 h7 => ?_) qN _ _
  exact p_vret rfl rfl dX9_bringBack_27
noncomputable def f9_takes (p1 : Int32) (p2 : Int32) (h : qH) : Option (Int32 × qH) :=
  (f9_isTape p1 h).bind fun (z1 : Int32) =>
  qj (fun (x2 : Int32) (h3 : qH) =>
    some (x2, h3)) fun j4 =>
  if z1 = 0 then (
    j4 (-1 : Int32) h)
  else (
    (f9_in p2 (0 : Int32) (2 : Int32) h).bind fun (z7 : Int32) =>
    if z7 = 0 then (
      j4 (-1 : Int32) h)
    else (
      (f9_headOf p1 h).bind fun (z9 : Int32) =>
      qb2 (f9_laysOrder p1 p2 z9 h) fun (z10 : Int32) (h11 : qH) =>
      j4 z10 h11))
set_option maxRecDepth 100000 in
set_option maxHeartbeats 4000000 in
theorem m9_takes (l : Launch) (p1 : Int32) (p2 : Int32) : qMet UM ROM l yX9_takes (qws yX9_takes cX9_takes 3 (some .int)) R9_takes [.ref 0, .int p1, .int p2] (f9_takes p1 p2) qEw := by
  refine q_met (own := RX9) 0 (by decide) rfl (Nat.le_of_ble_eq_true rfl) (ls := [some (.ref 0), some (.int p1), some (.int p2)]) rfl fun h => ?_
  unfold f9_takes
  show PW UM ROM l R9_takes cX9_takes 3 (some .int) RX9 (qEw h) 0 [some (.ref 0), some (.int p1), some (.int p2)] [] h _
  refine p_aload_n rfl dX9_takes_0 rfl ?_
  refine p_iload_n rfl dX9_takes_1 rfl ?_
  refine p_callVr (f := f9_isTape p1) (st := []) [.int p1] qRokM (m9_isTape l p1) cal_RX9_169 uM_0 rfl rfl ⟨rfl, rfl⟩ ⟨Nat.le_of_ble_eq_true rfl, Nat.le_of_ble_eq_true rfl⟩ (Nat.le_of_ble_eq_true rfl) dX9_takes_2 rfl (fun z1 => ?_)
  refine p_jn (fun j4 => ∀ (x2 : Int32) (h3 : qH), PW UM ROM l R9_takes cX9_takes 3 (some .int) RX9 (qEw h) 32 [some (.ref 0), some (.int p1), some (.int p2)] [.int x2] h3 (j4 x2 h3)) (fun x2 h3 => ?_) (fun j4 J5 => ?_)
  · exact p_iret rfl rfl dX9_takes_32
  · refine p_if (fun c6 => ?_) (fun c6 => ?_)
    · refine p_if_eq_t (tgt := 31) dX9_takes_5 (by decide) c6 ?_
      refine p_iconst (v := (-1 : Int32)) kiconst_m1 dX9_takes_31 rfl ?_
      exact J5 (-1 : Int32) h
    · refine p_if_eq_f (tgt := 31) dX9_takes_5 (by decide) rfl c6 ?_
      refine p_iload_n rfl dX9_takes_8 rfl ?_
      refine p_iconst (v := (0 : Int32)) kiconst_0 dX9_takes_9 rfl ?_
      refine p_iconst (v := (2 : Int32)) kiconst_2 dX9_takes_10 rfl ?_
      refine p_callSr (f := f9_in p2 (0 : Int32) (2 : Int32)) (st := []) [.int p2, .int (0 : Int32), .int (2 : Int32)] qRokM (m9_in l p2 (0 : Int32) (2 : Int32)) cal_RX9_76 rfl ⟨rfl, rfl⟩ ⟨Nat.le_of_ble_eq_true rfl, Nat.le_of_ble_eq_true rfl⟩ (Nat.le_of_ble_eq_true rfl) dX9_takes_11 rfl (fun z7 => ?_)
      refine p_if (fun c8 => ?_) (fun c8 => ?_)
      · refine p_if_eq_t (tgt := 31) dX9_takes_14 (by decide) c8 ?_
        refine p_iconst (v := (-1 : Int32)) kiconst_m1 dX9_takes_31 rfl ?_
        exact J5 (-1 : Int32) h
      · refine p_if_eq_f (tgt := 31) dX9_takes_14 (by decide) rfl c8 ?_
        refine p_aload_n rfl dX9_takes_17 rfl ?_
        refine p_iload_n rfl dX9_takes_18 rfl ?_
        refine p_iload_n rfl dX9_takes_19 rfl ?_
        refine p_aload_n rfl dX9_takes_20 rfl ?_
        refine p_iload_n rfl dX9_takes_21 rfl ?_
        refine p_callVr (f := f9_headOf p1) (st := [.int p2, .int p1, .ref 0]) [.int p1] qRokM (m9_headOf l p1) cal_RX9_243 uM_0 rfl rfl ⟨rfl, rfl⟩ ⟨Nat.le_of_ble_eq_true rfl, Nat.le_of_ble_eq_true rfl⟩ (Nat.le_of_ble_eq_true rfl) dX9_takes_22 rfl (fun z9 => ?_)
        refine p_cVw (f := f9_laysOrder p1 p2 z9) (st := []) [.int p1, .int p2, .int z9] qRokM (m9_laysOrder l p1 p2 z9) cal_RX9_246 uM_0 rfl rfl ⟨rfl, rfl⟩ ⟨Nat.le_of_ble_eq_true rfl, Nat.le_of_ble_eq_true rfl⟩ (Nat.le_of_ble_eq_true rfl) dX9_takes_25 rfl (fun z10 h11 => ?_)
        refine p_goto (tgt := 32) dX9_takes_28 (by decide) ?_
        exact J5 z10 h11
noncomputable def f9_seekTo (p1 : Int32) (p2 : Int32) (h : qH) : Option (Int32) :=
  qg (qin ((72 : Int32) + p2) 353) <|
  (f9_seekOf p1 (h.1 9 (ix ((72 : Int32) + p2))) h).bind fun (z1 : Int32) =>
  qg (qin ((96 : Int32) + p2) 353) <|
  some (z1 + (h.1 9 (ix ((96 : Int32) + p2))))
set_option maxRecDepth 100000 in
set_option maxHeartbeats 4000000 in
theorem m9_seekTo (l : Launch) (p1 : Int32) (p2 : Int32) : qMet UM ROM l yX9_seekTo (qws yX9_seekTo cX9_seekTo 3 (some .int)) R9_seekTo [.ref 0, .int p1, .int p2] (f9_seekTo p1 p2) qEr := by
  refine q_met (own := RX9) 0 (by decide) rfl (Nat.le_of_ble_eq_true rfl) (ls := [some (.ref 0), some (.int p1), some (.int p2)]) rfl fun h => ?_
  unfold f9_seekTo
  refine p_aload_n rfl dX9_seekTo_0 rfl ?_
  refine p_iload_n rfl dX9_seekTo_1 rfl ?_
  refine p_aload_n rfl dX9_seekTo_2 rfl ?_
  refine p_getr qg_RX9_34 uM_0 rfl dX9_seekTo_3 rfl ?_
  refine p_bipush (v := (72 : Int32)) kbipush_72 dX9_seekTo_6 rfl ?_
  refine p_iload_n rfl dX9_seekTo_8 rfl ?_
  refine p_iadd dX9_seekTo_9 rfl ?_
  refine p_iald uM_9 dX9_seekTo_10 rfl (fun _ => ?_)
  refine p_callVr (f := f9_seekOf p1 (h.1 9 (ix ((72 : Int32) + p2)))) (st := []) [.int p1, .int (h.1 9 (ix ((72 : Int32) + p2)))] qRokM (m9_seekOf l p1 (h.1 9 (ix ((72 : Int32) + p2)))) cal_RX9_200 uM_0 rfl rfl ⟨rfl, rfl⟩ ⟨Nat.le_of_ble_eq_true rfl, Nat.le_of_ble_eq_true rfl⟩ (Nat.le_of_ble_eq_true rfl) dX9_seekTo_11 rfl (fun z1 => ?_)
  refine p_aload_n rfl dX9_seekTo_14 rfl ?_
  refine p_getr qg_RX9_34 uM_0 rfl dX9_seekTo_15 rfl ?_
  refine p_bipush (v := (96 : Int32)) kbipush_96 dX9_seekTo_18 rfl ?_
  refine p_iload_n rfl dX9_seekTo_20 rfl ?_
  refine p_iadd dX9_seekTo_21 rfl ?_
  refine p_iald uM_9 dX9_seekTo_22 rfl (fun _ => ?_)
  refine p_iadd dX9_seekTo_23 rfl ?_
  exact p_iret rfl rfl dX9_seekTo_24
noncomputable def f9_lastBlock (p1 : Int32) (h : qH) : Option (Int32) :=
  qg (qin ((72 : Int32) + p1) 353) <|
  qg (qin ((96 : Int32) + p1) 353) <|
  some (((h.1 9 (ix ((72 : Int32) + p1))) + (h.1 9 (ix ((96 : Int32) + p1)))) - (1 : Int32))
set_option maxRecDepth 100000 in
set_option maxHeartbeats 4000000 in
theorem m9_lastBlock (l : Launch) (p1 : Int32) : qMet UM ROM l yX9_lastBlock (qws yX9_lastBlock cX9_lastBlock 2 (some .int)) R9_lastBlock [.ref 0, .int p1] (f9_lastBlock p1) qEr := by
  refine q_met (own := RX9) 0 (by decide) rfl (Nat.le_of_ble_eq_true rfl) (ls := [some (.ref 0), some (.int p1)]) rfl fun h => ?_
  unfold f9_lastBlock
  refine p_aload_n rfl dX9_lastBlock_0 rfl ?_
  refine p_getr qg_RX9_34 uM_0 rfl dX9_lastBlock_1 rfl ?_
  refine p_bipush (v := (72 : Int32)) kbipush_72 dX9_lastBlock_4 rfl ?_
  refine p_iload_n rfl dX9_lastBlock_6 rfl ?_
  refine p_iadd dX9_lastBlock_7 rfl ?_
  refine p_iald uM_9 dX9_lastBlock_8 rfl (fun _ => ?_)
  refine p_aload_n rfl dX9_lastBlock_9 rfl ?_
  refine p_getr qg_RX9_34 uM_0 rfl dX9_lastBlock_10 rfl ?_
  refine p_bipush (v := (96 : Int32)) kbipush_96 dX9_lastBlock_13 rfl ?_
  refine p_iload_n rfl dX9_lastBlock_15 rfl ?_
  refine p_iadd dX9_lastBlock_16 rfl ?_
  refine p_iald uM_9 dX9_lastBlock_17 rfl (fun _ => ?_)
  refine p_iadd dX9_lastBlock_18 rfl ?_
  refine p_iconst (v := (1 : Int32)) kiconst_1 dX9_lastBlock_19 rfl ?_
  refine p_isub dX9_lastBlock_20 rfl ?_
  exact p_iret rfl rfl dX9_lastBlock_21
