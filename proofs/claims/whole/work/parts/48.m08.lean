noncomputable def f9_hand (p1 : Int32) (p2 : Int32) (p3 : Int32) (h : qH) : Option (Int32 × qH) :=
  (f9_whyNot p1 p2 p3 h).bind fun (z1 : Int32) =>
  if z1 = (-1 : Int32) then (
    qb2 (f9_act p1 p2 p3 h) fun (z3 : Int32) (h4 : qH) =>
    some (z3, h4))
  else (
    qg (qin z1 4) <|
    qg (qin z1 4) <|
    qlt (qw h 10 (ix z1) ((h.1 10 (ix z1)) + (1 : Int32))) fun (h5 : qH) =>
    some ((-1 : Int32), h5))
set_option maxRecDepth 100000 in
set_option maxHeartbeats 4000000 in
theorem m9_hand (l : Launch) (p1 : Int32) (p2 : Int32) (p3 : Int32) : qMet UM ROM l yX9_hand (qws yX9_hand cX9_hand 5 (some .int)) R9_hand [.ref 0, .int p1, .int p2, .int p3] (f9_hand p1 p2 p3) qEw := by
  refine q_met (own := RX9) 1 (by decide) rfl (Nat.le_of_ble_eq_true rfl) (ls := [some (.ref 0), some (.int p1), some (.int p2), some (.int p3), none]) rfl fun h => ?_
  unfold f9_hand
  show PW UM ROM l R9_hand cX9_hand 5 (some .int) RX9 (qEw h) 0 [some (.ref 0), some (.int p1), some (.int p2), some (.int p3), none] [] h _
  refine p_aload_n rfl dX9_hand_0 rfl ?_
  refine p_iload_n rfl dX9_hand_1 rfl ?_
  refine p_iload_n rfl dX9_hand_2 rfl ?_
  refine p_iload_n rfl dX9_hand_3 rfl ?_
  refine p_callVr (f := f9_whyNot p1 p2 p3) (st := []) [.int p1, .int p2, .int p3] qRokM (m9_whyNot l p1 p2 p3) cal_RX9_337 uM_0 rfl rfl ⟨rfl, rfl⟩ ⟨Nat.le_of_ble_eq_true rfl, Nat.le_of_ble_eq_true rfl⟩ (Nat.le_of_ble_eq_true rfl) dX9_hand_4 rfl (fun z1 => ?_)
  refine p_is (ls' := [some (.ref 0), some (.int p1), some (.int p2), some (.int p3), some (.int z1)]) dX9_hand_7 rfl rfl rfl rfl ?_
  refine p_iload rfl dX9_hand_9 rfl ?_
  refine p_iconst (v := (-1 : Int32)) kiconst_m1 dX9_hand_11 rfl ?_
  refine p_if (fun c2 => ?_) (fun c2 => ?_)
  · refine p_icmp_eq_t (tgt := 28) dX9_hand_12 (by decide) c2 ?_
    refine p_aload_n rfl dX9_hand_28 rfl ?_
    refine p_iload_n rfl dX9_hand_29 rfl ?_
    refine p_iload_n rfl dX9_hand_30 rfl ?_
    refine p_iload_n rfl dX9_hand_31 rfl ?_
    refine p_cVw (f := f9_act p1 p2 p3) (st := []) [.int p1, .int p2, .int p3] qRokM (m9_act l p1 p2 p3) cal_RX9_340 uM_0 rfl rfl ⟨rfl, rfl⟩ ⟨Nat.le_of_ble_eq_true rfl, Nat.le_of_ble_eq_true rfl⟩ (Nat.le_of_ble_eq_true rfl) dX9_hand_32 rfl (fun z3 h4 => ?_)
    exact p_iret rfl rfl dX9_hand_35
  · refine p_icmp_eq_f (tgt := 28) dX9_hand_12 (by decide) rfl c2 ?_
    refine p_aload_n rfl dX9_hand_15 rfl ?_
    refine p_getr qg_RX9_37 uM_0 rfl dX9_hand_16 rfl ?_
    refine p_iload rfl dX9_hand_19 rfl ?_
    refine p_dup2 rfl rfl dX9_hand_21 rfl ?_
    refine p_iald uM_10 dX9_hand_22 rfl (fun _ => ?_)
    refine p_iconst (v := (1 : Int32)) kiconst_1 dX9_hand_23 rfl ?_
    refine p_iadd dX9_hand_24 rfl ?_
    refine p_iast qokM uM_10 dX9_hand_25 rfl (fun _ => ?_)
    refine p_nmH (fun h5 => ?_)
    refine p_iconst (v := (-1 : Int32)) kiconst_m1 dX9_hand_26 rfl ?_
    exact p_iret rfl rfl dX9_hand_27
noncomputable def f9_ask (p1 : Int32) (h : qH) : Option (Int32 × qH) :=
  qb2 (f9_hand (0 : Int32) p1 (0 : Int32) h) fun (z1 : Int32) (h2 : qH) =>
  some (z1, h2)
set_option maxRecDepth 100000 in
set_option maxHeartbeats 4000000 in
theorem m9_ask (l : Launch) (p1 : Int32) : qMet UM ROM l yX9_ask (qws yX9_ask cX9_ask 2 (some .int)) R9_ask [.ref 0, .int p1] (f9_ask p1) qEw := by
  refine q_met (own := RX9) 0 (by decide) rfl (Nat.le_of_ble_eq_true rfl) (ls := [some (.ref 0), some (.int p1)]) rfl fun h => ?_
  unfold f9_ask
  show PW UM ROM l R9_ask cX9_ask 2 (some .int) RX9 (qEw h) 0 [some (.ref 0), some (.int p1)] [] h _
  refine p_aload_n rfl dX9_ask_0 rfl ?_
  refine p_iconst (v := (0 : Int32)) kiconst_0 dX9_ask_1 rfl ?_
  refine p_iload_n rfl dX9_ask_2 rfl ?_
  refine p_iconst (v := (0 : Int32)) kiconst_0 dX9_ask_3 rfl ?_
  refine p_cVw (f := f9_hand (0 : Int32) p1 (0 : Int32)) (st := []) [.int (0 : Int32), .int p1, .int (0 : Int32)] qRokM (m9_hand l (0 : Int32) p1 (0 : Int32)) cal_RX9_343 uM_0 rfl rfl ⟨rfl, rfl⟩ ⟨Nat.le_of_ble_eq_true rfl, Nat.le_of_ble_eq_true rfl⟩ (Nat.le_of_ble_eq_true rfl) dX9_ask_4 rfl (fun z1 h2 => ?_)
  exact p_iret rfl rfl dX9_ask_7
noncomputable def f9_serve (h : qH) : Option (Int32 × qH) :=
  qb2 (f9_hand (1 : Int32) (0 : Int32) (0 : Int32) h) fun (z1 : Int32) (h2 : qH) =>
  some (z1, h2)
set_option maxRecDepth 100000 in
set_option maxHeartbeats 4000000 in
theorem m9_serve (l : Launch) : qMet UM ROM l yX9_serve (qws yX9_serve cX9_serve 1 (some .int)) R9_serve [.ref 0] f9_serve qEw := by
  refine q_met (own := RX9) 0 (by decide) rfl (Nat.le_of_ble_eq_true rfl) (ls := [some (.ref 0)]) rfl fun h => ?_
  unfold f9_serve
  show PW UM ROM l R9_serve cX9_serve 1 (some .int) RX9 (qEw h) 0 [some (.ref 0)] [] h _
  refine p_aload_n rfl dX9_serve_0 rfl ?_
  refine p_iconst (v := (1 : Int32)) kiconst_1 dX9_serve_1 rfl ?_
  refine p_iconst (v := (0 : Int32)) kiconst_0 dX9_serve_2 rfl ?_
  refine p_iconst (v := (0 : Int32)) kiconst_0 dX9_serve_3 rfl ?_
  refine p_cVw (f := f9_hand (1 : Int32) (0 : Int32) (0 : Int32)) (st := []) [.int (1 : Int32), .int (0 : Int32), .int (0 : Int32)] qRokM (m9_hand l (1 : Int32) (0 : Int32) (0 : Int32)) cal_RX9_343 uM_0 rfl rfl ⟨rfl, rfl⟩ ⟨Nat.le_of_ble_eq_true rfl, Nat.le_of_ble_eq_true rfl⟩ (Nat.le_of_ble_eq_true rfl) dX9_serve_4 rfl (fun z1 h2 => ?_)
  exact p_iret rfl rfl dX9_serve_7
noncomputable def f9_write (p1 : Int32) (p2 : Int32) (h : qH) : Option (Int32 × qH) :=
  qb2 (f9_hand (2 : Int32) p1 p2 h) fun (z1 : Int32) (h2 : qH) =>
  some (z1, h2)
set_option maxRecDepth 100000 in
set_option maxHeartbeats 4000000 in
theorem m9_write (l : Launch) (p1 : Int32) (p2 : Int32) : qMet UM ROM l yX9_write (qws yX9_write cX9_write 3 (some .int)) R9_write [.ref 0, .int p1, .int p2] (f9_write p1 p2) qEw := by
  refine q_met (own := RX9) 0 (by decide) rfl (Nat.le_of_ble_eq_true rfl) (ls := [some (.ref 0), some (.int p1), some (.int p2)]) rfl fun h => ?_
  unfold f9_write
  show PW UM ROM l R9_write cX9_write 3 (some .int) RX9 (qEw h) 0 [some (.ref 0), some (.int p1), some (.int p2)] [] h _
  refine p_aload_n rfl dX9_write_0 rfl ?_
  refine p_iconst (v := (2 : Int32)) kiconst_2 dX9_write_1 rfl ?_
  refine p_iload_n rfl dX9_write_2 rfl ?_
  refine p_iload_n rfl dX9_write_3 rfl ?_
  refine p_cVw (f := f9_hand (2 : Int32) p1 p2) (st := []) [.int (2 : Int32), .int p1, .int p2] qRokM (m9_hand l (2 : Int32) p1 p2) cal_RX9_343 uM_0 rfl rfl ⟨rfl, rfl⟩ ⟨Nat.le_of_ble_eq_true rfl, Nat.le_of_ble_eq_true rfl⟩ (Nat.le_of_ble_eq_true rfl) dX9_write_4 rfl (fun z1 h2 => ?_)
  exact p_iret rfl rfl dX9_write_7
noncomputable def f9_drop (p1 : Int32) (h : qH) : Option (Int32 × qH) :=
  qb2 (f9_hand (3 : Int32) p1 (0 : Int32) h) fun (z1 : Int32) (h2 : qH) =>
  some (z1, h2)
set_option maxRecDepth 100000 in
set_option maxHeartbeats 4000000 in
theorem m9_drop (l : Launch) (p1 : Int32) : qMet UM ROM l yX9_drop (qws yX9_drop cX9_drop 2 (some .int)) R9_drop [.ref 0, .int p1] (f9_drop p1) qEw := by
  refine q_met (own := RX9) 0 (by decide) rfl (Nat.le_of_ble_eq_true rfl) (ls := [some (.ref 0), some (.int p1)]) rfl fun h => ?_
  unfold f9_drop
  show PW UM ROM l R9_drop cX9_drop 2 (some .int) RX9 (qEw h) 0 [some (.ref 0), some (.int p1)] [] h _
  refine p_aload_n rfl dX9_drop_0 rfl ?_
  refine p_iconst (v := (3 : Int32)) kiconst_3 dX9_drop_1 rfl ?_
  refine p_iload_n rfl dX9_drop_2 rfl ?_
  refine p_iconst (v := (0 : Int32)) kiconst_0 dX9_drop_3 rfl ?_
  refine p_cVw (f := f9_hand (3 : Int32) p1 (0 : Int32)) (st := []) [.int (3 : Int32), .int p1, .int (0 : Int32)] qRokM (m9_hand l (3 : Int32) p1 (0 : Int32)) cal_RX9_343 uM_0 rfl rfl ⟨rfl, rfl⟩ ⟨Nat.le_of_ble_eq_true rfl, Nat.le_of_ble_eq_true rfl⟩ (Nat.le_of_ble_eq_true rfl) dX9_drop_4 rfl (fun z1 h2 => ?_)
  exact p_iret rfl rfl dX9_drop_7
noncomputable def f9_mount (p1 : Int32) (h : qH) : Option (Int32 × qH) :=
  qb2 (f9_hand (4 : Int32) p1 (0 : Int32) h) fun (z1 : Int32) (h2 : qH) =>
  some (z1, h2)
set_option maxRecDepth 100000 in
set_option maxHeartbeats 4000000 in
theorem m9_mount (l : Launch) (p1 : Int32) : qMet UM ROM l yX9_mount (qws yX9_mount cX9_mount 2 (some .int)) R9_mount [.ref 0, .int p1] (f9_mount p1) qEw := by
  refine q_met (own := RX9) 0 (by decide) rfl (Nat.le_of_ble_eq_true rfl) (ls := [some (.ref 0), some (.int p1)]) rfl fun h => ?_
  unfold f9_mount
  show PW UM ROM l R9_mount cX9_mount 2 (some .int) RX9 (qEw h) 0 [some (.ref 0), some (.int p1)] [] h _
  refine p_aload_n rfl dX9_mount_0 rfl ?_
  refine p_iconst (v := (4 : Int32)) kiconst_4 dX9_mount_1 rfl ?_
  refine p_iload_n rfl dX9_mount_2 rfl ?_
  refine p_iconst (v := (0 : Int32)) kiconst_0 dX9_mount_3 rfl ?_
  refine p_cVw (f := f9_hand (4 : Int32) p1 (0 : Int32)) (st := []) [.int (4 : Int32), .int p1, .int (0 : Int32)] qRokM (m9_hand l (4 : Int32) p1 (0 : Int32)) cal_RX9_343 uM_0 rfl rfl ⟨rfl, rfl⟩ ⟨Nat.le_of_ble_eq_true rfl, Nat.le_of_ble_eq_true rfl⟩ (Nat.le_of_ble_eq_true rfl) dX9_mount_4 rfl (fun z1 h2 => ?_)
  exact p_iret rfl rfl dX9_mount_7
noncomputable def f9_unmount (p1 : Int32) (h : qH) : Option (Int32 × qH) :=
  qb2 (f9_hand (5 : Int32) p1 (0 : Int32) h) fun (z1 : Int32) (h2 : qH) =>
  some (z1, h2)
set_option maxRecDepth 100000 in
set_option maxHeartbeats 4000000 in
theorem m9_unmount (l : Launch) (p1 : Int32) : qMet UM ROM l yX9_unmount (qws yX9_unmount cX9_unmount 2 (some .int)) R9_unmount [.ref 0, .int p1] (f9_unmount p1) qEw := by
  refine q_met (own := RX9) 0 (by decide) rfl (Nat.le_of_ble_eq_true rfl) (ls := [some (.ref 0), some (.int p1)]) rfl fun h => ?_
  unfold f9_unmount
  show PW UM ROM l R9_unmount cX9_unmount 2 (some .int) RX9 (qEw h) 0 [some (.ref 0), some (.int p1)] [] h _
  refine p_aload_n rfl dX9_unmount_0 rfl ?_
  refine p_iconst (v := (5 : Int32)) kiconst_5 dX9_unmount_1 rfl ?_
  refine p_iload_n rfl dX9_unmount_2 rfl ?_
  refine p_iconst (v := (0 : Int32)) kiconst_0 dX9_unmount_3 rfl ?_
  refine p_cVw (f := f9_hand (5 : Int32) p1 (0 : Int32)) (st := []) [.int (5 : Int32), .int p1, .int (0 : Int32)] qRokM (m9_hand l (5 : Int32) p1 (0 : Int32)) cal_RX9_343 uM_0 rfl rfl ⟨rfl, rfl⟩ ⟨Nat.le_of_ble_eq_true rfl, Nat.le_of_ble_eq_true rfl⟩ (Nat.le_of_ble_eq_true rfl) dX9_unmount_4 rfl (fun z1 h2 => ?_)
  exact p_iret rfl rfl dX9_unmount_7
noncomputable def f9_copy (p1 : Int32) (p2 : Int32) (h : qH) : Option (Int32 × qH) :=
  qb2 (f9_hand (6 : Int32) p1 p2 h) fun (z1 : Int32) (h2 : qH) =>
  some (z1, h2)
set_option maxRecDepth 100000 in
set_option maxHeartbeats 4000000 in
theorem m9_copy (l : Launch) (p1 : Int32) (p2 : Int32) : qMet UM ROM l yX9_copy (qws yX9_copy cX9_copy 3 (some .int)) R9_copy [.ref 0, .int p1, .int p2] (f9_copy p1 p2) qEw := by
  refine q_met (own := RX9) 0 (by decide) rfl (Nat.le_of_ble_eq_true rfl) (ls := [some (.ref 0), some (.int p1), some (.int p2)]) rfl fun h => ?_
  unfold f9_copy
  show PW UM ROM l R9_copy cX9_copy 3 (some .int) RX9 (qEw h) 0 [some (.ref 0), some (.int p1), some (.int p2)] [] h _
  refine p_aload_n rfl dX9_copy_0 rfl ?_
  refine p_bipush (v := (6 : Int32)) kbipush_6 dX9_copy_1 rfl ?_
  refine p_iload_n rfl dX9_copy_3 rfl ?_
  refine p_iload_n rfl dX9_copy_4 rfl ?_
  refine p_cVw (f := f9_hand (6 : Int32) p1 p2) (st := []) [.int (6 : Int32), .int p1, .int p2] qRokM (m9_hand l (6 : Int32) p1 p2) cal_RX9_343 uM_0 rfl rfl ⟨rfl, rfl⟩ ⟨Nat.le_of_ble_eq_true rfl, Nat.le_of_ble_eq_true rfl⟩ (Nat.le_of_ble_eq_true rfl) dX9_copy_5 rfl (fun z1 h2 => ?_)
  exact p_iret rfl rfl dX9_copy_8
noncomputable def f9_lose (h : qH) : Option (Int32 × qH) :=
  qb2 (f9_hand (7 : Int32) (0 : Int32) (0 : Int32) h) fun (z1 : Int32) (h2 : qH) =>
  some (z1, h2)
set_option maxRecDepth 100000 in
set_option maxHeartbeats 4000000 in
theorem m9_lose (l : Launch) : qMet UM ROM l yX9_lose (qws yX9_lose cX9_lose 1 (some .int)) R9_lose [.ref 0] f9_lose qEw := by
  refine q_met (own := RX9) 0 (by decide) rfl (Nat.le_of_ble_eq_true rfl) (ls := [some (.ref 0)]) rfl fun h => ?_
  unfold f9_lose
  show PW UM ROM l R9_lose cX9_lose 1 (some .int) RX9 (qEw h) 0 [some (.ref 0)] [] h _
  refine p_aload_n rfl dX9_lose_0 rfl ?_
  refine p_bipush (v := (7 : Int32)) kbipush_7 dX9_lose_1 rfl ?_
  refine p_iconst (v := (0 : Int32)) kiconst_0 dX9_lose_3 rfl ?_
  refine p_iconst (v := (0 : Int32)) kiconst_0 dX9_lose_4 rfl ?_
  refine p_cVw (f := f9_hand (7 : Int32) (0 : Int32) (0 : Int32)) (st := []) [.int (7 : Int32), .int (0 : Int32), .int (0 : Int32)] qRokM (m9_hand l (7 : Int32) (0 : Int32) (0 : Int32)) cal_RX9_343 uM_0 rfl rfl ⟨rfl, rfl⟩ ⟨Nat.le_of_ble_eq_true rfl, Nat.le_of_ble_eq_true rfl⟩ (Nat.le_of_ble_eq_true rfl) dX9_lose_5 rfl (fun z1 h2 => ?_)
  exact p_iret rfl rfl dX9_lose_8
noncomputable def f9_scan (p1 : Int32) (h : qH) : Option (Int32 × qH) :=
  qb2 (f9_hand (8 : Int32) p1 (0 : Int32) h) fun (z1 : Int32) (h2 : qH) =>
  some (z1, h2)
set_option maxRecDepth 100000 in
set_option maxHeartbeats 4000000 in
theorem m9_scan (l : Launch) (p1 : Int32) : qMet UM ROM l yX9_scan (qws yX9_scan cX9_scan 2 (some .int)) R9_scan [.ref 0, .int p1] (f9_scan p1) qEw := by
  refine q_met (own := RX9) 0 (by decide) rfl (Nat.le_of_ble_eq_true rfl) (ls := [some (.ref 0), some (.int p1)]) rfl fun h => ?_
  unfold f9_scan
  show PW UM ROM l R9_scan cX9_scan 2 (some .int) RX9 (qEw h) 0 [some (.ref 0), some (.int p1)] [] h _
  refine p_aload_n rfl dX9_scan_0 rfl ?_
  refine p_bipush (v := (8 : Int32)) kbipush_8 dX9_scan_1 rfl ?_
  refine p_iload_n rfl dX9_scan_3 rfl ?_
  refine p_iconst (v := (0 : Int32)) kiconst_0 dX9_scan_4 rfl ?_
  refine p_cVw (f := f9_hand (8 : Int32) p1 (0 : Int32)) (st := []) [.int (8 : Int32), .int p1, .int (0 : Int32)] qRokM (m9_hand l (8 : Int32) p1 (0 : Int32)) cal_RX9_343 uM_0 rfl rfl ⟨rfl, rfl⟩ ⟨Nat.le_of_ble_eq_true rfl, Nat.le_of_ble_eq_true rfl⟩ (Nat.le_of_ble_eq_true rfl) dX9_scan_5 rfl (fun z1 h2 => ?_)
  exact p_iret rfl rfl dX9_scan_8
noncomputable def f9_pause (p1 : Int32) (h : qH) : Option (Int32 × qH) :=
  qb2 (f9_hand (9 : Int32) p1 (0 : Int32) h) fun (z1 : Int32) (h2 : qH) =>
  some (z1, h2)
set_option maxRecDepth 100000 in
set_option maxHeartbeats 4000000 in
theorem m9_pause (l : Launch) (p1 : Int32) : qMet UM ROM l yX9_pause (qws yX9_pause cX9_pause 2 (some .int)) R9_pause [.ref 0, .int p1] (f9_pause p1) qEw := by
  refine q_met (own := RX9) 0 (by decide) rfl (Nat.le_of_ble_eq_true rfl) (ls := [some (.ref 0), some (.int p1)]) rfl fun h => ?_
  unfold f9_pause
  show PW UM ROM l R9_pause cX9_pause 2 (some .int) RX9 (qEw h) 0 [some (.ref 0), some (.int p1)] [] h _
  refine p_aload_n rfl dX9_pause_0 rfl ?_
  refine p_bipush (v := (9 : Int32)) kbipush_9 dX9_pause_1 rfl ?_
  refine p_iload_n rfl dX9_pause_3 rfl ?_
  refine p_iconst (v := (0 : Int32)) kiconst_0 dX9_pause_4 rfl ?_
  refine p_cVw (f := f9_hand (9 : Int32) p1 (0 : Int32)) (st := []) [.int (9 : Int32), .int p1, .int (0 : Int32)] qRokM (m9_hand l (9 : Int32) p1 (0 : Int32)) cal_RX9_343 uM_0 rfl rfl ⟨rfl, rfl⟩ ⟨Nat.le_of_ble_eq_true rfl, Nat.le_of_ble_eq_true rfl⟩ (Nat.le_of_ble_eq_true rfl) dX9_pause_5 rfl (fun z1 h2 => ?_)
  exact p_iret rfl rfl dX9_pause_8
noncomputable def f9_rescue (h : qH) : Option (Int32 × qH) :=
  qb2 (f9_hand (10 : Int32) (0 : Int32) (0 : Int32) h) fun (z1 : Int32) (h2 : qH) =>
  some (z1, h2)
set_option maxRecDepth 100000 in
set_option maxHeartbeats 4000000 in
theorem m9_rescue (l : Launch) : qMet UM ROM l yX9_rescue (qws yX9_rescue cX9_rescue 1 (some .int)) R9_rescue [.ref 0] f9_rescue qEw := by
  refine q_met (own := RX9) 0 (by decide) rfl (Nat.le_of_ble_eq_true rfl) (ls := [some (.ref 0)]) rfl fun h => ?_
  unfold f9_rescue
  show PW UM ROM l R9_rescue cX9_rescue 1 (some .int) RX9 (qEw h) 0 [some (.ref 0)] [] h _
  refine p_aload_n rfl dX9_rescue_0 rfl ?_
  refine p_bipush (v := (10 : Int32)) kbipush_10 dX9_rescue_1 rfl ?_
  refine p_iconst (v := (0 : Int32)) kiconst_0 dX9_rescue_3 rfl ?_
  refine p_iconst (v := (0 : Int32)) kiconst_0 dX9_rescue_4 rfl ?_
  refine p_cVw (f := f9_hand (10 : Int32) (0 : Int32) (0 : Int32)) (st := []) [.int (10 : Int32), .int (0 : Int32), .int (0 : Int32)] qRokM (m9_hand l (10 : Int32) (0 : Int32) (0 : Int32)) cal_RX9_343 uM_0 rfl rfl ⟨rfl, rfl⟩ ⟨Nat.le_of_ble_eq_true rfl, Nat.le_of_ble_eq_true rfl⟩ (Nat.le_of_ble_eq_true rfl) dX9_rescue_5 rfl (fun z1 h2 => ?_)
  exact p_iret rfl rfl dX9_rescue_8
noncomputable def f9_draw (p1 : Int32) (h : qH) : Option (Int32 × qH) :=
  qlt (qlg h 0 (((h.2 0) * (6364136223846793005 : Int64)) + (1442695040888963407 : Int64))) fun (h1 : qH) =>
  qg (decide (¬ p1.toInt64 = 0)) <|
  some (((((h1.2 0).toUInt64 >>> ((33 : Int32).toInt64.toUInt64 &&& Int64.toUInt64 63)).toInt64) - (((h1.2 0).toUInt64 >>> ((33 : Int32).toInt64.toUInt64 &&& Int64.toUInt64 63)).toInt64) / p1.toInt64 * p1.toInt64).toInt32, h1)
set_option maxRecDepth 100000 in
set_option maxHeartbeats 4000000 in
theorem m9_draw (l : Launch) (p1 : Int32) : qMet UM ROM l yX9_draw (qws yX9_draw cX9_draw 2 (some .int)) R9_draw [.ref 0, .int p1] (f9_draw p1) qEw := by
  refine q_met (own := RX9) 0 (by decide) rfl (Nat.le_of_ble_eq_true rfl) (ls := [some (.ref 0), some (.int p1)]) rfl fun h => ?_
  unfold f9_draw
  show PW UM ROM l R9_draw cX9_draw 2 (some .int) RX9 (qEw h) 0 [some (.ref 0), some (.int p1)] [] h _
  refine p_aload_n rfl dX9_draw_0 rfl ?_
  refine p_aload_n rfl dX9_draw_1 rfl ?_
  refine p_getl qg_RX9_346 uM_0 rfl dX9_draw_2 rfl ?_
  refine p_ldc2 (v := (6364136223846793005 : Int64)) klRX9_350 dX9_draw_5 rfl ?_
  refine p_lmul dX9_draw_8 rfl ?_
  refine p_ldc2 (v := (1442695040888963407 : Int64)) klRX9_352 dX9_draw_9 rfl ?_
  refine p_ladd dX9_draw_12 rfl ?_
  refine p_putl qp_RX9_346 uM_0 rfl qlong_RX9 dX9_draw_13 rfl ?_
  refine p_nmH (fun h1 => ?_)
  refine p_aload_n rfl dX9_draw_16 rfl ?_
  refine p_getl qg_RX9_346 uM_0 rfl dX9_draw_17 rfl ?_
  refine p_bipush (v := (33 : Int32)) kbipush_33 dX9_draw_20 rfl ?_
  refine p_lushr dX9_draw_22 rfl ?_
  refine p_iload_n rfl dX9_draw_23 rfl ?_
  refine p_i2l dX9_draw_24 rfl ?_
  refine p_lrem dX9_draw_25 rfl (fun _ => ?_)
  refine p_l2i dX9_draw_26 rfl ?_
  exact p_iret rfl rfl dX9_draw_27
noncomputable def f9_tryOne (p1 : Int32) (p2 : Int32) (p3 : Int32) (h : qH) : Option (qH) :=
  (f9_whyNot p1 p2 p3 h).bind fun (z1 : Int32) =>
  qj (fun (h2 : qH) =>
    some h2) fun j3 =>
  if z1 = (-1 : Int32) then (
    qb2 (f9_act p1 p2 p3 h) fun (z6 : Int32) (h7 : qH) =>
    j3 h7)
  else (
    j3 h)
set_option maxRecDepth 100000 in
set_option maxHeartbeats 4000000 in
theorem m9_tryOne (l : Launch) (p1 : Int32) (p2 : Int32) (p3 : Int32) : qMet UM ROM l yX9_tryOne (qws yX9_tryOne cX9_tryOne 4 none) R9_tryOne [.ref 0, .int p1, .int p2, .int p3] (f9_tryOne p1 p2 p3) qEv := by
  refine q_met (own := RX9) 0 (by decide) rfl (Nat.le_of_ble_eq_true rfl) (ls := [some (.ref 0), some (.int p1), some (.int p2), some (.int p3)]) rfl fun h => ?_
  unfold f9_tryOne
  show PW UM ROM l R9_tryOne cX9_tryOne 4 none RX9 (qEv h) 0 [some (.ref 0), some (.int p1), some (.int p2), some (.int p3)] [] h _
  refine p_aload_n rfl dX9_tryOne_0 rfl ?_
  refine p_iload_n rfl dX9_tryOne_1 rfl ?_
  refine p_iload_n rfl dX9_tryOne_2 rfl ?_
  refine p_iload_n rfl dX9_tryOne_3 rfl ?_
  refine p_callVr (f := f9_whyNot p1 p2 p3) (st := []) [.int p1, .int p2, .int p3] qRokM (m9_whyNot l p1 p2 p3) cal_RX9_337 uM_0 rfl rfl ⟨rfl, rfl⟩ ⟨Nat.le_of_ble_eq_true rfl, Nat.le_of_ble_eq_true rfl⟩ (Nat.le_of_ble_eq_true rfl) dX9_tryOne_4 rfl (fun z1 => ?_)
  refine p_iconst (v := (-1 : Int32)) kiconst_m1 dX9_tryOne_7 rfl ?_
  refine p_jn (fun j3 => ∀ (h2 : qH), PW UM ROM l R9_tryOne cX9_tryOne 4 none RX9 (qEv h) 19 [some (.ref 0), some (.int p1), some (.int p2), some (.int p3)] [] h2 (j3 h2)) (fun h2 => ?_) (fun j3 J4 => ?_)
  · exact p_vret rfl rfl dX9_tryOne_19
  · refine p_if (fun c5 => ?_) (fun c5 => ?_)
    · refine p_icmp_ne_f (tgt := 19) dX9_tryOne_8 (by decide) rfl c5 ?_
      refine p_aload_n rfl dX9_tryOne_11 rfl ?_
      refine p_iload_n rfl dX9_tryOne_12 rfl ?_
      refine p_iload_n rfl dX9_tryOne_13 rfl ?_
      refine p_iload_n rfl dX9_tryOne_14 rfl ?_
      refine p_cVw (f := f9_act p1 p2 p3) (st := []) [.int p1, .int p2, .int p3] qRokM (m9_act l p1 p2 p3) cal_RX9_340 uM_0 rfl rfl ⟨rfl, rfl⟩ ⟨Nat.le_of_ble_eq_true rfl, Nat.le_of_ble_eq_true rfl⟩ (Nat.le_of_ble_eq_true rfl) dX9_tryOne_15 rfl (fun z6 h7 => ?_)
      refine p_pop rfl dX9_tryOne_18 rfl ?_
      exact J4 h7
    · refine p_icmp_ne_t (tgt := 19) dX9_tryOne_8 (by decide) c5 ?_
      exact J4 h
noncomputable def f9_drawYear (h : qH) : Option (qH) :=
  qb2 (f9_draw (8 : Int32) h) fun (z1 : Int32) (h2 : qH) =>
  qj (fun (h3 : qH) =>
    some h3) fun j4 =>
  if (3 : Int32) ≤ z1 then (
    if (5 : Int32) ≤ z1 then (
      if z1 = (5 : Int32) then (
        qb2 (f9_draw (h2.1 0 12) h2) fun (z9 : Int32) (h10 : qH) =>
        qb2 (f9_draw (9 : Int32) h10) fun (z11 : Int32) (h12 : qH) =>
        (f9_tryOne (2 : Int32) z9 (z11 + (1 : Int32)) h12).bind fun (h13 : qH) =>
        j4 h13)
      else (
        if z1 = (6 : Int32) then (
          qb2 (f9_draw (24 : Int32) h2) fun (z15 : Int32) (h16 : qH) =>
          (f9_tryOne (3 : Int32) z15 (0 : Int32) h16).bind fun (h17 : qH) =>
          j4 h17)
        else (
          qb2 (f9_draw (h2.1 0 12) h2) fun (z18 : Int32) (h19 : qH) =>
          (f9_targetOf z18 h19).bind fun (z20 : Int32) =>
          (f9_tryOne (6 : Int32) z18 z20 h19).bind fun (h21 : qH) =>
          j4 h21)))
    else (
      (f9_tryOne (1 : Int32) (0 : Int32) (0 : Int32) h2).bind fun (h22 : qH) =>
      j4 h22))
  else (
    qb2 (f9_draw (24 : Int32) h2) fun (z23 : Int32) (h24 : qH) =>
    (f9_tryOne (0 : Int32) z23 (0 : Int32) h24).bind fun (h25 : qH) =>
    j4 h25)
set_option maxRecDepth 100000 in
set_option maxHeartbeats 4000000 in
theorem m9_drawYear (l : Launch) : qMet UM ROM l yX9_drawYear (qws yX9_drawYear cX9_drawYear 3 none) R9_drawYear [.ref 0] f9_drawYear qEv := by
  refine q_met (own := RX9) 2 (by decide) rfl (Nat.le_of_ble_eq_true rfl) (ls := [some (.ref 0), none, none]) rfl fun h => ?_
  unfold f9_drawYear
  show PW UM ROM l R9_drawYear cX9_drawYear 3 none RX9 (qEv h) 0 [some (.ref 0), none, none] [] h _
  refine p_aload_n rfl dX9_drawYear_0 rfl ?_
  refine p_bipush (v := (8 : Int32)) kbipush_8 dX9_drawYear_1 rfl ?_
  refine p_cVw (f := f9_draw (8 : Int32)) (st := []) [.int (8 : Int32)] qRokM (m9_draw l (8 : Int32)) cal_RX9_354 uM_0 rfl rfl ⟨rfl, rfl⟩ ⟨Nat.le_of_ble_eq_true rfl, Nat.le_of_ble_eq_true rfl⟩ (Nat.le_of_ble_eq_true rfl) dX9_drawYear_3 rfl (fun z1 h2 => ?_)
  refine p_is_n (ls' := [some (.ref 0), some (.int z1), none]) dX9_drawYear_6 rfl rfl rfl rfl ?_
  refine p_iload_n rfl dX9_drawYear_7 rfl ?_
  refine p_iconst (v := (3 : Int32)) kiconst_3 dX9_drawYear_8 rfl ?_
  refine p_jn (fun j4 => ∀ (h3 : qH), PW UM ROM l R9_drawYear cX9_drawYear 3 none RX9 (qEv h) 115 [some (.ref 0), some (.int z1), none] [] h3 (j4 h3)) (fun h3 => ?_) (fun j4 J5 => ?_)
  · exact p_vret rfl rfl dX9_drawYear_115
  · refine p_if (fun c6 => ?_) (fun c6 => ?_)
    · refine p_icmp_ge_t (tgt := 27) dX9_drawYear_9 (by decide) c6 ?_
      refine p_iload_n rfl dX9_drawYear_27 rfl ?_
      refine p_iconst (v := (5 : Int32)) kiconst_5 dX9_drawYear_28 rfl ?_
      refine p_if (fun c7 => ?_) (fun c7 => ?_)
      · refine p_icmp_ge_t (tgt := 42) dX9_drawYear_29 (by decide) c7 ?_
        refine p_iload_n rfl dX9_drawYear_42 rfl ?_
        refine p_iconst (v := (5 : Int32)) kiconst_5 dX9_drawYear_43 rfl ?_
        refine p_if (fun c8 => ?_) (fun c8 => ?_)
        · refine p_icmp_ne_f (tgt := 73) dX9_drawYear_44 (by decide) rfl c8 ?_
          refine p_aload_n rfl dX9_drawYear_47 rfl ?_
          refine p_aload_n rfl dX9_drawYear_48 rfl ?_
          refine p_geti qg_RX9_153 uM_0 rfl dX9_drawYear_49 rfl ?_
          refine p_cVw (f := f9_draw (h2.1 0 12)) (st := []) [.int (h2.1 0 12)] qRokM (m9_draw l (h2.1 0 12)) cal_RX9_354 uM_0 rfl rfl ⟨rfl, rfl⟩ ⟨Nat.le_of_ble_eq_true rfl, Nat.le_of_ble_eq_true rfl⟩ (Nat.le_of_ble_eq_true rfl) dX9_drawYear_52 rfl (fun z9 h10 => ?_)
          refine p_is_n (ls' := [some (.ref 0), some (.int z1), some (.int z9)]) dX9_drawYear_55 rfl rfl rfl rfl ?_
          refine p_aload_n rfl dX9_drawYear_56 rfl ?_
          refine p_iconst (v := (2 : Int32)) kiconst_2 dX9_drawYear_57 rfl ?_
          refine p_iload_n rfl dX9_drawYear_58 rfl ?_
          refine p_aload_n rfl dX9_drawYear_59 rfl ?_
          refine p_bipush (v := (9 : Int32)) kbipush_9 dX9_drawYear_60 rfl ?_
          refine p_cVw (f := f9_draw (9 : Int32)) (st := [.int z9, .int (2 : Int32), .ref 0]) [.int (9 : Int32)] qRokM (m9_draw l (9 : Int32)) cal_RX9_354 uM_0 rfl rfl ⟨rfl, rfl⟩ ⟨Nat.le_of_ble_eq_true rfl, Nat.le_of_ble_eq_true rfl⟩ (Nat.le_of_ble_eq_true rfl) dX9_drawYear_62 rfl (fun z11 h12 => ?_)
          refine p_iconst (v := (1 : Int32)) kiconst_1 dX9_drawYear_65 rfl ?_
          refine p_iadd dX9_drawYear_66 rfl ?_
          refine p_callVv (f := f9_tryOne (2 : Int32) z9 (z11 + (1 : Int32))) (st := []) [.int (2 : Int32), .int z9, .int (z11 + (1 : Int32))] qRokM (m9_tryOne l (2 : Int32) z9 (z11 + (1 : Int32))) cal_RX9_357 uM_0 rfl rfl ⟨rfl, rfl⟩ ⟨Nat.le_of_ble_eq_true rfl, Nat.le_of_ble_eq_true rfl⟩ (Nat.le_of_ble_eq_true rfl) dX9_drawYear_67 rfl (fun h13 => ?_)
          refine p_goto (tgt := 115) dX9_drawYear_70 (by decide) ?_
          exact p_wk (ls' := [some (.ref 0), some (.int z1), none]) ⟨rfl, rfl, trivial⟩ (J5 h13)
        · refine p_icmp_ne_t (tgt := 73) dX9_drawYear_44 (by decide) c8 ?_
          refine p_iload_n rfl dX9_drawYear_73 rfl ?_
          refine p_bipush (v := (6 : Int32)) kbipush_6 dX9_drawYear_74 rfl ?_
          refine p_if (fun c14 => ?_) (fun c14 => ?_)
          · refine p_icmp_ne_f (tgt := 94) dX9_drawYear_76 (by decide) rfl c14 ?_
            refine p_aload_n rfl dX9_drawYear_79 rfl ?_
            refine p_iconst (v := (3 : Int32)) kiconst_3 dX9_drawYear_80 rfl ?_
            refine p_aload_n rfl dX9_drawYear_81 rfl ?_
            refine p_bipush (v := (24 : Int32)) kbipush_24 dX9_drawYear_82 rfl ?_
            refine p_cVw (f := f9_draw (24 : Int32)) (st := [.int (3 : Int32), .ref 0]) [.int (24 : Int32)] qRokM (m9_draw l (24 : Int32)) cal_RX9_354 uM_0 rfl rfl ⟨rfl, rfl⟩ ⟨Nat.le_of_ble_eq_true rfl, Nat.le_of_ble_eq_true rfl⟩ (Nat.le_of_ble_eq_true rfl) dX9_drawYear_84 rfl (fun z15 h16 => ?_)
            refine p_iconst (v := (0 : Int32)) kiconst_0 dX9_drawYear_87 rfl ?_
            refine p_callVv (f := f9_tryOne (3 : Int32) z15 (0 : Int32)) (st := []) [.int (3 : Int32), .int z15, .int (0 : Int32)] qRokM (m9_tryOne l (3 : Int32) z15 (0 : Int32)) cal_RX9_357 uM_0 rfl rfl ⟨rfl, rfl⟩ ⟨Nat.le_of_ble_eq_true rfl, Nat.le_of_ble_eq_true rfl⟩ (Nat.le_of_ble_eq_true rfl) dX9_drawYear_88 rfl (fun h17 => ?_)
            refine p_goto (tgt := 115) dX9_drawYear_91 (by decide) ?_
            exact J5 h17
          · refine p_icmp_ne_t (tgt := 94) dX9_drawYear_76 (by decide) c14 ?_
            refine p_aload_n rfl dX9_drawYear_94 rfl ?_
            refine p_aload_n rfl dX9_drawYear_95 rfl ?_
            refine p_geti qg_RX9_153 uM_0 rfl dX9_drawYear_96 rfl ?_
            refine p_cVw (f := f9_draw (h2.1 0 12)) (st := []) [.int (h2.1 0 12)] qRokM (m9_draw l (h2.1 0 12)) cal_RX9_354 uM_0 rfl rfl ⟨rfl, rfl⟩ ⟨Nat.le_of_ble_eq_true rfl, Nat.le_of_ble_eq_true rfl⟩ (Nat.le_of_ble_eq_true rfl) dX9_drawYear_99 rfl (fun z18 h19 => ?_)
            refine p_is_n (ls' := [some (.ref 0), some (.int z1), some (.int z18)]) dX9_drawYear_102 rfl rfl rfl rfl ?_
            refine p_aload_n rfl dX9_drawYear_103 rfl ?_
            refine p_bipush (v := (6 : Int32)) kbipush_6 dX9_drawYear_104 rfl ?_
            refine p_iload_n rfl dX9_drawYear_106 rfl ?_
            refine p_aload_n rfl dX9_drawYear_107 rfl ?_
            refine p_iload_n rfl dX9_drawYear_108 rfl ?_
            refine p_callVr (f := f9_targetOf z18) (st := [.int z18, .int (6 : Int32), .ref 0]) [.int z18] qRokM (m9_targetOf l z18) cal_RX9_274 uM_0 rfl rfl ⟨rfl, rfl⟩ ⟨Nat.le_of_ble_eq_true rfl, Nat.le_of_ble_eq_true rfl⟩ (Nat.le_of_ble_eq_true rfl) dX9_drawYear_109 rfl (fun z20 => ?_)
            refine p_callVv (f := f9_tryOne (6 : Int32) z18 z20) (st := []) [.int (6 : Int32), .int z18, .int z20] qRokM (m9_tryOne l (6 : Int32) z18 z20) cal_RX9_357 uM_0 rfl rfl ⟨rfl, rfl⟩ ⟨Nat.le_of_ble_eq_true rfl, Nat.le_of_ble_eq_true rfl⟩ (Nat.le_of_ble_eq_true rfl) dX9_drawYear_112 rfl (fun h21 => ?_)
            exact p_wk (ls' := [some (.ref 0), some (.int z1), none]) ⟨rfl, rfl, trivial⟩ (J5 h21)
      · refine p_icmp_ge_f (tgt := 42) dX9_drawYear_29 (by decide) rfl c7 ?_
        refine p_aload_n rfl dX9_drawYear_32 rfl ?_
        refine p_iconst (v := (1 : Int32)) kiconst_1 dX9_drawYear_33 rfl ?_
        refine p_iconst (v := (0 : Int32)) kiconst_0 dX9_drawYear_34 rfl ?_
        refine p_iconst (v := (0 : Int32)) kiconst_0 dX9_drawYear_35 rfl ?_
        refine p_callVv (f := f9_tryOne (1 : Int32) (0 : Int32) (0 : Int32)) (st := []) [.int (1 : Int32), .int (0 : Int32), .int (0 : Int32)] qRokM (m9_tryOne l (1 : Int32) (0 : Int32) (0 : Int32)) cal_RX9_357 uM_0 rfl rfl ⟨rfl, rfl⟩ ⟨Nat.le_of_ble_eq_true rfl, Nat.le_of_ble_eq_true rfl⟩ (Nat.le_of_ble_eq_true rfl) dX9_drawYear_36 rfl (fun h22 => ?_)
        refine p_goto (tgt := 115) dX9_drawYear_39 (by decide) ?_
        exact J5 h22
    · refine p_icmp_ge_f (tgt := 27) dX9_drawYear_9 (by decide) rfl c6 ?_
      refine p_aload_n rfl dX9_drawYear_12 rfl ?_
      refine p_iconst (v := (0 : Int32)) kiconst_0 dX9_drawYear_13 rfl ?_
      refine p_aload_n rfl dX9_drawYear_14 rfl ?_
      refine p_bipush (v := (24 : Int32)) kbipush_24 dX9_drawYear_15 rfl ?_
      refine p_cVw (f := f9_draw (24 : Int32)) (st := [.int (0 : Int32), .ref 0]) [.int (24 : Int32)] qRokM (m9_draw l (24 : Int32)) cal_RX9_354 uM_0 rfl rfl ⟨rfl, rfl⟩ ⟨Nat.le_of_ble_eq_true rfl, Nat.le_of_ble_eq_true rfl⟩ (Nat.le_of_ble_eq_true rfl) dX9_drawYear_17 rfl (fun z23 h24 => ?_)
      refine p_iconst (v := (0 : Int32)) kiconst_0 dX9_drawYear_20 rfl ?_
      refine p_callVv (f := f9_tryOne (0 : Int32) z23 (0 : Int32)) (st := []) [.int (0 : Int32), .int z23, .int (0 : Int32)] qRokM (m9_tryOne l (0 : Int32) z23 (0 : Int32)) cal_RX9_357 uM_0 rfl rfl ⟨rfl, rfl⟩ ⟨Nat.le_of_ble_eq_true rfl, Nat.le_of_ble_eq_true rfl⟩ (Nat.le_of_ble_eq_true rfl) dX9_drawYear_21 rfl (fun h25 => ?_)
      refine p_goto (tgt := 115) dX9_drawYear_24 (by decide) ?_
      exact J5 h25
noncomputable def f9_years_L27 (p1 : Int32) (k : Int32 → qH → Option (Int32 × qH)) : Nat → Int32 → qH → Option (Int32 × qH)
  | 0, _, _ => none
  | n + 1, x6, h7 =>
    if p1 ≤ x6 then (
      k x6 h7)
    else (
      (f9_drawYear h7).bind fun (h9 : qH) =>
      qlt (x6 + (1 : Int32)) fun (x10 : Int32) =>
      f9_years_L27 p1 k n x10 h9)
set_option maxRecDepth 100000 in
set_option maxHeartbeats 4000000 in
theorem w9_years_L27 (l : Launch) (h0 : qH) (p1 : Int32) {k : Int32 → qH → Option (Int32 × qH)} (hk : ∀ (x6 : Int32) (h7 : qH), PW UM ROM l R9_years cX9_years 5 (some .int) RX9 (qEw h0) 43 [some (.ref 0), some (.int p1), none, none, some (.int x6)] [] h7 (k x6 h7)) : ∀ (n : Nat) (x6 : Int32) (h7 : qH), PW UM ROM l R9_years cX9_years 5 (some .int) RX9 (qEw h0) 27 [some (.ref 0), some (.int p1), none, none, some (.int x6)] [] h7 (f9_years_L27 p1 k n x6 h7) := by
  intro n
  induction n with
  | zero => intro _ _; exact p_none
  | succ n ih =>
    intro x6 h7
    unfold f9_years_L27
    refine p_iload rfl dX9_years_27 rfl ?_
    refine p_iload_n rfl dX9_years_29 rfl ?_
    refine p_if (fun c8 => ?_) (fun c8 => ?_)
    · refine p_icmp_ge_t (tgt := 43) dX9_years_30 (by decide) c8 ?_
      exact hk x6 h7
    · refine p_icmp_ge_f (tgt := 43) dX9_years_30 (by decide) rfl c8 ?_
      refine p_aload_n rfl dX9_years_33 rfl ?_
      refine p_callVv (f := f9_drawYear) (st := []) [] qRokM (m9_drawYear l) cal_RX9_360 uM_0 rfl rfl ⟨rfl, rfl⟩ ⟨Nat.le_of_ble_eq_true rfl, Nat.le_of_ble_eq_true rfl⟩ (Nat.le_of_ble_eq_true rfl) dX9_years_34 rfl (fun h9 => ?_)
      refine p_iiN (v := (1 : Int32)) (lf := fun x10 => [some (.ref 0), some (.int p1), none, none, some (.int x10)]) kiconst_1 dX9_years_37 rfl rfl rfl rfl (fun _ => rfl) (fun x10 => ?_)
      refine p_goto (tgt := 27) dX9_years_40 (by decide) ?_
      exact ih x10 h9
noncomputable def f9_years (p1 : Int32) (p2 : Int64) (h : qH) : Option (Int32 × qH) :=
  (f9_isHall h).bind fun (z1 : Int32) =>
  if z1 = 0 then (
    some ((-1 : Int32), h))
  else (
    (f9_in p1 (1 : Int32) (40 : Int32) h).bind fun (z3 : Int32) =>
    if z3 = 0 then (
      some ((-1 : Int32), h))
    else (
      qlt (qlg h 0 p2) fun (h5 : qH) =>
      f9_years_L27 p1 (fun (x11 : Int32) (h12 : qH) =>
        some ((h12.1 9 170), h12)) qN (0 : Int32) h5))
set_option maxRecDepth 100000 in
set_option maxHeartbeats 4000000 in
theorem m9_years (l : Launch) (p1 : Int32) (p2 : Int64) : qMet UM ROM l yX9_years (qws yX9_years cX9_years 5 (some .int)) R9_years [.ref 0, .int p1, .long p2] (f9_years p1 p2) qEw := by
  refine q_met (own := RX9) 1 (by decide) rfl (Nat.le_of_ble_eq_true rfl) (ls := [some (.ref 0), some (.int p1), some (.long p2), none, none]) rfl fun h => ?_
  unfold f9_years
  show PW UM ROM l R9_years cX9_years 5 (some .int) RX9 (qEw h) 0 [some (.ref 0), some (.int p1), some (.long p2), none, none] [] h _
  refine p_aload_n rfl dX9_years_0 rfl ?_
  refine p_callVr (f := f9_isHall) (st := []) [] qRokM (m9_isHall l) cal_RX9_156 uM_0 rfl rfl ⟨rfl, rfl⟩ ⟨Nat.le_of_ble_eq_true rfl, Nat.le_of_ble_eq_true rfl⟩ (Nat.le_of_ble_eq_true rfl) dX9_years_1 rfl (fun z1 => ?_)
  refine p_if (fun c2 => ?_) (fun c2 => ?_)
  · refine p_if_eq_t (tgt := 17) dX9_years_4 (by decide) c2 ?_
    refine p_iconst (v := (-1 : Int32)) kiconst_m1 dX9_years_17 rfl ?_
    exact p_iret rfl rfl dX9_years_18
  · refine p_if_eq_f (tgt := 17) dX9_years_4 (by decide) rfl c2 ?_
    refine p_iload_n rfl dX9_years_7 rfl ?_
    refine p_iconst (v := (1 : Int32)) kiconst_1 dX9_years_8 rfl ?_
    refine p_bipush (v := (40 : Int32)) kbipush_40 dX9_years_9 rfl ?_
    refine p_callSr (f := f9_in p1 (1 : Int32) (40 : Int32)) (st := []) [.int p1, .int (1 : Int32), .int (40 : Int32)] qRokM (m9_in l p1 (1 : Int32) (40 : Int32)) cal_RX9_76 rfl ⟨rfl, rfl⟩ ⟨Nat.le_of_ble_eq_true rfl, Nat.le_of_ble_eq_true rfl⟩ (Nat.le_of_ble_eq_true rfl) dX9_years_11 rfl (fun z3 => ?_)
    refine p_if (fun c4 => ?_) (fun c4 => ?_)
    · refine p_if_ne_f (tgt := 19) dX9_years_14 (by decide) rfl c4 ?_
      refine p_iconst (v := (-1 : Int32)) kiconst_m1 dX9_years_17 rfl ?_
      exact p_iret rfl rfl dX9_years_18
    · refine p_if_ne_t (tgt := 19) dX9_years_14 (by decide) c4 ?_
      refine p_aload_n rfl dX9_years_19 rfl ?_
      refine p_lload_n rfl dX9_years_20 rfl ?_
      refine p_putl qp_RX9_346 uM_0 rfl qlong_RX9 dX9_years_21 rfl ?_
      refine p_nmH (fun h5 => ?_)
      refine p_iconst (v := (0 : Int32)) kiconst_0 dX9_years_24 rfl ?_
      refine p_is (ls' := [some (.ref 0), some (.int p1), some (.long p2), none, some (.int (0 : Int32))]) dX9_years_25 rfl rfl rfl rfl ?_
      refine p_wk (ls' := [some (.ref 0), some (.int p1), none, none, some (.int (0 : Int32))]) ⟨rfl, rfl, rfl, trivial⟩ ?_
      refine w9_years_L27 l h p1 (fun x11 h12 => ?_) qN _ _
      refine p_aload_n rfl dX9_years_43 rfl ?_
      refine p_getr qg_RX9_34 uM_0 rfl dX9_years_44 rfl ?_
      refine p_sipush (v := (170 : Int32)) ksipush_170 dX9_years_47 rfl ?_
      refine p_ialdK uM_9 kix_170 kqin_170_353 dX9_years_50 rfl ?_
      exact p_iret rfl rfl dX9_years_51
noncomputable def f9_status (p1 : Int32) (h : qH) : Option (Int32) :=
  (f9_in p1 (0 : Int32) (3 : Int32) h).bind fun (z1 : Int32) =>
  qj (fun (x2 : Int32) =>
    some x2) fun j3 =>
  if z1 = 0 then (
    j3 (-1 : Int32))
  else (
    qg (qin p1 4) <|
    j3 (h.1 10 (ix p1)))
set_option maxRecDepth 100000 in
set_option maxHeartbeats 4000000 in
theorem m9_status (l : Launch) (p1 : Int32) : qMet UM ROM l yX9_status (qws yX9_status cX9_status 2 (some .int)) R9_status [.ref 0, .int p1] (f9_status p1) qEr := by
  refine q_met (own := RX9) 0 (by decide) rfl (Nat.le_of_ble_eq_true rfl) (ls := [some (.ref 0), some (.int p1)]) rfl fun h => ?_
  unfold f9_status
  refine p_iload_n rfl dX9_status_0 rfl ?_
  refine p_iconst (v := (0 : Int32)) kiconst_0 dX9_status_1 rfl ?_
  refine p_iconst (v := (3 : Int32)) kiconst_3 dX9_status_2 rfl ?_
  refine p_callSr (f := f9_in p1 (0 : Int32) (3 : Int32)) (st := []) [.int p1, .int (0 : Int32), .int (3 : Int32)] qRokM (m9_in l p1 (0 : Int32) (3 : Int32)) cal_RX9_76 rfl ⟨rfl, rfl⟩ ⟨Nat.le_of_ble_eq_true rfl, Nat.le_of_ble_eq_true rfl⟩ (Nat.le_of_ble_eq_true rfl) dX9_status_3 rfl (fun z1 => ?_)
  refine p_jn (fun j3 => ∀ (x2 : Int32), PW UM ROM l R9_status cX9_status 2 (some .int) RX9 (qEr h) 19 [some (.ref 0), some (.int p1)] [.int x2] h (j3 x2)) (fun x2 => ?_) (fun j3 J4 => ?_)
  · exact p_iret rfl rfl dX9_status_19
  · refine p_if (fun c5 => ?_) (fun c5 => ?_)
    · refine p_if_eq_t (tgt := 18) dX9_status_6 (by decide) c5 ?_
      refine p_iconst (v := (-1 : Int32)) kiconst_m1 dX9_status_18 rfl ?_
      exact J4 (-1 : Int32)
    · refine p_if_eq_f (tgt := 18) dX9_status_6 (by decide) rfl c5 ?_
      refine p_aload_n rfl dX9_status_9 rfl ?_
      refine p_getr qg_RX9_37 uM_0 rfl dX9_status_10 rfl ?_
      refine p_iload_n rfl dX9_status_13 rfl ?_
      refine p_iald uM_10 dX9_status_14 rfl (fun _ => ?_)
      refine p_goto (tgt := 19) dX9_status_15 (by decide) ?_
      exact J4 (h.1 10 (ix p1))
noncomputable def f9_undo_L21 (k : Int32 → qH → Option (Int32 × qH)) : Nat → Int32 → qH → Option (Int32 × qH)
  | 0, _, _ => none
  | n + 1, x3, h4 =>
    if (353 : Int32) ≤ x3 then (
      k x3 h4)
    else (
      qg (qin (((353 : Int32) * (h4.1 0 23)) + x3) 14120) <|
      qg (qin x3 353) <|
      qlt (qw h4 9 (ix x3) (h4.1 13 (ix (((353 : Int32) * (h4.1 0 23)) + x3)))) fun (h6 : qH) =>
      qlt (x3 + (1 : Int32)) fun (x7 : Int32) =>
      f9_undo_L21 k n x7 h6)
set_option maxRecDepth 100000 in
set_option maxHeartbeats 4000000 in
theorem w9_undo_L21 (l : Launch) (h0 : qH) {k : Int32 → qH → Option (Int32 × qH)} (hk : ∀ (x3 : Int32) (h4 : qH), PW UM ROM l R9_undo cX9_undo 2 (some .int) RX9 (qEw h0) 55 [some (.ref 0), some (.int x3)] [] h4 (k x3 h4)) : ∀ (n : Nat) (x3 : Int32) (h4 : qH), PW UM ROM l R9_undo cX9_undo 2 (some .int) RX9 (qEw h0) 21 [some (.ref 0), some (.int x3)] [] h4 (f9_undo_L21 k n x3 h4) := by
  intro n
  induction n with
  | zero => intro _ _; exact p_none
  | succ n ih =>
    intro x3 h4
    unfold f9_undo_L21
    refine p_iload_n rfl dX9_undo_21 rfl ?_
    refine p_sipush (v := (353 : Int32)) ksipush_353 dX9_undo_22 rfl ?_
    refine p_if (fun c5 => ?_) (fun c5 => ?_)
    · refine p_icmp_ge_t (tgt := 55) dX9_undo_25 (by decide) c5 ?_
      exact hk x3 h4
    · refine p_icmp_ge_f (tgt := 55) dX9_undo_25 (by decide) rfl c5 ?_
      refine p_aload_n rfl dX9_undo_28 rfl ?_
      refine p_getr qg_RX9_34 uM_0 rfl dX9_undo_29 rfl ?_
      refine p_iload_n rfl dX9_undo_32 rfl ?_
      refine p_aload_n rfl dX9_undo_33 rfl ?_
      refine p_getr qg_RX9_46 uM_0 rfl dX9_undo_34 rfl ?_
      refine p_sipush (v := (353 : Int32)) ksipush_353 dX9_undo_37 rfl ?_
      refine p_aload_n rfl dX9_undo_40 rfl ?_
      refine p_geti qg_RX9_178 uM_0 rfl dX9_undo_41 rfl ?_
      refine p_imul dX9_undo_44 rfl ?_
      refine p_iload_n rfl dX9_undo_45 rfl ?_
      refine p_iadd dX9_undo_46 rfl ?_
      refine p_iald uM_13 dX9_undo_47 rfl (fun _ => ?_)
      refine p_iast qokM uM_9 dX9_undo_48 rfl (fun _ => ?_)
      refine p_nmH (fun h6 => ?_)
      refine p_iiN (v := (1 : Int32)) (lf := fun x7 => [some (.ref 0), some (.int x7)]) kiconst_1 dX9_undo_49 rfl rfl rfl rfl (fun _ => rfl) (fun x7 => ?_)
      refine p_goto (tgt := 21) dX9_undo_52 (by decide) ?_
      exact ih x7 h6
noncomputable def f9_undo (h : qH) : Option (Int32 × qH) :=
  if (h.1 0 23) = 0 then (
    some ((-1 : Int32), h))
  else (
    qlt (qw h 0 23 ((h.1 0 23) - (1 : Int32))) fun (h2 : qH) =>
    f9_undo_L21 (fun (x8 : Int32) (h9 : qH) =>
      some ((h9.1 0 23), h9)) qN (0 : Int32) h2)
set_option maxRecDepth 100000 in
set_option maxHeartbeats 4000000 in
theorem m9_undo (l : Launch) : qMet UM ROM l yX9_undo (qws yX9_undo cX9_undo 2 (some .int)) R9_undo [.ref 0] f9_undo qEw := by
  refine q_met (own := RX9) 1 (by decide) rfl (Nat.le_of_ble_eq_true rfl) (ls := [some (.ref 0), none]) rfl fun h => ?_
  unfold f9_undo
  show PW UM ROM l R9_undo cX9_undo 2 (some .int) RX9 (qEw h) 0 [some (.ref 0), none] [] h _
  refine p_aload_n rfl dX9_undo_0 rfl ?_
  refine p_geti qg_RX9_178 uM_0 rfl dX9_undo_1 rfl ?_
  refine p_if (fun c1 => ?_) (fun c1 => ?_)
  · refine p_if_ne_f (tgt := 9) dX9_undo_4 (by decide) rfl c1 ?_
    refine p_iconst (v := (-1 : Int32)) kiconst_m1 dX9_undo_7 rfl ?_
    exact p_iret rfl rfl dX9_undo_8
  · refine p_if_ne_t (tgt := 9) dX9_undo_4 (by decide) c1 ?_
    refine p_aload_n rfl dX9_undo_9 rfl ?_
    refine p_dup rfl dX9_undo_10 rfl ?_
    refine p_geti qg_RX9_178 uM_0 rfl dX9_undo_11 rfl ?_
    refine p_iconst (v := (1 : Int32)) kiconst_1 dX9_undo_14 rfl ?_
    refine p_isub dX9_undo_15 rfl ?_
    refine p_puti qokM qp_RX9_178 uM_0 rfl dX9_undo_16 rfl ?_
    refine p_nmH (fun h2 => ?_)
    refine p_iconst (v := (0 : Int32)) kiconst_0 dX9_undo_19 rfl ?_
    refine p_is_n (ls' := [some (.ref 0), some (.int (0 : Int32))]) dX9_undo_20 rfl rfl rfl rfl ?_
    refine w9_undo_L21 l h (fun x8 h9 => ?_) qN _ _
    refine p_aload_n rfl dX9_undo_55 rfl ?_
    refine p_geti qg_RX9_178 uM_0 rfl dX9_undo_56 rfl ?_
    exact p_iret rfl rfl dX9_undo_59
noncomputable def f9_log (p1 : Int32) (p2 : Int32) (h : qH) : Option (Int32) :=
  (f9_in p1 (0 : Int32) ((h.1 9 172) - (1 : Int32)) h).bind fun (z1 : Int32) =>
  qj (fun (x2 : Int32) =>
    some x2) fun j3 =>
  if z1 = 0 then (
    j3 (-1000000 : Int32))
  else (
    (f9_in p2 (0 : Int32) (2 : Int32) h).bind fun (z6 : Int32) =>
    if z6 = 0 then (
      j3 (-1000000 : Int32))
    else (
      qg (qin (((173 : Int32) + ((3 : Int32) * (((h.1 9 172) - (1 : Int32)) - p1))) + p2) 353) <|
      j3 (h.1 9 (ix (((173 : Int32) + ((3 : Int32) * (((h.1 9 172) - (1 : Int32)) - p1))) + p2)))))
set_option maxRecDepth 100000 in
set_option maxHeartbeats 4000000 in
theorem m9_log (l : Launch) (p1 : Int32) (p2 : Int32) : qMet UM ROM l yX9_log (qws yX9_log cX9_log 3 (some .int)) R9_log [.ref 0, .int p1, .int p2] (f9_log p1 p2) qEr := by
  refine q_met (own := RX9) 0 (by decide) rfl (Nat.le_of_ble_eq_true rfl) (ls := [some (.ref 0), some (.int p1), some (.int p2)]) rfl fun h => ?_
  unfold f9_log
  refine p_iload_n rfl dX9_log_0 rfl ?_
  refine p_iconst (v := (0 : Int32)) kiconst_0 dX9_log_1 rfl ?_
  refine p_aload_n rfl dX9_log_2 rfl ?_
  refine p_getr qg_RX9_34 uM_0 rfl dX9_log_3 rfl ?_
  refine p_sipush (v := (172 : Int32)) ksipush_172 dX9_log_6 rfl ?_
  refine p_ialdK uM_9 kix_172 kqin_172_353 dX9_log_9 rfl ?_
  refine p_iconst (v := (1 : Int32)) kiconst_1 dX9_log_10 rfl ?_
  refine p_isub dX9_log_11 rfl ?_
  refine p_callSr (f := f9_in p1 (0 : Int32) ((h.1 9 172) - (1 : Int32))) (st := []) [.int p1, .int (0 : Int32), .int ((h.1 9 172) - (1 : Int32))] qRokM (m9_in l p1 (0 : Int32) ((h.1 9 172) - (1 : Int32))) cal_RX9_76 rfl ⟨rfl, rfl⟩ ⟨Nat.le_of_ble_eq_true rfl, Nat.le_of_ble_eq_true rfl⟩ (Nat.le_of_ble_eq_true rfl) dX9_log_12 rfl (fun z1 => ?_)
  refine p_jn (fun j3 => ∀ (x2 : Int32), PW UM ROM l R9_log cX9_log 3 (some .int) RX9 (qEr h) 58 [some (.ref 0), some (.int p1), some (.int p2)] [.int x2] h (j3 x2)) (fun x2 => ?_) (fun j3 J4 => ?_)
  · exact p_iret rfl rfl dX9_log_58
  · refine p_if (fun c5 => ?_) (fun c5 => ?_)
    · refine p_if_eq_t (tgt := 55) dX9_log_15 (by decide) c5 ?_
      refine p_ldcw (v := (-1000000 : Int32)) kcRX9_363 dX9_log_55 rfl ?_
      exact J4 (-1000000 : Int32)
    · refine p_if_eq_f (tgt := 55) dX9_log_15 (by decide) rfl c5 ?_
      refine p_iload_n rfl dX9_log_18 rfl ?_
      refine p_iconst (v := (0 : Int32)) kiconst_0 dX9_log_19 rfl ?_
      refine p_iconst (v := (2 : Int32)) kiconst_2 dX9_log_20 rfl ?_
      refine p_callSr (f := f9_in p2 (0 : Int32) (2 : Int32)) (st := []) [.int p2, .int (0 : Int32), .int (2 : Int32)] qRokM (m9_in l p2 (0 : Int32) (2 : Int32)) cal_RX9_76 rfl ⟨rfl, rfl⟩ ⟨Nat.le_of_ble_eq_true rfl, Nat.le_of_ble_eq_true rfl⟩ (Nat.le_of_ble_eq_true rfl) dX9_log_21 rfl (fun z6 => ?_)
      refine p_if (fun c7 => ?_) (fun c7 => ?_)
      · refine p_if_eq_t (tgt := 55) dX9_log_24 (by decide) c7 ?_
        refine p_ldcw (v := (-1000000 : Int32)) kcRX9_363 dX9_log_55 rfl ?_
        exact J4 (-1000000 : Int32)
      · refine p_if_eq_f (tgt := 55) dX9_log_24 (by decide) rfl c7 ?_
        refine p_aload_n rfl dX9_log_27 rfl ?_
        refine p_getr qg_RX9_34 uM_0 rfl dX9_log_28 rfl ?_
        refine p_sipush (v := (173 : Int32)) ksipush_173 dX9_log_31 rfl ?_
        refine p_iconst (v := (3 : Int32)) kiconst_3 dX9_log_34 rfl ?_
        refine p_aload_n rfl dX9_log_35 rfl ?_
        refine p_getr qg_RX9_34 uM_0 rfl dX9_log_36 rfl ?_
        refine p_sipush (v := (172 : Int32)) ksipush_172 dX9_log_39 rfl ?_
        refine p_ialdK uM_9 kix_172 kqin_172_353 dX9_log_42 rfl ?_
        refine p_iconst (v := (1 : Int32)) kiconst_1 dX9_log_43 rfl ?_
        refine p_isub dX9_log_44 rfl ?_
        refine p_iload_n rfl dX9_log_45 rfl ?_
        refine p_isub dX9_log_46 rfl ?_
        refine p_imul dX9_log_47 rfl ?_
        refine p_iadd dX9_log_48 rfl ?_
        refine p_iload_n rfl dX9_log_49 rfl ?_
        refine p_iadd dX9_log_50 rfl ?_
        refine p_iald uM_9 dX9_log_51 rfl (fun _ => ?_)
        refine p_goto (tgt := 58) dX9_log_52 (by decide) ?_
        exact J4 (h.1 9 (ix (((173 : Int32) + ((3 : Int32) * (((h.1 9 172) - (1 : Int32)) - p1))) + p2)))
noncomputable def f9_rule (p1 : Int32) (h : qH) : Option (Int32) :=
  (f9_isHall h).bind fun (z1 : Int32) =>
  qj (fun (x2 : Int32) =>
    some x2) fun j3 =>
  if z1 = 0 then (
    j3 (-1 : Int32))
  else (
    (f9_in p1 (0 : Int32) (8 : Int32) h).bind fun (z6 : Int32) =>
    if z6 = 0 then (
      j3 (-1 : Int32))
    else (
      if p1 = (8 : Int32) then (
        (f9_blocksOfTape h).bind fun (z9 : Int32) =>
        j3 z9)
      else (
        qg (qin p1 8) <|
        j3 (h.1 5 (ix p1)))))
set_option maxRecDepth 100000 in
set_option maxHeartbeats 4000000 in
theorem m9_rule (l : Launch) (p1 : Int32) : qMet UM ROM l yX9_rule (qws yX9_rule cX9_rule 2 (some .int)) R9_rule [.ref 0, .int p1] (f9_rule p1) qEr := by
  refine q_met (own := RX9) 0 (by decide) rfl (Nat.le_of_ble_eq_true rfl) (ls := [some (.ref 0), some (.int p1)]) rfl fun h => ?_
  unfold f9_rule
  refine p_aload_n rfl dX9_rule_0 rfl ?_
  refine p_callVr (f := f9_isHall) (st := []) [] qRokM (m9_isHall l) cal_RX9_156 uM_0 rfl rfl ⟨rfl, rfl⟩ ⟨Nat.le_of_ble_eq_true rfl, Nat.le_of_ble_eq_true rfl⟩ (Nat.le_of_ble_eq_true rfl) dX9_rule_1 rfl (fun z1 => ?_)
  refine p_jn (fun j3 => ∀ (x2 : Int32), PW UM ROM l R9_rule cX9_rule 2 (some .int) RX9 (qEr h) 40 [some (.ref 0), some (.int p1)] [.int x2] h (j3 x2)) (fun x2 => ?_) (fun j3 J4 => ?_)
  · exact p_iret rfl rfl dX9_rule_40
  · refine p_if (fun c5 => ?_) (fun c5 => ?_)
    · refine p_if_eq_t (tgt := 17) dX9_rule_4 (by decide) c5 ?_
      refine p_iconst (v := (-1 : Int32)) kiconst_m1 dX9_rule_17 rfl ?_
      refine p_goto (tgt := 40) dX9_rule_18 (by decide) ?_
      exact J4 (-1 : Int32)
    · refine p_if_eq_f (tgt := 17) dX9_rule_4 (by decide) rfl c5 ?_
      refine p_iload_n rfl dX9_rule_7 rfl ?_
      refine p_iconst (v := (0 : Int32)) kiconst_0 dX9_rule_8 rfl ?_
      refine p_bipush (v := (8 : Int32)) kbipush_8 dX9_rule_9 rfl ?_
      refine p_callSr (f := f9_in p1 (0 : Int32) (8 : Int32)) (st := []) [.int p1, .int (0 : Int32), .int (8 : Int32)] qRokM (m9_in l p1 (0 : Int32) (8 : Int32)) cal_RX9_76 rfl ⟨rfl, rfl⟩ ⟨Nat.le_of_ble_eq_true rfl, Nat.le_of_ble_eq_true rfl⟩ (Nat.le_of_ble_eq_true rfl) dX9_rule_11 rfl (fun z6 => ?_)
      refine p_if (fun c7 => ?_) (fun c7 => ?_)
      · refine p_if_ne_f (tgt := 21) dX9_rule_14 (by decide) rfl c7 ?_
        refine p_iconst (v := (-1 : Int32)) kiconst_m1 dX9_rule_17 rfl ?_
        refine p_goto (tgt := 40) dX9_rule_18 (by decide) ?_
        exact J4 (-1 : Int32)
      · refine p_if_ne_t (tgt := 21) dX9_rule_14 (by decide) c7 ?_
        refine p_iload_n rfl dX9_rule_21 rfl ?_
        refine p_bipush (v := (8 : Int32)) kbipush_8 dX9_rule_22 rfl ?_
        refine p_if (fun c8 => ?_) (fun c8 => ?_)
        · refine p_icmp_ne_f (tgt := 34) dX9_rule_24 (by decide) rfl c8 ?_
          refine p_aload_n rfl dX9_rule_27 rfl ?_
          refine p_callVr (f := f9_blocksOfTape) (st := []) [] qRokM (m9_blocksOfTape l) cal_RX9_172 uM_0 rfl rfl ⟨rfl, rfl⟩ ⟨Nat.le_of_ble_eq_true rfl, Nat.le_of_ble_eq_true rfl⟩ (Nat.le_of_ble_eq_true rfl) dX9_rule_28 rfl (fun z9 => ?_)
          refine p_goto (tgt := 40) dX9_rule_31 (by decide) ?_
          exact J4 z9
        · refine p_icmp_ne_t (tgt := 34) dX9_rule_24 (by decide) c8 ?_
          refine p_aload_n rfl dX9_rule_34 rfl ?_
          refine p_getr qg_RX9_22 uM_0 rfl dX9_rule_35 rfl ?_
          refine p_iload_n rfl dX9_rule_38 rfl ?_
          refine p_iald uM_5 dX9_rule_39 rfl (fun _ => ?_)
          exact J4 (h.1 5 (ix p1))
noncomputable def f9_deadOf (p1 : Int32) (h : qH) : Option (Int32) :=
  qg (qin ((16 : Int32) + p1) 353) <|
  (f9_blocksOn p1 h).bind fun (z1 : Int32) =>
  some ((h.1 9 (ix ((16 : Int32) + p1))) - z1)
set_option maxRecDepth 100000 in
set_option maxHeartbeats 4000000 in
theorem m9_deadOf (l : Launch) (p1 : Int32) : qMet UM ROM l yX9_deadOf (qws yX9_deadOf cX9_deadOf 2 (some .int)) R9_deadOf [.ref 0, .int p1] (f9_deadOf p1) qEr := by
  refine q_met (own := RX9) 0 (by decide) rfl (Nat.le_of_ble_eq_true rfl) (ls := [some (.ref 0), some (.int p1)]) rfl fun h => ?_
  unfold f9_deadOf
  refine p_aload_n rfl dX9_deadOf_0 rfl ?_
  refine p_getr qg_RX9_34 uM_0 rfl dX9_deadOf_1 rfl ?_
  refine p_bipush (v := (16 : Int32)) kbipush_16 dX9_deadOf_4 rfl ?_
  refine p_iload_n rfl dX9_deadOf_6 rfl ?_
  refine p_iadd dX9_deadOf_7 rfl ?_
  refine p_iald uM_9 dX9_deadOf_8 rfl (fun _ => ?_)
  refine p_aload_n rfl dX9_deadOf_9 rfl ?_
  refine p_iload_n rfl dX9_deadOf_10 rfl ?_
  refine p_callVr (f := f9_blocksOn p1) (st := [.int (h.1 9 (ix ((16 : Int32) + p1)))]) [.int p1] qRokM (m9_blocksOn l p1) cal_RX9_364 uM_0 rfl rfl ⟨rfl, rfl⟩ ⟨Nat.le_of_ble_eq_true rfl, Nat.le_of_ble_eq_true rfl⟩ (Nat.le_of_ble_eq_true rfl) dX9_deadOf_11 rfl (fun z1 => ?_)
  refine p_isub dX9_deadOf_14 rfl ?_
  exact p_iret rfl rfl dX9_deadOf_15
noncomputable def f9_tape (p1 : Int32) (p2 : Int32) (h : qH) : Option (Int32 × qH) :=
  (f9_isTape p1 h).bind fun (z1 : Int32) =>
  qj (fun (x2 : Int32) =>
    qlt (qw h 0 0 x2) fun (h5 : qH) =>
    if (h5.1 0 0) = (1 : Int32) then (
      some ((0 : Int32), h5))
    else (
      if p2 = (0 : Int32) then (
        qg (qin p1 8) <|
        some ((h5.1 6 (ix p1)), h5))
      else (
        if p2 = (6 : Int32) then (
        (f9_filesOn p1 h5).bind fun (z9 : Int32) =>
        some (z9, h5))
      else (
        if p2 = (7 : Int32) then (
        (f9_blocksOn p1 h5).bind fun (z11 : Int32) =>
        some (z11, h5))
      else (
        if p2 = (8 : Int32) then (
        (f9_deadOf p1 h5).bind fun (z13 : Int32) =>
        some (z13, h5))
      else (
        if p2 = (9 : Int32) then (
        (f9_askedOn p1 h5).bind fun (z15 : Int32) =>
        some (z15, h5))
      else (
        if p2 = (10 : Int32) then (
        (f9_isDriven p1 h5).bind fun (z17 : Int32) =>
        qj (fun (x18 : Int32) =>
          some (x18, h5)) fun j19 =>
        if z17 = 0 then (
          j19 (-1 : Int32))
        else (
          qg (qin ((40 : Int32) + p1) 353) <|
          j19 ((h5.1 9 170) - (h5.1 9 (ix ((40 : Int32) + p1))))))
      else (
        qg (qin (((8 : Int32) * (p2 - (1 : Int32))) + p1) 353) <|
        some ((h5.1 9 (ix (((8 : Int32) * (p2 - (1 : Int32))) + p1))), h5))))))))) fun j3 =>
  if z1 = 0 then (
    j3 (1 : Int32))
  else (
    (f9_in p2 (0 : Int32) (10 : Int32) h).bind fun (z29 : Int32) =>
    if z29 = 0 then (
      j3 (1 : Int32))
    else (
      j3 (0 : Int32)))
set_option maxRecDepth 100000 in
set_option maxHeartbeats 4000000 in
theorem m9_tape (l : Launch) (p1 : Int32) (p2 : Int32) : qMet UM ROM l yX9_tape (qws yX9_tape cX9_tape 3 (some .int)) R9_tape [.ref 0, .int p1, .int p2] (f9_tape p1 p2) qEw := by
  refine q_met (own := RX9) 0 (by decide) rfl (Nat.le_of_ble_eq_true rfl) (ls := [some (.ref 0), some (.int p1), some (.int p2)]) rfl fun h => ?_
  unfold f9_tape
  show PW UM ROM l R9_tape cX9_tape 3 (some .int) RX9 (qEw h) 0 [some (.ref 0), some (.int p1), some (.int p2)] [] h _
  refine p_aload_n rfl dX9_tape_0 rfl ?_
  refine p_aload_n rfl dX9_tape_1 rfl ?_
  refine p_iload_n rfl dX9_tape_2 rfl ?_
  refine p_callVr (f := f9_isTape p1) (st := [.ref 0]) [.int p1] qRokM (m9_isTape l p1) cal_RX9_169 uM_0 rfl rfl ⟨rfl, rfl⟩ ⟨Nat.le_of_ble_eq_true rfl, Nat.le_of_ble_eq_true rfl⟩ (Nat.le_of_ble_eq_true rfl) dX9_tape_3 rfl (fun z1 => ?_)
  refine p_jn (fun j3 => ∀ (x2 : Int32), PW UM ROM l R9_tape cX9_tape 3 (some .int) RX9 (qEw h) 24 [some (.ref 0), some (.int p1), some (.int p2)] [.int x2, .ref 0] h (j3 x2)) (fun x2 => ?_) (fun j3 J4 => ?_)
  · refine p_puti qokM qp_RX9_65 uM_0 rfl dX9_tape_24 rfl ?_
    refine p_nmH (fun h5 => ?_)
    refine p_aload_n rfl dX9_tape_27 rfl ?_
    refine p_geti qg_RX9_65 uM_0 rfl dX9_tape_28 rfl ?_
    refine p_iconst (v := (1 : Int32)) kiconst_1 dX9_tape_31 rfl ?_
    refine p_if (fun c6 => ?_) (fun c6 => ?_)
    · refine p_icmp_ne_f (tgt := 37) dX9_tape_32 (by decide) rfl c6 ?_
      refine p_iconst (v := (0 : Int32)) kiconst_0 dX9_tape_35 rfl ?_
      exact p_iret rfl rfl dX9_tape_36
    · refine p_icmp_ne_t (tgt := 37) dX9_tape_32 (by decide) c6 ?_
      refine p_iload_n rfl dX9_tape_37 rfl ?_
      refine p_if (fun c7 => ?_) (fun c7 => ?_)
      · refine p_swI (v := (0 : Int32)) (tgt := 96) dX9_tape_38 c7 (by decide) (by decide) rfl (by decide) ?_
        refine p_aload_n rfl dX9_tape_96 rfl ?_
        refine p_getr qg_RX9_25 uM_0 rfl dX9_tape_97 rfl ?_
        refine p_iload_n rfl dX9_tape_100 rfl ?_
        refine p_iald uM_6 dX9_tape_101 rfl (fun _ => ?_)
        exact p_iret rfl rfl dX9_tape_102
      · refine p_if (fun c8 => ?_) (fun c8 => ?_)
        · refine p_swI (v := (6 : Int32)) (tgt := 103) dX9_tape_38 c8 (by decide) (by decide) rfl (by decide) ?_
          refine p_aload_n rfl dX9_tape_103 rfl ?_
          refine p_iload_n rfl dX9_tape_104 rfl ?_
          refine p_callVr (f := f9_filesOn p1) (st := []) [.int p1] qRokM (m9_filesOn l p1) cal_RX9_262 uM_0 rfl rfl ⟨rfl, rfl⟩ ⟨Nat.le_of_ble_eq_true rfl, Nat.le_of_ble_eq_true rfl⟩ (Nat.le_of_ble_eq_true rfl) dX9_tape_105 rfl (fun z9 => ?_)
          exact p_iret rfl rfl dX9_tape_108
        · refine p_if (fun c10 => ?_) (fun c10 => ?_)
          · refine p_swI (v := (7 : Int32)) (tgt := 109) dX9_tape_38 c10 (by decide) (by decide) rfl (by decide) ?_
            refine p_aload_n rfl dX9_tape_109 rfl ?_
            refine p_iload_n rfl dX9_tape_110 rfl ?_
            refine p_callVr (f := f9_blocksOn p1) (st := []) [.int p1] qRokM (m9_blocksOn l p1) cal_RX9_364 uM_0 rfl rfl ⟨rfl, rfl⟩ ⟨Nat.le_of_ble_eq_true rfl, Nat.le_of_ble_eq_true rfl⟩ (Nat.le_of_ble_eq_true rfl) dX9_tape_111 rfl (fun z11 => ?_)
            exact p_iret rfl rfl dX9_tape_114
          · refine p_if (fun c12 => ?_) (fun c12 => ?_)
            · refine p_swI (v := (8 : Int32)) (tgt := 115) dX9_tape_38 c12 (by decide) (by decide) rfl (by decide) ?_
              refine p_aload_n rfl dX9_tape_115 rfl ?_
              refine p_iload_n rfl dX9_tape_116 rfl ?_
              refine p_callVr (f := f9_deadOf p1) (st := []) [.int p1] qRokM (m9_deadOf l p1) cal_RX9_367 uM_0 rfl rfl ⟨rfl, rfl⟩ ⟨Nat.le_of_ble_eq_true rfl, Nat.le_of_ble_eq_true rfl⟩ (Nat.le_of_ble_eq_true rfl) dX9_tape_117 rfl (fun z13 => ?_)
              exact p_iret rfl rfl dX9_tape_120
            · refine p_if (fun c14 => ?_) (fun c14 => ?_)
              · refine p_swI (v := (9 : Int32)) (tgt := 121) dX9_tape_38 c14 (by decide) (by decide) rfl (by decide) ?_
                refine p_aload_n rfl dX9_tape_121 rfl ?_
                refine p_iload_n rfl dX9_tape_122 rfl ?_
                refine p_callVr (f := f9_askedOn p1) (st := []) [.int p1] qRokM (m9_askedOn l p1) cal_RX9_166 uM_0 rfl rfl ⟨rfl, rfl⟩ ⟨Nat.le_of_ble_eq_true rfl, Nat.le_of_ble_eq_true rfl⟩ (Nat.le_of_ble_eq_true rfl) dX9_tape_123 rfl (fun z15 => ?_)
                exact p_iret rfl rfl dX9_tape_126
              · refine p_if (fun c16 => ?_) (fun c16 => ?_)
                · refine p_swI (v := (10 : Int32)) (tgt := 127) dX9_tape_38 c16 (by decide) (by decide) rfl (by decide) ?_
                  refine p_aload_n rfl dX9_tape_127 rfl ?_
                  refine p_iload_n rfl dX9_tape_128 rfl ?_
                  refine p_callVr (f := f9_isDriven p1) (st := []) [.int p1] qRokM (m9_isDriven l p1) cal_RX9_209 uM_0 rfl rfl ⟨rfl, rfl⟩ ⟨Nat.le_of_ble_eq_true rfl, Nat.le_of_ble_eq_true rfl⟩ (Nat.le_of_ble_eq_true rfl) dX9_tape_129 rfl (fun z17 => ?_)
                  refine p_jn (fun j19 => ∀ (x18 : Int32), PW UM ROM l R9_tape cX9_tape 3 (some .int) RX9 (qEw h) 157 [some (.ref 0), some (.int p1), some (.int p2)] [.int x18] h5 (j19 x18)) (fun x18 => ?_) (fun j19 J20 => ?_)
                  · exact p_iret rfl rfl dX9_tape_157
                  · refine p_if (fun c21 => ?_) (fun c21 => ?_)
                    · refine p_if_eq_t (tgt := 156) dX9_tape_132 (by decide) c21 ?_
                      refine p_iconst (v := (-1 : Int32)) kiconst_m1 dX9_tape_156 rfl ?_
                      exact J20 (-1 : Int32)
                    · refine p_if_eq_f (tgt := 156) dX9_tape_132 (by decide) rfl c21 ?_
                      refine p_aload_n rfl dX9_tape_135 rfl ?_
                      refine p_getr qg_RX9_34 uM_0 rfl dX9_tape_136 rfl ?_
                      refine p_sipush (v := (170 : Int32)) ksipush_170 dX9_tape_139 rfl ?_
                      refine p_ialdK uM_9 kix_170 kqin_170_353 dX9_tape_142 rfl ?_
                      refine p_aload_n rfl dX9_tape_143 rfl ?_
                      refine p_getr qg_RX9_34 uM_0 rfl dX9_tape_144 rfl ?_
                      refine p_bipush (v := (40 : Int32)) kbipush_40 dX9_tape_147 rfl ?_
                      refine p_iload_n rfl dX9_tape_149 rfl ?_
                      refine p_iadd dX9_tape_150 rfl ?_
                      refine p_iald uM_9 dX9_tape_151 rfl (fun _ => ?_)
                      refine p_isub dX9_tape_152 rfl ?_
                      refine p_goto (tgt := 157) dX9_tape_153 (by decide) ?_
                      exact J20 ((h5.1 9 170) - (h5.1 9 (ix ((40 : Int32) + p1))))
                · refine p_sv (pcJ := 158) (stJ := []) ?_ (fun D22 => ?_)
                  · refine p_aload_n rfl dX9_tape_158 rfl ?_
                    refine p_getr qg_RX9_34 uM_0 rfl dX9_tape_159 rfl ?_
                    refine p_bipush (v := (8 : Int32)) kbipush_8 dX9_tape_162 rfl ?_
                    refine p_iload_n rfl dX9_tape_164 rfl ?_
                    refine p_iconst (v := (1 : Int32)) kiconst_1 dX9_tape_165 rfl ?_
                    refine p_isub dX9_tape_166 rfl ?_
                    refine p_imul dX9_tape_167 rfl ?_
                    refine p_iload_n rfl dX9_tape_168 rfl ?_
                    refine p_iadd dX9_tape_169 rfl ?_
                    refine p_iald uM_9 dX9_tape_170 rfl (fun _ => ?_)
                    exact p_iret rfl rfl dX9_tape_171
                  · by_cases e23 : p2 = (1 : Int32)
                    · exact p_swI (v := (1 : Int32)) (tgt := 158) dX9_tape_38 e23 (by decide) (by decide) rfl (by decide) D22
                    by_cases e24 : p2 = (2 : Int32)
                    · exact p_swI (v := (2 : Int32)) (tgt := 158) dX9_tape_38 e24 (by decide) (by decide) rfl (by decide) D22
                    by_cases e25 : p2 = (3 : Int32)
                    · exact p_swI (v := (3 : Int32)) (tgt := 158) dX9_tape_38 e25 (by decide) (by decide) rfl (by decide) D22
                    by_cases e26 : p2 = (4 : Int32)
                    · exact p_swI (v := (4 : Int32)) (tgt := 158) dX9_tape_38 e26 (by decide) (by decide) rfl (by decide) D22
                    by_cases e27 : p2 = (5 : Int32)
                    · exact p_swI (v := (5 : Int32)) (tgt := 158) dX9_tape_38 e27 (by decide) (by decide) rfl (by decide) D22
                    exact p_swO (tgt := 158) dX9_tape_38 (by
                        have c7' := lv_neT c7 (a := 0) (by decide)
                        have c8' := lv_neT c8 (a := 6) (by decide)
                        have c10' := lv_neT c10 (a := 7) (by decide)
                        have c12' := lv_neT c12 (a := 8) (by decide)
                        have c14' := lv_neT c14 (a := 9) (by decide)
                        have c16' := lv_neT c16 (a := 10) (by decide)
                        have e23' := lv_neT e23 (a := 1) (by decide)
                        have e24' := lv_neT e24 (a := 2) (by decide)
                        have e25' := lv_neT e25 (a := 3) (by decide)
                        have e26' := lv_neT e26 (a := 4) (by decide)
                        have e27' := lv_neT e27 (a := 5) (by decide)
                        omega) (by decide) D22
  · refine p_if (fun c28 => ?_) (fun c28 => ?_)
    · refine p_if_eq_t (tgt := 23) dX9_tape_6 (by decide) c28 ?_
      refine p_iconst (v := (1 : Int32)) kiconst_1 dX9_tape_23 rfl ?_
      exact J4 (1 : Int32)
    · refine p_if_eq_f (tgt := 23) dX9_tape_6 (by decide) rfl c28 ?_
      refine p_iload_n rfl dX9_tape_9 rfl ?_
      refine p_iconst (v := (0 : Int32)) kiconst_0 dX9_tape_10 rfl ?_
      refine p_bipush (v := (10 : Int32)) kbipush_10 dX9_tape_11 rfl ?_
      refine p_callSr (f := f9_in p2 (0 : Int32) (10 : Int32)) (st := [.ref 0]) [.int p2, .int (0 : Int32), .int (10 : Int32)] qRokM (m9_in l p2 (0 : Int32) (10 : Int32)) cal_RX9_76 rfl ⟨rfl, rfl⟩ ⟨Nat.le_of_ble_eq_true rfl, Nat.le_of_ble_eq_true rfl⟩ (Nat.le_of_ble_eq_true rfl) dX9_tape_13 rfl (fun z29 => ?_)
      refine p_if (fun c30 => ?_) (fun c30 => ?_)
      · refine p_if_eq_t (tgt := 23) dX9_tape_16 (by decide) c30 ?_
        refine p_iconst (v := (1 : Int32)) kiconst_1 dX9_tape_23 rfl ?_
        exact J4 (1 : Int32)
      · refine p_if_eq_f (tgt := 23) dX9_tape_16 (by decide) rfl c30 ?_
        refine p_iconst (v := (0 : Int32)) kiconst_0 dX9_tape_19 rfl ?_
        refine p_goto (tgt := 24) dX9_tape_20 (by decide) ?_
        exact J4 (0 : Int32)
