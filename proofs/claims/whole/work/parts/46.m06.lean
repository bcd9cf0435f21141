noncomputable def f9_rescuesNow_L9 (z1 : Int32) (k : Int32 → Int32 → qH → Option (Int32 × qH)) : Nat → Int32 → Int32 → qH → Option (Int32 × qH)
  | 0, _, _, _ => none
  | n + 1, x2, x3, h4 =>
    if (h4.1 0 12) ≤ x3 then (
      k x2 x3 h4)
    else (
      (f9_has z1 x3 h4).bind fun (z6 : Int32) =>
      qj (fun (x7 : Int32) (h8 : qH) =>
        qlt (x3 + (1 : Int32)) fun (x11 : Int32) =>
        f9_rescuesNow_L9 z1 k n x7 x11 h8) fun j9 =>
      if z6 = 0 then (
        j9 x2 h4)
      else (
        (f9_targetOf x3 h4).bind fun (z13 : Int32) =>
        if z13 = (-1 : Int32) then (
          j9 x2 h4)
        else (
          (f9_targetOf x3 h4).bind fun (z15 : Int32) =>
          qb2 (f9_copiesNow x3 z15 h4) fun (z16 : Int32) (h17 : qH) =>
          qlt (x2 + (1 : Int32)) fun (x18 : Int32) =>
          j9 x18 h17)))
set_option maxRecDepth 100000 in
set_option maxHeartbeats 4000000 in
theorem w9_rescuesNow_L9 (l : Launch) (h0 : qH) (z1 : Int32) {k : Int32 → Int32 → qH → Option (Int32 × qH)} (hk : ∀ (x2 : Int32) (x3 : Int32) (h4 : qH), PW UM ROM l R9_rescuesNow cX9_rescuesNow 4 (some .int) RX9 (qEw h0) 54 [some (.ref 0), some (.int z1), some (.int x2), some (.int x3)] [] h4 (k x2 x3 h4)) : ∀ (n : Nat) (x2 : Int32) (x3 : Int32) (h4 : qH), PW UM ROM l R9_rescuesNow cX9_rescuesNow 4 (some .int) RX9 (qEw h0) 9 [some (.ref 0), some (.int z1), some (.int x2), some (.int x3)] [] h4 (f9_rescuesNow_L9 z1 k n x2 x3 h4) := by
  intro n
  induction n with
  | zero => intro _ _ _; exact p_none
  | succ n ih =>
    intro x2 x3 h4
    unfold f9_rescuesNow_L9
    refine p_iload_n rfl dX9_rescuesNow_9 rfl ?_
    refine p_aload_n rfl dX9_rescuesNow_10 rfl ?_
    refine p_geti qg_RX9_153 uM_0 rfl dX9_rescuesNow_11 rfl ?_
    refine p_if (fun c5 => ?_) (fun c5 => ?_)
    · refine p_icmp_ge_t (tgt := 54) dX9_rescuesNow_14 (by decide) c5 ?_
      exact hk x2 x3 h4
    · refine p_icmp_ge_f (tgt := 54) dX9_rescuesNow_14 (by decide) rfl c5 ?_
      refine p_iload_n rfl dX9_rescuesNow_17 rfl ?_
      refine p_iload_n rfl dX9_rescuesNow_18 rfl ?_
      refine p_callSr (f := f9_has z1 x3) (st := []) [.int z1, .int x3] qRokM (m9_has l z1 x3) cal_RX9_111 rfl ⟨rfl, rfl⟩ ⟨Nat.le_of_ble_eq_true rfl, Nat.le_of_ble_eq_true rfl⟩ (Nat.le_of_ble_eq_true rfl) dX9_rescuesNow_19 rfl (fun z6 => ?_)
      refine p_jn (fun j9 => ∀ (x7 : Int32) (h8 : qH), PW UM ROM l R9_rescuesNow cX9_rescuesNow 4 (some .int) RX9 (qEw h0) 48 [some (.ref 0), some (.int z1), some (.int x7), some (.int x3)] [] h8 (j9 x7 h8)) (fun x7 h8 => ?_) (fun j9 J10 => ?_)
      · refine p_iiN (v := (1 : Int32)) (lf := fun x11 => [some (.ref 0), some (.int z1), some (.int x7), some (.int x11)]) kiconst_1 dX9_rescuesNow_48 rfl rfl rfl rfl (fun _ => rfl) (fun x11 => ?_)
        refine p_goto (tgt := 9) dX9_rescuesNow_51 (by decide) ?_
        exact ih x7 x11 h8
      · refine p_if (fun c12 => ?_) (fun c12 => ?_)
        · refine p_if_eq_t (tgt := 48) dX9_rescuesNow_22 (by decide) c12 ?_
          exact J10 x2 h4
        · refine p_if_eq_f (tgt := 48) dX9_rescuesNow_22 (by decide) rfl c12 ?_
          refine p_aload_n rfl dX9_rescuesNow_25 rfl ?_
          refine p_iload_n rfl dX9_rescuesNow_26 rfl ?_
          refine p_callVr (f := f9_targetOf x3) (st := []) [.int x3] qRokM (m9_targetOf l x3) cal_RX9_274 uM_0 rfl rfl ⟨rfl, rfl⟩ ⟨Nat.le_of_ble_eq_true rfl, Nat.le_of_ble_eq_true rfl⟩ (Nat.le_of_ble_eq_true rfl) dX9_rescuesNow_27 rfl (fun z13 => ?_)
          refine p_iconst (v := (-1 : Int32)) kiconst_m1 dX9_rescuesNow_30 rfl ?_
          refine p_if (fun c14 => ?_) (fun c14 => ?_)
          · refine p_icmp_eq_t (tgt := 48) dX9_rescuesNow_31 (by decide) c14 ?_
            exact J10 x2 h4
          · refine p_icmp_eq_f (tgt := 48) dX9_rescuesNow_31 (by decide) rfl c14 ?_
            refine p_aload_n rfl dX9_rescuesNow_34 rfl ?_
            refine p_iload_n rfl dX9_rescuesNow_35 rfl ?_
            refine p_aload_n rfl dX9_rescuesNow_36 rfl ?_
            refine p_iload_n rfl dX9_rescuesNow_37 rfl ?_
            refine p_callVr (f := f9_targetOf x3) (st := [.int x3, .ref 0]) [.int x3] qRokM (m9_targetOf l x3) cal_RX9_274 uM_0 rfl rfl ⟨rfl, rfl⟩ ⟨Nat.le_of_ble_eq_true rfl, Nat.le_of_ble_eq_true rfl⟩ (Nat.le_of_ble_eq_true rfl) dX9_rescuesNow_38 rfl (fun z15 => ?_)
            refine p_cVw (f := f9_copiesNow x3 z15) (st := []) [.int x3, .int z15] qRokM (m9_copiesNow l x3 z15) cal_RX9_277 uM_0 rfl rfl ⟨rfl, rfl⟩ ⟨Nat.le_of_ble_eq_true rfl, Nat.le_of_ble_eq_true rfl⟩ (Nat.le_of_ble_eq_true rfl) dX9_rescuesNow_41 rfl (fun z16 h17 => ?_)
            refine p_pop rfl dX9_rescuesNow_44 rfl ?_
            refine p_iiN (v := (1 : Int32)) (lf := fun x18 => [some (.ref 0), some (.int z1), some (.int x18), some (.int x3)]) kiconst_1 dX9_rescuesNow_45 rfl rfl rfl rfl (fun _ => rfl) (fun x18 => ?_)
            exact J10 x18 h17
noncomputable def f9_rescuesNow (h : qH) : Option (Int32 × qH) :=
  (f9_weakOnes h).bind fun (z1 : Int32) =>
  f9_rescuesNow_L9 z1 (fun (x19 : Int32) (x20 : Int32) (h21 : qH) =>
    some (x19, h21)) qN (0 : Int32) (0 : Int32) h
set_option maxRecDepth 100000 in
set_option maxHeartbeats 4000000 in
theorem m9_rescuesNow (l : Launch) : qMet UM ROM l yX9_rescuesNow (qws yX9_rescuesNow cX9_rescuesNow 4 (some .int)) R9_rescuesNow [.ref 0] f9_rescuesNow qEw := by
  refine q_met (own := RX9) 3 (by decide) rfl (Nat.le_of_ble_eq_true rfl) (ls := [some (.ref 0), none, none, none]) rfl fun h => ?_
  unfold f9_rescuesNow
  show PW UM ROM l R9_rescuesNow cX9_rescuesNow 4 (some .int) RX9 (qEw h) 0 [some (.ref 0), none, none, none] [] h _
  refine p_aload_n rfl dX9_rescuesNow_0 rfl ?_
  refine p_callVr (f := f9_weakOnes) (st := []) [] qRokM (m9_weakOnes l) cal_RX9_271 uM_0 rfl rfl ⟨rfl, rfl⟩ ⟨Nat.le_of_ble_eq_true rfl, Nat.le_of_ble_eq_true rfl⟩ (Nat.le_of_ble_eq_true rfl) dX9_rescuesNow_1 rfl (fun z1 => ?_)
  refine p_is_n (ls' := [some (.ref 0), some (.int z1), none, none]) dX9_rescuesNow_4 rfl rfl rfl rfl ?_
  refine p_iconst (v := (0 : Int32)) kiconst_0 dX9_rescuesNow_5 rfl ?_
  refine p_is_n (ls' := [some (.ref 0), some (.int z1), some (.int (0 : Int32)), none]) dX9_rescuesNow_6 rfl rfl rfl rfl ?_
  refine p_iconst (v := (0 : Int32)) kiconst_0 dX9_rescuesNow_7 rfl ?_
  refine p_is_n (ls' := [some (.ref 0), some (.int z1), some (.int (0 : Int32)), some (.int (0 : Int32))]) dX9_rescuesNow_8 rfl rfl rfl rfl ?_
  refine w9_rescuesNow_L9 l h z1 (fun x19 x20 h21 => ?_) qN _ _ _
  refine p_iload_n rfl dX9_rescuesNow_54 rfl ?_
  exact p_iret rfl rfl dX9_rescuesNow_55
noncomputable def f9_idleOnes_L4 (p1 : Int32) (h : qH) (k : Int32 → Int32 → Option (Int32)) : Nat → Int32 → Int32 → Option (Int32)
  | 0, _, _ => none
  | n + 1, x1, x2 =>
    if (h.1 0 12) ≤ x2 then (
      k x1 x2)
    else (
      (f9_isDriven x2 h).bind fun (z4 : Int32) =>
      qj (fun (x5 : Int32) =>
        qlt (x1 ||| x5) fun (x8 : Int32) =>
        qlt (x2 + (1 : Int32)) fun (x9 : Int32) =>
        f9_idleOnes_L4 p1 h k n x8 x9) fun j6 =>
      if z4 = 0 then (
        j6 (0 : Int32))
      else (
        qg (qin ((40 : Int32) + x2) 353) <|
        if (p1 - (h.1 9 (ix ((40 : Int32) + x2)))) ≤ (h.1 5 7) then (
          j6 (0 : Int32))
        else (
          j6 ((1 : Int32) <<< (x2 &&& 31)))))
set_option maxRecDepth 100000 in
set_option maxHeartbeats 4000000 in
theorem w9_idleOnes_L4 (l : Launch) (p1 : Int32) (h : qH) {k : Int32 → Int32 → Option (Int32)} (hk : ∀ (x1 : Int32) (x2 : Int32), PW UM ROM l R9_idleOnes cX9_idleOnes 4 (some .int) RX9 (qEr h) 57 [some (.ref 0), some (.int p1), some (.int x1), some (.int x2)] [] h (k x1 x2)) : ∀ (n : Nat) (x1 : Int32) (x2 : Int32), PW UM ROM l R9_idleOnes cX9_idleOnes 4 (some .int) RX9 (qEr h) 4 [some (.ref 0), some (.int p1), some (.int x1), some (.int x2)] [] h (f9_idleOnes_L4 p1 h k n x1 x2) := by
  intro n
  induction n with
  | zero => intro _ _; exact p_none
  | succ n ih =>
    intro x1 x2
    unfold f9_idleOnes_L4
    refine p_iload_n rfl dX9_idleOnes_4 rfl ?_
    refine p_aload_n rfl dX9_idleOnes_5 rfl ?_
    refine p_geti qg_RX9_153 uM_0 rfl dX9_idleOnes_6 rfl ?_
    refine p_if (fun c3 => ?_) (fun c3 => ?_)
    · refine p_icmp_ge_t (tgt := 57) dX9_idleOnes_9 (by decide) c3 ?_
      exact hk x1 x2
    · refine p_icmp_ge_f (tgt := 57) dX9_idleOnes_9 (by decide) rfl c3 ?_
      refine p_iload_n rfl dX9_idleOnes_12 rfl ?_
      refine p_aload_n rfl dX9_idleOnes_13 rfl ?_
      refine p_iload_n rfl dX9_idleOnes_14 rfl ?_
      refine p_callVr (f := f9_isDriven x2) (st := [.int x1]) [.int x2] qRokM (m9_isDriven l x2) cal_RX9_209 uM_0 rfl rfl ⟨rfl, rfl⟩ ⟨Nat.le_of_ble_eq_true rfl, Nat.le_of_ble_eq_true rfl⟩ (Nat.le_of_ble_eq_true rfl) dX9_idleOnes_15 rfl (fun z4 => ?_)
      refine p_jn (fun j6 => ∀ (x5 : Int32), PW UM ROM l R9_idleOnes cX9_idleOnes 4 (some .int) RX9 (qEr h) 49 [some (.ref 0), some (.int p1), some (.int x1), some (.int x2)] [.int x5, .int x1] h (j6 x5)) (fun x5 => ?_) (fun j6 J7 => ?_)
      · refine p_ior dX9_idleOnes_49 rfl ?_
        refine p_isN_n (lf := fun x8 => [some (.ref 0), some (.int p1), some (.int x8), some (.int x2)]) dX9_idleOnes_50 rfl rfl rfl (fun _ => rfl) (fun x8 => ?_)
        refine p_iiN (v := (1 : Int32)) (lf := fun x9 => [some (.ref 0), some (.int p1), some (.int x8), some (.int x9)]) kiconst_1 dX9_idleOnes_51 rfl rfl rfl rfl (fun _ => rfl) (fun x9 => ?_)
        refine p_goto (tgt := 4) dX9_idleOnes_54 (by decide) ?_
        exact ih x8 x9
      · refine p_if (fun c10 => ?_) (fun c10 => ?_)
        · refine p_if_eq_t (tgt := 48) dX9_idleOnes_18 (by decide) c10 ?_
          refine p_iconst (v := (0 : Int32)) kiconst_0 dX9_idleOnes_48 rfl ?_
          exact J7 (0 : Int32)
        · refine p_if_eq_f (tgt := 48) dX9_idleOnes_18 (by decide) rfl c10 ?_
          refine p_iload_n rfl dX9_idleOnes_21 rfl ?_
          refine p_aload_n rfl dX9_idleOnes_22 rfl ?_
          refine p_getr qg_RX9_34 uM_0 rfl dX9_idleOnes_23 rfl ?_
          refine p_bipush (v := (40 : Int32)) kbipush_40 dX9_idleOnes_26 rfl ?_
          refine p_iload_n rfl dX9_idleOnes_28 rfl ?_
          refine p_iadd dX9_idleOnes_29 rfl ?_
          refine p_iald uM_9 dX9_idleOnes_30 rfl (fun _ => ?_)
          refine p_isub dX9_idleOnes_31 rfl ?_
          refine p_aload_n rfl dX9_idleOnes_32 rfl ?_
          refine p_getr qg_RX9_22 uM_0 rfl dX9_idleOnes_33 rfl ?_
          refine p_bipush (v := (7 : Int32)) kbipush_7 dX9_idleOnes_36 rfl ?_
          refine p_ialdK uM_5 kix_7 kqin_7_8 dX9_idleOnes_38 rfl ?_
          refine p_if (fun c11 => ?_) (fun c11 => ?_)
          · refine p_icmp_le_t (tgt := 48) dX9_idleOnes_39 (by decide) c11 ?_
            refine p_iconst (v := (0 : Int32)) kiconst_0 dX9_idleOnes_48 rfl ?_
            exact J7 (0 : Int32)
          · refine p_icmp_le_f (tgt := 48) dX9_idleOnes_39 (by decide) rfl c11 ?_
            refine p_iconst (v := (1 : Int32)) kiconst_1 dX9_idleOnes_42 rfl ?_
            refine p_iload_n rfl dX9_idleOnes_43 rfl ?_
            refine p_ishl dX9_idleOnes_44 rfl ?_
            refine p_goto (tgt := 49) dX9_idleOnes_45 (by decide) ?_
            exact J7 ((1 : Int32) <<< (x2 &&& 31))
noncomputable def f9_idleOnes (p1 : Int32) (h : qH) : Option (Int32) :=
  f9_idleOnes_L4 p1 h (fun (x12 : Int32) (x13 : Int32) =>
    some x12) qN (0 : Int32) (0 : Int32)
set_option maxRecDepth 100000 in
set_option maxHeartbeats 4000000 in
theorem m9_idleOnes (l : Launch) (p1 : Int32) : qMet UM ROM l yX9_idleOnes (qws yX9_idleOnes cX9_idleOnes 4 (some .int)) R9_idleOnes [.ref 0, .int p1] (f9_idleOnes p1) qEr := by
  refine q_met (own := RX9) 2 (by decide) rfl (Nat.le_of_ble_eq_true rfl) (ls := [some (.ref 0), some (.int p1), none, none]) rfl fun h => ?_
  unfold f9_idleOnes
  refine p_iconst (v := (0 : Int32)) kiconst_0 dX9_idleOnes_0 rfl ?_
  refine p_is_n (ls' := [some (.ref 0), some (.int p1), some (.int (0 : Int32)), none]) dX9_idleOnes_1 rfl rfl rfl rfl ?_
  refine p_iconst (v := (0 : Int32)) kiconst_0 dX9_idleOnes_2 rfl ?_
  refine p_is_n (ls' := [some (.ref 0), some (.int p1), some (.int (0 : Int32)), some (.int (0 : Int32))]) dX9_idleOnes_3 rfl rfl rfl rfl ?_
  refine w9_idleOnes_L4 l p1 h (fun x12 x13 => ?_) qN _ _
  refine p_iload_n rfl dX9_idleOnes_57 rfl ?_
  exact p_iret rfl rfl dX9_idleOnes_58
noncomputable def f9_pausesNow_L27 (z2 : Int32) (k : Int32 → qH → Option (Int32 × qH)) : Nat → Int32 → qH → Option (Int32 × qH)
  | 0, _, _ => none
  | n + 1, x3, h4 =>
    if (h4.1 0 12) ≤ x3 then (
      k x3 h4)
    else (
      (f9_has z2 x3 h4).bind fun (z6 : Int32) =>
      qj (fun (h7 : qH) =>
        qlt (x3 + (1 : Int32)) fun (x10 : Int32) =>
        f9_pausesNow_L27 z2 k n x10 h7) fun j8 =>
      if z6 = 0 then (
        j8 h4)
      else (
        (f9_unmounts x3 h4).bind fun (h12 : qH) =>
        j8 h12))
set_option maxRecDepth 100000 in
set_option maxHeartbeats 4000000 in
theorem w9_pausesNow_L27 (l : Launch) (h0 : qH) (z2 : Int32) {k : Int32 → qH → Option (Int32 × qH)} (hk : ∀ (x3 : Int32) (h4 : qH), PW UM ROM l R9_pausesNow cX9_pausesNow 4 (some .int) RX9 (qEw h0) 54 [some (.ref 0), none, some (.int z2), some (.int x3)] [] h4 (k x3 h4)) : ∀ (n : Nat) (x3 : Int32) (h4 : qH), PW UM ROM l R9_pausesNow cX9_pausesNow 4 (some .int) RX9 (qEw h0) 27 [some (.ref 0), none, some (.int z2), some (.int x3)] [] h4 (f9_pausesNow_L27 z2 k n x3 h4) := by
  intro n
  induction n with
  | zero => intro _ _; exact p_none
  | succ n ih =>
    intro x3 h4
    unfold f9_pausesNow_L27
    refine p_iload_n rfl dX9_pausesNow_27 rfl ?_
    refine p_aload_n rfl dX9_pausesNow_28 rfl ?_
    refine p_geti qg_RX9_153 uM_0 rfl dX9_pausesNow_29 rfl ?_
    refine p_if (fun c5 => ?_) (fun c5 => ?_)
    · refine p_icmp_ge_t (tgt := 54) dX9_pausesNow_32 (by decide) c5 ?_
      exact hk x3 h4
    · refine p_icmp_ge_f (tgt := 54) dX9_pausesNow_32 (by decide) rfl c5 ?_
      refine p_iload_n rfl dX9_pausesNow_35 rfl ?_
      refine p_iload_n rfl dX9_pausesNow_36 rfl ?_
      refine p_callSr (f := f9_has z2 x3) (st := []) [.int z2, .int x3] qRokM (m9_has l z2 x3) cal_RX9_111 rfl ⟨rfl, rfl⟩ ⟨Nat.le_of_ble_eq_true rfl, Nat.le_of_ble_eq_true rfl⟩ (Nat.le_of_ble_eq_true rfl) dX9_pausesNow_37 rfl (fun z6 => ?_)
      refine p_jn (fun j8 => ∀ (h7 : qH), PW UM ROM l R9_pausesNow cX9_pausesNow 4 (some .int) RX9 (qEw h0) 48 [some (.ref 0), none, some (.int z2), some (.int x3)] [] h7 (j8 h7)) (fun h7 => ?_) (fun j8 J9 => ?_)
      · refine p_iiN (v := (1 : Int32)) (lf := fun x10 => [some (.ref 0), none, some (.int z2), some (.int x10)]) kiconst_1 dX9_pausesNow_48 rfl rfl rfl rfl (fun _ => rfl) (fun x10 => ?_)
        refine p_goto (tgt := 27) dX9_pausesNow_51 (by decide) ?_
        exact ih x10 h7
      · refine p_if (fun c11 => ?_) (fun c11 => ?_)
        · refine p_if_eq_t (tgt := 48) dX9_pausesNow_40 (by decide) c11 ?_
          exact J9 h4
        · refine p_if_eq_f (tgt := 48) dX9_pausesNow_40 (by decide) rfl c11 ?_
          refine p_aload_n rfl dX9_pausesNow_43 rfl ?_
          refine p_iload_n rfl dX9_pausesNow_44 rfl ?_
          refine p_callVv (f := f9_unmounts x3) (st := []) [.int x3] qRokM (m9_unmounts l x3) cal_RX9_218 uM_0 rfl rfl ⟨rfl, rfl⟩ ⟨Nat.le_of_ble_eq_true rfl, Nat.le_of_ble_eq_true rfl⟩ (Nat.le_of_ble_eq_true rfl) dX9_pausesNow_45 rfl (fun h12 => ?_)
          exact J9 h12
noncomputable def f9_pausesNow (p1 : Int32) (h : qH) : Option (Int32 × qH) :=
  qlt (qw h 9 170 ((h.1 9 170) + p1)) fun (h1 : qH) =>
  (f9_idleOnes (h1.1 9 170) h1).bind fun (z2 : Int32) =>
  f9_pausesNow_L27 z2 (fun (x13 : Int32) (h14 : qH) =>
    (f9_bits z2 h14).bind fun (z15 : Int32) =>
    some (z15, h14)) qN (0 : Int32) h1
set_option maxRecDepth 100000 in
set_option maxHeartbeats 4000000 in
theorem m9_pausesNow (l : Launch) (p1 : Int32) : qMet UM ROM l yX9_pausesNow (qws yX9_pausesNow cX9_pausesNow 4 (some .int)) R9_pausesNow [.ref 0, .int p1] (f9_pausesNow p1) qEw := by
  refine q_met (own := RX9) 2 (by decide) rfl (Nat.le_of_ble_eq_true rfl) (ls := [some (.ref 0), some (.int p1), none, none]) rfl fun h => ?_
  unfold f9_pausesNow
  show PW UM ROM l R9_pausesNow cX9_pausesNow 4 (some .int) RX9 (qEw h) 0 [some (.ref 0), some (.int p1), none, none] [] h _
  refine p_aload_n rfl dX9_pausesNow_0 rfl ?_
  refine p_getr qg_RX9_34 uM_0 rfl dX9_pausesNow_1 rfl ?_
  refine p_sipush (v := (170 : Int32)) ksipush_170 dX9_pausesNow_4 rfl ?_
  refine p_dup2 rfl rfl dX9_pausesNow_7 rfl ?_
  refine p_ialdK uM_9 kix_170 kqin_170_353 dX9_pausesNow_8 rfl ?_
  refine p_iload_n rfl dX9_pausesNow_9 rfl ?_
  refine p_iadd dX9_pausesNow_10 rfl ?_
  refine p_iastK qokM uM_9 kix_170 kqin_170_353 dX9_pausesNow_11 rfl ?_
  refine p_nmH (fun h1 => ?_)
  refine p_aload_n rfl dX9_pausesNow_12 rfl ?_
  refine p_aload_n rfl dX9_pausesNow_13 rfl ?_
  refine p_getr qg_RX9_34 uM_0 rfl dX9_pausesNow_14 rfl ?_
  refine p_sipush (v := (170 : Int32)) ksipush_170 dX9_pausesNow_17 rfl ?_
  refine p_ialdK uM_9 kix_170 kqin_170_353 dX9_pausesNow_20 rfl ?_
  refine p_callVr (f := f9_idleOnes (h1.1 9 170)) (st := []) [.int (h1.1 9 170)] qRokM (m9_idleOnes l (h1.1 9 170)) cal_RX9_280 uM_0 rfl rfl ⟨rfl, rfl⟩ ⟨Nat.le_of_ble_eq_true rfl, Nat.le_of_ble_eq_true rfl⟩ (Nat.le_of_ble_eq_true rfl) dX9_pausesNow_21 rfl (fun z2 => ?_)
  refine p_is_n (ls' := [some (.ref 0), some (.int p1), some (.int z2), none]) dX9_pausesNow_24 rfl rfl rfl rfl ?_
  refine p_iconst (v := (0 : Int32)) kiconst_0 dX9_pausesNow_25 rfl ?_
  refine p_is_n (ls' := [some (.ref 0), some (.int p1), some (.int z2), some (.int (0 : Int32))]) dX9_pausesNow_26 rfl rfl rfl rfl ?_
  refine p_wk (ls' := [some (.ref 0), none, some (.int z2), some (.int (0 : Int32))]) ⟨rfl, rfl, rfl, trivial⟩ ?_
  refine w9_pausesNow_L27 l h z2 (fun x13 h14 => ?_) qN _ _
  refine p_iload_n rfl dX9_pausesNow_54 rfl ?_
  refine p_callSr (f := f9_bits z2) (st := []) [.int z2] qRokM (m9_bits l z2) cal_RX9_283 rfl ⟨rfl, rfl⟩ ⟨Nat.le_of_ble_eq_true rfl, Nat.le_of_ble_eq_true rfl⟩ (Nat.le_of_ble_eq_true rfl) dX9_pausesNow_55 rfl (fun z15 => ?_)
  exact p_iret rfl rfl dX9_pausesNow_58
noncomputable def f9_knownMany_L4 (h : qH) (k : Int32 → Int32 → Option (Int32)) : Nat → Int32 → Int32 → Option (Int32)
  | 0, _, _ => none
  | n + 1, x1, x2 =>
    if (h.1 9 168) ≤ x2 then (
      k x1 x2)
    else (
      qg (qin ((48 : Int32) + x2) 353) <|
      qj (fun (x4 : Int32) =>
        qlt (x1 + x4) fun (x7 : Int32) =>
        qlt (x2 + (1 : Int32)) fun (x8 : Int32) =>
        f9_knownMany_L4 h k n x7 x8) fun j5 =>
      if (h.1 9 (ix ((48 : Int32) + x2))) = (-1 : Int32) then (
        j5 (0 : Int32))
      else (
        qg (qin ((120 : Int32) + x2) 353) <|
        if (h.1 9 (ix ((120 : Int32) + x2))) = (1 : Int32) then (
          j5 (1 : Int32))
        else (
          j5 (0 : Int32))))
set_option maxRecDepth 100000 in
set_option maxHeartbeats 4000000 in
theorem w9_knownMany_L4 (l : Launch) (h : qH) {k : Int32 → Int32 → Option (Int32)} (hk : ∀ (x1 : Int32) (x2 : Int32), PW UM ROM l R9_knownMany cX9_knownMany 3 (some .int) RX9 (qEr h) 56 [some (.ref 0), some (.int x1), some (.int x2)] [] h (k x1 x2)) : ∀ (n : Nat) (x1 : Int32) (x2 : Int32), PW UM ROM l R9_knownMany cX9_knownMany 3 (some .int) RX9 (qEr h) 4 [some (.ref 0), some (.int x1), some (.int x2)] [] h (f9_knownMany_L4 h k n x1 x2) := by
  intro n
  induction n with
  | zero => intro _ _; exact p_none
  | succ n ih =>
    intro x1 x2
    unfold f9_knownMany_L4
    refine p_iload_n rfl dX9_knownMany_4 rfl ?_
    refine p_aload_n rfl dX9_knownMany_5 rfl ?_
    refine p_getr qg_RX9_34 uM_0 rfl dX9_knownMany_6 rfl ?_
    refine p_sipush (v := (168 : Int32)) ksipush_168 dX9_knownMany_9 rfl ?_
    refine p_ialdK uM_9 kix_168 kqin_168_353 dX9_knownMany_12 rfl ?_
    refine p_if (fun c3 => ?_) (fun c3 => ?_)
    · refine p_icmp_ge_t (tgt := 56) dX9_knownMany_13 (by decide) c3 ?_
      exact hk x1 x2
    · refine p_icmp_ge_f (tgt := 56) dX9_knownMany_13 (by decide) rfl c3 ?_
      refine p_iload_n rfl dX9_knownMany_16 rfl ?_
      refine p_aload_n rfl dX9_knownMany_17 rfl ?_
      refine p_getr qg_RX9_34 uM_0 rfl dX9_knownMany_18 rfl ?_
      refine p_bipush (v := (48 : Int32)) kbipush_48 dX9_knownMany_21 rfl ?_
      refine p_iload_n rfl dX9_knownMany_23 rfl ?_
      refine p_iadd dX9_knownMany_24 rfl ?_
      refine p_iald uM_9 dX9_knownMany_25 rfl (fun _ => ?_)
      refine p_iconst (v := (-1 : Int32)) kiconst_m1 dX9_knownMany_26 rfl ?_
      refine p_jn (fun j5 => ∀ (x4 : Int32), PW UM ROM l R9_knownMany cX9_knownMany 3 (some .int) RX9 (qEr h) 48 [some (.ref 0), some (.int x1), some (.int x2)] [.int x4, .int x1] h (j5 x4)) (fun x4 => ?_) (fun j5 J6 => ?_)
      · refine p_iadd dX9_knownMany_48 rfl ?_
        refine p_isN_n (lf := fun x7 => [some (.ref 0), some (.int x7), some (.int x2)]) dX9_knownMany_49 rfl rfl rfl (fun _ => rfl) (fun x7 => ?_)
        refine p_iiN (v := (1 : Int32)) (lf := fun x8 => [some (.ref 0), some (.int x7), some (.int x8)]) kiconst_1 dX9_knownMany_50 rfl rfl rfl rfl (fun _ => rfl) (fun x8 => ?_)
        refine p_goto (tgt := 4) dX9_knownMany_53 (by decide) ?_
        exact ih x7 x8
      · refine p_if (fun c9 => ?_) (fun c9 => ?_)
        · refine p_icmp_eq_t (tgt := 47) dX9_knownMany_27 (by decide) c9 ?_
          refine p_iconst (v := (0 : Int32)) kiconst_0 dX9_knownMany_47 rfl ?_
          exact J6 (0 : Int32)
        · refine p_icmp_eq_f (tgt := 47) dX9_knownMany_27 (by decide) rfl c9 ?_
          refine p_aload_n rfl dX9_knownMany_30 rfl ?_
          refine p_getr qg_RX9_34 uM_0 rfl dX9_knownMany_31 rfl ?_
          refine p_bipush (v := (120 : Int32)) kbipush_120 dX9_knownMany_34 rfl ?_
          refine p_iload_n rfl dX9_knownMany_36 rfl ?_
          refine p_iadd dX9_knownMany_37 rfl ?_
          refine p_iald uM_9 dX9_knownMany_38 rfl (fun _ => ?_)
          refine p_iconst (v := (1 : Int32)) kiconst_1 dX9_knownMany_39 rfl ?_
          refine p_if (fun c10 => ?_) (fun c10 => ?_)
          · refine p_icmp_ne_f (tgt := 47) dX9_knownMany_40 (by decide) rfl c10 ?_
            refine p_iconst (v := (1 : Int32)) kiconst_1 dX9_knownMany_43 rfl ?_
            refine p_goto (tgt := 48) dX9_knownMany_44 (by decide) ?_
            exact J6 (1 : Int32)
          · refine p_icmp_ne_t (tgt := 47) dX9_knownMany_40 (by decide) c10 ?_
            refine p_iconst (v := (0 : Int32)) kiconst_0 dX9_knownMany_47 rfl ?_
            exact J6 (0 : Int32)
noncomputable def f9_knownMany (h : qH) : Option (Int32) :=
  f9_knownMany_L4 h (fun (x11 : Int32) (x12 : Int32) =>
    some x11) qN (0 : Int32) (0 : Int32)
set_option maxRecDepth 100000 in
set_option maxHeartbeats 4000000 in
theorem m9_knownMany (l : Launch) : qMet UM ROM l yX9_knownMany (qws yX9_knownMany cX9_knownMany 3 (some .int)) R9_knownMany [.ref 0] f9_knownMany qEr := by
  refine q_met (own := RX9) 2 (by decide) rfl (Nat.le_of_ble_eq_true rfl) (ls := [some (.ref 0), none, none]) rfl fun h => ?_
  unfold f9_knownMany
  refine p_iconst (v := (0 : Int32)) kiconst_0 dX9_knownMany_0 rfl ?_
  refine p_is_n (ls' := [some (.ref 0), some (.int (0 : Int32)), none]) dX9_knownMany_1 rfl rfl rfl rfl ?_
  refine p_iconst (v := (0 : Int32)) kiconst_0 dX9_knownMany_2 rfl ?_
  refine p_is_n (ls' := [some (.ref 0), some (.int (0 : Int32)), some (.int (0 : Int32))]) dX9_knownMany_3 rfl rfl rfl rfl ?_
  refine w9_knownMany_L4 l h (fun x11 x12 => ?_) qN _ _
  refine p_iload_n rfl dX9_knownMany_56 rfl ?_
  exact p_iret rfl rfl dX9_knownMany_57
noncomputable def f9_losesNow_L7 (z1 : Int32) (k : Int32 → qH → Option (Int32 × qH)) : Nat → Int32 → qH → Option (Int32 × qH)
  | 0, _, _ => none
  | n + 1, x2, h3 =>
    if (h3.1 9 168) ≤ x2 then (
      k x2 h3)
    else (
      qg (qin ((120 : Int32) + x2) 353) <|
      qlt (qw h3 9 (ix ((120 : Int32) + x2)) (0 : Int32)) fun (h5 : qH) =>
      qg (qin ((144 : Int32) + x2) 353) <|
      qlt (qw h5 9 (ix ((144 : Int32) + x2)) (0 : Int32)) fun (h6 : qH) =>
      qlt (x2 + (1 : Int32)) fun (x7 : Int32) =>
      f9_losesNow_L7 z1 k n x7 h6)
set_option maxRecDepth 100000 in
set_option maxHeartbeats 4000000 in
theorem w9_losesNow_L7 (l : Launch) (h0 : qH) (z1 : Int32) {k : Int32 → qH → Option (Int32 × qH)} (hk : ∀ (x2 : Int32) (h3 : qH), PW UM ROM l R9_losesNow cX9_losesNow 3 (some .int) RX9 (qEw h0) 46 [some (.ref 0), some (.int z1), some (.int x2)] [] h3 (k x2 h3)) : ∀ (n : Nat) (x2 : Int32) (h3 : qH), PW UM ROM l R9_losesNow cX9_losesNow 3 (some .int) RX9 (qEw h0) 7 [some (.ref 0), some (.int z1), some (.int x2)] [] h3 (f9_losesNow_L7 z1 k n x2 h3) := by
  intro n
  induction n with
  | zero => intro _ _; exact p_none
  | succ n ih =>
    intro x2 h3
    unfold f9_losesNow_L7
    refine p_iload_n rfl dX9_losesNow_7 rfl ?_
    refine p_aload_n rfl dX9_losesNow_8 rfl ?_
    refine p_getr qg_RX9_34 uM_0 rfl dX9_losesNow_9 rfl ?_
    refine p_sipush (v := (168 : Int32)) ksipush_168 dX9_losesNow_12 rfl ?_
    refine p_ialdK uM_9 kix_168 kqin_168_353 dX9_losesNow_15 rfl ?_
    refine p_if (fun c4 => ?_) (fun c4 => ?_)
    · refine p_icmp_ge_t (tgt := 46) dX9_losesNow_16 (by decide) c4 ?_
      exact hk x2 h3
    · refine p_icmp_ge_f (tgt := 46) dX9_losesNow_16 (by decide) rfl c4 ?_
      refine p_aload_n rfl dX9_losesNow_19 rfl ?_
      refine p_getr qg_RX9_34 uM_0 rfl dX9_losesNow_20 rfl ?_
      refine p_bipush (v := (120 : Int32)) kbipush_120 dX9_losesNow_23 rfl ?_
      refine p_iload_n rfl dX9_losesNow_25 rfl ?_
      refine p_iadd dX9_losesNow_26 rfl ?_
      refine p_iconst (v := (0 : Int32)) kiconst_0 dX9_losesNow_27 rfl ?_
      refine p_iast qokM uM_9 dX9_losesNow_28 rfl (fun _ => ?_)
      refine p_nmH (fun h5 => ?_)
      refine p_aload_n rfl dX9_losesNow_29 rfl ?_
      refine p_getr qg_RX9_34 uM_0 rfl dX9_losesNow_30 rfl ?_
      refine p_sipush (v := (144 : Int32)) ksipush_144 dX9_losesNow_33 rfl ?_
      refine p_iload_n rfl dX9_losesNow_36 rfl ?_
      refine p_iadd dX9_losesNow_37 rfl ?_
      refine p_iconst (v := (0 : Int32)) kiconst_0 dX9_losesNow_38 rfl ?_
      refine p_iast qokM uM_9 dX9_losesNow_39 rfl (fun _ => ?_)
      refine p_nmH (fun h6 => ?_)
      refine p_iiN (v := (1 : Int32)) (lf := fun x7 => [some (.ref 0), some (.int z1), some (.int x7)]) kiconst_1 dX9_losesNow_40 rfl rfl rfl rfl (fun _ => rfl) (fun x7 => ?_)
      refine p_goto (tgt := 7) dX9_losesNow_43 (by decide) ?_
      exact ih x7 h6
noncomputable def f9_losesNow (h : qH) : Option (Int32 × qH) :=
  (f9_knownMany h).bind fun (z1 : Int32) =>
  f9_losesNow_L7 z1 (fun (x8 : Int32) (h9 : qH) =>
    some (z1, h9)) qN (0 : Int32) h
set_option maxRecDepth 100000 in
set_option maxHeartbeats 4000000 in
theorem m9_losesNow (l : Launch) : qMet UM ROM l yX9_losesNow (qws yX9_losesNow cX9_losesNow 3 (some .int)) R9_losesNow [.ref 0] f9_losesNow qEw := by
  refine q_met (own := RX9) 2 (by decide) rfl (Nat.le_of_ble_eq_true rfl) (ls := [some (.ref 0), none, none]) rfl fun h => ?_
  unfold f9_losesNow
  show PW UM ROM l R9_losesNow cX9_losesNow 3 (some .int) RX9 (qEw h) 0 [some (.ref 0), none, none] [] h _
  refine p_aload_n rfl dX9_losesNow_0 rfl ?_
  refine p_callVr (f := f9_knownMany) (st := []) [] qRokM (m9_knownMany l) cal_RX9_286 uM_0 rfl rfl ⟨rfl, rfl⟩ ⟨Nat.le_of_ble_eq_true rfl, Nat.le_of_ble_eq_true rfl⟩ (Nat.le_of_ble_eq_true rfl) dX9_losesNow_1 rfl (fun z1 => ?_)
  refine p_is_n (ls' := [some (.ref 0), some (.int z1), none]) dX9_losesNow_4 rfl rfl rfl rfl ?_
  refine p_iconst (v := (0 : Int32)) kiconst_0 dX9_losesNow_5 rfl ?_
  refine p_is_n (ls' := [some (.ref 0), some (.int z1), some (.int (0 : Int32))]) dX9_losesNow_6 rfl rfl rfl rfl ?_
  refine w9_losesNow_L7 l h z1 (fun x8 h9 => ?_) qN _ _
  refine p_iload_n rfl dX9_losesNow_46 rfl ?_
  exact p_iret rfl rfl dX9_losesNow_47
noncomputable def f9_scansNow_L36 (p1 : Int32) (k : Int32 → Int32 → qH → Option (Int32 × qH)) : Nat → Int32 → Int32 → qH → Option (Int32 × qH)
  | 0, _, _, _ => none
  | n + 1, x5, x6, h7 =>
    if (h7.1 9 168) ≤ x6 then (
      k x5 x6 h7)
    else (
      (f9_isOn x6 p1 h7).bind fun (z9 : Int32) =>
      qj (fun (x10 : Int32) (h11 : qH) =>
        qlt (x6 + (1 : Int32)) fun (x14 : Int32) =>
        f9_scansNow_L36 p1 k n x10 x14 h11) fun j12 =>
      if z9 = 0 then (
        j12 x5 h7)
      else (
        qg (qin ((120 : Int32) + x6) 353) <|
        qlt (x5 + ((1 : Int32) - (h7.1 9 (ix ((120 : Int32) + x6))))) fun (x16 : Int32) =>
        qg (qin ((120 : Int32) + x6) 353) <|
        qlt (qw h7 9 (ix ((120 : Int32) + x6)) (1 : Int32)) fun (h17 : qH) =>
        j12 x16 h17))
set_option maxRecDepth 100000 in
set_option maxHeartbeats 4000000 in
theorem w9_scansNow_L36 (l : Launch) (h0 : qH) (p1 : Int32) {k : Int32 → Int32 → qH → Option (Int32 × qH)} (hk : ∀ (x5 : Int32) (x6 : Int32) (h7 : qH), PW UM ROM l R9_scansNow cX9_scansNow 4 (some .int) RX9 (qEw h0) 87 [some (.ref 0), some (.int p1), some (.int x5), some (.int x6)] [] h7 (k x5 x6 h7)) : ∀ (n : Nat) (x5 : Int32) (x6 : Int32) (h7 : qH), PW UM ROM l R9_scansNow cX9_scansNow 4 (some .int) RX9 (qEw h0) 36 [some (.ref 0), some (.int p1), some (.int x5), some (.int x6)] [] h7 (f9_scansNow_L36 p1 k n x5 x6 h7) := by
  intro n
  induction n with
  | zero => intro _ _ _; exact p_none
  | succ n ih =>
    intro x5 x6 h7
    unfold f9_scansNow_L36
    refine p_iload_n rfl dX9_scansNow_36 rfl ?_
    refine p_aload_n rfl dX9_scansNow_37 rfl ?_
    refine p_getr qg_RX9_34 uM_0 rfl dX9_scansNow_38 rfl ?_
    refine p_sipush (v := (168 : Int32)) ksipush_168 dX9_scansNow_41 rfl ?_
    refine p_ialdK uM_9 kix_168 kqin_168_353 dX9_scansNow_44 rfl ?_
    refine p_if (fun c8 => ?_) (fun c8 => ?_)
    · refine p_icmp_ge_t (tgt := 87) dX9_scansNow_45 (by decide) c8 ?_
      exact hk x5 x6 h7
    · refine p_icmp_ge_f (tgt := 87) dX9_scansNow_45 (by decide) rfl c8 ?_
      refine p_aload_n rfl dX9_scansNow_48 rfl ?_
      refine p_iload_n rfl dX9_scansNow_49 rfl ?_
      refine p_iload_n rfl dX9_scansNow_50 rfl ?_
      refine p_callVr (f := f9_isOn x6 p1) (st := []) [.int x6, .int p1] qRokM (m9_isOn l x6 p1) cal_RX9_163 uM_0 rfl rfl ⟨rfl, rfl⟩ ⟨Nat.le_of_ble_eq_true rfl, Nat.le_of_ble_eq_true rfl⟩ (Nat.le_of_ble_eq_true rfl) dX9_scansNow_51 rfl (fun z9 => ?_)
      refine p_jn (fun j12 => ∀ (x10 : Int32) (h11 : qH), PW UM ROM l R9_scansNow cX9_scansNow 4 (some .int) RX9 (qEw h0) 81 [some (.ref 0), some (.int p1), some (.int x10), some (.int x6)] [] h11 (j12 x10 h11)) (fun x10 h11 => ?_) (fun j12 J13 => ?_)
      · refine p_iiN (v := (1 : Int32)) (lf := fun x14 => [some (.ref 0), some (.int p1), some (.int x10), some (.int x14)]) kiconst_1 dX9_scansNow_81 rfl rfl rfl rfl (fun _ => rfl) (fun x14 => ?_)
        refine p_goto (tgt := 36) dX9_scansNow_84 (by decide) ?_
        exact ih x10 x14 h11
      · refine p_if (fun c15 => ?_) (fun c15 => ?_)
        · refine p_if_eq_t (tgt := 81) dX9_scansNow_54 (by decide) c15 ?_
          exact J13 x5 h7
        · refine p_if_eq_f (tgt := 81) dX9_scansNow_54 (by decide) rfl c15 ?_
          refine p_iload_n rfl dX9_scansNow_57 rfl ?_
          refine p_iconst (v := (1 : Int32)) kiconst_1 dX9_scansNow_58 rfl ?_
          refine p_aload_n rfl dX9_scansNow_59 rfl ?_
          refine p_getr qg_RX9_34 uM_0 rfl dX9_scansNow_60 rfl ?_
          refine p_bipush (v := (120 : Int32)) kbipush_120 dX9_scansNow_63 rfl ?_
          refine p_iload_n rfl dX9_scansNow_65 rfl ?_
          refine p_iadd dX9_scansNow_66 rfl ?_
          refine p_iald uM_9 dX9_scansNow_67 rfl (fun _ => ?_)
          refine p_isub dX9_scansNow_68 rfl ?_
          refine p_iadd dX9_scansNow_69 rfl ?_
          refine p_isN_n (lf := fun x16 => [some (.ref 0), some (.int p1), some (.int x16), some (.int x6)]) dX9_scansNow_70 rfl rfl rfl (fun _ => rfl) (fun x16 => ?_)
          refine p_aload_n rfl dX9_scansNow_71 rfl ?_
          refine p_getr qg_RX9_34 uM_0 rfl dX9_scansNow_72 rfl ?_
          refine p_bipush (v := (120 : Int32)) kbipush_120 dX9_scansNow_75 rfl ?_
          refine p_iload_n rfl dX9_scansNow_77 rfl ?_
          refine p_iadd dX9_scansNow_78 rfl ?_
          refine p_iconst (v := (1 : Int32)) kiconst_1 dX9_scansNow_79 rfl ?_
          refine p_iast qokM uM_9 dX9_scansNow_80 rfl (fun _ => ?_)
          refine p_nmH (fun h17 => ?_)
          exact J13 x16 h17
noncomputable def f9_scansNow (p1 : Int32) (h : qH) : Option (Int32 × qH) :=
  (f9_brings p1 h).bind fun (h1 : qH) =>
  qg (qin ((16 : Int32) + p1) 353) <|
  qj (fun (h2 : qH) =>
    f9_scansNow_L36 p1 (fun (x18 : Int32) (x19 : Int32) (h20 : qH) =>
      some (x18, h20)) qN (0 : Int32) (0 : Int32) h2) fun j3 =>
  if (h1.1 9 (ix ((16 : Int32) + p1))) ≤ 0 then (
    j3 h1)
  else (
    qg (qin ((16 : Int32) + p1) 353) <|
    (f9_reads p1 (0 : Int32) (h1.1 9 (ix ((16 : Int32) + p1))) h1).bind fun (h22 : qH) =>
    j3 h22)
set_option maxRecDepth 100000 in
set_option maxHeartbeats 4000000 in
theorem m9_scansNow (l : Launch) (p1 : Int32) : qMet UM ROM l yX9_scansNow (qws yX9_scansNow cX9_scansNow 4 (some .int)) R9_scansNow [.ref 0, .int p1] (f9_scansNow p1) qEw := by
  refine q_met (own := RX9) 2 (by decide) rfl (Nat.le_of_ble_eq_true rfl) (ls := [some (.ref 0), some (.int p1), none, none]) rfl fun h => ?_
  unfold f9_scansNow
  show PW UM ROM l R9_scansNow cX9_scansNow 4 (some .int) RX9 (qEw h) 0 [some (.ref 0), some (.int p1), none, none] [] h _
  refine p_aload_n rfl dX9_scansNow_0 rfl ?_
  refine p_iload_n rfl dX9_scansNow_1 rfl ?_
  refine p_callVv (f := f9_brings p1) (st := []) [.int p1] qRokM (m9_brings l p1) cal_RX9_253 uM_0 rfl rfl ⟨rfl, rfl⟩ ⟨Nat.le_of_ble_eq_true rfl, Nat.le_of_ble_eq_true rfl⟩ (Nat.le_of_ble_eq_true rfl) dX9_scansNow_2 rfl (fun h1 => ?_)
  refine p_aload_n rfl dX9_scansNow_5 rfl ?_
  refine p_getr qg_RX9_34 uM_0 rfl dX9_scansNow_6 rfl ?_
  refine p_bipush (v := (16 : Int32)) kbipush_16 dX9_scansNow_9 rfl ?_
  refine p_iload_n rfl dX9_scansNow_11 rfl ?_
  refine p_iadd dX9_scansNow_12 rfl ?_
  refine p_iald uM_9 dX9_scansNow_13 rfl (fun _ => ?_)
  refine p_jn (fun j3 => ∀ (h2 : qH), PW UM ROM l R9_scansNow cX9_scansNow 4 (some .int) RX9 (qEw h) 32 [some (.ref 0), some (.int p1), none, none] [] h2 (j3 h2)) (fun h2 => ?_) (fun j3 J4 => ?_)
  · refine p_iconst (v := (0 : Int32)) kiconst_0 dX9_scansNow_32 rfl ?_
    refine p_is_n (ls' := [some (.ref 0), some (.int p1), some (.int (0 : Int32)), none]) dX9_scansNow_33 rfl rfl rfl rfl ?_
    refine p_iconst (v := (0 : Int32)) kiconst_0 dX9_scansNow_34 rfl ?_
    refine p_is_n (ls' := [some (.ref 0), some (.int p1), some (.int (0 : Int32)), some (.int (0 : Int32))]) dX9_scansNow_35 rfl rfl rfl rfl ?_
    refine w9_scansNow_L36 l h p1 (fun x18 x19 h20 => ?_) qN _ _ _
    refine p_iload_n rfl dX9_scansNow_87 rfl ?_
    exact p_iret rfl rfl dX9_scansNow_88
  · refine p_if (fun c21 => ?_) (fun c21 => ?_)
    · refine p_if_le_t (tgt := 32) dX9_scansNow_14 (by decide) c21 ?_
      exact J4 h1
    · refine p_if_le_f (tgt := 32) dX9_scansNow_14 (by decide) rfl c21 ?_
      refine p_aload_n rfl dX9_scansNow_17 rfl ?_
      refine p_iload_n rfl dX9_scansNow_18 rfl ?_
      refine p_iconst (v := (0 : Int32)) kiconst_0 dX9_scansNow_19 rfl ?_
      refine p_aload_n rfl dX9_scansNow_20 rfl ?_
      refine p_getr qg_RX9_34 uM_0 rfl dX9_scansNow_21 rfl ?_
      refine p_bipush (v := (16 : Int32)) kbipush_16 dX9_scansNow_24 rfl ?_
      refine p_iload_n rfl dX9_scansNow_26 rfl ?_
      refine p_iadd dX9_scansNow_27 rfl ?_
      refine p_iald uM_9 dX9_scansNow_28 rfl (fun _ => ?_)
      refine p_callVv (f := f9_reads p1 (0 : Int32) (h1.1 9 (ix ((16 : Int32) + p1)))) (st := []) [.int p1, .int (0 : Int32), .int (h1.1 9 (ix ((16 : Int32) + p1)))] qRokM (m9_reads l p1 (0 : Int32) (h1.1 9 (ix ((16 : Int32) + p1)))) cal_RX9_259 uM_0 rfl rfl ⟨rfl, rfl⟩ ⟨Nat.le_of_ble_eq_true rfl, Nat.le_of_ble_eq_true rfl⟩ (Nat.le_of_ble_eq_true rfl) dX9_scansNow_29 rfl (fun h22 => ?_)
      exact J4 h22
noncomputable def f9_writesNow (p1 : Int32) (p2 : Int32) (h : qH) : Option (Int32 × qH) :=
  (f9_brings p1 h).bind fun (h1 : qH) =>
  qg (qin ((16 : Int32) + p1) 353) <|
  (f9_runs p1 (h1.1 9 (ix ((16 : Int32) + p1))) p2 h1).bind fun (h2 : qH) =>
  qb2 (f9_newFile p1 p2 h2) fun (z3 : Int32) (h4 : qH) =>
  some (z3, h4)
set_option maxRecDepth 100000 in
set_option maxHeartbeats 4000000 in
theorem m9_writesNow (l : Launch) (p1 : Int32) (p2 : Int32) : qMet UM ROM l yX9_writesNow (qws yX9_writesNow cX9_writesNow 3 (some .int)) R9_writesNow [.ref 0, .int p1, .int p2] (f9_writesNow p1 p2) qEw := by
  refine q_met (own := RX9) 0 (by decide) rfl (Nat.le_of_ble_eq_true rfl) (ls := [some (.ref 0), some (.int p1), some (.int p2)]) rfl fun h => ?_
  unfold f9_writesNow
  show PW UM ROM l R9_writesNow cX9_writesNow 3 (some .int) RX9 (qEw h) 0 [some (.ref 0), some (.int p1), some (.int p2)] [] h _
  refine p_aload_n rfl dX9_writesNow_0 rfl ?_
  refine p_iload_n rfl dX9_writesNow_1 rfl ?_
  refine p_callVv (f := f9_brings p1) (st := []) [.int p1] qRokM (m9_brings l p1) cal_RX9_253 uM_0 rfl rfl ⟨rfl, rfl⟩ ⟨Nat.le_of_ble_eq_true rfl, Nat.le_of_ble_eq_true rfl⟩ (Nat.le_of_ble_eq_true rfl) dX9_writesNow_2 rfl (fun h1 => ?_)
  refine p_aload_n rfl dX9_writesNow_5 rfl ?_
  refine p_iload_n rfl dX9_writesNow_6 rfl ?_
  refine p_aload_n rfl dX9_writesNow_7 rfl ?_
  refine p_getr qg_RX9_34 uM_0 rfl dX9_writesNow_8 rfl ?_
  refine p_bipush (v := (16 : Int32)) kbipush_16 dX9_writesNow_11 rfl ?_
  refine p_iload_n rfl dX9_writesNow_13 rfl ?_
  refine p_iadd dX9_writesNow_14 rfl ?_
  refine p_iald uM_9 dX9_writesNow_15 rfl (fun _ => ?_)
  refine p_iload_n rfl dX9_writesNow_16 rfl ?_
  refine p_callVv (f := f9_runs p1 (h1.1 9 (ix ((16 : Int32) + p1))) p2) (st := []) [.int p1, .int (h1.1 9 (ix ((16 : Int32) + p1))), .int p2] qRokM (m9_runs l p1 (h1.1 9 (ix ((16 : Int32) + p1))) p2) cal_RX9_232 uM_0 rfl rfl ⟨rfl, rfl⟩ ⟨Nat.le_of_ble_eq_true rfl, Nat.le_of_ble_eq_true rfl⟩ (Nat.le_of_ble_eq_true rfl) dX9_writesNow_17 rfl (fun h2 => ?_)
  refine p_aload_n rfl dX9_writesNow_20 rfl ?_
  refine p_iload_n rfl dX9_writesNow_21 rfl ?_
  refine p_iload_n rfl dX9_writesNow_22 rfl ?_
  refine p_cVw (f := f9_newFile p1 p2) (st := []) [.int p1, .int p2] qRokM (m9_newFile l p1 p2) cal_RX9_175 uM_0 rfl rfl ⟨rfl, rfl⟩ ⟨Nat.le_of_ble_eq_true rfl, Nat.le_of_ble_eq_true rfl⟩ (Nat.le_of_ble_eq_true rfl) dX9_writesNow_23 rfl (fun z3 h4 => ?_)
  exact p_iret rfl rfl dX9_writesNow_26
noncomputable def f9_dropsNow (p1 : Int32) (h : qH) : Option (Int32 × qH) :=
  qg (qin ((48 : Int32) + p1) 353) <|
  qlt (qw h 9 (ix ((48 : Int32) + p1)) (-1 : Int32)) fun (h1 : qH) =>
  qg (qin ((120 : Int32) + p1) 353) <|
  qlt (qw h1 9 (ix ((120 : Int32) + p1)) (0 : Int32)) fun (h2 : qH) =>
  qg (qin ((144 : Int32) + p1) 353) <|
  qlt (qw h2 9 (ix ((144 : Int32) + p1)) (0 : Int32)) fun (h3 : qH) =>
  qg (qin ((96 : Int32) + p1) 353) <|
  some ((h3.1 9 (ix ((96 : Int32) + p1))), h3)
set_option maxRecDepth 100000 in
set_option maxHeartbeats 4000000 in
theorem m9_dropsNow (l : Launch) (p1 : Int32) : qMet UM ROM l yX9_dropsNow (qws yX9_dropsNow cX9_dropsNow 2 (some .int)) R9_dropsNow [.ref 0, .int p1] (f9_dropsNow p1) qEw := by
  refine q_met (own := RX9) 0 (by decide) rfl (Nat.le_of_ble_eq_true rfl) (ls := [some (.ref 0), some (.int p1)]) rfl fun h => ?_
  unfold f9_dropsNow
  show PW UM ROM l R9_dropsNow cX9_dropsNow 2 (some .int) RX9 (qEw h) 0 [some (.ref 0), some (.int p1)] [] h _
  refine p_aload_n rfl dX9_dropsNow_0 rfl ?_
  refine p_getr qg_RX9_34 uM_0 rfl dX9_dropsNow_1 rfl ?_
  refine p_bipush (v := (48 : Int32)) kbipush_48 dX9_dropsNow_4 rfl ?_
  refine p_iload_n rfl dX9_dropsNow_6 rfl ?_
  refine p_iadd dX9_dropsNow_7 rfl ?_
  refine p_iconst (v := (-1 : Int32)) kiconst_m1 dX9_dropsNow_8 rfl ?_
  refine p_iast qokM uM_9 dX9_dropsNow_9 rfl (fun _ => ?_)
  refine p_nmH (fun h1 => ?_)
  refine p_aload_n rfl dX9_dropsNow_10 rfl ?_
  refine p_getr qg_RX9_34 uM_0 rfl dX9_dropsNow_11 rfl ?_
  refine p_bipush (v := (120 : Int32)) kbipush_120 dX9_dropsNow_14 rfl ?_
  refine p_iload_n rfl dX9_dropsNow_16 rfl ?_
  refine p_iadd dX9_dropsNow_17 rfl ?_
  refine p_iconst (v := (0 : Int32)) kiconst_0 dX9_dropsNow_18 rfl ?_
  refine p_iast qokM uM_9 dX9_dropsNow_19 rfl (fun _ => ?_)
  refine p_nmH (fun h2 => ?_)
  refine p_aload_n rfl dX9_dropsNow_20 rfl ?_
  refine p_getr qg_RX9_34 uM_0 rfl dX9_dropsNow_21 rfl ?_
  refine p_sipush (v := (144 : Int32)) ksipush_144 dX9_dropsNow_24 rfl ?_
  refine p_iload_n rfl dX9_dropsNow_27 rfl ?_
  refine p_iadd dX9_dropsNow_28 rfl ?_
  refine p_iconst (v := (0 : Int32)) kiconst_0 dX9_dropsNow_29 rfl ?_
  refine p_iast qokM uM_9 dX9_dropsNow_30 rfl (fun _ => ?_)
  refine p_nmH (fun h3 => ?_)
  refine p_aload_n rfl dX9_dropsNow_31 rfl ?_
  refine p_getr qg_RX9_34 uM_0 rfl dX9_dropsNow_32 rfl ?_
  refine p_bipush (v := (96 : Int32)) kbipush_96 dX9_dropsNow_35 rfl ?_
  refine p_iload_n rfl dX9_dropsNow_37 rfl ?_
  refine p_iadd dX9_dropsNow_38 rfl ?_
  refine p_iald uM_9 dX9_dropsNow_39 rfl (fun _ => ?_)
  exact p_iret rfl rfl dX9_dropsNow_40
noncomputable def f9_whyAsk (p1 : Int32) (h : qH) : Option (Int32) :=
  (f9_isHeld p1 h).bind fun (z1 : Int32) =>
  if z1 = 0 then (
    some (0 : Int32))
  else (
    qg (qin ((120 : Int32) + p1) 353) <|
    qj (fun (x3 : Int32) =>
      some x3) fun j4 =>
    if (h.1 9 (ix ((120 : Int32) + p1))) = 0 then (
      j4 (2 : Int32))
    else (
      qg (qin ((144 : Int32) + p1) 353) <|
      if (h.1 9 (ix ((144 : Int32) + p1))) ≤ 0 then (
        (f9_askedOfAll h).bind fun (z8 : Int32) =>
        if z8 = (12 : Int32) then (
          j4 (3 : Int32))
        else (
          j4 (-1 : Int32)))
      else (
        j4 (2 : Int32))))
set_option maxRecDepth 100000 in
set_option maxHeartbeats 4000000 in
theorem m9_whyAsk (l : Launch) (p1 : Int32) : qMet UM ROM l yX9_whyAsk (qws yX9_whyAsk cX9_whyAsk 2 (some .int)) R9_whyAsk [.ref 0, .int p1] (f9_whyAsk p1) qEr := by
  refine q_met (own := RX9) 0 (by decide) rfl (Nat.le_of_ble_eq_true rfl) (ls := [some (.ref 0), some (.int p1)]) rfl fun h => ?_
  unfold f9_whyAsk
  refine p_aload_n rfl dX9_whyAsk_0 rfl ?_
  refine p_iload_n rfl dX9_whyAsk_1 rfl ?_
  refine p_callVr (f := f9_isHeld p1) (st := []) [.int p1] qRokM (m9_isHeld l p1) cal_RX9_289 uM_0 rfl rfl ⟨rfl, rfl⟩ ⟨Nat.le_of_ble_eq_true rfl, Nat.le_of_ble_eq_true rfl⟩ (Nat.le_of_ble_eq_true rfl) dX9_whyAsk_2 rfl (fun z1 => ?_)
  refine p_if (fun c2 => ?_) (fun c2 => ?_)
  · refine p_if_ne_f (tgt := 10) dX9_whyAsk_5 (by decide) rfl c2 ?_
    refine p_iconst (v := (0 : Int32)) kiconst_0 dX9_whyAsk_8 rfl ?_
    exact p_iret rfl rfl dX9_whyAsk_9
  · refine p_if_ne_t (tgt := 10) dX9_whyAsk_5 (by decide) c2 ?_
    refine p_aload_n rfl dX9_whyAsk_10 rfl ?_
    refine p_getr qg_RX9_34 uM_0 rfl dX9_whyAsk_11 rfl ?_
    refine p_bipush (v := (120 : Int32)) kbipush_120 dX9_whyAsk_14 rfl ?_
    refine p_iload_n rfl dX9_whyAsk_16 rfl ?_
    refine p_iadd dX9_whyAsk_17 rfl ?_
    refine p_iald uM_9 dX9_whyAsk_18 rfl (fun _ => ?_)
    refine p_jn (fun j4 => ∀ (x3 : Int32), PW UM ROM l R9_whyAsk cX9_whyAsk 2 (some .int) RX9 (qEr h) 53 [some (.ref 0), some (.int p1)] [.int x3] h (j4 x3)) (fun x3 => ?_) (fun j4 J5 => ?_)
    · exact p_iret rfl rfl dX9_whyAsk_53
    · refine p_if (fun c6 => ?_) (fun c6 => ?_)
      · refine p_if_eq_t (tgt := 35) dX9_whyAsk_19 (by decide) c6 ?_
        refine p_iconst (v := (2 : Int32)) kiconst_2 dX9_whyAsk_35 rfl ?_
        refine p_goto (tgt := 53) dX9_whyAsk_36 (by decide) ?_
        exact J5 (2 : Int32)
      · refine p_if_eq_f (tgt := 35) dX9_whyAsk_19 (by decide) rfl c6 ?_
        refine p_aload_n rfl dX9_whyAsk_22 rfl ?_
        refine p_getr qg_RX9_34 uM_0 rfl dX9_whyAsk_23 rfl ?_
        refine p_sipush (v := (144 : Int32)) ksipush_144 dX9_whyAsk_26 rfl ?_
        refine p_iload_n rfl dX9_whyAsk_29 rfl ?_
        refine p_iadd dX9_whyAsk_30 rfl ?_
        refine p_iald uM_9 dX9_whyAsk_31 rfl (fun _ => ?_)
        refine p_if (fun c7 => ?_) (fun c7 => ?_)
        · refine p_if_le_t (tgt := 39) dX9_whyAsk_32 (by decide) c7 ?_
          refine p_aload_n rfl dX9_whyAsk_39 rfl ?_
          refine p_callVr (f := f9_askedOfAll) (st := []) [] qRokM (m9_askedOfAll l) cal_RX9_292 uM_0 rfl rfl ⟨rfl, rfl⟩ ⟨Nat.le_of_ble_eq_true rfl, Nat.le_of_ble_eq_true rfl⟩ (Nat.le_of_ble_eq_true rfl) dX9_whyAsk_40 rfl (fun z8 => ?_)
          refine p_bipush (v := (12 : Int32)) kbipush_12 dX9_whyAsk_43 rfl ?_
          refine p_if (fun c9 => ?_) (fun c9 => ?_)
          · refine p_icmp_ne_f (tgt := 52) dX9_whyAsk_45 (by decide) rfl c9 ?_
            refine p_iconst (v := (3 : Int32)) kiconst_3 dX9_whyAsk_48 rfl ?_
            refine p_goto (tgt := 53) dX9_whyAsk_49 (by decide) ?_
            exact J5 (3 : Int32)
          · refine p_icmp_ne_t (tgt := 52) dX9_whyAsk_45 (by decide) c9 ?_
            refine p_iconst (v := (-1 : Int32)) kiconst_m1 dX9_whyAsk_52 rfl ?_
            exact J5 (-1 : Int32)
        · refine p_if_le_f (tgt := 39) dX9_whyAsk_32 (by decide) rfl c7 ?_
          refine p_iconst (v := (2 : Int32)) kiconst_2 dX9_whyAsk_35 rfl ?_
          refine p_goto (tgt := 53) dX9_whyAsk_36 (by decide) ?_
          exact J5 (2 : Int32)
noncomputable def f9_whyWrite (p1 : Int32) (p2 : Int32) (h : qH) : Option (Int32) :=
  (f9_isTape p1 h).bind fun (z1 : Int32) =>
  qj (fun (x2 : Int32) =>
    some x2) fun j3 =>
  if z1 = 0 then (
    j3 (0 : Int32))
  else (
    (f9_in p2 (1 : Int32) (9 : Int32) h).bind fun (z6 : Int32) =>
    if z6 = 0 then (
      j3 (1 : Int32))
    else (
      if (h.1 9 168) = (24 : Int32) then (
        j3 (3 : Int32))
      else (
        qg (qin ((16 : Int32) + p1) 353) <|
        (f9_blocksOfTape h).bind fun (z9 : Int32) =>
        if ((h.1 9 (ix ((16 : Int32) + p1))) + p2) ≤ z9 then (
          j3 (-1 : Int32))
        else (
          j3 (3 : Int32)))))
set_option maxRecDepth 100000 in
set_option maxHeartbeats 4000000 in
theorem m9_whyWrite (l : Launch) (p1 : Int32) (p2 : Int32) : qMet UM ROM l yX9_whyWrite (qws yX9_whyWrite cX9_whyWrite 3 (some .int)) R9_whyWrite [.ref 0, .int p1, .int p2] (f9_whyWrite p1 p2) qEr := by
  refine q_met (own := RX9) 0 (by decide) rfl (Nat.le_of_ble_eq_true rfl) (ls := [some (.ref 0), some (.int p1), some (.int p2)]) rfl fun h => ?_
  unfold f9_whyWrite
  refine p_aload_n rfl dX9_whyWrite_0 rfl ?_
  refine p_iload_n rfl dX9_whyWrite_1 rfl ?_
  refine p_callVr (f := f9_isTape p1) (st := []) [.int p1] qRokM (m9_isTape l p1) cal_RX9_169 uM_0 rfl rfl ⟨rfl, rfl⟩ ⟨Nat.le_of_ble_eq_true rfl, Nat.le_of_ble_eq_true rfl⟩ (Nat.le_of_ble_eq_true rfl) dX9_whyWrite_2 rfl (fun z1 => ?_)
  refine p_jn (fun j3 => ∀ (x2 : Int32), PW UM ROM l R9_whyWrite cX9_whyWrite 3 (some .int) RX9 (qEr h) 62 [some (.ref 0), some (.int p1), some (.int p2)] [.int x2] h (j3 x2)) (fun x2 => ?_) (fun j3 J4 => ?_)
  · exact p_iret rfl rfl dX9_whyWrite_62
  · refine p_if (fun c5 => ?_) (fun c5 => ?_)
    · refine p_if_ne_f (tgt := 12) dX9_whyWrite_5 (by decide) rfl c5 ?_
      refine p_iconst (v := (0 : Int32)) kiconst_0 dX9_whyWrite_8 rfl ?_
      refine p_goto (tgt := 62) dX9_whyWrite_9 (by decide) ?_
      exact J4 (0 : Int32)
    · refine p_if_ne_t (tgt := 12) dX9_whyWrite_5 (by decide) c5 ?_
      refine p_iload_n rfl dX9_whyWrite_12 rfl ?_
      refine p_iconst (v := (1 : Int32)) kiconst_1 dX9_whyWrite_13 rfl ?_
      refine p_bipush (v := (9 : Int32)) kbipush_9 dX9_whyWrite_14 rfl ?_
      refine p_callSr (f := f9_in p2 (1 : Int32) (9 : Int32)) (st := []) [.int p2, .int (1 : Int32), .int (9 : Int32)] qRokM (m9_in l p2 (1 : Int32) (9 : Int32)) cal_RX9_76 rfl ⟨rfl, rfl⟩ ⟨Nat.le_of_ble_eq_true rfl, Nat.le_of_ble_eq_true rfl⟩ (Nat.le_of_ble_eq_true rfl) dX9_whyWrite_16 rfl (fun z6 => ?_)
      refine p_if (fun c7 => ?_) (fun c7 => ?_)
      · refine p_if_ne_f (tgt := 26) dX9_whyWrite_19 (by decide) rfl c7 ?_
        refine p_iconst (v := (1 : Int32)) kiconst_1 dX9_whyWrite_22 rfl ?_
        refine p_goto (tgt := 62) dX9_whyWrite_23 (by decide) ?_
        exact J4 (1 : Int32)
      · refine p_if_ne_t (tgt := 26) dX9_whyWrite_19 (by decide) c7 ?_
        refine p_aload_n rfl dX9_whyWrite_26 rfl ?_
        refine p_getr qg_RX9_34 uM_0 rfl dX9_whyWrite_27 rfl ?_
        refine p_sipush (v := (168 : Int32)) ksipush_168 dX9_whyWrite_30 rfl ?_
        refine p_ialdK uM_9 kix_168 kqin_168_353 dX9_whyWrite_33 rfl ?_
        refine p_bipush (v := (24 : Int32)) kbipush_24 dX9_whyWrite_34 rfl ?_
        refine p_if (fun c8 => ?_) (fun c8 => ?_)
        · refine p_icmp_eq_t (tgt := 57) dX9_whyWrite_36 (by decide) c8 ?_
          refine p_iconst (v := (3 : Int32)) kiconst_3 dX9_whyWrite_57 rfl ?_
          refine p_goto (tgt := 62) dX9_whyWrite_58 (by decide) ?_
          exact J4 (3 : Int32)
        · refine p_icmp_eq_f (tgt := 57) dX9_whyWrite_36 (by decide) rfl c8 ?_
          refine p_aload_n rfl dX9_whyWrite_39 rfl ?_
          refine p_getr qg_RX9_34 uM_0 rfl dX9_whyWrite_40 rfl ?_
          refine p_bipush (v := (16 : Int32)) kbipush_16 dX9_whyWrite_43 rfl ?_
          refine p_iload_n rfl dX9_whyWrite_45 rfl ?_
          refine p_iadd dX9_whyWrite_46 rfl ?_
          refine p_iald uM_9 dX9_whyWrite_47 rfl (fun _ => ?_)
          refine p_iload_n rfl dX9_whyWrite_48 rfl ?_
          refine p_iadd dX9_whyWrite_49 rfl ?_
          refine p_aload_n rfl dX9_whyWrite_50 rfl ?_
          refine p_callVr (f := f9_blocksOfTape) (st := [.int ((h.1 9 (ix ((16 : Int32) + p1))) + p2)]) [] qRokM (m9_blocksOfTape l) cal_RX9_172 uM_0 rfl rfl ⟨rfl, rfl⟩ ⟨Nat.le_of_ble_eq_true rfl, Nat.le_of_ble_eq_true rfl⟩ (Nat.le_of_ble_eq_true rfl) dX9_whyWrite_51 rfl (fun z9 => ?_)
          refine p_if (fun c10 => ?_) (fun c10 => ?_)
          · refine p_icmp_le_t (tgt := 61) dX9_whyWrite_54 (by decide) c10 ?_
            refine p_iconst (v := (-1 : Int32)) kiconst_m1 dX9_whyWrite_61 rfl ?_
            exact J4 (-1 : Int32)
          · refine p_icmp_le_f (tgt := 61) dX9_whyWrite_54 (by decide) rfl c10 ?_
            refine p_iconst (v := (3 : Int32)) kiconst_3 dX9_whyWrite_57 rfl ?_
            refine p_goto (tgt := 62) dX9_whyWrite_58 (by decide) ?_
            exact J4 (3 : Int32)
noncomputable def f9_whyCopy (p1 : Int32) (p2 : Int32) (h : qH) : Option (Int32) :=
  (f9_isTape p1 h).bind fun (z1 : Int32) =>
  qj (fun (x2 : Int32) =>
    some x2) fun j3 =>
  if z1 = 0 then (
    j3 (0 : Int32))
  else (
    (f9_isTape p2 h).bind fun (z6 : Int32) =>
    if z6 = 0 then (
      j3 (0 : Int32))
    else (
      if p1 = p2 then (
        j3 (2 : Int32))
      else (
        qg (qin ((16 : Int32) + p2) 353) <|
        if 0 < (h.1 9 (ix ((16 : Int32) + p2))) then (
          j3 (2 : Int32))
        else (
          (f9_filesOn p1 h).bind fun (z10 : Int32) =>
          if z10 = 0 then (
            j3 (2 : Int32))
          else (
            j3 (-1 : Int32))))))
set_option maxRecDepth 100000 in
set_option maxHeartbeats 4000000 in
theorem m9_whyCopy (l : Launch) (p1 : Int32) (p2 : Int32) : qMet UM ROM l yX9_whyCopy (qws yX9_whyCopy cX9_whyCopy 3 (some .int)) R9_whyCopy [.ref 0, .int p1, .int p2] (f9_whyCopy p1 p2) qEr := by
  refine q_met (own := RX9) 0 (by decide) rfl (Nat.le_of_ble_eq_true rfl) (ls := [some (.ref 0), some (.int p1), some (.int p2)]) rfl fun h => ?_
  unfold f9_whyCopy
  refine p_aload_n rfl dX9_whyCopy_0 rfl ?_
  refine p_iload_n rfl dX9_whyCopy_1 rfl ?_
  refine p_callVr (f := f9_isTape p1) (st := []) [.int p1] qRokM (m9_isTape l p1) cal_RX9_169 uM_0 rfl rfl ⟨rfl, rfl⟩ ⟨Nat.le_of_ble_eq_true rfl, Nat.le_of_ble_eq_true rfl⟩ (Nat.le_of_ble_eq_true rfl) dX9_whyCopy_2 rfl (fun z1 => ?_)
  refine p_jn (fun j3 => ∀ (x2 : Int32), PW UM ROM l R9_whyCopy cX9_whyCopy 3 (some .int) RX9 (qEr h) 50 [some (.ref 0), some (.int p1), some (.int p2)] [.int x2] h (j3 x2)) (fun x2 => ?_) (fun j3 J4 => ?_)
  · exact p_iret rfl rfl dX9_whyCopy_50
  · refine p_if (fun c5 => ?_) (fun c5 => ?_)
    · refine p_if_eq_t (tgt := 16) dX9_whyCopy_5 (by decide) c5 ?_
      refine p_iconst (v := (0 : Int32)) kiconst_0 dX9_whyCopy_16 rfl ?_
      refine p_goto (tgt := 50) dX9_whyCopy_17 (by decide) ?_
      exact J4 (0 : Int32)
    · refine p_if_eq_f (tgt := 16) dX9_whyCopy_5 (by decide) rfl c5 ?_
      refine p_aload_n rfl dX9_whyCopy_8 rfl ?_
      refine p_iload_n rfl dX9_whyCopy_9 rfl ?_
      refine p_callVr (f := f9_isTape p2) (st := []) [.int p2] qRokM (m9_isTape l p2) cal_RX9_169 uM_0 rfl rfl ⟨rfl, rfl⟩ ⟨Nat.le_of_ble_eq_true rfl, Nat.le_of_ble_eq_true rfl⟩ (Nat.le_of_ble_eq_true rfl) dX9_whyCopy_10 rfl (fun z6 => ?_)
      refine p_if (fun c7 => ?_) (fun c7 => ?_)
      · refine p_if_ne_f (tgt := 20) dX9_whyCopy_13 (by decide) rfl c7 ?_
        refine p_iconst (v := (0 : Int32)) kiconst_0 dX9_whyCopy_16 rfl ?_
        refine p_goto (tgt := 50) dX9_whyCopy_17 (by decide) ?_
        exact J4 (0 : Int32)
      · refine p_if_ne_t (tgt := 20) dX9_whyCopy_13 (by decide) c7 ?_
        refine p_iload_n rfl dX9_whyCopy_20 rfl ?_
        refine p_iload_n rfl dX9_whyCopy_21 rfl ?_
        refine p_if (fun c8 => ?_) (fun c8 => ?_)
        · refine p_icmp_eq_t (tgt := 45) dX9_whyCopy_22 (by decide) c8 ?_
          refine p_iconst (v := (2 : Int32)) kiconst_2 dX9_whyCopy_45 rfl ?_
          refine p_goto (tgt := 50) dX9_whyCopy_46 (by decide) ?_
          exact J4 (2 : Int32)
        · refine p_icmp_eq_f (tgt := 45) dX9_whyCopy_22 (by decide) rfl c8 ?_
          refine p_aload_n rfl dX9_whyCopy_25 rfl ?_
          refine p_getr qg_RX9_34 uM_0 rfl dX9_whyCopy_26 rfl ?_
          refine p_bipush (v := (16 : Int32)) kbipush_16 dX9_whyCopy_29 rfl ?_
          refine p_iload_n rfl dX9_whyCopy_31 rfl ?_
          refine p_iadd dX9_whyCopy_32 rfl ?_
          refine p_iald uM_9 dX9_whyCopy_33 rfl (fun _ => ?_)
          refine p_if (fun c9 => ?_) (fun c9 => ?_)
          · refine p_if_gt_t (tgt := 45) dX9_whyCopy_34 (by decide) c9 ?_
            refine p_iconst (v := (2 : Int32)) kiconst_2 dX9_whyCopy_45 rfl ?_
            refine p_goto (tgt := 50) dX9_whyCopy_46 (by decide) ?_
            exact J4 (2 : Int32)
          · refine p_if_gt_f (tgt := 45) dX9_whyCopy_34 (by decide) rfl c9 ?_
            refine p_aload_n rfl dX9_whyCopy_37 rfl ?_
            refine p_iload_n rfl dX9_whyCopy_38 rfl ?_
            refine p_callVr (f := f9_filesOn p1) (st := []) [.int p1] qRokM (m9_filesOn l p1) cal_RX9_262 uM_0 rfl rfl ⟨rfl, rfl⟩ ⟨Nat.le_of_ble_eq_true rfl, Nat.le_of_ble_eq_true rfl⟩ (Nat.le_of_ble_eq_true rfl) dX9_whyCopy_39 rfl (fun z10 => ?_)
            refine p_if (fun c11 => ?_) (fun c11 => ?_)
            · refine p_if_ne_f (tgt := 49) dX9_whyCopy_42 (by decide) rfl c11 ?_
              refine p_iconst (v := (2 : Int32)) kiconst_2 dX9_whyCopy_45 rfl ?_
              refine p_goto (tgt := 50) dX9_whyCopy_46 (by decide) ?_
              exact J4 (2 : Int32)
            · refine p_if_ne_t (tgt := 49) dX9_whyCopy_42 (by decide) c11 ?_
              refine p_iconst (v := (-1 : Int32)) kiconst_m1 dX9_whyCopy_49 rfl ?_
              exact J4 (-1 : Int32)
