noncomputable def f7_targetFor_L14 (p0 : Nat) (p1 : Int32) (h : qH) (k : Int32 → Int32 → Option (Int32)) : Nat → Int32 → Int32 → Option (Int32)
  | 0, _, _ => none
  | n + 1, x3, x4 =>
    if (h.1 6 1) ≤ x4 then (
      k x3 x4)
    else (
      qj (fun (x6 : Int32) =>
        qj (fun (x9 : Int32) =>
          qlt (x4 + (1 : Int32)) fun (x12 : Int32) =>
          f7_targetFor_L14 p0 p1 h k n x9 x12) fun j10 =>
        if x6 = 0 then (
          j10 x3)
        else (
          if x3 = (-1 : Int32) then (
            j10 x4)
          else (
            qg (qin x4 8) <|
            qg (qin x3 8) <|
            if (h.1 (p0 + 4) (ix x3)) ≤ (h.1 (p0 + 4) (ix x4)) then (
              j10 x3)
            else (
              j10 x4)))) fun j7 =>
      if x4 = p1 then (
        j7 (0 : Int32))
      else (
        qg (qin x4 8) <|
        if (h.1 (p0 + 3) (ix x4)) = 0 then (
          j7 (1 : Int32))
        else (
          j7 (0 : Int32))))
set_option maxRecDepth 100000 in
set_option maxHeartbeats 4000000 in
theorem w7_targetFor_L14 (l : Launch) (p0 : Nat) (p1 : Int32) (h : qH) (hp0 : kStage p0) {k : Int32 → Int32 → Option (Int32)} (hk : ∀ (x3 : Int32) (x4 : Int32), PW UX ROX l R7_targetFor cX7_targetFor 5 (some .int) RX7 (qEr h) 79 [some (.ref p0), some (.int p1), some (.int x3), some (.int x4), none] [] h (k x3 x4)) : ∀ (n : Nat) (x3 : Int32) (x4 : Int32), PW UX ROX l R7_targetFor cX7_targetFor 5 (some .int) RX7 (qEr h) 14 [some (.ref p0), some (.int p1), some (.int x3), some (.int x4), none] [] h (f7_targetFor_L14 p0 p1 h k n x3 x4) := by
  intro n
  induction n with
  | zero => intro _ _; exact p_none
  | succ n ih =>
    intro x3 x4
    unfold f7_targetFor_L14
    refine p_iload_n rfl dX7_targetFor_14 rfl ?_
    refine p_aload_n rfl dX7_targetFor_15 rfl ?_
    refine p_getr qg_RX7_45 (uX_Stage hp0) rfl dX7_targetFor_16 rfl ?_
    refine p_geti qg_RX7_133 uX_6 rfl dX7_targetFor_19 rfl ?_
    refine p_if (fun c5 => ?_) (fun c5 => ?_)
    · refine p_icmp_ge_t (tgt := 79) dX7_targetFor_22 (by decide) c5 ?_
      exact hk x3 x4
    · refine p_icmp_ge_f (tgt := 79) dX7_targetFor_22 (by decide) rfl c5 ?_
      refine p_iload_n rfl dX7_targetFor_25 rfl ?_
      refine p_iload_n rfl dX7_targetFor_26 rfl ?_
      refine p_jn (fun j7 => ∀ (x6 : Int32), PW UX ROX l R7_targetFor cX7_targetFor 5 (some .int) RX7 (qEr h) 44 [some (.ref p0), some (.int p1), some (.int x3), some (.int x4), none] [.int x6] h (j7 x6)) (fun x6 => ?_) (fun j7 J8 => ?_)
      · refine p_is (ls' := [some (.ref p0), some (.int p1), some (.int x3), some (.int x4), some (.int x6)]) dX7_targetFor_44 rfl rfl rfl rfl ?_
        refine p_iload rfl dX7_targetFor_46 rfl ?_
        refine p_jn (fun j10 => ∀ (x9 : Int32), PW UX ROX l R7_targetFor cX7_targetFor 5 (some .int) RX7 (qEr h) 73 [some (.ref p0), some (.int p1), some (.int x9), some (.int x4), some (.int x6)] [] h (j10 x9)) (fun x9 => ?_) (fun j10 J11 => ?_)
        · refine p_iiN (v := (1 : Int32)) (lf := fun x12 => [some (.ref p0), some (.int p1), some (.int x9), some (.int x12), some (.int x6)]) kiconst_1 dX7_targetFor_73 rfl rfl rfl rfl (fun _ => rfl) (fun x12 => ?_)
          refine p_goto (tgt := 14) dX7_targetFor_76 (by decide) ?_
          exact p_wk (ls' := [some (.ref p0), some (.int p1), some (.int x9), some (.int x12), none]) ⟨rfl, rfl, rfl, rfl, trivial⟩ (ih x9 x12)
        · refine p_if (fun c13 => ?_) (fun c13 => ?_)
          · refine p_if_eq_t (tgt := 73) dX7_targetFor_48 (by decide) c13 ?_
            exact J11 x3
          · refine p_if_eq_f (tgt := 73) dX7_targetFor_48 (by decide) rfl c13 ?_
            refine p_iload_n rfl dX7_targetFor_51 rfl ?_
            refine p_iconst (v := (-1 : Int32)) kiconst_m1 dX7_targetFor_52 rfl ?_
            refine p_if (fun c14 => ?_) (fun c14 => ?_)
            · refine p_icmp_eq_t (tgt := 71) dX7_targetFor_53 (by decide) c14 ?_
              refine p_iload_n rfl dX7_targetFor_71 rfl ?_
              refine p_is_n (ls' := [some (.ref p0), some (.int p1), some (.int x4), some (.int x4), some (.int x6)]) dX7_targetFor_72 rfl rfl rfl rfl ?_
              exact J11 x4
            · refine p_icmp_eq_f (tgt := 71) dX7_targetFor_53 (by decide) rfl c14 ?_
              refine p_aload_n rfl dX7_targetFor_56 rfl ?_
              refine p_getr qg_RX7_21 (uX_Stage hp0) rfl dX7_targetFor_57 rfl ?_
              refine p_iload_n rfl dX7_targetFor_60 rfl ?_
              refine p_iald (uX_Stage_4 hp0) dX7_targetFor_61 rfl (fun _ => ?_)
              refine p_aload_n rfl dX7_targetFor_62 rfl ?_
              refine p_getr qg_RX7_21 (uX_Stage hp0) rfl dX7_targetFor_63 rfl ?_
              refine p_iload_n rfl dX7_targetFor_66 rfl ?_
              refine p_iald (uX_Stage_4 hp0) dX7_targetFor_67 rfl (fun _ => ?_)
              refine p_if (fun c15 => ?_) (fun c15 => ?_)
              · refine p_icmp_ge_t (tgt := 73) dX7_targetFor_68 (by decide) c15 ?_
                exact J11 x3
              · refine p_icmp_ge_f (tgt := 73) dX7_targetFor_68 (by decide) rfl c15 ?_
                refine p_iload_n rfl dX7_targetFor_71 rfl ?_
                refine p_is_n (ls' := [some (.ref p0), some (.int p1), some (.int x4), some (.int x4), some (.int x6)]) dX7_targetFor_72 rfl rfl rfl rfl ?_
                exact J11 x4
      · refine p_if (fun c16 => ?_) (fun c16 => ?_)
        · refine p_icmp_eq_t (tgt := 43) dX7_targetFor_27 (by decide) c16 ?_
          refine p_iconst (v := (0 : Int32)) kiconst_0 dX7_targetFor_43 rfl ?_
          exact J8 (0 : Int32)
        · refine p_icmp_eq_f (tgt := 43) dX7_targetFor_27 (by decide) rfl c16 ?_
          refine p_aload_n rfl dX7_targetFor_30 rfl ?_
          refine p_getr qg_RX7_18 (uX_Stage hp0) rfl dX7_targetFor_31 rfl ?_
          refine p_iload_n rfl dX7_targetFor_34 rfl ?_
          refine p_iald (uX_Stage_3 hp0) dX7_targetFor_35 rfl (fun _ => ?_)
          refine p_if (fun c17 => ?_) (fun c17 => ?_)
          · refine p_if_ne_f (tgt := 43) dX7_targetFor_36 (by decide) rfl c17 ?_
            refine p_iconst (v := (1 : Int32)) kiconst_1 dX7_targetFor_39 rfl ?_
            refine p_goto (tgt := 44) dX7_targetFor_40 (by decide) ?_
            exact J8 (1 : Int32)
          · refine p_if_ne_t (tgt := 43) dX7_targetFor_36 (by decide) c17 ?_
            refine p_iconst (v := (0 : Int32)) kiconst_0 dX7_targetFor_43 rfl ?_
            exact J8 (0 : Int32)
noncomputable def f7_targetFor (p0 : Nat) (p1 : Int32) (h : qH) : Option (Int32) :=
  (f7_filesOn p0 p1 h).bind fun (z1 : Int32) =>
  if z1 = 0 then (
    some (-1 : Int32))
  else (
    f7_targetFor_L14 p0 p1 h (fun (x18 : Int32) (x19 : Int32) =>
      some x18) qN (-1 : Int32) (0 : Int32))
set_option maxRecDepth 100000 in
set_option maxHeartbeats 4000000 in
theorem m7_targetFor (l : Launch) {p0 : Nat} (hp0 : kStage p0) (p1 : Int32) : qMet UX ROX l yX7_targetFor (qws yX7_targetFor cX7_targetFor 5 (some .int)) R7_targetFor [.ref p0, .int p1] (f7_targetFor p0 p1) qEr := by
  refine q_met (own := RX7) 3 (by decide) rfl (Nat.le_of_ble_eq_true rfl) (ls := [some (.ref p0), some (.int p1), none, none, none]) rfl fun h => ?_
  unfold f7_targetFor
  refine p_aload_n rfl dX7_targetFor_0 rfl ?_
  refine p_iload_n rfl dX7_targetFor_1 rfl ?_
  refine p_callVr (f := f7_filesOn p0 p1) (st := []) [.int p1] qRokX (m7_filesOn l hp0 p1) cal_RX7_121 (uX_Stage hp0) rfl rfl ⟨rfl, rfl⟩ ⟨Nat.le_of_ble_eq_true rfl, Nat.le_of_ble_eq_true rfl⟩ (Nat.le_of_ble_eq_true rfl) dX7_targetFor_2 rfl (fun z1 => ?_)
  refine p_if (fun c2 => ?_) (fun c2 => ?_)
  · refine p_if_ne_f (tgt := 10) dX7_targetFor_5 (by decide) rfl c2 ?_
    refine p_iconst (v := (-1 : Int32)) kiconst_m1 dX7_targetFor_8 rfl ?_
    exact p_iret rfl rfl dX7_targetFor_9
  · refine p_if_ne_t (tgt := 10) dX7_targetFor_5 (by decide) c2 ?_
    refine p_iconst (v := (-1 : Int32)) kiconst_m1 dX7_targetFor_10 rfl ?_
    refine p_is_n (ls' := [some (.ref p0), some (.int p1), some (.int (-1 : Int32)), none, none]) dX7_targetFor_11 rfl rfl rfl rfl ?_
    refine p_iconst (v := (0 : Int32)) kiconst_0 dX7_targetFor_12 rfl ?_
    refine p_is_n (ls' := [some (.ref p0), some (.int p1), some (.int (-1 : Int32)), some (.int (0 : Int32)), none]) dX7_targetFor_13 rfl rfl rfl rfl ?_
    refine w7_targetFor_L14 l p0 p1 h hp0 (fun x18 x19 => ?_) qN _ _
    refine p_iload_n rfl dX7_targetFor_79 rfl ?_
    exact p_iret rfl rfl dX7_targetFor_80
noncomputable def f7_weakTapes_L4 (p0 : Nat) (h : qH) (k : Int32 → Int32 → Option (Int32)) : Nat → Int32 → Int32 → Option (Int32)
  | 0, _, _ => none
  | n + 1, x1, x2 =>
    if (h.1 6 1) ≤ x2 then (
      k x1 x2)
    else (
      qg (qin x2 8) <|
      qj (fun (x4 : Int32) =>
        qlt (x1 ||| x4) fun (x7 : Int32) =>
        qlt (x2 + (1 : Int32)) fun (x8 : Int32) =>
        f7_weakTapes_L4 p0 h k n x7 x8) fun j5 =>
      if (h.1 (p0 + 4) (ix x2)) ≤ (h.1 7 6) then (
        j5 (0 : Int32))
      else (
        (f7_filesOn p0 x2 h).bind fun (z10 : Int32) =>
        if z10 ≤ 0 then (
          j5 (0 : Int32))
        else (
          j5 ((1 : Int32) <<< (x2 &&& 31)))))
set_option maxRecDepth 100000 in
set_option maxHeartbeats 4000000 in
theorem w7_weakTapes_L4 (l : Launch) (p0 : Nat) (h : qH) (hp0 : kStage p0) {k : Int32 → Int32 → Option (Int32)} (hk : ∀ (x1 : Int32) (x2 : Int32), PW UX ROX l R7_weakTapes cX7_weakTapes 3 (some .int) RX7 (qEr h) 58 [some (.ref p0), some (.int x1), some (.int x2)] [] h (k x1 x2)) : ∀ (n : Nat) (x1 : Int32) (x2 : Int32), PW UX ROX l R7_weakTapes cX7_weakTapes 3 (some .int) RX7 (qEr h) 4 [some (.ref p0), some (.int x1), some (.int x2)] [] h (f7_weakTapes_L4 p0 h k n x1 x2) := by
  intro n
  induction n with
  | zero => intro _ _; exact p_none
  | succ n ih =>
    intro x1 x2
    unfold f7_weakTapes_L4
    refine p_iload_n rfl dX7_weakTapes_4 rfl ?_
    refine p_aload_n rfl dX7_weakTapes_5 rfl ?_
    refine p_getr qg_RX7_45 (uX_Stage hp0) rfl dX7_weakTapes_6 rfl ?_
    refine p_geti qg_RX7_133 uX_6 rfl dX7_weakTapes_9 rfl ?_
    refine p_if (fun c3 => ?_) (fun c3 => ?_)
    · refine p_icmp_ge_t (tgt := 58) dX7_weakTapes_12 (by decide) c3 ?_
      exact hk x1 x2
    · refine p_icmp_ge_f (tgt := 58) dX7_weakTapes_12 (by decide) rfl c3 ?_
      refine p_iload_n rfl dX7_weakTapes_15 rfl ?_
      refine p_aload_n rfl dX7_weakTapes_16 rfl ?_
      refine p_getr qg_RX7_21 (uX_Stage hp0) rfl dX7_weakTapes_17 rfl ?_
      refine p_iload_n rfl dX7_weakTapes_20 rfl ?_
      refine p_iald (uX_Stage_4 hp0) dX7_weakTapes_21 rfl (fun _ => ?_)
      refine p_aload_n rfl dX7_weakTapes_22 rfl ?_
      refine p_getr qg_RX7_45 (uX_Stage hp0) rfl dX7_weakTapes_23 rfl ?_
      refine p_getr qg_RX7_206 uX_6 rfl dX7_weakTapes_26 rfl ?_
      refine p_bipush (v := (6 : Int32)) kbipush_6 dX7_weakTapes_29 rfl ?_
      refine p_ialdK uX_7 kix_6 kqin_6_8 dX7_weakTapes_31 rfl ?_
      refine p_jn (fun j5 => ∀ (x4 : Int32), PW UX ROX l R7_weakTapes cX7_weakTapes 3 (some .int) RX7 (qEr h) 50 [some (.ref p0), some (.int x1), some (.int x2)] [.int x4, .int x1] h (j5 x4)) (fun x4 => ?_) (fun j5 J6 => ?_)
      · refine p_ior dX7_weakTapes_50 rfl ?_
        refine p_isN_n (lf := fun x7 => [some (.ref p0), some (.int x7), some (.int x2)]) dX7_weakTapes_51 rfl rfl rfl (fun _ => rfl) (fun x7 => ?_)
        refine p_iiN (v := (1 : Int32)) (lf := fun x8 => [some (.ref p0), some (.int x7), some (.int x8)]) kiconst_1 dX7_weakTapes_52 rfl rfl rfl rfl (fun _ => rfl) (fun x8 => ?_)
        refine p_goto (tgt := 4) dX7_weakTapes_55 (by decide) ?_
        exact ih x7 x8
      · refine p_if (fun c9 => ?_) (fun c9 => ?_)
        · refine p_icmp_le_t (tgt := 49) dX7_weakTapes_32 (by decide) c9 ?_
          refine p_iconst (v := (0 : Int32)) kiconst_0 dX7_weakTapes_49 rfl ?_
          exact J6 (0 : Int32)
        · refine p_icmp_le_f (tgt := 49) dX7_weakTapes_32 (by decide) rfl c9 ?_
          refine p_aload_n rfl dX7_weakTapes_35 rfl ?_
          refine p_iload_n rfl dX7_weakTapes_36 rfl ?_
          refine p_callVr (f := f7_filesOn p0 x2) (st := [.int x1]) [.int x2] qRokX (m7_filesOn l hp0 x2) cal_RX7_121 (uX_Stage hp0) rfl rfl ⟨rfl, rfl⟩ ⟨Nat.le_of_ble_eq_true rfl, Nat.le_of_ble_eq_true rfl⟩ (Nat.le_of_ble_eq_true rfl) dX7_weakTapes_37 rfl (fun z10 => ?_)
          refine p_if (fun c11 => ?_) (fun c11 => ?_)
          · refine p_if_le_t (tgt := 49) dX7_weakTapes_40 (by decide) c11 ?_
            refine p_iconst (v := (0 : Int32)) kiconst_0 dX7_weakTapes_49 rfl ?_
            exact J6 (0 : Int32)
          · refine p_if_le_f (tgt := 49) dX7_weakTapes_40 (by decide) rfl c11 ?_
            refine p_iconst (v := (1 : Int32)) kiconst_1 dX7_weakTapes_43 rfl ?_
            refine p_iload_n rfl dX7_weakTapes_44 rfl ?_
            refine p_ishl dX7_weakTapes_45 rfl ?_
            refine p_goto (tgt := 50) dX7_weakTapes_46 (by decide) ?_
            exact J6 ((1 : Int32) <<< (x2 &&& 31))
noncomputable def f7_weakTapes (p0 : Nat) (h : qH) : Option (Int32) :=
  f7_weakTapes_L4 p0 h (fun (x12 : Int32) (x13 : Int32) =>
    some x12) qN (0 : Int32) (0 : Int32)
set_option maxRecDepth 100000 in
set_option maxHeartbeats 4000000 in
theorem m7_weakTapes (l : Launch) {p0 : Nat} (hp0 : kStage p0) : qMet UX ROX l yX7_weakTapes (qws yX7_weakTapes cX7_weakTapes 3 (some .int)) R7_weakTapes [.ref p0] (f7_weakTapes p0) qEr := by
  refine q_met (own := RX7) 2 (by decide) rfl (Nat.le_of_ble_eq_true rfl) (ls := [some (.ref p0), none, none]) rfl fun h => ?_
  unfold f7_weakTapes
  refine p_iconst (v := (0 : Int32)) kiconst_0 dX7_weakTapes_0 rfl ?_
  refine p_is_n (ls' := [some (.ref p0), some (.int (0 : Int32)), none]) dX7_weakTapes_1 rfl rfl rfl rfl ?_
  refine p_iconst (v := (0 : Int32)) kiconst_0 dX7_weakTapes_2 rfl ?_
  refine p_is_n (ls' := [some (.ref p0), some (.int (0 : Int32)), some (.int (0 : Int32))]) dX7_weakTapes_3 rfl rfl rfl rfl ?_
  refine w7_weakTapes_L4 l p0 h hp0 (fun x12 x13 => ?_) qN _ _
  refine p_iload_n rfl dX7_weakTapes_58 rfl ?_
  exact p_iret rfl rfl dX7_weakTapes_59
noncomputable def f7_canRescue_L7 (p0 : Nat) (z1 : Int32) (h : qH) (k : Int32 → Option (Int32)) : Nat → Int32 → Option (Int32)
  | 0, _ => none
  | n + 1, x2 =>
    if (h.1 6 1) ≤ x2 then (
      k x2)
    else (
      if ((z1 >>> (x2 &&& 31)) &&& (1 : Int32)) = (1 : Int32) then (
        (f7_targetFor p0 x2 h).bind fun (z5 : Int32) =>
        if z5 = (-1 : Int32) then (
          qlt (x2 + (1 : Int32)) fun (x7 : Int32) =>
          f7_canRescue_L7 p0 z1 h k n x7)
        else (
          some (1 : Int32)))
      else (
        qlt (x2 + (1 : Int32)) fun (x8 : Int32) =>
        f7_canRescue_L7 p0 z1 h k n x8))
set_option maxRecDepth 100000 in
set_option maxHeartbeats 4000000 in
theorem w7_canRescue_L7 (l : Launch) (p0 : Nat) (z1 : Int32) (h : qH) (hp0 : kStage p0) {k : Int32 → Option (Int32)} (hk : ∀ (x2 : Int32), PW UX ROX l R7_canRescue cX7_canRescue 3 (some .boolean) RX7 (qEr h) 44 [some (.ref p0), some (.int z1), some (.int x2)] [] h (k x2)) : ∀ (n : Nat) (x2 : Int32), PW UX ROX l R7_canRescue cX7_canRescue 3 (some .boolean) RX7 (qEr h) 7 [some (.ref p0), some (.int z1), some (.int x2)] [] h (f7_canRescue_L7 p0 z1 h k n x2) := by
  intro n
  induction n with
  | zero => intro _; exact p_none
  | succ n ih =>
    intro x2
    unfold f7_canRescue_L7
    refine p_iload_n rfl dX7_canRescue_7 rfl ?_
    refine p_aload_n rfl dX7_canRescue_8 rfl ?_
    refine p_getr qg_RX7_45 (uX_Stage hp0) rfl dX7_canRescue_9 rfl ?_
    refine p_geti qg_RX7_133 uX_6 rfl dX7_canRescue_12 rfl ?_
    refine p_if (fun c3 => ?_) (fun c3 => ?_)
    · refine p_icmp_ge_t (tgt := 44) dX7_canRescue_15 (by decide) c3 ?_
      exact hk x2
    · refine p_icmp_ge_f (tgt := 44) dX7_canRescue_15 (by decide) rfl c3 ?_
      refine p_iload_n rfl dX7_canRescue_18 rfl ?_
      refine p_iload_n rfl dX7_canRescue_19 rfl ?_
      refine p_ishr dX7_canRescue_20 rfl ?_
      refine p_iconst (v := (1 : Int32)) kiconst_1 dX7_canRescue_21 rfl ?_
      refine p_iand dX7_canRescue_22 rfl ?_
      refine p_iconst (v := (1 : Int32)) kiconst_1 dX7_canRescue_23 rfl ?_
      refine p_if (fun c4 => ?_) (fun c4 => ?_)
      · refine p_icmp_ne_f (tgt := 38) dX7_canRescue_24 (by decide) rfl c4 ?_
        refine p_aload_n rfl dX7_canRescue_27 rfl ?_
        refine p_iload_n rfl dX7_canRescue_28 rfl ?_
        refine p_callVr (f := f7_targetFor p0 x2) (st := []) [.int x2] qRokX (m7_targetFor l hp0 x2) cal_RX7_136 (uX_Stage hp0) rfl rfl ⟨rfl, rfl⟩ ⟨Nat.le_of_ble_eq_true rfl, Nat.le_of_ble_eq_true rfl⟩ (Nat.le_of_ble_eq_true rfl) dX7_canRescue_29 rfl (fun z5 => ?_)
        refine p_iconst (v := (-1 : Int32)) kiconst_m1 dX7_canRescue_32 rfl ?_
        refine p_if (fun c6 => ?_) (fun c6 => ?_)
        · refine p_icmp_eq_t (tgt := 38) dX7_canRescue_33 (by decide) c6 ?_
          refine p_iiN (v := (1 : Int32)) (lf := fun x7 => [some (.ref p0), some (.int z1), some (.int x7)]) kiconst_1 dX7_canRescue_38 rfl rfl rfl rfl (fun _ => rfl) (fun x7 => ?_)
          refine p_goto (tgt := 7) dX7_canRescue_41 (by decide) ?_
          exact ih x7
        · refine p_icmp_eq_f (tgt := 38) dX7_canRescue_33 (by decide) rfl c6 ?_
          refine p_iconst (v := (1 : Int32)) kiconst_1 dX7_canRescue_36 rfl ?_
          exact p_zret rfl kzr_1 rfl dX7_canRescue_37
      · refine p_icmp_ne_t (tgt := 38) dX7_canRescue_24 (by decide) c4 ?_
        refine p_iiN (v := (1 : Int32)) (lf := fun x8 => [some (.ref p0), some (.int z1), some (.int x8)]) kiconst_1 dX7_canRescue_38 rfl rfl rfl rfl (fun _ => rfl) (fun x8 => ?_)
        refine p_goto (tgt := 7) dX7_canRescue_41 (by decide) ?_
        exact ih x8
noncomputable def f7_canRescue (p0 : Nat) (h : qH) : Option (Int32) :=
  (f7_weakTapes p0 h).bind fun (z1 : Int32) =>
  f7_canRescue_L7 p0 z1 h (fun (x9 : Int32) =>
    some (0 : Int32)) qN (0 : Int32)
set_option maxRecDepth 100000 in
set_option maxHeartbeats 4000000 in
theorem m7_canRescue (l : Launch) {p0 : Nat} (hp0 : kStage p0) : qMet UX ROX l yX7_canRescue (qws yX7_canRescue cX7_canRescue 3 (some .boolean)) R7_canRescue [.ref p0] (f7_canRescue p0) qEr := by
  refine q_met (own := RX7) 2 (by decide) rfl (Nat.le_of_ble_eq_true rfl) (ls := [some (.ref p0), none, none]) rfl fun h => ?_
  unfold f7_canRescue
  refine p_aload_n rfl dX7_canRescue_0 rfl ?_
  refine p_callVr (f := f7_weakTapes p0) (st := []) [] qRokX (m7_weakTapes l hp0) cal_RX7_130 (uX_Stage hp0) rfl rfl ⟨rfl, rfl⟩ ⟨Nat.le_of_ble_eq_true rfl, Nat.le_of_ble_eq_true rfl⟩ (Nat.le_of_ble_eq_true rfl) dX7_canRescue_1 rfl (fun z1 => ?_)
  refine p_is_n (ls' := [some (.ref p0), some (.int z1), none]) dX7_canRescue_4 rfl rfl rfl rfl ?_
  refine p_iconst (v := (0 : Int32)) kiconst_0 dX7_canRescue_5 rfl ?_
  refine p_is_n (ls' := [some (.ref p0), some (.int z1), some (.int (0 : Int32))]) dX7_canRescue_6 rfl rfl rfl rfl ?_
  refine w7_canRescue_L7 l p0 z1 h hp0 (fun x9 => ?_) qN _
  refine p_iconst (v := (0 : Int32)) kiconst_0 dX7_canRescue_44 rfl ?_
  exact p_zret rfl kzr_0 rfl dX7_canRescue_45
noncomputable def f7_knownFiles_L4 (p0 : Nat) (h : qH) (k : Int32 → Int32 → Option (Int32)) : Nat → Int32 → Int32 → Option (Int32)
  | 0, _, _ => none
  | n + 1, x1, x2 =>
    if (h.1 p0 5) ≤ x2 then (
      k x1 x2)
    else (
      qg (qin x2 24) <|
      qlt (x1 + (h.1 (p0 + 10) (ix x2))) fun (x4 : Int32) =>
      qlt (x2 + (1 : Int32)) fun (x5 : Int32) =>
      f7_knownFiles_L4 p0 h k n x4 x5)
set_option maxRecDepth 100000 in
set_option maxHeartbeats 4000000 in
theorem w7_knownFiles_L4 (l : Launch) (p0 : Nat) (h : qH) (hp0 : kStage p0) {k : Int32 → Int32 → Option (Int32)} (hk : ∀ (x1 : Int32) (x2 : Int32), PW UX ROX l R7_knownFiles cX7_knownFiles 3 (some .int) RX7 (qEr h) 27 [some (.ref p0), some (.int x1), some (.int x2)] [] h (k x1 x2)) : ∀ (n : Nat) (x1 : Int32) (x2 : Int32), PW UX ROX l R7_knownFiles cX7_knownFiles 3 (some .int) RX7 (qEr h) 4 [some (.ref p0), some (.int x1), some (.int x2)] [] h (f7_knownFiles_L4 p0 h k n x1 x2) := by
  intro n
  induction n with
  | zero => intro _ _; exact p_none
  | succ n ih =>
    intro x1 x2
    unfold f7_knownFiles_L4
    refine p_iload_n rfl dX7_knownFiles_4 rfl ?_
    refine p_aload_n rfl dX7_knownFiles_5 rfl ?_
    refine p_geti qg_RX7_63 (uX_Stage hp0) rfl dX7_knownFiles_6 rfl ?_
    refine p_if (fun c3 => ?_) (fun c3 => ?_)
    · refine p_icmp_ge_t (tgt := 27) dX7_knownFiles_9 (by decide) c3 ?_
      exact hk x1 x2
    · refine p_icmp_ge_f (tgt := 27) dX7_knownFiles_9 (by decide) rfl c3 ?_
      refine p_iload_n rfl dX7_knownFiles_12 rfl ?_
      refine p_aload_n rfl dX7_knownFiles_13 rfl ?_
      refine p_getr qg_RX7_39 (uX_Stage hp0) rfl dX7_knownFiles_14 rfl ?_
      refine p_iload_n rfl dX7_knownFiles_17 rfl ?_
      refine p_iald (uX_Stage_10 hp0) dX7_knownFiles_18 rfl (fun _ => ?_)
      refine p_iadd dX7_knownFiles_19 rfl ?_
      refine p_isN_n (lf := fun x4 => [some (.ref p0), some (.int x4), some (.int x2)]) dX7_knownFiles_20 rfl rfl rfl (fun _ => rfl) (fun x4 => ?_)
      refine p_iiN (v := (1 : Int32)) (lf := fun x5 => [some (.ref p0), some (.int x4), some (.int x5)]) kiconst_1 dX7_knownFiles_21 rfl rfl rfl rfl (fun _ => rfl) (fun x5 => ?_)
      refine p_goto (tgt := 4) dX7_knownFiles_24 (by decide) ?_
      exact ih x4 x5
noncomputable def f7_knownFiles (p0 : Nat) (h : qH) : Option (Int32) :=
  f7_knownFiles_L4 p0 h (fun (x6 : Int32) (x7 : Int32) =>
    some x6) qN (0 : Int32) (0 : Int32)
set_option maxRecDepth 100000 in
set_option maxHeartbeats 4000000 in
theorem m7_knownFiles (l : Launch) {p0 : Nat} (hp0 : kStage p0) : qMet UX ROX l yX7_knownFiles (qws yX7_knownFiles cX7_knownFiles 3 (some .int)) R7_knownFiles [.ref p0] (f7_knownFiles p0) qEr := by
  refine q_met (own := RX7) 2 (by decide) rfl (Nat.le_of_ble_eq_true rfl) (ls := [some (.ref p0), none, none]) rfl fun h => ?_
  unfold f7_knownFiles
  refine p_iconst (v := (0 : Int32)) kiconst_0 dX7_knownFiles_0 rfl ?_
  refine p_is_n (ls' := [some (.ref p0), some (.int (0 : Int32)), none]) dX7_knownFiles_1 rfl rfl rfl rfl ?_
  refine p_iconst (v := (0 : Int32)) kiconst_0 dX7_knownFiles_2 rfl ?_
  refine p_is_n (ls' := [some (.ref p0), some (.int (0 : Int32)), some (.int (0 : Int32))]) dX7_knownFiles_3 rfl rfl rfl rfl ?_
  refine w7_knownFiles_L4 l p0 h hp0 (fun x6 x7 => ?_) qN _ _
  refine p_iload_n rfl dX7_knownFiles_27 rfl ?_
  exact p_iret rfl rfl dX7_knownFiles_28
noncomputable def f7_hallRefusal (p0 : Nat) (p1 : Int32) (p2 : Int32) (h : qH) : Option (Int32) :=
  if p1 = (1 : Int32) then (
    (f7_askedFiles p0 h).bind fun (z2 : Int32) =>
    qlt (if z2 = 0 then (2 : Int32) else (-1 : Int32)) fun (x4 : Int32) =>
    some x4)
  else (
    if p1 = (7 : Int32) then (
    (f7_knownFiles p0 h).bind fun (z6 : Int32) =>
    qlt (if z6 = 0 then (2 : Int32) else (-1 : Int32)) fun (x8 : Int32) =>
    some x8)
  else (
    if p1 = (9 : Int32) then (
    qlt (if p2 < (1 : Int32) then (1 : Int32) else (if p2 ≤ (99 : Int32) then (-1 : Int32) else (1 : Int32))) fun (x12 : Int32) =>
    some x12)
  else (
    (f7_canRescue p0 h).bind fun (z13 : Int32) =>
    qlt (if z13 = 0 then (2 : Int32) else (-1 : Int32)) fun (x15 : Int32) =>
    some x15)))
set_option maxRecDepth 100000 in
set_option maxHeartbeats 4000000 in
theorem m7_hallRefusal (l : Launch) {p0 : Nat} (hp0 : kStage p0) (p1 : Int32) (p2 : Int32) : qMet UX ROX l yX7_hallRefusal (qws yX7_hallRefusal cX7_hallRefusal 3 (some .int)) R7_hallRefusal [.ref p0, .int p1, .int p2] (f7_hallRefusal p0 p1 p2) qEr := by
  refine q_met (own := RX7) 0 (by decide) rfl (Nat.le_of_ble_eq_true rfl) (ls := [some (.ref p0), some (.int p1), some (.int p2)]) rfl fun h => ?_
  unfold f7_hallRefusal
  refine p_iload_n rfl dX7_hallRefusal_0 rfl ?_
  refine p_if (fun c1 => ?_) (fun c1 => ?_)
  · refine p_lk (off := 35) (tgt := 36) dX7_hallRefusal_1 (by decide) (by rw [c1]; decide) (by decide) ?_
    refine p_aload_n rfl dX7_hallRefusal_36 rfl ?_
    refine p_callVr (f := f7_askedFiles p0) (st := []) [] qRokX (m7_askedFiles l hp0) cal_RX7_117 (uX_Stage hp0) rfl rfl ⟨rfl, rfl⟩ ⟨Nat.le_of_ble_eq_true rfl, Nat.le_of_ble_eq_true rfl⟩ (Nat.le_of_ble_eq_true rfl) dX7_hallRefusal_37 rfl (fun z2 => ?_)
    refine p_vj 48 [some (.ref p0), some (.int p1), some (.int p2)] [] (fun x4 => ?_) (fun J => ?_)
    · exact p_iret rfl rfl dX7_hallRefusal_48
    · refine p_dia (fun c3 => ?_) (fun c3 => ?_)
      · refine p_if_ne_f (tgt := 47) dX7_hallRefusal_40 (by decide) rfl c3 ?_
        refine p_iconst (v := (2 : Int32)) kiconst_2 dX7_hallRefusal_43 rfl ?_
        refine p_goto (tgt := 48) dX7_hallRefusal_44 (by decide) ?_
        exact J _
      · refine p_if_ne_t (tgt := 47) dX7_hallRefusal_40 (by decide) c3 ?_
        refine p_iconst (v := (-1 : Int32)) kiconst_m1 dX7_hallRefusal_47 rfl ?_
        exact J _
  · refine p_if (fun c5 => ?_) (fun c5 => ?_)
    · refine p_lk (off := 48) (tgt := 49) dX7_hallRefusal_1 (by decide) (by rw [c5]; decide) (by decide) ?_
      refine p_aload_n rfl dX7_hallRefusal_49 rfl ?_
      refine p_callVr (f := f7_knownFiles p0) (st := []) [] qRokX (m7_knownFiles l hp0) cal_RX7_124 (uX_Stage hp0) rfl rfl ⟨rfl, rfl⟩ ⟨Nat.le_of_ble_eq_true rfl, Nat.le_of_ble_eq_true rfl⟩ (Nat.le_of_ble_eq_true rfl) dX7_hallRefusal_50 rfl (fun z6 => ?_)
      refine p_vj 61 [some (.ref p0), some (.int p1), some (.int p2)] [] (fun x8 => ?_) (fun J => ?_)
      · exact p_iret rfl rfl dX7_hallRefusal_61
      · refine p_dia (fun c7 => ?_) (fun c7 => ?_)
        · refine p_if_ne_f (tgt := 60) dX7_hallRefusal_53 (by decide) rfl c7 ?_
          refine p_iconst (v := (2 : Int32)) kiconst_2 dX7_hallRefusal_56 rfl ?_
          refine p_goto (tgt := 61) dX7_hallRefusal_57 (by decide) ?_
          exact J _
        · refine p_if_ne_t (tgt := 60) dX7_hallRefusal_53 (by decide) c7 ?_
          refine p_iconst (v := (-1 : Int32)) kiconst_m1 dX7_hallRefusal_60 rfl ?_
          exact J _
    · refine p_if (fun c9 => ?_) (fun c9 => ?_)
      · refine p_lk (off := 61) (tgt := 62) dX7_hallRefusal_1 (by decide) (by rw [c9]; decide) (by decide) ?_
        refine p_iload_n rfl dX7_hallRefusal_62 rfl ?_
        refine p_iconst (v := (1 : Int32)) kiconst_1 dX7_hallRefusal_63 rfl ?_
        refine p_vj 78 [some (.ref p0), some (.int p1), some (.int p2)] [] (fun x12 => ?_) (fun J => ?_)
        · exact p_iret rfl rfl dX7_hallRefusal_78
        · refine p_dia (fun c10 => ?_) (fun c10 => ?_)
          · refine p_icmp_lt_t (tgt := 73) dX7_hallRefusal_64 (by decide) c10 ?_
            refine p_iconst (v := (1 : Int32)) kiconst_1 dX7_hallRefusal_73 rfl ?_
            refine p_goto (tgt := 78) dX7_hallRefusal_74 (by decide) ?_
            exact J _
          · refine p_icmp_lt_f (tgt := 73) dX7_hallRefusal_64 (by decide) rfl c10 ?_
            refine p_iload_n rfl dX7_hallRefusal_67 rfl ?_
            refine p_bipush (v := (99 : Int32)) kbipush_99 dX7_hallRefusal_68 rfl ?_
            refine p_dia (fun c11 => ?_) (fun c11 => ?_)
            · refine p_icmp_le_t (tgt := 77) dX7_hallRefusal_70 (by decide) c11 ?_
              refine p_iconst (v := (-1 : Int32)) kiconst_m1 dX7_hallRefusal_77 rfl ?_
              exact J _
            · refine p_icmp_le_f (tgt := 77) dX7_hallRefusal_70 (by decide) rfl c11 ?_
              refine p_iconst (v := (1 : Int32)) kiconst_1 dX7_hallRefusal_73 rfl ?_
              refine p_goto (tgt := 78) dX7_hallRefusal_74 (by decide) ?_
              exact J _
      · refine p_lk (off := 78) (tgt := 79) dX7_hallRefusal_1 (by decide) (by show Op.lookupswitch.offset [(1, 35), (7, 48), (9, 61)] _ _ = _; rw [lv_osw c1 (by decide)]; rw [lv_osw c5 (by decide)]; rw [lv_osw c9 (by decide)]; rfl) (by decide) ?_
        refine p_aload_n rfl dX7_hallRefusal_79 rfl ?_
        refine p_callVr (f := f7_canRescue p0) (st := []) [] qRokX (m7_canRescue l hp0) cal_RX7_127 (uX_Stage hp0) rfl rfl ⟨rfl, rfl⟩ ⟨Nat.le_of_ble_eq_true rfl, Nat.le_of_ble_eq_true rfl⟩ (Nat.le_of_ble_eq_true rfl) dX7_hallRefusal_80 rfl (fun z13 => ?_)
        refine p_vj 91 [some (.ref p0), some (.int p1), some (.int p2)] [] (fun x15 => ?_) (fun J => ?_)
        · exact p_iret rfl rfl dX7_hallRefusal_91
        · refine p_dia (fun c14 => ?_) (fun c14 => ?_)
          · refine p_if_eq_t (tgt := 90) dX7_hallRefusal_83 (by decide) c14 ?_
            refine p_iconst (v := (2 : Int32)) kiconst_2 dX7_hallRefusal_90 rfl ?_
            exact J _
          · refine p_if_eq_f (tgt := 90) dX7_hallRefusal_83 (by decide) rfl c14 ?_
            refine p_iconst (v := (-1 : Int32)) kiconst_m1 dX7_hallRefusal_86 rfl ?_
            refine p_goto (tgt := 91) dX7_hallRefusal_87 (by decide) ?_
            exact J _
noncomputable def f7_writingRefusal (p0 : Nat) (p1 : Int32) (p2 : Int32) (h : qH) : Option (Int32) :=
  (f4_isTape 6 p1 h).bind fun (z1 : Int32) =>
  if z1 = 0 then (
    some (0 : Int32))
  else (
    if p2 < (1 : Int32) then (
      some (1 : Int32))
    else (
      if p2 ≤ (9 : Int32) then (
        qj (fun (x5 : Int32) =>
          some x5) fun j6 =>
        if (24 : Int32) ≤ (h.1 p0 5) then (
          j6 (3 : Int32))
        else (
          (f7_hasRoom p0 p1 p2 h).bind fun (z9 : Int32) =>
          if z9 = 0 then (
            j6 (3 : Int32))
          else (
            j6 (-1 : Int32))))
      else (
        some (1 : Int32))))
set_option maxRecDepth 100000 in
set_option maxHeartbeats 4000000 in
theorem m7_writingRefusal (l : Launch) {p0 : Nat} (hp0 : kStage p0) (p1 : Int32) (p2 : Int32) : qMet UX ROX l yX7_writingRefusal (qws yX7_writingRefusal cX7_writingRefusal 3 (some .int)) R7_writingRefusal [.ref p0, .int p1, .int p2] (f7_writingRefusal p0 p1 p2) qEr := by
  refine q_met (own := RX7) 0 (by decide) rfl (Nat.le_of_ble_eq_true rfl) (ls := [some (.ref p0), some (.int p1), some (.int p2)]) rfl fun h => ?_
  unfold f7_writingRefusal
  refine p_aload_n rfl dX7_writingRefusal_0 rfl ?_
  refine p_getr qg_RX7_45 (uX_Stage hp0) rfl dX7_writingRefusal_1 rfl ?_
  refine p_iload_n rfl dX7_writingRefusal_4 rfl ?_
  refine p_callVr (f := f4_isTape 6 p1) (st := []) [.int p1] qRokX (m4_isTape l (kPlan_6) p1) cal_RX7_75 uX_6 rfl rfl ⟨rfl, rfl⟩ ⟨Nat.le_of_ble_eq_true rfl, Nat.le_of_ble_eq_true rfl⟩ (Nat.le_of_ble_eq_true rfl) dX7_writingRefusal_5 rfl (fun z1 => ?_)
  refine p_if (fun c2 => ?_) (fun c2 => ?_)
  · refine p_if_ne_f (tgt := 13) dX7_writingRefusal_8 (by decide) rfl c2 ?_
    refine p_iconst (v := (0 : Int32)) kiconst_0 dX7_writingRefusal_11 rfl ?_
    exact p_iret rfl rfl dX7_writingRefusal_12
  · refine p_if_ne_t (tgt := 13) dX7_writingRefusal_8 (by decide) c2 ?_
    refine p_iload_n rfl dX7_writingRefusal_13 rfl ?_
    refine p_iconst (v := (1 : Int32)) kiconst_1 dX7_writingRefusal_14 rfl ?_
    refine p_if (fun c3 => ?_) (fun c3 => ?_)
    · refine p_icmp_lt_t (tgt := 24) dX7_writingRefusal_15 (by decide) c3 ?_
      refine p_iconst (v := (1 : Int32)) kiconst_1 dX7_writingRefusal_24 rfl ?_
      exact p_iret rfl rfl dX7_writingRefusal_25
    · refine p_icmp_lt_f (tgt := 24) dX7_writingRefusal_15 (by decide) rfl c3 ?_
      refine p_iload_n rfl dX7_writingRefusal_18 rfl ?_
      refine p_bipush (v := (9 : Int32)) kbipush_9 dX7_writingRefusal_19 rfl ?_
      refine p_if (fun c4 => ?_) (fun c4 => ?_)
      · refine p_icmp_le_t (tgt := 26) dX7_writingRefusal_21 (by decide) c4 ?_
        refine p_aload_n rfl dX7_writingRefusal_26 rfl ?_
        refine p_geti qg_RX7_63 (uX_Stage hp0) rfl dX7_writingRefusal_27 rfl ?_
        refine p_bipush (v := (24 : Int32)) kbipush_24 dX7_writingRefusal_30 rfl ?_
        refine p_jn (fun j6 => ∀ (x5 : Int32), PW UX ROX l R7_writingRefusal cX7_writingRefusal 3 (some .int) RX7 (qEr h) 49 [some (.ref p0), some (.int p1), some (.int p2)] [.int x5] h (j6 x5)) (fun x5 => ?_) (fun j6 J7 => ?_)
        · exact p_iret rfl rfl dX7_writingRefusal_49
        · refine p_if (fun c8 => ?_) (fun c8 => ?_)
          · refine p_icmp_ge_t (tgt := 44) dX7_writingRefusal_32 (by decide) c8 ?_
            refine p_iconst (v := (3 : Int32)) kiconst_3 dX7_writingRefusal_44 rfl ?_
            refine p_goto (tgt := 49) dX7_writingRefusal_45 (by decide) ?_
            exact J7 (3 : Int32)
          · refine p_icmp_ge_f (tgt := 44) dX7_writingRefusal_32 (by decide) rfl c8 ?_
            refine p_aload_n rfl dX7_writingRefusal_35 rfl ?_
            refine p_iload_n rfl dX7_writingRefusal_36 rfl ?_
            refine p_iload_n rfl dX7_writingRefusal_37 rfl ?_
            refine p_callVr (f := f7_hasRoom p0 p1 p2) (st := []) [.int p1, .int p2] qRokX (m7_hasRoom l hp0 p1 p2) cal_RX7_82 (uX_Stage hp0) rfl rfl ⟨rfl, rfl⟩ ⟨Nat.le_of_ble_eq_true rfl, Nat.le_of_ble_eq_true rfl⟩ (Nat.le_of_ble_eq_true rfl) dX7_writingRefusal_38 rfl (fun z9 => ?_)
            refine p_if (fun c10 => ?_) (fun c10 => ?_)
            · refine p_if_ne_f (tgt := 48) dX7_writingRefusal_41 (by decide) rfl c10 ?_
              refine p_iconst (v := (3 : Int32)) kiconst_3 dX7_writingRefusal_44 rfl ?_
              refine p_goto (tgt := 49) dX7_writingRefusal_45 (by decide) ?_
              exact J7 (3 : Int32)
            · refine p_if_ne_t (tgt := 48) dX7_writingRefusal_41 (by decide) c10 ?_
              refine p_iconst (v := (-1 : Int32)) kiconst_m1 dX7_writingRefusal_48 rfl ?_
              exact J7 (-1 : Int32)
      · refine p_icmp_le_f (tgt := 26) dX7_writingRefusal_21 (by decide) rfl c4 ?_
        refine p_iconst (v := (1 : Int32)) kiconst_1 dX7_writingRefusal_24 rfl ?_
        exact p_iret rfl rfl dX7_writingRefusal_25
noncomputable def f7_refusal (p0 : Nat) (p1 : Int32) (p2 : Int32) (p3 : Int32) (h : qH) : Option (Int32) :=
  if p1 = (0 : Int32) then (
    (f7_askingRefusal p0 p2 h).bind fun (z2 : Int32) =>
    some z2)
  else (
    if p1 = (2 : Int32) then (
    (f7_writingRefusal p0 p2 p3 h).bind fun (z4 : Int32) =>
    some z4)
  else (
    if p1 = (3 : Int32) then (
    (f7_isThere p0 p2 h).bind fun (z6 : Int32) =>
    qlt (if z6 = 0 then (0 : Int32) else (-1 : Int32)) fun (x8 : Int32) =>
    some x8)
  else (
    if p1 = (4 : Int32) then (
    (f4_isTape 6 p2 h).bind fun (z10 : Int32) =>
    qj (fun (x11 : Int32) =>
      some x11) fun j12 =>
    if z10 = 0 then (
      j12 (0 : Int32))
    else (
      qg (qin p2 8) <|
      if (h.1 (p0 + 1) (ix p2)) = (-1 : Int32) then (
        j12 (-1 : Int32))
      else (
        j12 (2 : Int32))))
  else (
    if p1 = (5 : Int32) then (
    (f4_isTape 6 p2 h).bind fun (z17 : Int32) =>
    qj (fun (x18 : Int32) =>
      some x18) fun j19 =>
    if z17 = 0 then (
      j19 (0 : Int32))
    else (
      qg (qin p2 8) <|
      if (h.1 (p0 + 1) (ix p2)) = (-1 : Int32) then (
        j19 (2 : Int32))
      else (
        j19 (-1 : Int32))))
  else (
    if p1 = (6 : Int32) then (
    (f7_copyingRefusal p0 p2 p3 h).bind fun (z24 : Int32) =>
    some z24)
  else (
    if p1 = (8 : Int32) then (
    (f4_isTape 6 p2 h).bind fun (z26 : Int32) =>
    qlt (if z26 = 0 then (0 : Int32) else (-1 : Int32)) fun (x28 : Int32) =>
    some x28)
  else (
    (f4_isTold 6 h).bind fun (z29 : Int32) =>
    qj (fun (x30 : Int32) =>
      some x30) fun j31 =>
    if z29 = 0 then (
      j31 (0 : Int32))
    else (
      (f7_hallRefusal p0 p1 p2 h).bind fun (z34 : Int32) =>
      j31 z34))))))))
set_option maxRecDepth 100000 in
set_option maxHeartbeats 4000000 in
theorem m7_refusal (l : Launch) {p0 : Nat} (hp0 : kStage p0) (p1 : Int32) (p2 : Int32) (p3 : Int32) : qMet UX ROX l yX7_refusal (qws yX7_refusal cX7_refusal 4 (some .int)) R7_refusal [.ref p0, .int p1, .int p2, .int p3] (f7_refusal p0 p1 p2 p3) qEr := by
  refine q_met (own := RX7) 0 (by decide) rfl (Nat.le_of_ble_eq_true rfl) (ls := [some (.ref p0), some (.int p1), some (.int p2), some (.int p3)]) rfl fun h => ?_
  unfold f7_refusal
  refine p_iload_n rfl dX7_refusal_0 rfl ?_
  refine p_if (fun c1 => ?_) (fun c1 => ?_)
  · refine p_swI (v := (0 : Int32)) (tgt := 52) dX7_refusal_1 c1 (by decide) (by decide) rfl (by decide) ?_
    refine p_aload_n rfl dX7_refusal_52 rfl ?_
    refine p_iload_n rfl dX7_refusal_53 rfl ?_
    refine p_callVr (f := f7_askingRefusal p0 p2) (st := []) [.int p2] qRokX (m7_askingRefusal l hp0 p2) cal_RX7_96 (uX_Stage hp0) rfl rfl ⟨rfl, rfl⟩ ⟨Nat.le_of_ble_eq_true rfl, Nat.le_of_ble_eq_true rfl⟩ (Nat.le_of_ble_eq_true rfl) dX7_refusal_54 rfl (fun z2 => ?_)
    exact p_iret rfl rfl dX7_refusal_57
  · refine p_if (fun c3 => ?_) (fun c3 => ?_)
    · refine p_swI (v := (2 : Int32)) (tgt := 58) dX7_refusal_1 c3 (by decide) (by decide) rfl (by decide) ?_
      refine p_aload_n rfl dX7_refusal_58 rfl ?_
      refine p_iload_n rfl dX7_refusal_59 rfl ?_
      refine p_iload_n rfl dX7_refusal_60 rfl ?_
      refine p_callVr (f := f7_writingRefusal p0 p2 p3) (st := []) [.int p2, .int p3] qRokX (m7_writingRefusal l hp0 p2 p3) cal_RX7_100 (uX_Stage hp0) rfl rfl ⟨rfl, rfl⟩ ⟨Nat.le_of_ble_eq_true rfl, Nat.le_of_ble_eq_true rfl⟩ (Nat.le_of_ble_eq_true rfl) dX7_refusal_61 rfl (fun z4 => ?_)
      exact p_iret rfl rfl dX7_refusal_64
    · refine p_if (fun c5 => ?_) (fun c5 => ?_)
      · refine p_swI (v := (3 : Int32)) (tgt := 65) dX7_refusal_1 c5 (by decide) (by decide) rfl (by decide) ?_
        refine p_aload_n rfl dX7_refusal_65 rfl ?_
        refine p_iload_n rfl dX7_refusal_66 rfl ?_
        refine p_callVr (f := f7_isThere p0 p2) (st := []) [.int p2] qRokX (m7_isThere l hp0 p2) cal_RX7_104 (uX_Stage hp0) rfl rfl ⟨rfl, rfl⟩ ⟨Nat.le_of_ble_eq_true rfl, Nat.le_of_ble_eq_true rfl⟩ (Nat.le_of_ble_eq_true rfl) dX7_refusal_67 rfl (fun z6 => ?_)
        refine p_vj 78 [some (.ref p0), some (.int p1), some (.int p2), some (.int p3)] [] (fun x8 => ?_) (fun J => ?_)
        · exact p_iret rfl rfl dX7_refusal_78
        · refine p_dia (fun c7 => ?_) (fun c7 => ?_)
          · refine p_if_eq_t (tgt := 77) dX7_refusal_70 (by decide) c7 ?_
            refine p_iconst (v := (0 : Int32)) kiconst_0 dX7_refusal_77 rfl ?_
            exact J _
          · refine p_if_eq_f (tgt := 77) dX7_refusal_70 (by decide) rfl c7 ?_
            refine p_iconst (v := (-1 : Int32)) kiconst_m1 dX7_refusal_73 rfl ?_
            refine p_goto (tgt := 78) dX7_refusal_74 (by decide) ?_
            exact J _
      · refine p_if (fun c9 => ?_) (fun c9 => ?_)
        · refine p_swI (v := (4 : Int32)) (tgt := 79) dX7_refusal_1 c9 (by decide) (by decide) rfl (by decide) ?_
          refine p_aload_n rfl dX7_refusal_79 rfl ?_
          refine p_getr qg_RX7_45 (uX_Stage hp0) rfl dX7_refusal_80 rfl ?_
          refine p_iload_n rfl dX7_refusal_83 rfl ?_
          refine p_callVr (f := f4_isTape 6 p2) (st := []) [.int p2] qRokX (m4_isTape l (kPlan_6) p2) cal_RX7_75 uX_6 rfl rfl ⟨rfl, rfl⟩ ⟨Nat.le_of_ble_eq_true rfl, Nat.le_of_ble_eq_true rfl⟩ (Nat.le_of_ble_eq_true rfl) dX7_refusal_84 rfl (fun z10 => ?_)
          refine p_jn (fun j12 => ∀ (x11 : Int32), PW UX ROX l R7_refusal cX7_refusal 4 (some .int) RX7 (qEr h) 109 [some (.ref p0), some (.int p1), some (.int p2), some (.int p3)] [.int x11] h (j12 x11)) (fun x11 => ?_) (fun j12 J13 => ?_)
          · exact p_iret rfl rfl dX7_refusal_109
          · refine p_if (fun c14 => ?_) (fun c14 => ?_)
            · refine p_if_ne_f (tgt := 94) dX7_refusal_87 (by decide) rfl c14 ?_
              refine p_iconst (v := (0 : Int32)) kiconst_0 dX7_refusal_90 rfl ?_
              refine p_goto (tgt := 109) dX7_refusal_91 (by decide) ?_
              exact J13 (0 : Int32)
            · refine p_if_ne_t (tgt := 94) dX7_refusal_87 (by decide) c14 ?_
              refine p_aload_n rfl dX7_refusal_94 rfl ?_
              refine p_getr qg_RX7_9 (uX_Stage hp0) rfl dX7_refusal_95 rfl ?_
              refine p_iload_n rfl dX7_refusal_98 rfl ?_
              refine p_iald (uX_Stage_1 hp0) dX7_refusal_99 rfl (fun _ => ?_)
              refine p_iconst (v := (-1 : Int32)) kiconst_m1 dX7_refusal_100 rfl ?_
              refine p_if (fun c15 => ?_) (fun c15 => ?_)
              · refine p_icmp_eq_t (tgt := 108) dX7_refusal_101 (by decide) c15 ?_
                refine p_iconst (v := (-1 : Int32)) kiconst_m1 dX7_refusal_108 rfl ?_
                exact J13 (-1 : Int32)
              · refine p_icmp_eq_f (tgt := 108) dX7_refusal_101 (by decide) rfl c15 ?_
                refine p_iconst (v := (2 : Int32)) kiconst_2 dX7_refusal_104 rfl ?_
                refine p_goto (tgt := 109) dX7_refusal_105 (by decide) ?_
                exact J13 (2 : Int32)
        · refine p_if (fun c16 => ?_) (fun c16 => ?_)
          · refine p_swI (v := (5 : Int32)) (tgt := 110) dX7_refusal_1 c16 (by decide) (by decide) rfl (by decide) ?_
            refine p_aload_n rfl dX7_refusal_110 rfl ?_
            refine p_getr qg_RX7_45 (uX_Stage hp0) rfl dX7_refusal_111 rfl ?_
            refine p_iload_n rfl dX7_refusal_114 rfl ?_
            refine p_callVr (f := f4_isTape 6 p2) (st := []) [.int p2] qRokX (m4_isTape l (kPlan_6) p2) cal_RX7_75 uX_6 rfl rfl ⟨rfl, rfl⟩ ⟨Nat.le_of_ble_eq_true rfl, Nat.le_of_ble_eq_true rfl⟩ (Nat.le_of_ble_eq_true rfl) dX7_refusal_115 rfl (fun z17 => ?_)
            refine p_jn (fun j19 => ∀ (x18 : Int32), PW UX ROX l R7_refusal cX7_refusal 4 (some .int) RX7 (qEr h) 140 [some (.ref p0), some (.int p1), some (.int p2), some (.int p3)] [.int x18] h (j19 x18)) (fun x18 => ?_) (fun j19 J20 => ?_)
            · exact p_iret rfl rfl dX7_refusal_140
            · refine p_if (fun c21 => ?_) (fun c21 => ?_)
              · refine p_if_ne_f (tgt := 125) dX7_refusal_118 (by decide) rfl c21 ?_
                refine p_iconst (v := (0 : Int32)) kiconst_0 dX7_refusal_121 rfl ?_
                refine p_goto (tgt := 140) dX7_refusal_122 (by decide) ?_
                exact J20 (0 : Int32)
              · refine p_if_ne_t (tgt := 125) dX7_refusal_118 (by decide) c21 ?_
                refine p_aload_n rfl dX7_refusal_125 rfl ?_
                refine p_getr qg_RX7_9 (uX_Stage hp0) rfl dX7_refusal_126 rfl ?_
                refine p_iload_n rfl dX7_refusal_129 rfl ?_
                refine p_iald (uX_Stage_1 hp0) dX7_refusal_130 rfl (fun _ => ?_)
                refine p_iconst (v := (-1 : Int32)) kiconst_m1 dX7_refusal_131 rfl ?_
                refine p_if (fun c22 => ?_) (fun c22 => ?_)
                · refine p_icmp_ne_f (tgt := 139) dX7_refusal_132 (by decide) rfl c22 ?_
                  refine p_iconst (v := (2 : Int32)) kiconst_2 dX7_refusal_135 rfl ?_
                  refine p_goto (tgt := 140) dX7_refusal_136 (by decide) ?_
                  exact J20 (2 : Int32)
                · refine p_icmp_ne_t (tgt := 139) dX7_refusal_132 (by decide) c22 ?_
                  refine p_iconst (v := (-1 : Int32)) kiconst_m1 dX7_refusal_139 rfl ?_
                  exact J20 (-1 : Int32)
          · refine p_if (fun c23 => ?_) (fun c23 => ?_)
            · refine p_swI (v := (6 : Int32)) (tgt := 141) dX7_refusal_1 c23 (by decide) (by decide) rfl (by decide) ?_
              refine p_aload_n rfl dX7_refusal_141 rfl ?_
              refine p_iload_n rfl dX7_refusal_142 rfl ?_
              refine p_iload_n rfl dX7_refusal_143 rfl ?_
              refine p_callVr (f := f7_copyingRefusal p0 p2 p3) (st := []) [.int p2, .int p3] qRokX (m7_copyingRefusal l hp0 p2 p3) cal_RX7_107 (uX_Stage hp0) rfl rfl ⟨rfl, rfl⟩ ⟨Nat.le_of_ble_eq_true rfl, Nat.le_of_ble_eq_true rfl⟩ (Nat.le_of_ble_eq_true rfl) dX7_refusal_144 rfl (fun z24 => ?_)
              exact p_iret rfl rfl dX7_refusal_147
            · refine p_if (fun c25 => ?_) (fun c25 => ?_)
              · refine p_swI (v := (8 : Int32)) (tgt := 148) dX7_refusal_1 c25 (by decide) (by decide) rfl (by decide) ?_
                refine p_aload_n rfl dX7_refusal_148 rfl ?_
                refine p_getr qg_RX7_45 (uX_Stage hp0) rfl dX7_refusal_149 rfl ?_
                refine p_iload_n rfl dX7_refusal_152 rfl ?_
                refine p_callVr (f := f4_isTape 6 p2) (st := []) [.int p2] qRokX (m4_isTape l (kPlan_6) p2) cal_RX7_75 uX_6 rfl rfl ⟨rfl, rfl⟩ ⟨Nat.le_of_ble_eq_true rfl, Nat.le_of_ble_eq_true rfl⟩ (Nat.le_of_ble_eq_true rfl) dX7_refusal_153 rfl (fun z26 => ?_)
                refine p_vj 164 [some (.ref p0), some (.int p1), some (.int p2), some (.int p3)] [] (fun x28 => ?_) (fun J => ?_)
                · exact p_iret rfl rfl dX7_refusal_164
                · refine p_dia (fun c27 => ?_) (fun c27 => ?_)
                  · refine p_if_eq_t (tgt := 163) dX7_refusal_156 (by decide) c27 ?_
                    refine p_iconst (v := (0 : Int32)) kiconst_0 dX7_refusal_163 rfl ?_
                    exact J _
                  · refine p_if_eq_f (tgt := 163) dX7_refusal_156 (by decide) rfl c27 ?_
                    refine p_iconst (v := (-1 : Int32)) kiconst_m1 dX7_refusal_159 rfl ?_
                    refine p_goto (tgt := 164) dX7_refusal_160 (by decide) ?_
                    exact J _
              · refine p_sv (pcJ := 165) (stJ := []) ?_ (fun D35 => ?_)
                · refine p_aload_n rfl dX7_refusal_165 rfl ?_
                  refine p_getr qg_RX7_45 (uX_Stage hp0) rfl dX7_refusal_166 rfl ?_
                  refine p_callVr (f := f4_isTold 6) (st := []) [] qRokX (m4_isTold l (kPlan_6)) cal_RX7_110 uX_6 rfl rfl ⟨rfl, rfl⟩ ⟨Nat.le_of_ble_eq_true rfl, Nat.le_of_ble_eq_true rfl⟩ (Nat.le_of_ble_eq_true rfl) dX7_refusal_169 rfl (fun z29 => ?_)
                  refine p_jn (fun j31 => ∀ (x30 : Int32), PW UX ROX l R7_refusal cX7_refusal 4 (some .int) RX7 (qEr h) 185 [some (.ref p0), some (.int p1), some (.int p2), some (.int p3)] [.int x30] h (j31 x30)) (fun x30 => ?_) (fun j31 J32 => ?_)
                  · exact p_iret rfl rfl dX7_refusal_185
                  · refine p_if (fun c33 => ?_) (fun c33 => ?_)
                    · refine p_if_eq_t (tgt := 184) dX7_refusal_172 (by decide) c33 ?_
                      refine p_iconst (v := (0 : Int32)) kiconst_0 dX7_refusal_184 rfl ?_
                      exact J32 (0 : Int32)
                    · refine p_if_eq_f (tgt := 184) dX7_refusal_172 (by decide) rfl c33 ?_
                      refine p_aload_n rfl dX7_refusal_175 rfl ?_
                      refine p_iload_n rfl dX7_refusal_176 rfl ?_
                      refine p_iload_n rfl dX7_refusal_177 rfl ?_
                      refine p_callVr (f := f7_hallRefusal p0 p1 p2) (st := []) [.int p1, .int p2] qRokX (m7_hallRefusal l hp0 p1 p2) cal_RX7_114 (uX_Stage hp0) rfl rfl ⟨rfl, rfl⟩ ⟨Nat.le_of_ble_eq_true rfl, Nat.le_of_ble_eq_true rfl⟩ (Nat.le_of_ble_eq_true rfl) dX7_refusal_178 rfl (fun z34 => ?_)
                      refine p_goto (tgt := 185) dX7_refusal_181 (by decide) ?_
                      exact J32 z34
                · by_cases e36 : p1 = (1 : Int32)
                  · exact p_swI (v := (1 : Int32)) (tgt := 165) dX7_refusal_1 e36 (by decide) (by decide) rfl (by decide) D35
                  by_cases e37 : p1 = (7 : Int32)
                  · exact p_swI (v := (7 : Int32)) (tgt := 165) dX7_refusal_1 e37 (by decide) (by decide) rfl (by decide) D35
                  exact p_swO (tgt := 165) dX7_refusal_1 (by
                      have c1' := lv_neT c1 (a := 0) (by decide)
                      have c3' := lv_neT c3 (a := 2) (by decide)
                      have c5' := lv_neT c5 (a := 3) (by decide)
                      have c9' := lv_neT c9 (a := 4) (by decide)
                      have c16' := lv_neT c16 (a := 5) (by decide)
                      have c23' := lv_neT c23 (a := 6) (by decide)
                      have c25' := lv_neT c25 (a := 8) (by decide)
                      have e36' := lv_neT e36 (a := 1) (by decide)
                      have e37' := lv_neT e37 (a := 7) (by decide)
                      omega) (by decide) D35
noncomputable def f7_askFor (p0 : Nat) (p1 : Int32) (h : qH) : Option (Int32 × qH) :=
  qlt (qw h p0 4 ((h.1 p0 4) + (1 : Int32))) fun (h1 : qH) =>
  qg (qin p1 24) <|
  qlt (qw h1 (p0 + 11) (ix p1) (h1.1 p0 4)) fun (h2 : qH) =>
  some ((h2.1 p0 4), h2)
set_option maxRecDepth 100000 in
set_option maxHeartbeats 4000000 in
theorem m7_askFor (l : Launch) {p0 : Nat} (hp0 : kStage p0) (p1 : Int32) : qMet UX ROX l yX7_askFor (qws yX7_askFor cX7_askFor 2 (some .int)) R7_askFor [.ref p0, .int p1] (f7_askFor p0 p1) qEw := by
  refine q_met (own := RX7) 0 (by decide) rfl (Nat.le_of_ble_eq_true rfl) (ls := [some (.ref p0), some (.int p1)]) rfl fun h => ?_
  unfold f7_askFor
  show PW UX ROX l R7_askFor cX7_askFor 2 (some .int) RX7 (qEw h) 0 [some (.ref p0), some (.int p1)] [] h _
  refine p_aload_n rfl dX7_askFor_0 rfl ?_
  refine p_dup rfl dX7_askFor_1 rfl ?_
  refine p_geti qg_RX7_60 (uX_Stage hp0) rfl dX7_askFor_2 rfl ?_
  refine p_iconst (v := (1 : Int32)) kiconst_1 dX7_askFor_5 rfl ?_
  refine p_iadd dX7_askFor_6 rfl ?_
  refine p_puti qokX qp_RX7_60 (uX_Stage hp0) rfl dX7_askFor_7 rfl ?_
  refine p_nmH (fun h1 => ?_)
  refine p_aload_n rfl dX7_askFor_10 rfl ?_
  refine p_getr qg_RX7_42 (uX_Stage hp0) rfl dX7_askFor_11 rfl ?_
  refine p_iload_n rfl dX7_askFor_14 rfl ?_
  refine p_aload_n rfl dX7_askFor_15 rfl ?_
  refine p_geti qg_RX7_60 (uX_Stage hp0) rfl dX7_askFor_16 rfl ?_
  refine p_iast qokX (uX_Stage_11 hp0) dX7_askFor_19 rfl (fun _ => ?_)
  refine p_nmH (fun h2 => ?_)
  refine p_aload_n rfl dX7_askFor_20 rfl ?_
  refine p_geti qg_RX7_60 (uX_Stage hp0) rfl dX7_askFor_21 rfl ?_
  exact p_iret rfl rfl dX7_askFor_24
noncomputable def f7_longestUnused_L4 (p0 : Nat) (h : qH) (k : Int32 → Int32 → Option (Int32)) : Nat → Int32 → Int32 → Option (Int32)
  | 0, _, _ => none
  | n + 1, x1, x2 =>
    if (h.1 6 1) ≤ x2 then (
      k x1 x2)
    else (
      qg (qin x2 8) <|
      qj (fun (x4 : Int32) =>
        qlt (x2 + (1 : Int32)) fun (x7 : Int32) =>
        f7_longestUnused_L4 p0 h k n x4 x7) fun j5 =>
      if (h.1 (p0 + 1) (ix x2)) = (-1 : Int32) then (
        j5 x1)
      else (
        if x1 = (-1 : Int32) then (
          j5 x2)
        else (
          qg (qin x2 8) <|
          qg (qin x1 8) <|
          if (h.1 (p0 + 6) (ix x1)) ≤ (h.1 (p0 + 6) (ix x2)) then (
            j5 x1)
          else (
            j5 x2))))
set_option maxRecDepth 100000 in
set_option maxHeartbeats 4000000 in
theorem w7_longestUnused_L4 (l : Launch) (p0 : Nat) (h : qH) (hp0 : kStage p0) {k : Int32 → Int32 → Option (Int32)} (hk : ∀ (x1 : Int32) (x2 : Int32), PW UX ROX l R7_longestUnused cX7_longestUnused 3 (some .int) RX7 (qEr h) 53 [some (.ref p0), some (.int x1), some (.int x2)] [] h (k x1 x2)) : ∀ (n : Nat) (x1 : Int32) (x2 : Int32), PW UX ROX l R7_longestUnused cX7_longestUnused 3 (some .int) RX7 (qEr h) 4 [some (.ref p0), some (.int x1), some (.int x2)] [] h (f7_longestUnused_L4 p0 h k n x1 x2) := by
  intro n
  induction n with
  | zero => intro _ _; exact p_none
  | succ n ih =>
    intro x1 x2
    unfold f7_longestUnused_L4
    refine p_iload_n rfl dX7_longestUnused_4 rfl ?_
    refine p_aload_n rfl dX7_longestUnused_5 rfl ?_
    refine p_getr qg_RX7_45 (uX_Stage hp0) rfl dX7_longestUnused_6 rfl ?_
    refine p_geti qg_RX7_133 uX_6 rfl dX7_longestUnused_9 rfl ?_
    refine p_if (fun c3 => ?_) (fun c3 => ?_)
    · refine p_icmp_ge_t (tgt := 53) dX7_longestUnused_12 (by decide) c3 ?_
      exact hk x1 x2
    · refine p_icmp_ge_f (tgt := 53) dX7_longestUnused_12 (by decide) rfl c3 ?_
      refine p_aload_n rfl dX7_longestUnused_15 rfl ?_
      refine p_getr qg_RX7_9 (uX_Stage hp0) rfl dX7_longestUnused_16 rfl ?_
      refine p_iload_n rfl dX7_longestUnused_19 rfl ?_
      refine p_iald (uX_Stage_1 hp0) dX7_longestUnused_20 rfl (fun _ => ?_)
      refine p_iconst (v := (-1 : Int32)) kiconst_m1 dX7_longestUnused_21 rfl ?_
      refine p_jn (fun j5 => ∀ (x4 : Int32), PW UX ROX l R7_longestUnused cX7_longestUnused 3 (some .int) RX7 (qEr h) 47 [some (.ref p0), some (.int x4), some (.int x2)] [] h (j5 x4)) (fun x4 => ?_) (fun j5 J6 => ?_)
      · refine p_iiN (v := (1 : Int32)) (lf := fun x7 => [some (.ref p0), some (.int x4), some (.int x7)]) kiconst_1 dX7_longestUnused_47 rfl rfl rfl rfl (fun _ => rfl) (fun x7 => ?_)
        refine p_goto (tgt := 4) dX7_longestUnused_50 (by decide) ?_
        exact ih x4 x7
      · refine p_if (fun c8 => ?_) (fun c8 => ?_)
        · refine p_icmp_eq_t (tgt := 47) dX7_longestUnused_22 (by decide) c8 ?_
          exact J6 x1
        · refine p_icmp_eq_f (tgt := 47) dX7_longestUnused_22 (by decide) rfl c8 ?_
          refine p_iload_n rfl dX7_longestUnused_25 rfl ?_
          refine p_iconst (v := (-1 : Int32)) kiconst_m1 dX7_longestUnused_26 rfl ?_
          refine p_if (fun c9 => ?_) (fun c9 => ?_)
          · refine p_icmp_eq_t (tgt := 45) dX7_longestUnused_27 (by decide) c9 ?_
            refine p_iload_n rfl dX7_longestUnused_45 rfl ?_
            refine p_is_n (ls' := [some (.ref p0), some (.int x2), some (.int x2)]) dX7_longestUnused_46 rfl rfl rfl rfl ?_
            exact J6 x2
          · refine p_icmp_eq_f (tgt := 45) dX7_longestUnused_27 (by decide) rfl c9 ?_
            refine p_aload_n rfl dX7_longestUnused_30 rfl ?_
            refine p_getr qg_RX7_27 (uX_Stage hp0) rfl dX7_longestUnused_31 rfl ?_
            refine p_iload_n rfl dX7_longestUnused_34 rfl ?_
            refine p_iald (uX_Stage_6 hp0) dX7_longestUnused_35 rfl (fun _ => ?_)
            refine p_aload_n rfl dX7_longestUnused_36 rfl ?_
            refine p_getr qg_RX7_27 (uX_Stage hp0) rfl dX7_longestUnused_37 rfl ?_
            refine p_iload_n rfl dX7_longestUnused_40 rfl ?_
            refine p_iald (uX_Stage_6 hp0) dX7_longestUnused_41 rfl (fun _ => ?_)
            refine p_if (fun c10 => ?_) (fun c10 => ?_)
            · refine p_icmp_ge_t (tgt := 47) dX7_longestUnused_42 (by decide) c10 ?_
              exact J6 x1
            · refine p_icmp_ge_f (tgt := 47) dX7_longestUnused_42 (by decide) rfl c10 ?_
              refine p_iload_n rfl dX7_longestUnused_45 rfl ?_
              refine p_is_n (ls' := [some (.ref p0), some (.int x2), some (.int x2)]) dX7_longestUnused_46 rfl rfl rfl rfl ?_
              exact J6 x2
noncomputable def f7_longestUnused (p0 : Nat) (h : qH) : Option (Int32) :=
  f7_longestUnused_L4 p0 h (fun (x11 : Int32) (x12 : Int32) =>
    some x11) qN (-1 : Int32) (0 : Int32)
set_option maxRecDepth 100000 in
set_option maxHeartbeats 4000000 in
theorem m7_longestUnused (l : Launch) {p0 : Nat} (hp0 : kStage p0) : qMet UX ROX l yX7_longestUnused (qws yX7_longestUnused cX7_longestUnused 3 (some .int)) R7_longestUnused [.ref p0] (f7_longestUnused p0) qEr := by
  refine q_met (own := RX7) 2 (by decide) rfl (Nat.le_of_ble_eq_true rfl) (ls := [some (.ref p0), none, none]) rfl fun h => ?_
  unfold f7_longestUnused
  refine p_iconst (v := (-1 : Int32)) kiconst_m1 dX7_longestUnused_0 rfl ?_
  refine p_is_n (ls' := [some (.ref p0), some (.int (-1 : Int32)), none]) dX7_longestUnused_1 rfl rfl rfl rfl ?_
  refine p_iconst (v := (0 : Int32)) kiconst_0 dX7_longestUnused_2 rfl ?_
  refine p_is_n (ls' := [some (.ref p0), some (.int (-1 : Int32)), some (.int (0 : Int32))]) dX7_longestUnused_3 rfl rfl rfl rfl ?_
  refine w7_longestUnused_L4 l p0 h hp0 (fun x11 x12 => ?_) qN _ _
  refine p_iload_n rfl dX7_longestUnused_53 rfl ?_
  exact p_iret rfl rfl dX7_longestUnused_54
noncomputable def f7_tapeIn_L2 (p0 : Nat) (p1 : Int32) (h : qH) (k : Int32 → Option (Int32)) : Nat → Int32 → Option (Int32)
  | 0, _ => none
  | n + 1, x1 =>
    if (h.1 6 1) ≤ x1 then (
      k x1)
    else (
      qg (qin x1 8) <|
      if (h.1 (p0 + 1) (ix x1)) = p1 then (
        some x1)
      else (
        qlt (x1 + (1 : Int32)) fun (x4 : Int32) =>
        f7_tapeIn_L2 p0 p1 h k n x4))
set_option maxRecDepth 100000 in
set_option maxHeartbeats 4000000 in
theorem w7_tapeIn_L2 (l : Launch) (p0 : Nat) (p1 : Int32) (h : qH) (hp0 : kStage p0) {k : Int32 → Option (Int32)} (hk : ∀ (x1 : Int32), PW UX ROX l R7_tapeIn cX7_tapeIn 3 (some .int) RX7 (qEr h) 31 [some (.ref p0), some (.int p1), some (.int x1)] [] h (k x1)) : ∀ (n : Nat) (x1 : Int32), PW UX ROX l R7_tapeIn cX7_tapeIn 3 (some .int) RX7 (qEr h) 2 [some (.ref p0), some (.int p1), some (.int x1)] [] h (f7_tapeIn_L2 p0 p1 h k n x1) := by
  intro n
  induction n with
  | zero => intro _; exact p_none
  | succ n ih =>
    intro x1
    unfold f7_tapeIn_L2
    refine p_iload_n rfl dX7_tapeIn_2 rfl ?_
    refine p_aload_n rfl dX7_tapeIn_3 rfl ?_
    refine p_getr qg_RX7_45 (uX_Stage hp0) rfl dX7_tapeIn_4 rfl ?_
    refine p_geti qg_RX7_133 uX_6 rfl dX7_tapeIn_7 rfl ?_
    refine p_if (fun c2 => ?_) (fun c2 => ?_)
    · refine p_icmp_ge_t (tgt := 31) dX7_tapeIn_10 (by decide) c2 ?_
      exact hk x1
    · refine p_icmp_ge_f (tgt := 31) dX7_tapeIn_10 (by decide) rfl c2 ?_
      refine p_aload_n rfl dX7_tapeIn_13 rfl ?_
      refine p_getr qg_RX7_9 (uX_Stage hp0) rfl dX7_tapeIn_14 rfl ?_
      refine p_iload_n rfl dX7_tapeIn_17 rfl ?_
      refine p_iald (uX_Stage_1 hp0) dX7_tapeIn_18 rfl (fun _ => ?_)
      refine p_iload_n rfl dX7_tapeIn_19 rfl ?_
      refine p_if (fun c3 => ?_) (fun c3 => ?_)
      · refine p_icmp_ne_f (tgt := 25) dX7_tapeIn_20 (by decide) rfl c3 ?_
        refine p_iload_n rfl dX7_tapeIn_23 rfl ?_
        exact p_iret rfl rfl dX7_tapeIn_24
      · refine p_icmp_ne_t (tgt := 25) dX7_tapeIn_20 (by decide) c3 ?_
        refine p_iiN (v := (1 : Int32)) (lf := fun x4 => [some (.ref p0), some (.int p1), some (.int x4)]) kiconst_1 dX7_tapeIn_25 rfl rfl rfl rfl (fun _ => rfl) (fun x4 => ?_)
        refine p_goto (tgt := 2) dX7_tapeIn_28 (by decide) ?_
        exact ih x4
noncomputable def f7_tapeIn (p0 : Nat) (p1 : Int32) (h : qH) : Option (Int32) :=
  f7_tapeIn_L2 p0 p1 h (fun (x5 : Int32) =>
    some (-1 : Int32)) qN (0 : Int32)
set_option maxRecDepth 100000 in
set_option maxHeartbeats 4000000 in
theorem m7_tapeIn (l : Launch) {p0 : Nat} (hp0 : kStage p0) (p1 : Int32) : qMet UX ROX l yX7_tapeIn (qws yX7_tapeIn cX7_tapeIn 3 (some .int)) R7_tapeIn [.ref p0, .int p1] (f7_tapeIn p0 p1) qEr := by
  refine q_met (own := RX7) 1 (by decide) rfl (Nat.le_of_ble_eq_true rfl) (ls := [some (.ref p0), some (.int p1), none]) rfl fun h => ?_
  unfold f7_tapeIn
  refine p_iconst (v := (0 : Int32)) kiconst_0 dX7_tapeIn_0 rfl ?_
  refine p_is_n (ls' := [some (.ref p0), some (.int p1), some (.int (0 : Int32))]) dX7_tapeIn_1 rfl rfl rfl rfl ?_
  refine w7_tapeIn_L2 l p0 p1 h hp0 (fun x5 => ?_) qN _
  refine p_iconst (v := (-1 : Int32)) kiconst_m1 dX7_tapeIn_31 rfl ?_
  exact p_iret rfl rfl dX7_tapeIn_32
