noncomputable def f0_signsIn_L5 (p1 : Int32) (h : qH) (k : Int32 → Int32 → Option (Int32)) : Nat → Int32 → Int32 → Option (Int32)
  | 0, _, _ => none
  | n + 1, x1, x2 =>
    if x2 < 0 then (
      k x1 x2)
    else (
      qlt (if (((p1.toUInt32 >>> (x2.toUInt32 &&& Int32.toUInt32 31)).toInt32) &&& (255 : Int32)) = 0 then (0 : Int32) else (1 : Int32)) fun (x5 : Int32) =>
      qlt (x1 + x5) fun (x6 : Int32) =>
      qlt (x2 + (-8 : Int32)) fun (x7 : Int32) =>
      f0_signsIn_L5 p1 h k n x6 x7)
set_option maxRecDepth 100000 in
set_option maxHeartbeats 4000000 in
theorem w0_signsIn_L5 (l : Launch) (p1 : Int32) (h : qH) {k : Int32 → Int32 → Option (Int32)} (hk : ∀ (x1 : Int32) (x2 : Int32), PW UX ROX l R0_signsIn cX0_signsIn 3 (some .int) RX0 (qEr h) 33 [some (.int p1), some (.int x1), some (.int x2)] [] h (k x1 x2)) : ∀ (n : Nat) (x1 : Int32) (x2 : Int32), PW UX ROX l R0_signsIn cX0_signsIn 3 (some .int) RX0 (qEr h) 5 [some (.int p1), some (.int x1), some (.int x2)] [] h (f0_signsIn_L5 p1 h k n x1 x2) := by
  intro n
  induction n with
  | zero => intro _ _; exact p_none
  | succ n ih =>
    intro x1 x2
    unfold f0_signsIn_L5
    refine p_iload_n rfl dX0_signsIn_5 rfl ?_
    refine p_if (fun c3 => ?_) (fun c3 => ?_)
    · refine p_if_lt_t (tgt := 33) dX0_signsIn_6 (by decide) c3 ?_
      exact hk x1 x2
    · refine p_if_lt_f (tgt := 33) dX0_signsIn_6 (by decide) rfl c3 ?_
      refine p_iload_n rfl dX0_signsIn_9 rfl ?_
      refine p_iload_n rfl dX0_signsIn_10 rfl ?_
      refine p_iload_n rfl dX0_signsIn_11 rfl ?_
      refine p_iushr dX0_signsIn_12 rfl ?_
      refine p_sipush (v := (255 : Int32)) ksipush_255 dX0_signsIn_13 rfl ?_
      refine p_iand dX0_signsIn_16 rfl ?_
      refine p_vj 25 [some (.int p1), some (.int x1), some (.int x2)] [.int x1] (fun x5 => ?_) (fun J => ?_)
      · refine p_iadd dX0_signsIn_25 rfl ?_
        refine p_isN_n (lf := fun x6 => [some (.int p1), some (.int x6), some (.int x2)]) dX0_signsIn_26 rfl rfl rfl (fun _ => rfl) (fun x6 => ?_)
        refine p_iiN (v := (-8 : Int32)) (lf := fun x7 => [some (.int p1), some (.int x6), some (.int x7)]) kiconst_m8 dX0_signsIn_27 rfl rfl rfl rfl (fun _ => rfl) (fun x7 => ?_)
        refine p_goto (tgt := 5) dX0_signsIn_30 (by decide) ?_
        exact ih x6 x7
      · refine p_dia (fun c4 => ?_) (fun c4 => ?_)
        · refine p_if_ne_f (tgt := 24) dX0_signsIn_17 (by decide) rfl c4 ?_
          refine p_iconst (v := (0 : Int32)) kiconst_0 dX0_signsIn_20 rfl ?_
          refine p_goto (tgt := 25) dX0_signsIn_21 (by decide) ?_
          exact J _
        · refine p_if_ne_t (tgt := 24) dX0_signsIn_17 (by decide) c4 ?_
          refine p_iconst (v := (1 : Int32)) kiconst_1 dX0_signsIn_24 rfl ?_
          exact J _
noncomputable def f0_signsIn (p1 : Int32) (h : qH) : Option (Int32) :=
  f0_signsIn_L5 p1 h (fun (x8 : Int32) (x9 : Int32) =>
    some x8) qN (0 : Int32) (24 : Int32)
set_option maxRecDepth 100000 in
set_option maxHeartbeats 4000000 in
theorem m0_signsIn (l : Launch) (p1 : Int32) : qMet UX ROX l yX0_signsIn (qws yX0_signsIn cX0_signsIn 3 (some .int)) R0_signsIn [.int p1] (f0_signsIn p1) qEr := by
  refine q_met (own := RX0) 2 (by decide) rfl (Nat.le_of_ble_eq_true rfl) (ls := [some (.int p1), none, none]) rfl fun h => ?_
  unfold f0_signsIn
  refine p_iconst (v := (0 : Int32)) kiconst_0 dX0_signsIn_0 rfl ?_
  refine p_is_n (ls' := [some (.int p1), some (.int (0 : Int32)), none]) dX0_signsIn_1 rfl rfl rfl rfl ?_
  refine p_bipush (v := (24 : Int32)) kbipush_24 dX0_signsIn_2 rfl ?_
  refine p_is_n (ls' := [some (.int p1), some (.int (0 : Int32)), some (.int (24 : Int32))]) dX0_signsIn_4 rfl rfl rfl rfl ?_
  refine w0_signsIn_L5 l p1 h (fun x8 x9 => ?_) qN _ _
  refine p_iload_n rfl dX0_signsIn_33 rfl ?_
  exact p_iret rfl rfl dX0_signsIn_34
noncomputable def f0_add_L3 (p1 : Int32) (k : Int32 → qH → Option (qH)) : Nat → Int32 → qH → Option (qH)
  | 0, _, _ => none
  | n + 1, x1, h2 =>
    if x1 < 0 then (
      k x1 h2)
    else (
      qlt (((p1.toUInt32 >>> (x1.toUInt32 &&& Int32.toUInt32 31)).toInt32) &&& (255 : Int32)) fun (x4 : Int32) =>
      qj (fun (h5 : qH) =>
        qlt (x1 + (-8 : Int32)) fun (x8 : Int32) =>
        f0_add_L3 p1 k n x8 h5) fun j6 =>
      if x4 = 0 then (
        j6 h2)
      else (
        if (240 : Int32) ≤ (h2.1 1 1) then (
          j6 h2)
        else (
          qg (qin (h2.1 1 1) 240) <|
          qlt (qw h2 2 (ix (h2.1 1 1)) x4) fun (h11 : qH) =>
          qlt (qw h11 1 1 ((h11.1 1 1) + (1 : Int32))) fun (h12 : qH) =>
          j6 h12)))
set_option maxRecDepth 100000 in
set_option maxHeartbeats 4000000 in
theorem w0_add_L3 (l : Launch) (h0 : qH) (p1 : Int32) {k : Int32 → qH → Option (qH)} (hk : ∀ (x1 : Int32) (h2 : qH), PW UX ROX l R0_add cX0_add 4 none RX0 (qEv h0) 55 [some (.ref 1), some (.int p1), some (.int x1), none] [] h2 (k x1 h2)) : ∀ (n : Nat) (x1 : Int32) (h2 : qH), PW UX ROX l R0_add cX0_add 4 none RX0 (qEv h0) 3 [some (.ref 1), some (.int p1), some (.int x1), none] [] h2 (f0_add_L3 p1 k n x1 h2) := by
  intro n
  induction n with
  | zero => intro _ _; exact p_none
  | succ n ih =>
    intro x1 h2
    unfold f0_add_L3
    refine p_iload_n rfl dX0_add_3 rfl ?_
    refine p_if (fun c3 => ?_) (fun c3 => ?_)
    · refine p_if_lt_t (tgt := 55) dX0_add_4 (by decide) c3 ?_
      exact hk x1 h2
    · refine p_if_lt_f (tgt := 55) dX0_add_4 (by decide) rfl c3 ?_
      refine p_iload_n rfl dX0_add_7 rfl ?_
      refine p_iload_n rfl dX0_add_8 rfl ?_
      refine p_iushr dX0_add_9 rfl ?_
      refine p_sipush (v := (255 : Int32)) ksipush_255 dX0_add_10 rfl ?_
      refine p_iand dX0_add_13 rfl ?_
      refine p_isN_n (lf := fun x4 => [some (.ref 1), some (.int p1), some (.int x1), some (.int x4)]) dX0_add_14 rfl rfl rfl (fun _ => rfl) (fun x4 => ?_)
      refine p_iload_n rfl dX0_add_15 rfl ?_
      refine p_jn (fun j6 => ∀ (h5 : qH), PW UX ROX l R0_add cX0_add 4 none RX0 (qEv h0) 49 [some (.ref 1), some (.int p1), some (.int x1), some (.int x4)] [] h5 (j6 h5)) (fun h5 => ?_) (fun j6 J7 => ?_)
      · refine p_iiN (v := (-8 : Int32)) (lf := fun x8 => [some (.ref 1), some (.int p1), some (.int x8), some (.int x4)]) kiconst_m8 dX0_add_49 rfl rfl rfl rfl (fun _ => rfl) (fun x8 => ?_)
        refine p_goto (tgt := 3) dX0_add_52 (by decide) ?_
        exact p_wk (ls' := [some (.ref 1), some (.int p1), some (.int x8), none]) ⟨rfl, rfl, rfl, trivial⟩ (ih x8 h5)
      · refine p_if (fun c9 => ?_) (fun c9 => ?_)
        · refine p_if_eq_t (tgt := 49) dX0_add_16 (by decide) c9 ?_
          exact J7 h2
        · refine p_if_eq_f (tgt := 49) dX0_add_16 (by decide) rfl c9 ?_
          refine p_aload_n rfl dX0_add_19 rfl ?_
          refine p_geti qg_RX0_15 uX_1 rfl dX0_add_20 rfl ?_
          refine p_sipush (v := (240 : Int32)) ksipush_240 dX0_add_23 rfl ?_
          refine p_if (fun c10 => ?_) (fun c10 => ?_)
          · refine p_icmp_ge_t (tgt := 49) dX0_add_26 (by decide) c10 ?_
            exact J7 h2
          · refine p_icmp_ge_f (tgt := 49) dX0_add_26 (by decide) rfl c10 ?_
            refine p_aload_n rfl dX0_add_29 rfl ?_
            refine p_getr qg_RX0_9 uX_1 rfl dX0_add_30 rfl ?_
            refine p_aload_n rfl dX0_add_33 rfl ?_
            refine p_geti qg_RX0_15 uX_1 rfl dX0_add_34 rfl ?_
            refine p_iload_n rfl dX0_add_37 rfl ?_
            refine p_iast qokX uX_2 dX0_add_38 rfl (fun _ => ?_)
            refine p_nmH (fun h11 => ?_)
            refine p_aload_n rfl dX0_add_39 rfl ?_
            refine p_dup rfl dX0_add_40 rfl ?_
            refine p_geti qg_RX0_15 uX_1 rfl dX0_add_41 rfl ?_
            refine p_iconst (v := (1 : Int32)) kiconst_1 dX0_add_44 rfl ?_
            refine p_iadd dX0_add_45 rfl ?_
            refine p_puti qokX qp_RX0_15 uX_1 rfl dX0_add_46 rfl ?_
            refine p_nmH (fun h12 => ?_)
            exact J7 h12
noncomputable def f0_add (p1 : Int32) (h : qH) : Option (qH) :=
  f0_add_L3 p1 (fun (x13 : Int32) (h14 : qH) =>
    some h14) qN (24 : Int32) h
set_option maxRecDepth 100000 in
set_option maxHeartbeats 4000000 in
theorem m0_add (l : Launch) (p1 : Int32) : qMet UX ROX l yX0_add (qws yX0_add cX0_add 4 none) R0_add [.ref 1, .int p1] (f0_add p1) qEv := by
  refine q_met (own := RX0) 2 (by decide) rfl (Nat.le_of_ble_eq_true rfl) (ls := [some (.ref 1), some (.int p1), none, none]) rfl fun h => ?_
  unfold f0_add
  show PW UX ROX l R0_add cX0_add 4 none RX0 (qEv h) 0 [some (.ref 1), some (.int p1), none, none] [] h _
  refine p_bipush (v := (24 : Int32)) kbipush_24 dX0_add_0 rfl ?_
  refine p_is_n (ls' := [some (.ref 1), some (.int p1), some (.int (24 : Int32)), none]) dX0_add_2 rfl rfl rfl rfl ?_
  refine w0_add_L3 l h p1 (fun x13 h14 => ?_) qN _ _
  exact p_vret rfl rfl dX0_add_55
noncomputable def f0_signAt (p1 : Int32) (h : qH) : Option (Int32) :=
  qj (fun (x1 : Int32) =>
    some x1) fun j2 =>
  if p1 < 0 then (
    j2 (-1 : Int32))
  else (
    if (h.1 1 1) ≤ p1 then (
      j2 (-1 : Int32))
    else (
      if (240 : Int32) ≤ p1 then (
        j2 (-1 : Int32))
      else (
        qg (qin p1 240) <|
        j2 (h.1 2 (ix p1)))))
set_option maxRecDepth 100000 in
set_option maxHeartbeats 4000000 in
theorem m0_signAt (l : Launch) (p1 : Int32) : qMet UX ROX l yX0_signAt (qws yX0_signAt cX0_signAt 2 (some .int)) R0_signAt [.ref 1, .int p1] (f0_signAt p1) qEr := by
  refine q_met (own := RX0) 0 (by decide) rfl (Nat.le_of_ble_eq_true rfl) (ls := [some (.ref 1), some (.int p1)]) rfl fun h => ?_
  unfold f0_signAt
  refine p_iload_n rfl dX0_signAt_0 rfl ?_
  refine p_jn (fun j2 => ∀ (x1 : Int32), PW UX ROX l R0_signAt cX0_signAt 2 (some .int) RX0 (qEr h) 29 [some (.ref 1), some (.int p1)] [.int x1] h (j2 x1)) (fun x1 => ?_) (fun j2 J3 => ?_)
  · exact p_iret rfl rfl dX0_signAt_29
  · refine p_if (fun c4 => ?_) (fun c4 => ?_)
    · refine p_if_lt_t (tgt := 28) dX0_signAt_1 (by decide) c4 ?_
      refine p_iconst (v := (-1 : Int32)) kiconst_m1 dX0_signAt_28 rfl ?_
      exact J3 (-1 : Int32)
    · refine p_if_lt_f (tgt := 28) dX0_signAt_1 (by decide) rfl c4 ?_
      refine p_iload_n rfl dX0_signAt_4 rfl ?_
      refine p_aload_n rfl dX0_signAt_5 rfl ?_
      refine p_geti qg_RX0_15 uX_1 rfl dX0_signAt_6 rfl ?_
      refine p_if (fun c5 => ?_) (fun c5 => ?_)
      · refine p_icmp_ge_t (tgt := 28) dX0_signAt_9 (by decide) c5 ?_
        refine p_iconst (v := (-1 : Int32)) kiconst_m1 dX0_signAt_28 rfl ?_
        exact J3 (-1 : Int32)
      · refine p_icmp_ge_f (tgt := 28) dX0_signAt_9 (by decide) rfl c5 ?_
        refine p_iload_n rfl dX0_signAt_12 rfl ?_
        refine p_sipush (v := (240 : Int32)) ksipush_240 dX0_signAt_13 rfl ?_
        refine p_if (fun c6 => ?_) (fun c6 => ?_)
        · refine p_icmp_ge_t (tgt := 28) dX0_signAt_16 (by decide) c6 ?_
          refine p_iconst (v := (-1 : Int32)) kiconst_m1 dX0_signAt_28 rfl ?_
          exact J3 (-1 : Int32)
        · refine p_icmp_ge_f (tgt := 28) dX0_signAt_16 (by decide) rfl c6 ?_
          refine p_aload_n rfl dX0_signAt_19 rfl ?_
          refine p_getr qg_RX0_9 uX_1 rfl dX0_signAt_20 rfl ?_
          refine p_iload_n rfl dX0_signAt_23 rfl ?_
          refine p_iald uX_2 dX0_signAt_24 rfl (fun _ => ?_)
          refine p_goto (tgt := 29) dX0_signAt_25 (by decide) ?_
          exact J3 (h.1 2 (ix p1))
noncomputable def f1_clear (p0 : Nat) (h : qH) : Option (qH) :=
  qlt (qw h p0 1 (0 : Int32)) fun (h1 : qH) =>
  some h1
set_option maxRecDepth 100000 in
set_option maxHeartbeats 4000000 in
theorem m1_clear (l : Launch) {p0 : Nat} (hp0 : kLog p0) : qMet UX ROX l yX1_clear (qws yX1_clear cX1_clear 1 none) R1_clear [.ref p0] (f1_clear p0) qEv := by
  refine q_met (own := RX1) 0 (by decide) rfl (Nat.le_of_ble_eq_true rfl) (ls := [some (.ref p0)]) rfl fun h => ?_
  unfold f1_clear
  show PW UX ROX l R1_clear cX1_clear 1 none RX1 (qEv h) 0 [some (.ref p0)] [] h _
  refine p_aload_n rfl dX1_clear_0 rfl ?_
  refine p_iconst (v := (0 : Int32)) kiconst_0 dX1_clear_1 rfl ?_
  refine p_puti qokX qp_RX1_15 (uX_Log hp0) rfl dX1_clear_2 rfl ?_
  refine p_nmH (fun h1 => ?_)
  exact p_vret rfl rfl dX1_clear_5
noncomputable def f1_add (p0 : Nat) (p1 : Int32) (p2 : Int32) (p3 : Int32) (h : qH) : Option (qH) :=
  qg (decide (¬ (100 : Int32) = 0)) <|
  qlt (((h.1 p0 1) - (h.1 p0 1) / (100 : Int32) * (100 : Int32)) * (3 : Int32)) fun (x1 : Int32) =>
  qg (qin x1 300) <|
  qlt (qw h (p0 + 1) (ix x1) p1) fun (h2 : qH) =>
  qg (qin (x1 + (1 : Int32)) 300) <|
  qlt (qw h2 (p0 + 1) (ix (x1 + (1 : Int32))) p2) fun (h3 : qH) =>
  qg (qin (x1 + (2 : Int32)) 300) <|
  qlt (qw h3 (p0 + 1) (ix (x1 + (2 : Int32))) p3) fun (h4 : qH) =>
  qlt (qw h4 p0 1 ((h4.1 p0 1) + (1 : Int32))) fun (h5 : qH) =>
  some h5
set_option maxRecDepth 100000 in
set_option maxHeartbeats 4000000 in
theorem m1_add (l : Launch) {p0 : Nat} (hp0 : kLog p0) (p1 : Int32) (p2 : Int32) (p3 : Int32) : qMet UX ROX l yX1_add (qws yX1_add cX1_add 5 none) R1_add [.ref p0, .int p1, .int p2, .int p3] (f1_add p0 p1 p2 p3) qEv := by
  refine q_met (own := RX1) 1 (by decide) rfl (Nat.le_of_ble_eq_true rfl) (ls := [some (.ref p0), some (.int p1), some (.int p2), some (.int p3), none]) rfl fun h => ?_
  unfold f1_add
  show PW UX ROX l R1_add cX1_add 5 none RX1 (qEv h) 0 [some (.ref p0), some (.int p1), some (.int p2), some (.int p3), none] [] h _
  refine p_aload_n rfl dX1_add_0 rfl ?_
  refine p_geti qg_RX1_15 (uX_Log hp0) rfl dX1_add_1 rfl ?_
  refine p_bipush (v := (100 : Int32)) kbipush_100 dX1_add_4 rfl ?_
  refine p_irem dX1_add_6 rfl (fun _ => ?_)
  refine p_iconst (v := (3 : Int32)) kiconst_3 dX1_add_7 rfl ?_
  refine p_imul dX1_add_8 rfl ?_
  refine p_isN (lf := fun x1 => [some (.ref p0), some (.int p1), some (.int p2), some (.int p3), some (.int x1)]) dX1_add_9 rfl rfl rfl (fun _ => rfl) (fun x1 => ?_)
  refine p_aload_n rfl dX1_add_11 rfl ?_
  refine p_getr qg_RX1_11 (uX_Log hp0) rfl dX1_add_12 rfl ?_
  refine p_iload rfl dX1_add_15 rfl ?_
  refine p_iload_n rfl dX1_add_17 rfl ?_
  refine p_iast qokX (uX_Log_1 hp0) dX1_add_18 rfl (fun _ => ?_)
  refine p_nmH (fun h2 => ?_)
  refine p_aload_n rfl dX1_add_19 rfl ?_
  refine p_getr qg_RX1_11 (uX_Log hp0) rfl dX1_add_20 rfl ?_
  refine p_iload rfl dX1_add_23 rfl ?_
  refine p_iconst (v := (1 : Int32)) kiconst_1 dX1_add_25 rfl ?_
  refine p_iadd dX1_add_26 rfl ?_
  refine p_iload_n rfl dX1_add_27 rfl ?_
  refine p_iast qokX (uX_Log_1 hp0) dX1_add_28 rfl (fun _ => ?_)
  refine p_nmH (fun h3 => ?_)
  refine p_aload_n rfl dX1_add_29 rfl ?_
  refine p_getr qg_RX1_11 (uX_Log hp0) rfl dX1_add_30 rfl ?_
  refine p_iload rfl dX1_add_33 rfl ?_
  refine p_iconst (v := (2 : Int32)) kiconst_2 dX1_add_35 rfl ?_
  refine p_iadd dX1_add_36 rfl ?_
  refine p_iload_n rfl dX1_add_37 rfl ?_
  refine p_iast qokX (uX_Log_1 hp0) dX1_add_38 rfl (fun _ => ?_)
  refine p_nmH (fun h4 => ?_)
  refine p_aload_n rfl dX1_add_39 rfl ?_
  refine p_dup rfl dX1_add_40 rfl ?_
  refine p_geti qg_RX1_15 (uX_Log hp0) rfl dX1_add_41 rfl ?_
  refine p_iconst (v := (1 : Int32)) kiconst_1 dX1_add_44 rfl ?_
  refine p_iadd dX1_add_45 rfl ?_
  refine p_puti qokX qp_RX1_15 (uX_Log hp0) rfl dX1_add_46 rfl ?_
  refine p_nmH (fun h5 => ?_)
  exact p_vret rfl rfl dX1_add_49
noncomputable def f1_takeBack (p0 : Nat) (h : qH) : Option (qH) :=
  qlt (qw h p0 1 (if ((h.1 p0 1) - (1 : Int32)) < (0 : Int32) then (0 : Int32) else ((h.1 p0 1) - (1 : Int32)))) fun (h1 : qH) =>
  some h1
set_option maxRecDepth 100000 in
set_option maxHeartbeats 4000000 in
theorem m1_takeBack (l : Launch) {p0 : Nat} (hp0 : kLog p0) : qMet UX ROX l yX1_takeBack (qws yX1_takeBack cX1_takeBack 1 none) R1_takeBack [.ref p0] (f1_takeBack p0) qEv := by
  refine q_met (own := RX1) 0 (by decide) rfl (Nat.le_of_ble_eq_true rfl) (ls := [some (.ref p0)]) rfl fun h => ?_
  unfold f1_takeBack
  show PW UX ROX l R1_takeBack cX1_takeBack 1 none RX1 (qEv h) 0 [some (.ref p0)] [] h _
  refine p_aload_n rfl dX1_takeBack_0 rfl ?_
  refine p_aload_n rfl dX1_takeBack_1 rfl ?_
  refine p_geti qg_RX1_15 (uX_Log hp0) rfl dX1_takeBack_2 rfl ?_
  refine p_iconst (v := (1 : Int32)) kiconst_1 dX1_takeBack_5 rfl ?_
  refine p_isub dX1_takeBack_6 rfl ?_
  refine p_iconst (v := (0 : Int32)) kiconst_0 dX1_takeBack_7 rfl ?_
  refine p_max qmax_RX1_19 ⟨Nat.le_of_ble_eq_true rfl, Nat.le_of_ble_eq_true rfl⟩ dX1_takeBack_8 rfl ?_
  refine p_puti qokX qp_RX1_15 (uX_Log hp0) rfl dX1_takeBack_11 rfl ?_
  refine p_nmH (fun h1 => ?_)
  exact p_vret rfl rfl dX1_takeBack_14
noncomputable def f1_length (p0 : Nat) (h : qH) : Option (Int32) :=
  some (if (60 : Int32) < (h.1 p0 1) then (60 : Int32) else (h.1 p0 1))
set_option maxRecDepth 100000 in
set_option maxHeartbeats 4000000 in
theorem m1_length (l : Launch) {p0 : Nat} (hp0 : kLog p0) : qMet UX ROX l yX1_length (qws yX1_length cX1_length 1 (some .int)) R1_length [.ref p0] (f1_length p0) qEr := by
  refine q_met (own := RX1) 0 (by decide) rfl (Nat.le_of_ble_eq_true rfl) (ls := [some (.ref p0)]) rfl fun h => ?_
  unfold f1_length
  refine p_aload_n rfl dX1_length_0 rfl ?_
  refine p_geti qg_RX1_15 (uX_Log hp0) rfl dX1_length_1 rfl ?_
  refine p_bipush (v := (60 : Int32)) kbipush_60 dX1_length_4 rfl ?_
  refine p_min qmin_RX1_25 ⟨Nat.le_of_ble_eq_true rfl, Nat.le_of_ble_eq_true rfl⟩ dX1_length_6 rfl ?_
  exact p_iret rfl rfl dX1_length_9
noncomputable def f1_numberAt (p0 : Nat) (p1 : Int32) (p2 : Int32) (h : qH) : Option (Int32) :=
  qj (fun (x1 : Int32) =>
    some x1) fun j2 =>
  if p1 < 0 then (
    j2 (-1000000 : Int32))
  else (
    if p1 < (h.1 p0 1) then (
      qg (decide (¬ (100 : Int32) = 0)) <|
      qg (qin ((((((h.1 p0 1) - (1 : Int32)) - p1) - (((h.1 p0 1) - (1 : Int32)) - p1) / (100 : Int32) * (100 : Int32)) * (3 : Int32)) + p2) 300) <|
      j2 (h.1 (p0 + 1) (ix ((((((h.1 p0 1) - (1 : Int32)) - p1) - (((h.1 p0 1) - (1 : Int32)) - p1) / (100 : Int32) * (100 : Int32)) * (3 : Int32)) + p2))))
    else (
      j2 (-1000000 : Int32)))
set_option maxRecDepth 100000 in
set_option maxHeartbeats 4000000 in
theorem m1_numberAt (l : Launch) {p0 : Nat} (hp0 : kLog p0) (p1 : Int32) (p2 : Int32) : qMet UX ROX l yX1_numberAt (qws yX1_numberAt cX1_numberAt 3 (some .int)) R1_numberAt [.ref p0, .int p1, .int p2] (f1_numberAt p0 p1 p2) qEr := by
  refine q_met (own := RX1) 0 (by decide) rfl (Nat.le_of_ble_eq_true rfl) (ls := [some (.ref p0), some (.int p1), some (.int p2)]) rfl fun h => ?_
  unfold f1_numberAt
  refine p_iload_n rfl dX1_numberAt_0 rfl ?_
  refine p_jn (fun j2 => ∀ (x1 : Int32), PW UX ROX l R1_numberAt cX1_numberAt 3 (some .int) RX1 (qEr h) 37 [some (.ref p0), some (.int p1), some (.int p2)] [.int x1] h (j2 x1)) (fun x1 => ?_) (fun j2 J3 => ?_)
  · exact p_iret rfl rfl dX1_numberAt_37
  · refine p_if (fun c4 => ?_) (fun c4 => ?_)
    · refine p_if_lt_t (tgt := 12) dX1_numberAt_1 (by decide) c4 ?_
      refine p_ldc (v := (-1000000 : Int32)) kcRX1_28 dX1_numberAt_12 rfl ?_
      refine p_goto (tgt := 37) dX1_numberAt_14 (by decide) ?_
      exact J3 (-1000000 : Int32)
    · refine p_if_lt_f (tgt := 12) dX1_numberAt_1 (by decide) rfl c4 ?_
      refine p_iload_n rfl dX1_numberAt_4 rfl ?_
      refine p_aload_n rfl dX1_numberAt_5 rfl ?_
      refine p_geti qg_RX1_15 (uX_Log hp0) rfl dX1_numberAt_6 rfl ?_
      refine p_if (fun c5 => ?_) (fun c5 => ?_)
      · refine p_icmp_lt_t (tgt := 17) dX1_numberAt_9 (by decide) c5 ?_
        refine p_aload_n rfl dX1_numberAt_17 rfl ?_
        refine p_getr qg_RX1_11 (uX_Log hp0) rfl dX1_numberAt_18 rfl ?_
        refine p_aload_n rfl dX1_numberAt_21 rfl ?_
        refine p_geti qg_RX1_15 (uX_Log hp0) rfl dX1_numberAt_22 rfl ?_
        refine p_iconst (v := (1 : Int32)) kiconst_1 dX1_numberAt_25 rfl ?_
        refine p_isub dX1_numberAt_26 rfl ?_
        refine p_iload_n rfl dX1_numberAt_27 rfl ?_
        refine p_isub dX1_numberAt_28 rfl ?_
        refine p_bipush (v := (100 : Int32)) kbipush_100 dX1_numberAt_29 rfl ?_
        refine p_irem dX1_numberAt_31 rfl (fun _ => ?_)
        refine p_iconst (v := (3 : Int32)) kiconst_3 dX1_numberAt_32 rfl ?_
        refine p_imul dX1_numberAt_33 rfl ?_
        refine p_iload_n rfl dX1_numberAt_34 rfl ?_
        refine p_iadd dX1_numberAt_35 rfl ?_
        refine p_iald (uX_Log_1 hp0) dX1_numberAt_36 rfl (fun _ => ?_)
        exact J3 (h.1 (p0 + 1) (ix ((((((h.1 p0 1) - (1 : Int32)) - p1) - (((h.1 p0 1) - (1 : Int32)) - p1) / (100 : Int32) * (100 : Int32)) * (3 : Int32)) + p2)))
      · refine p_icmp_lt_f (tgt := 17) dX1_numberAt_9 (by decide) rfl c5 ?_
        refine p_ldc (v := (-1000000 : Int32)) kcRX1_28 dX1_numberAt_12 rfl ?_
        refine p_goto (tgt := 37) dX1_numberAt_14 (by decide) ?_
        exact J3 (-1000000 : Int32)
noncomputable def f1_become (p0 : Nat) (p1 : Nat) (h : qH) : Option (qH) :=
  qlt (qw h p0 1 (h.1 p1 1)) fun (h1 : qH) =>
  qg (qcp (0 : Int32) (0 : Int32) (300 : Int32) 300 300) <|
  qlt (qrow h1 (p0 + 1) (va_cpy (h1.1 (p1 + 1)) (h1.1 (p0 + 1)) (ix (0 : Int32)) (ix (0 : Int32)) (ix (300 : Int32)))) fun (h2 : qH) =>
  some h2
set_option maxRecDepth 100000 in
set_option maxHeartbeats 4000000 in
theorem m1_become (l : Launch) {p0 : Nat} (hp0 : kLog p0) {p1 : Nat} (hp1 : kLog p1) : qMet UX ROX l yX1_become (qws yX1_become cX1_become 2 none) R1_become [.ref p0, .ref p1] (f1_become p0 p1) qEv := by
  refine q_met (own := RX1) 0 (by decide) rfl (Nat.le_of_ble_eq_true rfl) (ls := [some (.ref p0), some (.ref p1)]) rfl fun h => ?_
  unfold f1_become
  show PW UX ROX l R1_become cX1_become 2 none RX1 (qEv h) 0 [some (.ref p0), some (.ref p1)] [] h _
  refine p_aload_n rfl dX1_become_0 rfl ?_
  refine p_aload_n rfl dX1_become_1 rfl ?_
  refine p_geti qg_RX1_15 (uX_Log hp1) rfl dX1_become_2 rfl ?_
  refine p_puti qokX qp_RX1_15 (uX_Log hp0) rfl dX1_become_5 rfl ?_
  refine p_nmH (fun h1 => ?_)
  refine p_aload_n rfl dX1_become_8 rfl ?_
  refine p_getr qg_RX1_11 (uX_Log hp1) rfl dX1_become_9 rfl ?_
  refine p_iconst (v := (0 : Int32)) kiconst_0 dX1_become_12 rfl ?_
  refine p_aload_n rfl dX1_become_13 rfl ?_
  refine p_getr qg_RX1_11 (uX_Log hp0) rfl dX1_become_14 rfl ?_
  refine p_iconst (v := (0 : Int32)) kiconst_0 dX1_become_17 rfl ?_
  refine p_sipush (v := (300 : Int32)) ksipush_300 dX1_become_18 rfl ?_
  refine p_copy qokX cpy_RX1_29 (uX_Log_1 hp1) (uX_Log_1 hp0) ⟨Nat.le_of_ble_eq_true rfl, Nat.le_of_ble_eq_true rfl⟩ dX1_become_21 rfl ?_
  refine p_nmH (fun h2 => ?_)
  exact p_vret rfl rfl dX1_become_24
noncomputable def f2_gather_L17 (p1 : Nat) (p2 : Int32) (k : Int32 → qH → Option (qH)) : Nat → Int32 → qH → Option (qH)
  | 0, _, _ => none
  | n + 1, x3, h4 =>
    if (h4.1 p1 5) ≤ x3 then (
      k x3 h4)
    else (
      if (12 : Int32) ≤ (h4.1 43 1) then (
        k x3 h4)
      else (
        qg (qin x3 24) <|
        qj (fun (h7 : qH) =>
          qlt (x3 + (1 : Int32)) fun (x10 : Int32) =>
          f2_gather_L17 p1 p2 k n x10 h7) fun j8 =>
        if (h4.1 (p1 + 7) (ix x3)) = p2 then (
          qg (qin x3 24) <|
          if (h4.1 (p1 + 11) (ix x3)) = 0 then (
            j8 h4)
          else (
            qg (qin (h4.1 43 1) 12) <|
            qlt (qw h4 44 (ix (h4.1 43 1)) x3) fun (h13 : qH) =>
            qg (qin x3 24) <|
            qg (qin (h13.1 43 1) 12) <|
            qlt (qw h13 45 (ix (h13.1 43 1)) (h13.1 (p1 + 8) (ix x3))) fun (h14 : qH) =>
            qg (qin x3 24) <|
            qg (qin (h14.1 43 1) 12) <|
            qlt (qw h14 46 (ix (h14.1 43 1)) (h14.1 (p1 + 9) (ix x3))) fun (h15 : qH) =>
            qg (qin x3 24) <|
            qg (qin (h15.1 43 1) 12) <|
            qlt (qw h15 47 (ix (h15.1 43 1)) (h15.1 (p1 + 11) (ix x3))) fun (h16 : qH) =>
            qlt (qw h16 43 1 ((h16.1 43 1) + (1 : Int32))) fun (h17 : qH) =>
            j8 h17))
        else (
          j8 h4)))
set_option maxRecDepth 100000 in
set_option maxHeartbeats 4000000 in
theorem w2_gather_L17 (l : Launch) (h0 : qH) (p1 : Nat) (p2 : Int32) (hp1 : kStage p1) {k : Int32 → qH → Option (qH)} (hk : ∀ (x3 : Int32) (h4 : qH), PW UX ROX l R2_gather cX2_gather 4 none RX2 (qEv h0) 124 [some (.ref 43), some (.ref p1), some (.int p2), some (.int x3)] [] h4 (k x3 h4)) : ∀ (n : Nat) (x3 : Int32) (h4 : qH), PW UX ROX l R2_gather cX2_gather 4 none RX2 (qEv h0) 17 [some (.ref 43), some (.ref p1), some (.int p2), some (.int x3)] [] h4 (f2_gather_L17 p1 p2 k n x3 h4) := by
  intro n
  induction n with
  | zero => intro _ _; exact p_none
  | succ n ih =>
    intro x3 h4
    unfold f2_gather_L17
    refine p_iload_n rfl dX2_gather_17 rfl ?_
    refine p_aload_n rfl dX2_gather_18 rfl ?_
    refine p_geti qg_RX2_48 (uX_Stage hp1) rfl dX2_gather_19 rfl ?_
    refine p_if (fun c5 => ?_) (fun c5 => ?_)
    · refine p_icmp_ge_t (tgt := 124) dX2_gather_22 (by decide) c5 ?_
      exact hk x3 h4
    · refine p_icmp_ge_f (tgt := 124) dX2_gather_22 (by decide) rfl c5 ?_
      refine p_aload_n rfl dX2_gather_25 rfl ?_
      refine p_geti qg_RX2_37 uX_43 rfl dX2_gather_26 rfl ?_
      refine p_bipush (v := (12 : Int32)) kbipush_12 dX2_gather_29 rfl ?_
      refine p_if (fun c6 => ?_) (fun c6 => ?_)
      · refine p_icmp_ge_t (tgt := 124) dX2_gather_31 (by decide) c6 ?_
        exact hk x3 h4
      · refine p_icmp_ge_f (tgt := 124) dX2_gather_31 (by decide) rfl c6 ?_
        refine p_aload_n rfl dX2_gather_34 rfl ?_
        refine p_getr qg_RX2_51 (uX_Stage hp1) rfl dX2_gather_35 rfl ?_
        refine p_iload_n rfl dX2_gather_38 rfl ?_
        refine p_iald (uX_Stage_7 hp1) dX2_gather_39 rfl (fun _ => ?_)
        refine p_iload_n rfl dX2_gather_40 rfl ?_
        refine p_jn (fun j8 => ∀ (h7 : qH), PW UX ROX l R2_gather cX2_gather 4 none RX2 (qEv h0) 118 [some (.ref 43), some (.ref p1), some (.int p2), some (.int x3)] [] h7 (j8 h7)) (fun h7 => ?_) (fun j8 J9 => ?_)
        · refine p_iiN (v := (1 : Int32)) (lf := fun x10 => [some (.ref 43), some (.ref p1), some (.int p2), some (.int x10)]) kiconst_1 dX2_gather_118 rfl rfl rfl rfl (fun _ => rfl) (fun x10 => ?_)
          refine p_goto (tgt := 17) dX2_gather_121 (by decide) ?_
          exact ih x10 h7
        · refine p_if (fun c11 => ?_) (fun c11 => ?_)
          · refine p_icmp_ne_f (tgt := 118) dX2_gather_41 (by decide) rfl c11 ?_
            refine p_aload_n rfl dX2_gather_44 rfl ?_
            refine p_getr qg_RX2_54 (uX_Stage hp1) rfl dX2_gather_45 rfl ?_
            refine p_iload_n rfl dX2_gather_48 rfl ?_
            refine p_iald (uX_Stage_11 hp1) dX2_gather_49 rfl (fun _ => ?_)
            refine p_if (fun c12 => ?_) (fun c12 => ?_)
            · refine p_if_eq_t (tgt := 118) dX2_gather_50 (by decide) c12 ?_
              exact J9 h4
            · refine p_if_eq_f (tgt := 118) dX2_gather_50 (by decide) rfl c12 ?_
              refine p_aload_n rfl dX2_gather_53 rfl ?_
              refine p_getr qg_RX2_9 uX_43 rfl dX2_gather_54 rfl ?_
              refine p_aload_n rfl dX2_gather_57 rfl ?_
              refine p_geti qg_RX2_37 uX_43 rfl dX2_gather_58 rfl ?_
              refine p_iload_n rfl dX2_gather_61 rfl ?_
              refine p_iast qokX uX_44 dX2_gather_62 rfl (fun _ => ?_)
              refine p_nmH (fun h13 => ?_)
              refine p_aload_n rfl dX2_gather_63 rfl ?_
              refine p_getr qg_RX2_15 uX_43 rfl dX2_gather_64 rfl ?_
              refine p_aload_n rfl dX2_gather_67 rfl ?_
              refine p_geti qg_RX2_37 uX_43 rfl dX2_gather_68 rfl ?_
              refine p_aload_n rfl dX2_gather_71 rfl ?_
              refine p_getr qg_RX2_55 (uX_Stage hp1) rfl dX2_gather_72 rfl ?_
              refine p_iload_n rfl dX2_gather_75 rfl ?_
              refine p_iald (uX_Stage_8 hp1) dX2_gather_76 rfl (fun _ => ?_)
              refine p_iast qokX uX_45 dX2_gather_77 rfl (fun _ => ?_)
              refine p_nmH (fun h14 => ?_)
              refine p_aload_n rfl dX2_gather_78 rfl ?_
              refine p_getr qg_RX2_18 uX_43 rfl dX2_gather_79 rfl ?_
              refine p_aload_n rfl dX2_gather_82 rfl ?_
              refine p_geti qg_RX2_37 uX_43 rfl dX2_gather_83 rfl ?_
              refine p_aload_n rfl dX2_gather_86 rfl ?_
              refine p_getr qg_RX2_56 (uX_Stage hp1) rfl dX2_gather_87 rfl ?_
              refine p_iload_n rfl dX2_gather_90 rfl ?_
              refine p_iald (uX_Stage_9 hp1) dX2_gather_91 rfl (fun _ => ?_)
              refine p_iast qokX uX_46 dX2_gather_92 rfl (fun _ => ?_)
              refine p_nmH (fun h15 => ?_)
              refine p_aload_n rfl dX2_gather_93 rfl ?_
              refine p_getr qg_RX2_21 uX_43 rfl dX2_gather_94 rfl ?_
              refine p_aload_n rfl dX2_gather_97 rfl ?_
              refine p_geti qg_RX2_37 uX_43 rfl dX2_gather_98 rfl ?_
              refine p_aload_n rfl dX2_gather_101 rfl ?_
              refine p_getr qg_RX2_54 (uX_Stage hp1) rfl dX2_gather_102 rfl ?_
              refine p_iload_n rfl dX2_gather_105 rfl ?_
              refine p_iald (uX_Stage_11 hp1) dX2_gather_106 rfl (fun _ => ?_)
              refine p_iast qokX uX_47 dX2_gather_107 rfl (fun _ => ?_)
              refine p_nmH (fun h16 => ?_)
              refine p_aload_n rfl dX2_gather_108 rfl ?_
              refine p_dup rfl dX2_gather_109 rfl ?_
              refine p_geti qg_RX2_37 uX_43 rfl dX2_gather_110 rfl ?_
              refine p_iconst (v := (1 : Int32)) kiconst_1 dX2_gather_113 rfl ?_
              refine p_iadd dX2_gather_114 rfl ?_
              refine p_puti qokX qp_RX2_37 uX_43 rfl dX2_gather_115 rfl ?_
              refine p_nmH (fun h17 => ?_)
              exact J9 h17
          · refine p_icmp_ne_t (tgt := 118) dX2_gather_41 (by decide) c11 ?_
            exact J9 h4
noncomputable def f2_gather (p1 : Nat) (p2 : Int32) (h : qH) : Option (qH) :=
  qlt (qw h 43 1 (0 : Int32)) fun (h1 : qH) =>
  qg (qin p2 8) <|
  qlt (qw h1 43 2 (h1.1 (p1 + 2) (ix p2))) fun (h2 : qH) =>
  f2_gather_L17 p1 p2 (fun (x18 : Int32) (h19 : qH) =>
    some h19) qN (0 : Int32) h2
set_option maxRecDepth 100000 in
set_option maxHeartbeats 4000000 in
theorem m2_gather (l : Launch) {p1 : Nat} (hp1 : kStage p1) (p2 : Int32) : qMet UX ROX l yX2_gather (qws yX2_gather cX2_gather 4 none) R2_gather [.ref 43, .ref p1, .int p2] (f2_gather p1 p2) qEv := by
  refine q_met (own := RX2) 1 (by decide) rfl (Nat.le_of_ble_eq_true rfl) (ls := [some (.ref 43), some (.ref p1), some (.int p2), none]) rfl fun h => ?_
  unfold f2_gather
  show PW UX ROX l R2_gather cX2_gather 4 none RX2 (qEv h) 0 [some (.ref 43), some (.ref p1), some (.int p2), none] [] h _
  refine p_aload_n rfl dX2_gather_0 rfl ?_
  refine p_iconst (v := (0 : Int32)) kiconst_0 dX2_gather_1 rfl ?_
  refine p_puti qokX qp_RX2_37 uX_43 rfl dX2_gather_2 rfl ?_
  refine p_nmH (fun h1 => ?_)
  refine p_aload_n rfl dX2_gather_5 rfl ?_
  refine p_aload_n rfl dX2_gather_6 rfl ?_
  refine p_getr qg_RX2_41 (uX_Stage hp1) rfl dX2_gather_7 rfl ?_
  refine p_iload_n rfl dX2_gather_10 rfl ?_
  refine p_iald (uX_Stage_2 hp1) dX2_gather_11 rfl (fun _ => ?_)
  refine p_puti qokX qp_RX2_46 uX_43 rfl dX2_gather_12 rfl ?_
  refine p_nmH (fun h2 => ?_)
  refine p_iconst (v := (0 : Int32)) kiconst_0 dX2_gather_15 rfl ?_
  refine p_is_n (ls' := [some (.ref 43), some (.ref p1), some (.int p2), some (.int (0 : Int32))]) dX2_gather_16 rfl rfl rfl rfl ?_
  refine w2_gather_L17 l h p1 p2 hp1 (fun x18 h19 => ?_) qN _ _
  exact p_vret rfl rfl dX2_gather_124
noncomputable def f2_fileAt (p1 : Int32) (h : qH) : Option (Int32) :=
  qg (qin p1 12) <|
  qg (qin (h.1 48 (ix p1)) 12) <|
  some (h.1 44 (ix (h.1 48 (ix p1))))
set_option maxRecDepth 100000 in
set_option maxHeartbeats 4000000 in
theorem m2_fileAt (l : Launch) (p1 : Int32) : qMet UX ROX l yX2_fileAt (qws yX2_fileAt cX2_fileAt 2 (some .int)) R2_fileAt [.ref 43, .int p1] (f2_fileAt p1) qEr := by
  refine q_met (own := RX2) 0 (by decide) rfl (Nat.le_of_ble_eq_true rfl) (ls := [some (.ref 43), some (.int p1)]) rfl fun h => ?_
  unfold f2_fileAt
  refine p_aload_n rfl dX2_fileAt_0 rfl ?_
  refine p_getr qg_RX2_9 uX_43 rfl dX2_fileAt_1 rfl ?_
  refine p_aload_n rfl dX2_fileAt_4 rfl ?_
  refine p_getr qg_RX2_24 uX_43 rfl dX2_fileAt_5 rfl ?_
  refine p_iload_n rfl dX2_fileAt_8 rfl ?_
  refine p_iald uX_48 dX2_fileAt_9 rfl (fun _ => ?_)
  refine p_iald uX_44 dX2_fileAt_10 rfl (fun _ => ?_)
  exact p_iret rfl rfl dX2_fileAt_11
noncomputable def f4_seekTime (p0 : Nat) (p1 : Int32) (p2 : Int32) (h : qH) : Option (Int32) :=
  if p1 < 0 then (
    some (0 : Int32))
  else (
    if p2 < 0 then (
      some (0 : Int32))
    else (
      if (h.1 p0 7) ≤ p1 then (
        some (0 : Int32))
      else (
        if p2 < (h.1 p0 7) then (
          qg (qin p1 96) <|
          qg (qin p2 96) <|
          qlt ((h.1 (p0 + 6) (ix p1)) - (h.1 (p0 + 6) (ix p2))) fun (x5 : Int32) =>
          qlt (if 0 ≤ x5 then x5 else (-x5)) fun (x7 : Int32) =>
          qg (qin p1 96) <|
          qg (qin p2 96) <|
          qlt (if (h.1 (p0 + 7) (ix p1)) = (h.1 (p0 + 7) (ix p2)) then (0 : Int32) else (2 : Int32)) fun (x9 : Int32) =>
          some (x7 + x9))
        else (
          some (0 : Int32)))))
set_option maxRecDepth 100000 in
set_option maxHeartbeats 4000000 in
theorem m4_seekTime (l : Launch) {p0 : Nat} (hp0 : kPlan p0) (p1 : Int32) (p2 : Int32) : qMet UX ROX l yX4_seekTime (qws yX4_seekTime cX4_seekTime 4 (some .int)) R4_seekTime [.ref p0, .int p1, .int p2] (f4_seekTime p0 p1 p2) qEr := by
  refine q_met (own := RX4) 1 (by decide) rfl (Nat.le_of_ble_eq_true rfl) (ls := [some (.ref p0), some (.int p1), some (.int p2), none]) rfl fun h => ?_
  unfold f4_seekTime
  refine p_iload_n rfl dX4_seekTime_0 rfl ?_
  refine p_if (fun c1 => ?_) (fun c1 => ?_)
  · refine p_if_lt_t (tgt := 24) dX4_seekTime_1 (by decide) c1 ?_
    refine p_iconst (v := (0 : Int32)) kiconst_0 dX4_seekTime_24 rfl ?_
    exact p_iret rfl rfl dX4_seekTime_25
  · refine p_if_lt_f (tgt := 24) dX4_seekTime_1 (by decide) rfl c1 ?_
    refine p_iload_n rfl dX4_seekTime_4 rfl ?_
    refine p_if (fun c2 => ?_) (fun c2 => ?_)
    · refine p_if_lt_t (tgt := 24) dX4_seekTime_5 (by decide) c2 ?_
      refine p_iconst (v := (0 : Int32)) kiconst_0 dX4_seekTime_24 rfl ?_
      exact p_iret rfl rfl dX4_seekTime_25
    · refine p_if_lt_f (tgt := 24) dX4_seekTime_5 (by decide) rfl c2 ?_
      refine p_iload_n rfl dX4_seekTime_8 rfl ?_
      refine p_aload_n rfl dX4_seekTime_9 rfl ?_
      refine p_geti qg_RX4_59 (uX_Plan hp0) rfl dX4_seekTime_10 rfl ?_
      refine p_if (fun c3 => ?_) (fun c3 => ?_)
      · refine p_icmp_ge_t (tgt := 24) dX4_seekTime_13 (by decide) c3 ?_
        refine p_iconst (v := (0 : Int32)) kiconst_0 dX4_seekTime_24 rfl ?_
        exact p_iret rfl rfl dX4_seekTime_25
      · refine p_icmp_ge_f (tgt := 24) dX4_seekTime_13 (by decide) rfl c3 ?_
        refine p_iload_n rfl dX4_seekTime_16 rfl ?_
        refine p_aload_n rfl dX4_seekTime_17 rfl ?_
        refine p_geti qg_RX4_59 (uX_Plan hp0) rfl dX4_seekTime_18 rfl ?_
        refine p_if (fun c4 => ?_) (fun c4 => ?_)
        · refine p_icmp_lt_t (tgt := 26) dX4_seekTime_21 (by decide) c4 ?_
          refine p_aload_n rfl dX4_seekTime_26 rfl ?_
          refine p_getr qg_RX4_27 (uX_Plan hp0) rfl dX4_seekTime_27 rfl ?_
          refine p_iload_n rfl dX4_seekTime_30 rfl ?_
          refine p_iald (uX_Plan_6 hp0) dX4_seekTime_31 rfl (fun _ => ?_)
          refine p_aload_n rfl dX4_seekTime_32 rfl ?_
          refine p_getr qg_RX4_27 (uX_Plan hp0) rfl dX4_seekTime_33 rfl ?_
          refine p_iload_n rfl dX4_seekTime_36 rfl ?_
          refine p_iald (uX_Plan_6 hp0) dX4_seekTime_37 rfl (fun _ => ?_)
          refine p_isub dX4_seekTime_38 rfl ?_
          refine p_isN_n (lf := fun x5 => [some (.ref p0), some (.int p1), some (.int p2), some (.int x5)]) dX4_seekTime_39 rfl rfl rfl (fun _ => rfl) (fun x5 => ?_)
          refine p_iload_n rfl dX4_seekTime_40 rfl ?_
          refine p_vj 50 [some (.ref p0), some (.int p1), some (.int p2), some (.int x5)] [] (fun x7 => ?_) (fun J => ?_)
          · refine p_aload_n rfl dX4_seekTime_50 rfl ?_
            refine p_getr qg_RX4_30 (uX_Plan hp0) rfl dX4_seekTime_51 rfl ?_
            refine p_iload_n rfl dX4_seekTime_54 rfl ?_
            refine p_iald (uX_Plan_7 hp0) dX4_seekTime_55 rfl (fun _ => ?_)
            refine p_aload_n rfl dX4_seekTime_56 rfl ?_
            refine p_getr qg_RX4_30 (uX_Plan hp0) rfl dX4_seekTime_57 rfl ?_
            refine p_iload_n rfl dX4_seekTime_60 rfl ?_
            refine p_iald (uX_Plan_7 hp0) dX4_seekTime_61 rfl (fun _ => ?_)
            refine p_vj 70 [some (.ref p0), some (.int p1), some (.int p2), some (.int x5)] [.int x7] (fun x9 => ?_) (fun J => ?_)
            · refine p_iadd dX4_seekTime_70 rfl ?_
              exact p_iret rfl rfl dX4_seekTime_71
            · refine p_dia (fun c8 => ?_) (fun c8 => ?_)
              · refine p_icmp_ne_f (tgt := 69) dX4_seekTime_62 (by decide) rfl c8 ?_
                refine p_iconst (v := (0 : Int32)) kiconst_0 dX4_seekTime_65 rfl ?_
                refine p_goto (tgt := 70) dX4_seekTime_66 (by decide) ?_
                exact J _
              · refine p_icmp_ne_t (tgt := 69) dX4_seekTime_62 (by decide) c8 ?_
                refine p_iconst (v := (2 : Int32)) kiconst_2 dX4_seekTime_69 rfl ?_
                exact J _
          · refine p_dia (fun c6 => ?_) (fun c6 => ?_)
            · refine p_if_ge_t (tgt := 49) dX4_seekTime_41 (by decide) c6 ?_
              refine p_iload_n rfl dX4_seekTime_49 rfl ?_
              exact J _
            · refine p_if_ge_f (tgt := 49) dX4_seekTime_41 (by decide) rfl c6 ?_
              refine p_iload_n rfl dX4_seekTime_44 rfl ?_
              refine p_ineg dX4_seekTime_45 rfl ?_
              refine p_goto (tgt := 50) dX4_seekTime_46 (by decide) ?_
              exact J _
        · refine p_icmp_lt_f (tgt := 26) dX4_seekTime_21 (by decide) rfl c4 ?_
          refine p_iconst (v := (0 : Int32)) kiconst_0 dX4_seekTime_24 rfl ?_
          exact p_iret rfl rfl dX4_seekTime_25
noncomputable def f2_isAhead (p1 : Int32) (p2 : Int32) (p3 : Int32) (p4 : Int32) (h : qH) : Option (Int32) :=
  if p1 = 0 then (
    qg (qin p2 12) <|
    qg (qin p3 12) <|
    qlt (if (h.1 45 (ix p3)) ≤ (h.1 45 (ix p2)) then (0 : Int32) else (1 : Int32)) fun (x3 : Int32) =>
    qg (qbo x3) <|
    some x3)
  else (
    if p1 = (1 : Int32) then (
      qg (qin p2 12) <|
      (f4_seekTime 6 p4 (h.1 45 (ix p2)) h).bind fun (z5 : Int32) =>
      qg (qin p3 12) <|
      (f4_seekTime 6 p4 (h.1 45 (ix p3)) h).bind fun (z6 : Int32) =>
      qj (fun (x7 : Int32) =>
        qg (qbo x7) <|
        some x7) fun j8 =>
      if z5 < z6 then (
        j8 (1 : Int32))
      else (
        if z5 = z6 then (
          qg (qin p2 12) <|
          qg (qin p3 12) <|
          if (h.1 45 (ix p3)) ≤ (h.1 45 (ix p2)) then (
            j8 (0 : Int32))
          else (
            j8 (1 : Int32)))
        else (
          j8 (0 : Int32))))
    else (
      qg (qin p2 12) <|
      qg (qin p3 12) <|
      qlt (if (h.1 47 (ix p3)) ≤ (h.1 47 (ix p2)) then (0 : Int32) else (1 : Int32)) fun (x14 : Int32) =>
      qg (qbo x14) <|
      some x14))
set_option maxRecDepth 100000 in
set_option maxHeartbeats 4000000 in
theorem m2_isAhead (l : Launch) (p1 : Int32) (p2 : Int32) (p3 : Int32) (p4 : Int32) : qMet UX ROX l yX2_isAhead (qws yX2_isAhead cX2_isAhead 7 (some .boolean)) R2_isAhead [.ref 43, .int p1, .int p2, .int p3, .int p4] (f2_isAhead p1 p2 p3 p4) qEr := by
  refine q_met (own := RX2) 2 (by decide) rfl (Nat.le_of_ble_eq_true rfl) (ls := [some (.ref 43), some (.int p1), some (.int p2), some (.int p3), some (.int p4), none, none]) rfl fun h => ?_
  unfold f2_isAhead
  refine p_iload_n rfl dX2_isAhead_0 rfl ?_
  refine p_if (fun c1 => ?_) (fun c1 => ?_)
  · refine p_if_ne_f (tgt := 25) dX2_isAhead_1 (by decide) rfl c1 ?_
    refine p_aload_n rfl dX2_isAhead_4 rfl ?_
    refine p_getr qg_RX2_15 uX_43 rfl dX2_isAhead_5 rfl ?_
    refine p_iload_n rfl dX2_isAhead_8 rfl ?_
    refine p_iald uX_45 dX2_isAhead_9 rfl (fun _ => ?_)
    refine p_aload_n rfl dX2_isAhead_10 rfl ?_
    refine p_getr qg_RX2_15 uX_43 rfl dX2_isAhead_11 rfl ?_
    refine p_iload_n rfl dX2_isAhead_14 rfl ?_
    refine p_iald uX_45 dX2_isAhead_15 rfl (fun _ => ?_)
    refine p_vj 24 [some (.ref 43), some (.int p1), some (.int p2), some (.int p3), some (.int p4), none, none] [] (fun x3 => ?_) (fun J => ?_)
    · exact p_zretG rfl rfl dX2_isAhead_24
    · refine p_dia (fun c2 => ?_) (fun c2 => ?_)
      · refine p_icmp_ge_t (tgt := 23) dX2_isAhead_16 (by decide) c2 ?_
        refine p_iconst (v := (0 : Int32)) kiconst_0 dX2_isAhead_23 rfl ?_
        exact J _
      · refine p_icmp_ge_f (tgt := 23) dX2_isAhead_16 (by decide) rfl c2 ?_
        refine p_iconst (v := (1 : Int32)) kiconst_1 dX2_isAhead_19 rfl ?_
        refine p_goto (tgt := 24) dX2_isAhead_20 (by decide) ?_
        exact J _
  · refine p_if_ne_t (tgt := 25) dX2_isAhead_1 (by decide) c1 ?_
    refine p_iload_n rfl dX2_isAhead_25 rfl ?_
    refine p_iconst (v := (1 : Int32)) kiconst_1 dX2_isAhead_26 rfl ?_
    refine p_if (fun c4 => ?_) (fun c4 => ?_)
    · refine p_icmp_ne_f (tgt := 99) dX2_isAhead_27 (by decide) rfl c4 ?_
      refine p_aload_n rfl dX2_isAhead_30 rfl ?_
      refine p_getr qg_RX2_33 uX_43 rfl dX2_isAhead_31 rfl ?_
      refine p_iload rfl dX2_isAhead_34 rfl ?_
      refine p_aload_n rfl dX2_isAhead_36 rfl ?_
      refine p_getr qg_RX2_15 uX_43 rfl dX2_isAhead_37 rfl ?_
      refine p_iload_n rfl dX2_isAhead_40 rfl ?_
      refine p_iald uX_45 dX2_isAhead_41 rfl (fun _ => ?_)
      refine p_callVr (f := f4_seekTime 6 p4 (h.1 45 (ix p2))) (st := []) [.int p4, .int (h.1 45 (ix p2))] qRokX (m4_seekTime l (kPlan_6) p4 (h.1 45 (ix p2))) cal_RX2_65 uX_6 rfl rfl ⟨rfl, rfl⟩ ⟨Nat.le_of_ble_eq_true rfl, Nat.le_of_ble_eq_true rfl⟩ (Nat.le_of_ble_eq_true rfl) dX2_isAhead_42 rfl (fun z5 => ?_)
      refine p_is (ls' := [some (.ref 43), some (.int p1), some (.int p2), some (.int p3), some (.int p4), some (.int z5), none]) dX2_isAhead_45 rfl rfl rfl rfl ?_
      refine p_aload_n rfl dX2_isAhead_47 rfl ?_
      refine p_getr qg_RX2_33 uX_43 rfl dX2_isAhead_48 rfl ?_
      refine p_iload rfl dX2_isAhead_51 rfl ?_
      refine p_aload_n rfl dX2_isAhead_53 rfl ?_
      refine p_getr qg_RX2_15 uX_43 rfl dX2_isAhead_54 rfl ?_
      refine p_iload_n rfl dX2_isAhead_57 rfl ?_
      refine p_iald uX_45 dX2_isAhead_58 rfl (fun _ => ?_)
      refine p_callVr (f := f4_seekTime 6 p4 (h.1 45 (ix p3))) (st := []) [.int p4, .int (h.1 45 (ix p3))] qRokX (m4_seekTime l (kPlan_6) p4 (h.1 45 (ix p3))) cal_RX2_65 uX_6 rfl rfl ⟨rfl, rfl⟩ ⟨Nat.le_of_ble_eq_true rfl, Nat.le_of_ble_eq_true rfl⟩ (Nat.le_of_ble_eq_true rfl) dX2_isAhead_59 rfl (fun z6 => ?_)
      refine p_is (ls' := [some (.ref 43), some (.int p1), some (.int p2), some (.int p3), some (.int p4), some (.int z5), some (.int z6)]) dX2_isAhead_62 rfl rfl rfl rfl ?_
      refine p_iload rfl dX2_isAhead_64 rfl ?_
      refine p_iload rfl dX2_isAhead_66 rfl ?_
      refine p_jn (fun j8 => ∀ (x7 : Int32), PW UX ROX l R2_isAhead cX2_isAhead 7 (some .boolean) RX2 (qEr h) 98 [some (.ref 43), some (.int p1), some (.int p2), some (.int p3), some (.int p4), some (.int z5), some (.int z6)] [.int x7] h (j8 x7)) (fun x7 => ?_) (fun j8 J9 => ?_)
      · exact p_zretG rfl rfl dX2_isAhead_98
      · refine p_if (fun c10 => ?_) (fun c10 => ?_)
        · refine p_icmp_lt_t (tgt := 93) dX2_isAhead_68 (by decide) c10 ?_
          refine p_iconst (v := (1 : Int32)) kiconst_1 dX2_isAhead_93 rfl ?_
          refine p_goto (tgt := 98) dX2_isAhead_94 (by decide) ?_
          exact J9 (1 : Int32)
        · refine p_icmp_lt_f (tgt := 93) dX2_isAhead_68 (by decide) rfl c10 ?_
          refine p_iload rfl dX2_isAhead_71 rfl ?_
          refine p_iload rfl dX2_isAhead_73 rfl ?_
          refine p_if (fun c11 => ?_) (fun c11 => ?_)
          · refine p_icmp_ne_f (tgt := 97) dX2_isAhead_75 (by decide) rfl c11 ?_
            refine p_aload_n rfl dX2_isAhead_78 rfl ?_
            refine p_getr qg_RX2_15 uX_43 rfl dX2_isAhead_79 rfl ?_
            refine p_iload_n rfl dX2_isAhead_82 rfl ?_
            refine p_iald uX_45 dX2_isAhead_83 rfl (fun _ => ?_)
            refine p_aload_n rfl dX2_isAhead_84 rfl ?_
            refine p_getr qg_RX2_15 uX_43 rfl dX2_isAhead_85 rfl ?_
            refine p_iload_n rfl dX2_isAhead_88 rfl ?_
            refine p_iald uX_45 dX2_isAhead_89 rfl (fun _ => ?_)
            refine p_if (fun c12 => ?_) (fun c12 => ?_)
            · refine p_icmp_ge_t (tgt := 97) dX2_isAhead_90 (by decide) c12 ?_
              refine p_iconst (v := (0 : Int32)) kiconst_0 dX2_isAhead_97 rfl ?_
              exact J9 (0 : Int32)
            · refine p_icmp_ge_f (tgt := 97) dX2_isAhead_90 (by decide) rfl c12 ?_
              refine p_iconst (v := (1 : Int32)) kiconst_1 dX2_isAhead_93 rfl ?_
              refine p_goto (tgt := 98) dX2_isAhead_94 (by decide) ?_
              exact J9 (1 : Int32)
          · refine p_icmp_ne_t (tgt := 97) dX2_isAhead_75 (by decide) c11 ?_
            refine p_iconst (v := (0 : Int32)) kiconst_0 dX2_isAhead_97 rfl ?_
            exact J9 (0 : Int32)
    · refine p_icmp_ne_t (tgt := 99) dX2_isAhead_27 (by decide) c4 ?_
      refine p_aload_n rfl dX2_isAhead_99 rfl ?_
      refine p_getr qg_RX2_21 uX_43 rfl dX2_isAhead_100 rfl ?_
      refine p_iload_n rfl dX2_isAhead_103 rfl ?_
      refine p_iald uX_47 dX2_isAhead_104 rfl (fun _ => ?_)
      refine p_aload_n rfl dX2_isAhead_105 rfl ?_
      refine p_getr qg_RX2_21 uX_43 rfl dX2_isAhead_106 rfl ?_
      refine p_iload_n rfl dX2_isAhead_109 rfl ?_
      refine p_iald uX_47 dX2_isAhead_110 rfl (fun _ => ?_)
      refine p_vj 119 [some (.ref 43), some (.int p1), some (.int p2), some (.int p3), some (.int p4), none, none] [] (fun x14 => ?_) (fun J => ?_)
      · exact p_zretG rfl rfl dX2_isAhead_119
      · refine p_dia (fun c13 => ?_) (fun c13 => ?_)
        · refine p_icmp_ge_t (tgt := 118) dX2_isAhead_111 (by decide) c13 ?_
          refine p_iconst (v := (0 : Int32)) kiconst_0 dX2_isAhead_118 rfl ?_
          exact J _
        · refine p_icmp_ge_f (tgt := 118) dX2_isAhead_111 (by decide) rfl c13 ?_
          refine p_iconst (v := (1 : Int32)) kiconst_1 dX2_isAhead_114 rfl ?_
          refine p_goto (tgt := 119) dX2_isAhead_115 (by decide) ?_
          exact J _
