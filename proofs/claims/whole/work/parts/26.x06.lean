noncomputable def f7_readThrough_L31 (p0 : Nat) (p1 : Int32) (k : Int32 → Int32 → qH → Option (Int32 × qH)) : Nat → Int32 → Int32 → qH → Option (Int32 × qH)
  | 0, _, _, _ => none
  | n + 1, x6, x7, h8 =>
    if (h8.1 p0 5) ≤ x7 then (
      k x6 x7 h8)
    else (
      qg (qin x7 24) <|
      qj (fun (x10 : Int32) (h11 : qH) =>
        qlt (x7 + (1 : Int32)) fun (x14 : Int32) =>
        f7_readThrough_L31 p0 p1 k n x10 x14 h11) fun j12 =>
      if (h8.1 (p0 + 7) (ix x7)) = p1 then (
        qg (qin x7 24) <|
        qlt (x6 + ((1 : Int32) - (h8.1 (p0 + 10) (ix x7)))) fun (x16 : Int32) =>
        qg (qin x7 24) <|
        qlt (qw h8 (p0 + 10) (ix x7) (1 : Int32)) fun (h17 : qH) =>
        j12 x16 h17)
      else (
        j12 x6 h8))
set_option maxRecDepth 100000 in
set_option maxHeartbeats 4000000 in
theorem w7_readThrough_L31 (l : Launch) (h0 : qH) (p0 : Nat) (p1 : Int32) (hp0 : kStage p0) {k : Int32 → Int32 → qH → Option (Int32 × qH)} (hk : ∀ (x6 : Int32) (x7 : Int32) (h8 : qH), PW UX ROX l R7_readThrough cX7_readThrough 4 (some .int) RX7 (qEw h0) 73 [some (.ref p0), some (.int p1), some (.int x6), some (.int x7)] [] h8 (k x6 x7 h8)) : ∀ (n : Nat) (x6 : Int32) (x7 : Int32) (h8 : qH), PW UX ROX l R7_readThrough cX7_readThrough 4 (some .int) RX7 (qEw h0) 31 [some (.ref p0), some (.int p1), some (.int x6), some (.int x7)] [] h8 (f7_readThrough_L31 p0 p1 k n x6 x7 h8) := by
  intro n
  induction n with
  | zero => intro _ _ _; exact p_none
  | succ n ih =>
    intro x6 x7 h8
    unfold f7_readThrough_L31
    refine p_iload_n rfl dX7_readThrough_31 rfl ?_
    refine p_aload_n rfl dX7_readThrough_32 rfl ?_
    refine p_geti qg_RX7_63 (uX_Stage hp0) rfl dX7_readThrough_33 rfl ?_
    refine p_if (fun c9 => ?_) (fun c9 => ?_)
    · refine p_icmp_ge_t (tgt := 73) dX7_readThrough_36 (by decide) c9 ?_
      exact hk x6 x7 h8
    · refine p_icmp_ge_f (tgt := 73) dX7_readThrough_36 (by decide) rfl c9 ?_
      refine p_aload_n rfl dX7_readThrough_39 rfl ?_
      refine p_getr qg_RX7_30 (uX_Stage hp0) rfl dX7_readThrough_40 rfl ?_
      refine p_iload_n rfl dX7_readThrough_43 rfl ?_
      refine p_iald (uX_Stage_7 hp0) dX7_readThrough_44 rfl (fun _ => ?_)
      refine p_iload_n rfl dX7_readThrough_45 rfl ?_
      refine p_jn (fun j12 => ∀ (x10 : Int32) (h11 : qH), PW UX ROX l R7_readThrough cX7_readThrough 4 (some .int) RX7 (qEw h0) 67 [some (.ref p0), some (.int p1), some (.int x10), some (.int x7)] [] h11 (j12 x10 h11)) (fun x10 h11 => ?_) (fun j12 J13 => ?_)
      · refine p_iiN (v := (1 : Int32)) (lf := fun x14 => [some (.ref p0), some (.int p1), some (.int x10), some (.int x14)]) kiconst_1 dX7_readThrough_67 rfl rfl rfl rfl (fun _ => rfl) (fun x14 => ?_)
        refine p_goto (tgt := 31) dX7_readThrough_70 (by decide) ?_
        exact ih x10 x14 h11
      · refine p_if (fun c15 => ?_) (fun c15 => ?_)
        · refine p_icmp_ne_f (tgt := 67) dX7_readThrough_46 (by decide) rfl c15 ?_
          refine p_iload_n rfl dX7_readThrough_49 rfl ?_
          refine p_iconst (v := (1 : Int32)) kiconst_1 dX7_readThrough_50 rfl ?_
          refine p_aload_n rfl dX7_readThrough_51 rfl ?_
          refine p_getr qg_RX7_39 (uX_Stage hp0) rfl dX7_readThrough_52 rfl ?_
          refine p_iload_n rfl dX7_readThrough_55 rfl ?_
          refine p_iald (uX_Stage_10 hp0) dX7_readThrough_56 rfl (fun _ => ?_)
          refine p_isub dX7_readThrough_57 rfl ?_
          refine p_iadd dX7_readThrough_58 rfl ?_
          refine p_isN_n (lf := fun x16 => [some (.ref p0), some (.int p1), some (.int x16), some (.int x7)]) dX7_readThrough_59 rfl rfl rfl (fun _ => rfl) (fun x16 => ?_)
          refine p_aload_n rfl dX7_readThrough_60 rfl ?_
          refine p_getr qg_RX7_39 (uX_Stage hp0) rfl dX7_readThrough_61 rfl ?_
          refine p_iload_n rfl dX7_readThrough_64 rfl ?_
          refine p_iconst (v := (1 : Int32)) kiconst_1 dX7_readThrough_65 rfl ?_
          refine p_iast qokX (uX_Stage_10 hp0) dX7_readThrough_66 rfl (fun _ => ?_)
          refine p_nmH (fun h17 => ?_)
          exact J13 x16 h17
        · refine p_icmp_ne_t (tgt := 67) dX7_readThrough_46 (by decide) c15 ?_
          exact J13 x6 h8
noncomputable def f7_readThrough (p0 : Nat) (p1 : Int32) (h : qH) : Option (Int32 × qH) :=
  qb2 (f7_bringIn p0 p1 h) fun (z1 : Int32) (h2 : qH) =>
  qg (qin p1 8) <|
  qj (fun (h3 : qH) =>
    f7_readThrough_L31 p0 p1 (fun (x18 : Int32) (x19 : Int32) (h20 : qH) =>
      some (x18, h20)) qN (0 : Int32) (0 : Int32) h3) fun j4 =>
  if (h2.1 (p0 + 3) (ix p1)) ≤ 0 then (
    j4 h2)
  else (
    qg (qin p1 8) <|
    (f7_readRow p0 p1 (0 : Int32) (h2.1 (p0 + 3) (ix p1)) h2).bind fun (h22 : qH) =>
    j4 h22)
set_option maxRecDepth 100000 in
set_option maxHeartbeats 4000000 in
theorem m7_readThrough (l : Launch) {p0 : Nat} (hp0 : kStage p0) (p1 : Int32) : qMet UX ROX l yX7_readThrough (qws yX7_readThrough cX7_readThrough 4 (some .int)) R7_readThrough [.ref p0, .int p1] (f7_readThrough p0 p1) qEw := by
  refine q_met (own := RX7) 2 (by decide) rfl (Nat.le_of_ble_eq_true rfl) (ls := [some (.ref p0), some (.int p1), none, none]) rfl fun h => ?_
  unfold f7_readThrough
  show PW UX ROX l R7_readThrough cX7_readThrough 4 (some .int) RX7 (qEw h) 0 [some (.ref p0), some (.int p1), none, none] [] h _
  refine p_aload_n rfl dX7_readThrough_0 rfl ?_
  refine p_iload_n rfl dX7_readThrough_1 rfl ?_
  refine p_cVw (f := f7_bringIn p0 p1) (st := []) [.int p1] qRokX (m7_bringIn l hp0 p1) cal_RX7_151 (uX_Stage hp0) rfl rfl ⟨rfl, rfl⟩ ⟨Nat.le_of_ble_eq_true rfl, Nat.le_of_ble_eq_true rfl⟩ (Nat.le_of_ble_eq_true rfl) dX7_readThrough_2 rfl (fun z1 h2 => ?_)
  refine p_pop rfl dX7_readThrough_5 rfl ?_
  refine p_aload_n rfl dX7_readThrough_6 rfl ?_
  refine p_getr qg_RX7_18 (uX_Stage hp0) rfl dX7_readThrough_7 rfl ?_
  refine p_iload_n rfl dX7_readThrough_10 rfl ?_
  refine p_iald (uX_Stage_3 hp0) dX7_readThrough_11 rfl (fun _ => ?_)
  refine p_jn (fun j4 => ∀ (h3 : qH), PW UX ROX l R7_readThrough cX7_readThrough 4 (some .int) RX7 (qEw h) 27 [some (.ref p0), some (.int p1), none, none] [] h3 (j4 h3)) (fun h3 => ?_) (fun j4 J5 => ?_)
  · refine p_iconst (v := (0 : Int32)) kiconst_0 dX7_readThrough_27 rfl ?_
    refine p_is_n (ls' := [some (.ref p0), some (.int p1), some (.int (0 : Int32)), none]) dX7_readThrough_28 rfl rfl rfl rfl ?_
    refine p_iconst (v := (0 : Int32)) kiconst_0 dX7_readThrough_29 rfl ?_
    refine p_is_n (ls' := [some (.ref p0), some (.int p1), some (.int (0 : Int32)), some (.int (0 : Int32))]) dX7_readThrough_30 rfl rfl rfl rfl ?_
    refine w7_readThrough_L31 l h p0 p1 hp0 (fun x18 x19 h20 => ?_) qN _ _ _
    refine p_iload_n rfl dX7_readThrough_73 rfl ?_
    exact p_iret rfl rfl dX7_readThrough_74
  · refine p_if (fun c21 => ?_) (fun c21 => ?_)
    · refine p_if_le_t (tgt := 27) dX7_readThrough_12 (by decide) c21 ?_
      exact J5 h2
    · refine p_if_le_f (tgt := 27) dX7_readThrough_12 (by decide) rfl c21 ?_
      refine p_aload_n rfl dX7_readThrough_15 rfl ?_
      refine p_iload_n rfl dX7_readThrough_16 rfl ?_
      refine p_iconst (v := (0 : Int32)) kiconst_0 dX7_readThrough_17 rfl ?_
      refine p_aload_n rfl dX7_readThrough_18 rfl ?_
      refine p_getr qg_RX7_18 (uX_Stage hp0) rfl dX7_readThrough_19 rfl ?_
      refine p_iload_n rfl dX7_readThrough_22 rfl ?_
      refine p_iald (uX_Stage_3 hp0) dX7_readThrough_23 rfl (fun _ => ?_)
      refine p_callVv (f := f7_readRow p0 p1 (0 : Int32) (h2.1 (p0 + 3) (ix p1))) (st := []) [.int p1, .int (0 : Int32), .int (h2.1 (p0 + 3) (ix p1))] qRokX (m7_readRow l hp0 p1 (0 : Int32) (h2.1 (p0 + 3) (ix p1))) cal_RX7_190 (uX_Stage hp0) rfl rfl ⟨rfl, rfl⟩ ⟨Nat.le_of_ble_eq_true rfl, Nat.le_of_ble_eq_true rfl⟩ (Nat.le_of_ble_eq_true rfl) dX7_readThrough_24 rfl (fun h22 => ?_)
      exact J5 h22
noncomputable def f7_rescueWeak_L9 (p0 : Nat) (z1 : Int32) (k : Int32 → Int32 → qH → Option (Int32 × qH)) : Nat → Int32 → Int32 → qH → Option (Int32 × qH)
  | 0, _, _, _ => none
  | n + 1, x2, x3, h4 =>
    if (h4.1 6 1) ≤ x3 then (
      k x2 x3 h4)
    else (
      qj (fun (x6 : Int32) =>
        qj (fun (x9 : Int32) (h10 : qH) =>
          qlt (x3 + (1 : Int32)) fun (x13 : Int32) =>
          f7_rescueWeak_L9 p0 z1 k n x9 x13 h10) fun j11 =>
        if x6 = (-1 : Int32) then (
          j11 x2 h4)
        else (
          qb2 (f7_copyTo p0 x3 x6 h4) fun (z15 : Int32) (h16 : qH) =>
          qlt (x2 + (1 : Int32)) fun (x17 : Int32) =>
          j11 x17 h16)) fun j7 =>
      if ((z1 >>> (x3 &&& 31)) &&& (1 : Int32)) = (1 : Int32) then (
        (f7_targetFor p0 x3 h4).bind fun (z19 : Int32) =>
        j7 z19)
      else (
        j7 (-1 : Int32)))
set_option maxRecDepth 100000 in
set_option maxHeartbeats 4000000 in
theorem w7_rescueWeak_L9 (l : Launch) (h0 : qH) (p0 : Nat) (z1 : Int32) (hp0 : kStage p0) {k : Int32 → Int32 → qH → Option (Int32 × qH)} (hk : ∀ (x2 : Int32) (x3 : Int32) (h4 : qH), PW UX ROX l R7_rescueWeak cX7_rescueWeak 5 (some .int) RX7 (qEw h0) 63 [some (.ref p0), some (.int z1), some (.int x2), some (.int x3), none] [] h4 (k x2 x3 h4)) : ∀ (n : Nat) (x2 : Int32) (x3 : Int32) (h4 : qH), PW UX ROX l R7_rescueWeak cX7_rescueWeak 5 (some .int) RX7 (qEw h0) 9 [some (.ref p0), some (.int z1), some (.int x2), some (.int x3), none] [] h4 (f7_rescueWeak_L9 p0 z1 k n x2 x3 h4) := by
  intro n
  induction n with
  | zero => intro _ _ _; exact p_none
  | succ n ih =>
    intro x2 x3 h4
    unfold f7_rescueWeak_L9
    refine p_iload_n rfl dX7_rescueWeak_9 rfl ?_
    refine p_aload_n rfl dX7_rescueWeak_10 rfl ?_
    refine p_getr qg_RX7_45 (uX_Stage hp0) rfl dX7_rescueWeak_11 rfl ?_
    refine p_geti qg_RX7_133 uX_6 rfl dX7_rescueWeak_14 rfl ?_
    refine p_if (fun c5 => ?_) (fun c5 => ?_)
    · refine p_icmp_ge_t (tgt := 63) dX7_rescueWeak_17 (by decide) c5 ?_
      exact hk x2 x3 h4
    · refine p_icmp_ge_f (tgt := 63) dX7_rescueWeak_17 (by decide) rfl c5 ?_
      refine p_iload_n rfl dX7_rescueWeak_20 rfl ?_
      refine p_iload_n rfl dX7_rescueWeak_21 rfl ?_
      refine p_ishr dX7_rescueWeak_22 rfl ?_
      refine p_iconst (v := (1 : Int32)) kiconst_1 dX7_rescueWeak_23 rfl ?_
      refine p_iand dX7_rescueWeak_24 rfl ?_
      refine p_iconst (v := (1 : Int32)) kiconst_1 dX7_rescueWeak_25 rfl ?_
      refine p_jn (fun j7 => ∀ (x6 : Int32), PW UX ROX l R7_rescueWeak cX7_rescueWeak 5 (some .int) RX7 (qEw h0) 38 [some (.ref p0), some (.int z1), some (.int x2), some (.int x3), none] [.int x6] h4 (j7 x6)) (fun x6 => ?_) (fun j7 J8 => ?_)
      · refine p_is (ls' := [some (.ref p0), some (.int z1), some (.int x2), some (.int x3), some (.int x6)]) dX7_rescueWeak_38 rfl rfl rfl rfl ?_
        refine p_iload rfl dX7_rescueWeak_40 rfl ?_
        refine p_iconst (v := (-1 : Int32)) kiconst_m1 dX7_rescueWeak_42 rfl ?_
        refine p_jn (fun j11 => ∀ (x9 : Int32) (h10 : qH), PW UX ROX l R7_rescueWeak cX7_rescueWeak 5 (some .int) RX7 (qEw h0) 57 [some (.ref p0), some (.int z1), some (.int x9), some (.int x3), some (.int x6)] [] h10 (j11 x9 h10)) (fun x9 h10 => ?_) (fun j11 J12 => ?_)
        · refine p_iiN (v := (1 : Int32)) (lf := fun x13 => [some (.ref p0), some (.int z1), some (.int x9), some (.int x13), some (.int x6)]) kiconst_1 dX7_rescueWeak_57 rfl rfl rfl rfl (fun _ => rfl) (fun x13 => ?_)
          refine p_goto (tgt := 9) dX7_rescueWeak_60 (by decide) ?_
          exact p_wk (ls' := [some (.ref p0), some (.int z1), some (.int x9), some (.int x13), none]) ⟨rfl, rfl, rfl, rfl, trivial⟩ (ih x9 x13 h10)
        · refine p_if (fun c14 => ?_) (fun c14 => ?_)
          · refine p_icmp_eq_t (tgt := 57) dX7_rescueWeak_43 (by decide) c14 ?_
            exact J12 x2 h4
          · refine p_icmp_eq_f (tgt := 57) dX7_rescueWeak_43 (by decide) rfl c14 ?_
            refine p_aload_n rfl dX7_rescueWeak_46 rfl ?_
            refine p_iload_n rfl dX7_rescueWeak_47 rfl ?_
            refine p_iload rfl dX7_rescueWeak_48 rfl ?_
            refine p_cVw (f := f7_copyTo p0 x3 x6) (st := []) [.int x3, .int x6] qRokX (m7_copyTo l hp0 x3 x6) cal_RX7_157 (uX_Stage hp0) rfl rfl ⟨rfl, rfl⟩ ⟨Nat.le_of_ble_eq_true rfl, Nat.le_of_ble_eq_true rfl⟩ (Nat.le_of_ble_eq_true rfl) dX7_rescueWeak_50 rfl (fun z15 h16 => ?_)
            refine p_pop rfl dX7_rescueWeak_53 rfl ?_
            refine p_iiN (v := (1 : Int32)) (lf := fun x17 => [some (.ref p0), some (.int z1), some (.int x17), some (.int x3), some (.int x6)]) kiconst_1 dX7_rescueWeak_54 rfl rfl rfl rfl (fun _ => rfl) (fun x17 => ?_)
            exact J12 x17 h16
      · refine p_if (fun c18 => ?_) (fun c18 => ?_)
        · refine p_icmp_ne_f (tgt := 37) dX7_rescueWeak_26 (by decide) rfl c18 ?_
          refine p_aload_n rfl dX7_rescueWeak_29 rfl ?_
          refine p_iload_n rfl dX7_rescueWeak_30 rfl ?_
          refine p_callVr (f := f7_targetFor p0 x3) (st := []) [.int x3] qRokX (m7_targetFor l hp0 x3) cal_RX7_136 (uX_Stage hp0) rfl rfl ⟨rfl, rfl⟩ ⟨Nat.le_of_ble_eq_true rfl, Nat.le_of_ble_eq_true rfl⟩ (Nat.le_of_ble_eq_true rfl) dX7_rescueWeak_31 rfl (fun z19 => ?_)
          refine p_goto (tgt := 38) dX7_rescueWeak_34 (by decide) ?_
          exact J8 z19
        · refine p_icmp_ne_t (tgt := 37) dX7_rescueWeak_26 (by decide) c18 ?_
          refine p_iconst (v := (-1 : Int32)) kiconst_m1 dX7_rescueWeak_37 rfl ?_
          exact J8 (-1 : Int32)
noncomputable def f7_rescueWeak (p0 : Nat) (h : qH) : Option (Int32 × qH) :=
  (f7_weakTapes p0 h).bind fun (z1 : Int32) =>
  f7_rescueWeak_L9 p0 z1 (fun (x20 : Int32) (x21 : Int32) (h22 : qH) =>
    some (x20, h22)) qN (0 : Int32) (0 : Int32) h
set_option maxRecDepth 100000 in
set_option maxHeartbeats 4000000 in
theorem m7_rescueWeak (l : Launch) {p0 : Nat} (hp0 : kStage p0) : qMet UX ROX l yX7_rescueWeak (qws yX7_rescueWeak cX7_rescueWeak 5 (some .int)) R7_rescueWeak [.ref p0] (f7_rescueWeak p0) qEw := by
  refine q_met (own := RX7) 4 (by decide) rfl (Nat.le_of_ble_eq_true rfl) (ls := [some (.ref p0), none, none, none, none]) rfl fun h => ?_
  unfold f7_rescueWeak
  show PW UX ROX l R7_rescueWeak cX7_rescueWeak 5 (some .int) RX7 (qEw h) 0 [some (.ref p0), none, none, none, none] [] h _
  refine p_aload_n rfl dX7_rescueWeak_0 rfl ?_
  refine p_callVr (f := f7_weakTapes p0) (st := []) [] qRokX (m7_weakTapes l hp0) cal_RX7_130 (uX_Stage hp0) rfl rfl ⟨rfl, rfl⟩ ⟨Nat.le_of_ble_eq_true rfl, Nat.le_of_ble_eq_true rfl⟩ (Nat.le_of_ble_eq_true rfl) dX7_rescueWeak_1 rfl (fun z1 => ?_)
  refine p_is_n (ls' := [some (.ref p0), some (.int z1), none, none, none]) dX7_rescueWeak_4 rfl rfl rfl rfl ?_
  refine p_iconst (v := (0 : Int32)) kiconst_0 dX7_rescueWeak_5 rfl ?_
  refine p_is_n (ls' := [some (.ref p0), some (.int z1), some (.int (0 : Int32)), none, none]) dX7_rescueWeak_6 rfl rfl rfl rfl ?_
  refine p_iconst (v := (0 : Int32)) kiconst_0 dX7_rescueWeak_7 rfl ?_
  refine p_is_n (ls' := [some (.ref p0), some (.int z1), some (.int (0 : Int32)), some (.int (0 : Int32)), none]) dX7_rescueWeak_8 rfl rfl rfl rfl ?_
  refine w7_rescueWeak_L9 l h p0 z1 hp0 (fun x20 x21 h22 => ?_) qN _ _ _
  refine p_iload_n rfl dX7_rescueWeak_63 rfl ?_
  exact p_iret rfl rfl dX7_rescueWeak_64
noncomputable def f7_askedOn_L4 (p0 : Nat) (p1 : Int32) (h : qH) (k : Int32 → Int32 → Option (Int32)) : Nat → Int32 → Int32 → Option (Int32)
  | 0, _, _ => none
  | n + 1, x1, x2 =>
    if (h.1 p0 5) ≤ x2 then (
      k x1 x2)
    else (
      qg (qin x2 24) <|
      qj (fun (x4 : Int32) =>
        qlt (x1 + x4) fun (x7 : Int32) =>
        qlt (x2 + (1 : Int32)) fun (x8 : Int32) =>
        f7_askedOn_L4 p0 p1 h k n x7 x8) fun j5 =>
      if (h.1 (p0 + 7) (ix x2)) = p1 then (
        qg (qin x2 24) <|
        if (h.1 (p0 + 11) (ix x2)) = 0 then (
          j5 (0 : Int32))
        else (
          j5 (1 : Int32)))
      else (
        j5 (0 : Int32)))
set_option maxRecDepth 100000 in
set_option maxHeartbeats 4000000 in
theorem w7_askedOn_L4 (l : Launch) (p0 : Nat) (p1 : Int32) (h : qH) (hp0 : kStage p0) {k : Int32 → Int32 → Option (Int32)} (hk : ∀ (x1 : Int32) (x2 : Int32), PW UX ROX l R7_askedOn cX7_askedOn 4 (some .int) RX7 (qEr h) 45 [some (.ref p0), some (.int p1), some (.int x1), some (.int x2)] [] h (k x1 x2)) : ∀ (n : Nat) (x1 : Int32) (x2 : Int32), PW UX ROX l R7_askedOn cX7_askedOn 4 (some .int) RX7 (qEr h) 4 [some (.ref p0), some (.int p1), some (.int x1), some (.int x2)] [] h (f7_askedOn_L4 p0 p1 h k n x1 x2) := by
  intro n
  induction n with
  | zero => intro _ _; exact p_none
  | succ n ih =>
    intro x1 x2
    unfold f7_askedOn_L4
    refine p_iload_n rfl dX7_askedOn_4 rfl ?_
    refine p_aload_n rfl dX7_askedOn_5 rfl ?_
    refine p_geti qg_RX7_63 (uX_Stage hp0) rfl dX7_askedOn_6 rfl ?_
    refine p_if (fun c3 => ?_) (fun c3 => ?_)
    · refine p_icmp_ge_t (tgt := 45) dX7_askedOn_9 (by decide) c3 ?_
      exact hk x1 x2
    · refine p_icmp_ge_f (tgt := 45) dX7_askedOn_9 (by decide) rfl c3 ?_
      refine p_iload_n rfl dX7_askedOn_12 rfl ?_
      refine p_aload_n rfl dX7_askedOn_13 rfl ?_
      refine p_getr qg_RX7_30 (uX_Stage hp0) rfl dX7_askedOn_14 rfl ?_
      refine p_iload_n rfl dX7_askedOn_17 rfl ?_
      refine p_iald (uX_Stage_7 hp0) dX7_askedOn_18 rfl (fun _ => ?_)
      refine p_iload_n rfl dX7_askedOn_19 rfl ?_
      refine p_jn (fun j5 => ∀ (x4 : Int32), PW UX ROX l R7_askedOn cX7_askedOn 4 (some .int) RX7 (qEr h) 37 [some (.ref p0), some (.int p1), some (.int x1), some (.int x2)] [.int x4, .int x1] h (j5 x4)) (fun x4 => ?_) (fun j5 J6 => ?_)
      · refine p_iadd dX7_askedOn_37 rfl ?_
        refine p_isN_n (lf := fun x7 => [some (.ref p0), some (.int p1), some (.int x7), some (.int x2)]) dX7_askedOn_38 rfl rfl rfl (fun _ => rfl) (fun x7 => ?_)
        refine p_iiN (v := (1 : Int32)) (lf := fun x8 => [some (.ref p0), some (.int p1), some (.int x7), some (.int x8)]) kiconst_1 dX7_askedOn_39 rfl rfl rfl rfl (fun _ => rfl) (fun x8 => ?_)
        refine p_goto (tgt := 4) dX7_askedOn_42 (by decide) ?_
        exact ih x7 x8
      · refine p_if (fun c9 => ?_) (fun c9 => ?_)
        · refine p_icmp_ne_f (tgt := 36) dX7_askedOn_20 (by decide) rfl c9 ?_
          refine p_aload_n rfl dX7_askedOn_23 rfl ?_
          refine p_getr qg_RX7_42 (uX_Stage hp0) rfl dX7_askedOn_24 rfl ?_
          refine p_iload_n rfl dX7_askedOn_27 rfl ?_
          refine p_iald (uX_Stage_11 hp0) dX7_askedOn_28 rfl (fun _ => ?_)
          refine p_if (fun c10 => ?_) (fun c10 => ?_)
          · refine p_if_eq_t (tgt := 36) dX7_askedOn_29 (by decide) c10 ?_
            refine p_iconst (v := (0 : Int32)) kiconst_0 dX7_askedOn_36 rfl ?_
            exact J6 (0 : Int32)
          · refine p_if_eq_f (tgt := 36) dX7_askedOn_29 (by decide) rfl c10 ?_
            refine p_iconst (v := (1 : Int32)) kiconst_1 dX7_askedOn_32 rfl ?_
            refine p_goto (tgt := 37) dX7_askedOn_33 (by decide) ?_
            exact J6 (1 : Int32)
        · refine p_icmp_ne_t (tgt := 36) dX7_askedOn_20 (by decide) c9 ?_
          refine p_iconst (v := (0 : Int32)) kiconst_0 dX7_askedOn_36 rfl ?_
          exact J6 (0 : Int32)
noncomputable def f7_askedOn (p0 : Nat) (p1 : Int32) (h : qH) : Option (Int32) :=
  f7_askedOn_L4 p0 p1 h (fun (x11 : Int32) (x12 : Int32) =>
    some x11) qN (0 : Int32) (0 : Int32)
set_option maxRecDepth 100000 in
set_option maxHeartbeats 4000000 in
theorem m7_askedOn (l : Launch) {p0 : Nat} (hp0 : kStage p0) (p1 : Int32) : qMet UX ROX l yX7_askedOn (qws yX7_askedOn cX7_askedOn 4 (some .int)) R7_askedOn [.ref p0, .int p1] (f7_askedOn p0 p1) qEr := by
  refine q_met (own := RX7) 2 (by decide) rfl (Nat.le_of_ble_eq_true rfl) (ls := [some (.ref p0), some (.int p1), none, none]) rfl fun h => ?_
  unfold f7_askedOn
  refine p_iconst (v := (0 : Int32)) kiconst_0 dX7_askedOn_0 rfl ?_
  refine p_is_n (ls' := [some (.ref p0), some (.int p1), some (.int (0 : Int32)), none]) dX7_askedOn_1 rfl rfl rfl rfl ?_
  refine p_iconst (v := (0 : Int32)) kiconst_0 dX7_askedOn_2 rfl ?_
  refine p_is_n (ls' := [some (.ref p0), some (.int p1), some (.int (0 : Int32)), some (.int (0 : Int32))]) dX7_askedOn_3 rfl rfl rfl rfl ?_
  refine w7_askedOn_L4 l p0 p1 h hp0 (fun x11 x12 => ?_) qN _ _
  refine p_iload_n rfl dX7_askedOn_45 rfl ?_
  exact p_iret rfl rfl dX7_askedOn_46
noncomputable def f7_nextServed_L12 (p0 : Nat) (h : qH) (k : Int32 → Int32 → Int32 → Int32 → Int32 → Option (Int32)) : Nat → Int32 → Int32 → Int32 → Int32 → Int32 → Option (Int32)
  | 0, _, _, _, _, _ => none
  | n + 1, x1, x2, x3, x4, x5 =>
    if (h.1 6 1) ≤ x5 then (
      k x1 x2 x3 x4 x5)
    else (
      (f7_askedOn p0 x5 h).bind fun (z7 : Int32) =>
      qg (qin x5 8) <|
      qj (fun (x8 : Int32) (x9 : Int32) =>
        qj (fun (x12 : Int32) (x13 : Int32) =>
          qlt (x5 + (1 : Int32)) fun (x16 : Int32) =>
          f7_nextServed_L12 p0 h k n x8 x9 x12 x13 x16) fun j14 =>
        if z7 ≤ x4 then (
          j14 x3 x4)
        else (
          j14 x5 z7)) fun j10 =>
      if (h.1 (p0 + 1) (ix x5)) = (-1 : Int32) then (
        j10 x1 x2)
      else (
        if z7 ≤ x2 then (
          j10 x1 x2)
        else (
          j10 x5 z7)))
set_option maxRecDepth 100000 in
set_option maxHeartbeats 4000000 in
theorem w7_nextServed_L12 (l : Launch) (p0 : Nat) (h : qH) (hp0 : kStage p0) {k : Int32 → Int32 → Int32 → Int32 → Int32 → Option (Int32)} (hk : ∀ (x1 : Int32) (x2 : Int32) (x3 : Int32) (x4 : Int32) (x5 : Int32), PW UX ROX l R7_nextServed cX7_nextServed 7 (some .int) RX7 (qEr h) 75 [some (.ref p0), some (.int x1), some (.int x2), some (.int x3), some (.int x4), some (.int x5), none] [] h (k x1 x2 x3 x4 x5)) : ∀ (n : Nat) (x1 : Int32) (x2 : Int32) (x3 : Int32) (x4 : Int32) (x5 : Int32), PW UX ROX l R7_nextServed cX7_nextServed 7 (some .int) RX7 (qEr h) 12 [some (.ref p0), some (.int x1), some (.int x2), some (.int x3), some (.int x4), some (.int x5), none] [] h (f7_nextServed_L12 p0 h k n x1 x2 x3 x4 x5) := by
  intro n
  induction n with
  | zero => intro _ _ _ _ _; exact p_none
  | succ n ih =>
    intro x1 x2 x3 x4 x5
    unfold f7_nextServed_L12
    refine p_iload rfl dX7_nextServed_12 rfl ?_
    refine p_aload_n rfl dX7_nextServed_14 rfl ?_
    refine p_getr qg_RX7_45 (uX_Stage hp0) rfl dX7_nextServed_15 rfl ?_
    refine p_geti qg_RX7_133 uX_6 rfl dX7_nextServed_18 rfl ?_
    refine p_if (fun c6 => ?_) (fun c6 => ?_)
    · refine p_icmp_ge_t (tgt := 75) dX7_nextServed_21 (by decide) c6 ?_
      exact hk x1 x2 x3 x4 x5
    · refine p_icmp_ge_f (tgt := 75) dX7_nextServed_21 (by decide) rfl c6 ?_
      refine p_aload_n rfl dX7_nextServed_24 rfl ?_
      refine p_iload rfl dX7_nextServed_25 rfl ?_
      refine p_callVr (f := f7_askedOn p0 x5) (st := []) [.int x5] qRokX (m7_askedOn l hp0 x5) cal_RX7_194 (uX_Stage hp0) rfl rfl ⟨rfl, rfl⟩ ⟨Nat.le_of_ble_eq_true rfl, Nat.le_of_ble_eq_true rfl⟩ (Nat.le_of_ble_eq_true rfl) dX7_nextServed_27 rfl (fun z7 => ?_)
      refine p_is (ls' := [some (.ref p0), some (.int x1), some (.int x2), some (.int x3), some (.int x4), some (.int x5), some (.int z7)]) dX7_nextServed_30 rfl rfl rfl rfl ?_
      refine p_aload_n rfl dX7_nextServed_32 rfl ?_
      refine p_getr qg_RX7_9 (uX_Stage hp0) rfl dX7_nextServed_33 rfl ?_
      refine p_iload rfl dX7_nextServed_36 rfl ?_
      refine p_iald (uX_Stage_1 hp0) dX7_nextServed_38 rfl (fun _ => ?_)
      refine p_iconst (v := (-1 : Int32)) kiconst_m1 dX7_nextServed_39 rfl ?_
      refine p_jn (fun j10 => ∀ (x8 : Int32) (x9 : Int32), PW UX ROX l R7_nextServed cX7_nextServed 7 (some .int) RX7 (qEr h) 55 [some (.ref p0), some (.int x8), some (.int x9), some (.int x3), some (.int x4), some (.int x5), some (.int z7)] [] h (j10 x8 x9)) (fun x8 x9 => ?_) (fun j10 J11 => ?_)
      · refine p_iload rfl dX7_nextServed_55 rfl ?_
        refine p_iload rfl dX7_nextServed_57 rfl ?_
        refine p_jn (fun j14 => ∀ (x12 : Int32) (x13 : Int32), PW UX ROX l R7_nextServed cX7_nextServed 7 (some .int) RX7 (qEr h) 69 [some (.ref p0), some (.int x8), some (.int x9), some (.int x12), some (.int x13), some (.int x5), some (.int z7)] [] h (j14 x12 x13)) (fun x12 x13 => ?_) (fun j14 J15 => ?_)
        · refine p_iiN (v := (1 : Int32)) (lf := fun x16 => [some (.ref p0), some (.int x8), some (.int x9), some (.int x12), some (.int x13), some (.int x16), some (.int z7)]) kiconst_1 dX7_nextServed_69 rfl rfl rfl rfl (fun _ => rfl) (fun x16 => ?_)
          refine p_goto (tgt := 12) dX7_nextServed_72 (by decide) ?_
          exact p_wk (ls' := [some (.ref p0), some (.int x8), some (.int x9), some (.int x12), some (.int x13), some (.int x16), none]) ⟨rfl, rfl, rfl, rfl, rfl, rfl, trivial⟩ (ih x8 x9 x12 x13 x16)
        · refine p_if (fun c17 => ?_) (fun c17 => ?_)
          · refine p_icmp_le_t (tgt := 69) dX7_nextServed_59 (by decide) c17 ?_
            exact J15 x3 x4
          · refine p_icmp_le_f (tgt := 69) dX7_nextServed_59 (by decide) rfl c17 ?_
            refine p_iload rfl dX7_nextServed_62 rfl ?_
            refine p_is_n (ls' := [some (.ref p0), some (.int x8), some (.int x9), some (.int x5), some (.int x4), some (.int x5), some (.int z7)]) dX7_nextServed_64 rfl rfl rfl rfl ?_
            refine p_iload rfl dX7_nextServed_65 rfl ?_
            refine p_is (ls' := [some (.ref p0), some (.int x8), some (.int x9), some (.int x5), some (.int z7), some (.int x5), some (.int z7)]) dX7_nextServed_67 rfl rfl rfl rfl ?_
            exact J15 x5 z7
      · refine p_if (fun c18 => ?_) (fun c18 => ?_)
        · refine p_icmp_eq_t (tgt := 55) dX7_nextServed_40 (by decide) c18 ?_
          exact J11 x1 x2
        · refine p_icmp_eq_f (tgt := 55) dX7_nextServed_40 (by decide) rfl c18 ?_
          refine p_iload rfl dX7_nextServed_43 rfl ?_
          refine p_iload_n rfl dX7_nextServed_45 rfl ?_
          refine p_if (fun c19 => ?_) (fun c19 => ?_)
          · refine p_icmp_le_t (tgt := 55) dX7_nextServed_46 (by decide) c19 ?_
            exact J11 x1 x2
          · refine p_icmp_le_f (tgt := 55) dX7_nextServed_46 (by decide) rfl c19 ?_
            refine p_iload rfl dX7_nextServed_49 rfl ?_
            refine p_is_n (ls' := [some (.ref p0), some (.int x5), some (.int x2), some (.int x3), some (.int x4), some (.int x5), some (.int z7)]) dX7_nextServed_51 rfl rfl rfl rfl ?_
            refine p_iload rfl dX7_nextServed_52 rfl ?_
            refine p_is_n (ls' := [some (.ref p0), some (.int x5), some (.int z7), some (.int x3), some (.int x4), some (.int x5), some (.int z7)]) dX7_nextServed_54 rfl rfl rfl rfl ?_
            exact J11 x5 z7
noncomputable def f7_nextServed (p0 : Nat) (h : qH) : Option (Int32) :=
  f7_nextServed_L12 p0 h (fun (x20 : Int32) (x21 : Int32) (x22 : Int32) (x23 : Int32) (x24 : Int32) =>
    qlt (if x20 = (-1 : Int32) then x22 else x20) fun (x26 : Int32) =>
    some x26) qN (-1 : Int32) (0 : Int32) (-1 : Int32) (0 : Int32) (0 : Int32)
set_option maxRecDepth 100000 in
set_option maxHeartbeats 4000000 in
theorem m7_nextServed (l : Launch) {p0 : Nat} (hp0 : kStage p0) : qMet UX ROX l yX7_nextServed (qws yX7_nextServed cX7_nextServed 7 (some .int)) R7_nextServed [.ref p0] (f7_nextServed p0) qEr := by
  refine q_met (own := RX7) 6 (by decide) rfl (Nat.le_of_ble_eq_true rfl) (ls := [some (.ref p0), none, none, none, none, none, none]) rfl fun h => ?_
  unfold f7_nextServed
  refine p_iconst (v := (-1 : Int32)) kiconst_m1 dX7_nextServed_0 rfl ?_
  refine p_is_n (ls' := [some (.ref p0), some (.int (-1 : Int32)), none, none, none, none, none]) dX7_nextServed_1 rfl rfl rfl rfl ?_
  refine p_iconst (v := (0 : Int32)) kiconst_0 dX7_nextServed_2 rfl ?_
  refine p_is_n (ls' := [some (.ref p0), some (.int (-1 : Int32)), some (.int (0 : Int32)), none, none, none, none]) dX7_nextServed_3 rfl rfl rfl rfl ?_
  refine p_iconst (v := (-1 : Int32)) kiconst_m1 dX7_nextServed_4 rfl ?_
  refine p_is_n (ls' := [some (.ref p0), some (.int (-1 : Int32)), some (.int (0 : Int32)), some (.int (-1 : Int32)), none, none, none]) dX7_nextServed_5 rfl rfl rfl rfl ?_
  refine p_iconst (v := (0 : Int32)) kiconst_0 dX7_nextServed_6 rfl ?_
  refine p_is (ls' := [some (.ref p0), some (.int (-1 : Int32)), some (.int (0 : Int32)), some (.int (-1 : Int32)), some (.int (0 : Int32)), none, none]) dX7_nextServed_7 rfl rfl rfl rfl ?_
  refine p_iconst (v := (0 : Int32)) kiconst_0 dX7_nextServed_9 rfl ?_
  refine p_is (ls' := [some (.ref p0), some (.int (-1 : Int32)), some (.int (0 : Int32)), some (.int (-1 : Int32)), some (.int (0 : Int32)), some (.int (0 : Int32)), none]) dX7_nextServed_10 rfl rfl rfl rfl ?_
  refine w7_nextServed_L12 l p0 h hp0 (fun x20 x21 x22 x23 x24 => ?_) qN _ _ _ _ _
  refine p_iload_n rfl dX7_nextServed_75 rfl ?_
  refine p_iconst (v := (-1 : Int32)) kiconst_m1 dX7_nextServed_76 rfl ?_
  refine p_vj 85 [some (.ref p0), some (.int x20), some (.int x21), some (.int x22), some (.int x23), some (.int x24), none] [] (fun x26 => ?_) (fun J => ?_)
  · exact p_iret rfl rfl dX7_nextServed_85
  · refine p_dia (fun c25 => ?_) (fun c25 => ?_)
    · refine p_icmp_eq_t (tgt := 84) dX7_nextServed_77 (by decide) c25 ?_
      refine p_iload_n rfl dX7_nextServed_84 rfl ?_
      exact J _
    · refine p_icmp_eq_f (tgt := 84) dX7_nextServed_77 (by decide) rfl c25 ?_
      refine p_iload_n rfl dX7_nextServed_80 rfl ?_
      refine p_goto (tgt := 85) dX7_nextServed_81 (by decide) ?_
      exact J _
noncomputable def f7_serveNext_L36 (p0 : Nat) (z1 : Int32) (k : Int32 → qH → Option (Int32 × qH)) : Nat → Int32 → qH → Option (Int32 × qH)
  | 0, _, _ => none
  | n + 1, x7, h8 =>
    if (h8.1 43 1) ≤ x7 then (
      k x7 h8)
    else (
      (f2_fileAt x7 h8).bind fun (z10 : Int32) =>
      qg (qin z10 24) <|
      qg (qin z10 24) <|
      (f7_readRow p0 z1 (h8.1 (p0 + 8) (ix z10)) (h8.1 (p0 + 9) (ix z10)) h8).bind fun (h11 : qH) =>
      qg (qin z10 24) <|
      qlt (qw h11 (p0 + 11) (ix z10) (0 : Int32)) fun (h12 : qH) =>
      qlt (x7 + (1 : Int32)) fun (x13 : Int32) =>
      f7_serveNext_L36 p0 z1 k n x13 h12)
set_option maxRecDepth 100000 in
set_option maxHeartbeats 4000000 in
theorem w7_serveNext_L36 (l : Launch) (h0 : qH) (p0 : Nat) (z1 : Int32) (hp0 : kStage p0) {k : Int32 → qH → Option (Int32 × qH)} (hk : ∀ (x7 : Int32) (h8 : qH), PW UX ROX l R7_serveNext cX7_serveNext 4 (some .int) RX7 (qEw h0) 86 [some (.ref p0), some (.int z1), some (.int x7), none] [] h8 (k x7 h8)) : ∀ (n : Nat) (x7 : Int32) (h8 : qH), PW UX ROX l R7_serveNext cX7_serveNext 4 (some .int) RX7 (qEw h0) 36 [some (.ref p0), some (.int z1), some (.int x7), none] [] h8 (f7_serveNext_L36 p0 z1 k n x7 h8) := by
  intro n
  induction n with
  | zero => intro _ _; exact p_none
  | succ n ih =>
    intro x7 h8
    unfold f7_serveNext_L36
    refine p_iload_n rfl dX7_serveNext_36 rfl ?_
    refine p_aload_n rfl dX7_serveNext_37 rfl ?_
    refine p_getr qg_RX7_49 (uX_Stage hp0) rfl dX7_serveNext_38 rfl ?_
    refine p_geti qg_RX7_184 uX_43 rfl dX7_serveNext_41 rfl ?_
    refine p_if (fun c9 => ?_) (fun c9 => ?_)
    · refine p_icmp_ge_t (tgt := 86) dX7_serveNext_44 (by decide) c9 ?_
      exact hk x7 h8
    · refine p_icmp_ge_f (tgt := 86) dX7_serveNext_44 (by decide) rfl c9 ?_
      refine p_aload_n rfl dX7_serveNext_47 rfl ?_
      refine p_getr qg_RX7_49 (uX_Stage hp0) rfl dX7_serveNext_48 rfl ?_
      refine p_iload_n rfl dX7_serveNext_51 rfl ?_
      refine p_callVr (f := f2_fileAt x7) (st := []) [.int x7] qRokX (m2_fileAt l x7) cal_RX7_187 uX_43 rfl rfl ⟨rfl, rfl⟩ ⟨Nat.le_of_ble_eq_true rfl, Nat.le_of_ble_eq_true rfl⟩ (Nat.le_of_ble_eq_true rfl) dX7_serveNext_52 rfl (fun z10 => ?_)
      refine p_is_n (ls' := [some (.ref p0), some (.int z1), some (.int x7), some (.int z10)]) dX7_serveNext_55 rfl rfl rfl rfl ?_
      refine p_aload_n rfl dX7_serveNext_56 rfl ?_
      refine p_iload_n rfl dX7_serveNext_57 rfl ?_
      refine p_aload_n rfl dX7_serveNext_58 rfl ?_
      refine p_getr qg_RX7_33 (uX_Stage hp0) rfl dX7_serveNext_59 rfl ?_
      refine p_iload_n rfl dX7_serveNext_62 rfl ?_
      refine p_iald (uX_Stage_8 hp0) dX7_serveNext_63 rfl (fun _ => ?_)
      refine p_aload_n rfl dX7_serveNext_64 rfl ?_
      refine p_getr qg_RX7_36 (uX_Stage hp0) rfl dX7_serveNext_65 rfl ?_
      refine p_iload_n rfl dX7_serveNext_68 rfl ?_
      refine p_iald (uX_Stage_9 hp0) dX7_serveNext_69 rfl (fun _ => ?_)
      refine p_callVv (f := f7_readRow p0 z1 (h8.1 (p0 + 8) (ix z10)) (h8.1 (p0 + 9) (ix z10))) (st := []) [.int z1, .int (h8.1 (p0 + 8) (ix z10)), .int (h8.1 (p0 + 9) (ix z10))] qRokX (m7_readRow l hp0 z1 (h8.1 (p0 + 8) (ix z10)) (h8.1 (p0 + 9) (ix z10))) cal_RX7_190 (uX_Stage hp0) rfl rfl ⟨rfl, rfl⟩ ⟨Nat.le_of_ble_eq_true rfl, Nat.le_of_ble_eq_true rfl⟩ (Nat.le_of_ble_eq_true rfl) dX7_serveNext_70 rfl (fun h11 => ?_)
      refine p_aload_n rfl dX7_serveNext_73 rfl ?_
      refine p_getr qg_RX7_42 (uX_Stage hp0) rfl dX7_serveNext_74 rfl ?_
      refine p_iload_n rfl dX7_serveNext_77 rfl ?_
      refine p_iconst (v := (0 : Int32)) kiconst_0 dX7_serveNext_78 rfl ?_
      refine p_iast qokX (uX_Stage_11 hp0) dX7_serveNext_79 rfl (fun _ => ?_)
      refine p_nmH (fun h12 => ?_)
      refine p_iiN (v := (1 : Int32)) (lf := fun x13 => [some (.ref p0), some (.int z1), some (.int x13), some (.int z10)]) kiconst_1 dX7_serveNext_80 rfl rfl rfl rfl (fun _ => rfl) (fun x13 => ?_)
      refine p_goto (tgt := 36) dX7_serveNext_83 (by decide) ?_
      exact p_wk (ls' := [some (.ref p0), some (.int z1), some (.int x13), none]) ⟨rfl, rfl, rfl, trivial⟩ (ih x13 h12)
noncomputable def f7_serveNext (p0 : Nat) (h : qH) : Option (Int32 × qH) :=
  (f7_nextServed p0 h).bind fun (z1 : Int32) =>
  if z1 = (-1 : Int32) then (
    some ((-1 : Int32), h))
  else (
    qb2 (f7_bringIn p0 z1 h) fun (z3 : Int32) (h4 : qH) =>
    (f2_gather p0 z1 h4).bind fun (h5 : qH) =>
    (f2_arrangeBest h5).bind fun (h6 : qH) =>
    f7_serveNext_L36 p0 z1 (fun (x14 : Int32) (h15 : qH) =>
      some (z1, h15)) qN (0 : Int32) h6)
set_option maxRecDepth 100000 in
set_option maxHeartbeats 4000000 in
theorem m7_serveNext (l : Launch) {p0 : Nat} (hp0 : kStage p0) : qMet UX ROX l yX7_serveNext (qws yX7_serveNext cX7_serveNext 4 (some .int)) R7_serveNext [.ref p0] (f7_serveNext p0) qEw := by
  refine q_met (own := RX7) 3 (by decide) rfl (Nat.le_of_ble_eq_true rfl) (ls := [some (.ref p0), none, none, none]) rfl fun h => ?_
  unfold f7_serveNext
  show PW UX ROX l R7_serveNext cX7_serveNext 4 (some .int) RX7 (qEw h) 0 [some (.ref p0), none, none, none] [] h _
  refine p_aload_n rfl dX7_serveNext_0 rfl ?_
  refine p_callVr (f := f7_nextServed p0) (st := []) [] qRokX (m7_nextServed l hp0) cal_RX7_172 (uX_Stage hp0) rfl rfl ⟨rfl, rfl⟩ ⟨Nat.le_of_ble_eq_true rfl, Nat.le_of_ble_eq_true rfl⟩ (Nat.le_of_ble_eq_true rfl) dX7_serveNext_1 rfl (fun z1 => ?_)
  refine p_is_n (ls' := [some (.ref p0), some (.int z1), none, none]) dX7_serveNext_4 rfl rfl rfl rfl ?_
  refine p_iload_n rfl dX7_serveNext_5 rfl ?_
  refine p_iconst (v := (-1 : Int32)) kiconst_m1 dX7_serveNext_6 rfl ?_
  refine p_if (fun c2 => ?_) (fun c2 => ?_)
  · refine p_icmp_ne_f (tgt := 12) dX7_serveNext_7 (by decide) rfl c2 ?_
    refine p_iconst (v := (-1 : Int32)) kiconst_m1 dX7_serveNext_10 rfl ?_
    exact p_iret rfl rfl dX7_serveNext_11
  · refine p_icmp_ne_t (tgt := 12) dX7_serveNext_7 (by decide) c2 ?_
    refine p_aload_n rfl dX7_serveNext_12 rfl ?_
    refine p_iload_n rfl dX7_serveNext_13 rfl ?_
    refine p_cVw (f := f7_bringIn p0 z1) (st := []) [.int z1] qRokX (m7_bringIn l hp0 z1) cal_RX7_151 (uX_Stage hp0) rfl rfl ⟨rfl, rfl⟩ ⟨Nat.le_of_ble_eq_true rfl, Nat.le_of_ble_eq_true rfl⟩ (Nat.le_of_ble_eq_true rfl) dX7_serveNext_14 rfl (fun z3 h4 => ?_)
    refine p_pop rfl dX7_serveNext_17 rfl ?_
    refine p_aload_n rfl dX7_serveNext_18 rfl ?_
    refine p_getr qg_RX7_49 (uX_Stage hp0) rfl dX7_serveNext_19 rfl ?_
    refine p_aload_n rfl dX7_serveNext_22 rfl ?_
    refine p_iload_n rfl dX7_serveNext_23 rfl ?_
    refine p_callVv (f := f2_gather p0 z1) (st := []) [.ref p0, .int z1] qRokX (m2_gather l hp0 z1) cal_RX7_175 uX_43 rfl rfl ⟨rfl, rfl⟩ ⟨Nat.le_of_ble_eq_true rfl, Nat.le_of_ble_eq_true rfl⟩ (Nat.le_of_ble_eq_true rfl) dX7_serveNext_24 rfl (fun h5 => ?_)
    refine p_aload_n rfl dX7_serveNext_27 rfl ?_
    refine p_getr qg_RX7_49 (uX_Stage hp0) rfl dX7_serveNext_28 rfl ?_
    refine p_callVv (f := f2_arrangeBest) (st := []) [] qRokX (m2_arrangeBest l) cal_RX7_181 uX_43 rfl rfl ⟨rfl, rfl⟩ ⟨Nat.le_of_ble_eq_true rfl, Nat.le_of_ble_eq_true rfl⟩ (Nat.le_of_ble_eq_true rfl) dX7_serveNext_31 rfl (fun h6 => ?_)
    refine p_iconst (v := (0 : Int32)) kiconst_0 dX7_serveNext_34 rfl ?_
    refine p_is_n (ls' := [some (.ref p0), some (.int z1), some (.int (0 : Int32)), none]) dX7_serveNext_35 rfl rfl rfl rfl ?_
    refine w7_serveNext_L36 l h p0 z1 hp0 (fun x14 h15 => ?_) qN _ _
    refine p_iload_n rfl dX7_serveNext_86 rfl ?_
    exact p_iret rfl rfl dX7_serveNext_87
noncomputable def f7_idleAt_L4 (p0 : Nat) (p1 : Int32) (h : qH) (k : Int32 → Int32 → Option (Int32)) : Nat → Int32 → Int32 → Option (Int32)
  | 0, _, _ => none
  | n + 1, x1, x2 =>
    if (h.1 6 1) ≤ x2 then (
      k x1 x2)
    else (
      qg (qin x2 8) <|
      qj (fun (x4 : Int32) =>
        qlt (x1 ||| x4) fun (x7 : Int32) =>
        qlt (x2 + (1 : Int32)) fun (x8 : Int32) =>
        f7_idleAt_L4 p0 p1 h k n x7 x8) fun j5 =>
      if (h.1 (p0 + 1) (ix x2)) = (-1 : Int32) then (
        j5 (0 : Int32))
      else (
        qg (qin x2 8) <|
        if (p1 - (h.1 (p0 + 6) (ix x2))) ≤ (h.1 7 7) then (
          j5 (0 : Int32))
        else (
          j5 ((1 : Int32) <<< (x2 &&& 31)))))
set_option maxRecDepth 100000 in
set_option maxHeartbeats 4000000 in
theorem w7_idleAt_L4 (l : Launch) (p0 : Nat) (p1 : Int32) (h : qH) (hp0 : kStage p0) {k : Int32 → Int32 → Option (Int32)} (hk : ∀ (x1 : Int32) (x2 : Int32), PW UX ROX l R7_idleAt cX7_idleAt 4 (some .int) RX7 (qEr h) 62 [some (.ref p0), some (.int p1), some (.int x1), some (.int x2)] [] h (k x1 x2)) : ∀ (n : Nat) (x1 : Int32) (x2 : Int32), PW UX ROX l R7_idleAt cX7_idleAt 4 (some .int) RX7 (qEr h) 4 [some (.ref p0), some (.int p1), some (.int x1), some (.int x2)] [] h (f7_idleAt_L4 p0 p1 h k n x1 x2) := by
  intro n
  induction n with
  | zero => intro _ _; exact p_none
  | succ n ih =>
    intro x1 x2
    unfold f7_idleAt_L4
    refine p_iload_n rfl dX7_idleAt_4 rfl ?_
    refine p_aload_n rfl dX7_idleAt_5 rfl ?_
    refine p_getr qg_RX7_45 (uX_Stage hp0) rfl dX7_idleAt_6 rfl ?_
    refine p_geti qg_RX7_133 uX_6 rfl dX7_idleAt_9 rfl ?_
    refine p_if (fun c3 => ?_) (fun c3 => ?_)
    · refine p_icmp_ge_t (tgt := 62) dX7_idleAt_12 (by decide) c3 ?_
      exact hk x1 x2
    · refine p_icmp_ge_f (tgt := 62) dX7_idleAt_12 (by decide) rfl c3 ?_
      refine p_iload_n rfl dX7_idleAt_15 rfl ?_
      refine p_aload_n rfl dX7_idleAt_16 rfl ?_
      refine p_getr qg_RX7_9 (uX_Stage hp0) rfl dX7_idleAt_17 rfl ?_
      refine p_iload_n rfl dX7_idleAt_20 rfl ?_
      refine p_iald (uX_Stage_1 hp0) dX7_idleAt_21 rfl (fun _ => ?_)
      refine p_iconst (v := (-1 : Int32)) kiconst_m1 dX7_idleAt_22 rfl ?_
      refine p_jn (fun j5 => ∀ (x4 : Int32), PW UX ROX l R7_idleAt cX7_idleAt 4 (some .int) RX7 (qEr h) 54 [some (.ref p0), some (.int p1), some (.int x1), some (.int x2)] [.int x4, .int x1] h (j5 x4)) (fun x4 => ?_) (fun j5 J6 => ?_)
      · refine p_ior dX7_idleAt_54 rfl ?_
        refine p_isN_n (lf := fun x7 => [some (.ref p0), some (.int p1), some (.int x7), some (.int x2)]) dX7_idleAt_55 rfl rfl rfl (fun _ => rfl) (fun x7 => ?_)
        refine p_iiN (v := (1 : Int32)) (lf := fun x8 => [some (.ref p0), some (.int p1), some (.int x7), some (.int x8)]) kiconst_1 dX7_idleAt_56 rfl rfl rfl rfl (fun _ => rfl) (fun x8 => ?_)
        refine p_goto (tgt := 4) dX7_idleAt_59 (by decide) ?_
        exact ih x7 x8
      · refine p_if (fun c9 => ?_) (fun c9 => ?_)
        · refine p_icmp_eq_t (tgt := 53) dX7_idleAt_23 (by decide) c9 ?_
          refine p_iconst (v := (0 : Int32)) kiconst_0 dX7_idleAt_53 rfl ?_
          exact J6 (0 : Int32)
        · refine p_icmp_eq_f (tgt := 53) dX7_idleAt_23 (by decide) rfl c9 ?_
          refine p_iload_n rfl dX7_idleAt_26 rfl ?_
          refine p_aload_n rfl dX7_idleAt_27 rfl ?_
          refine p_getr qg_RX7_27 (uX_Stage hp0) rfl dX7_idleAt_28 rfl ?_
          refine p_iload_n rfl dX7_idleAt_31 rfl ?_
          refine p_iald (uX_Stage_6 hp0) dX7_idleAt_32 rfl (fun _ => ?_)
          refine p_isub dX7_idleAt_33 rfl ?_
          refine p_aload_n rfl dX7_idleAt_34 rfl ?_
          refine p_getr qg_RX7_45 (uX_Stage hp0) rfl dX7_idleAt_35 rfl ?_
          refine p_getr qg_RX7_206 uX_6 rfl dX7_idleAt_38 rfl ?_
          refine p_bipush (v := (7 : Int32)) kbipush_7 dX7_idleAt_41 rfl ?_
          refine p_ialdK uX_7 kix_7 kqin_7_8 dX7_idleAt_43 rfl ?_
          refine p_if (fun c10 => ?_) (fun c10 => ?_)
          · refine p_icmp_le_t (tgt := 53) dX7_idleAt_44 (by decide) c10 ?_
            refine p_iconst (v := (0 : Int32)) kiconst_0 dX7_idleAt_53 rfl ?_
            exact J6 (0 : Int32)
          · refine p_icmp_le_f (tgt := 53) dX7_idleAt_44 (by decide) rfl c10 ?_
            refine p_iconst (v := (1 : Int32)) kiconst_1 dX7_idleAt_47 rfl ?_
            refine p_iload_n rfl dX7_idleAt_48 rfl ?_
            refine p_ishl dX7_idleAt_49 rfl ?_
            refine p_goto (tgt := 54) dX7_idleAt_50 (by decide) ?_
            exact J6 ((1 : Int32) <<< (x2 &&& 31))
noncomputable def f7_idleAt (p0 : Nat) (p1 : Int32) (h : qH) : Option (Int32) :=
  f7_idleAt_L4 p0 p1 h (fun (x11 : Int32) (x12 : Int32) =>
    some x11) qN (0 : Int32) (0 : Int32)
set_option maxRecDepth 100000 in
set_option maxHeartbeats 4000000 in
theorem m7_idleAt (l : Launch) {p0 : Nat} (hp0 : kStage p0) (p1 : Int32) : qMet UX ROX l yX7_idleAt (qws yX7_idleAt cX7_idleAt 4 (some .int)) R7_idleAt [.ref p0, .int p1] (f7_idleAt p0 p1) qEr := by
  refine q_met (own := RX7) 2 (by decide) rfl (Nat.le_of_ble_eq_true rfl) (ls := [some (.ref p0), some (.int p1), none, none]) rfl fun h => ?_
  unfold f7_idleAt
  refine p_iconst (v := (0 : Int32)) kiconst_0 dX7_idleAt_0 rfl ?_
  refine p_is_n (ls' := [some (.ref p0), some (.int p1), some (.int (0 : Int32)), none]) dX7_idleAt_1 rfl rfl rfl rfl ?_
  refine p_iconst (v := (0 : Int32)) kiconst_0 dX7_idleAt_2 rfl ?_
  refine p_is_n (ls' := [some (.ref p0), some (.int p1), some (.int (0 : Int32)), some (.int (0 : Int32))]) dX7_idleAt_3 rfl rfl rfl rfl ?_
  refine w7_idleAt_L4 l p0 p1 h hp0 (fun x11 x12 => ?_) qN _ _
  refine p_iload_n rfl dX7_idleAt_62 rfl ?_
  exact p_iret rfl rfl dX7_idleAt_63
noncomputable def f6_bitCount_0f7a4 (p1 : Int32) (h : qH) : Option (Int32) :=
  qlt (p1 - (((p1.toUInt32 >>> ((1 : Int32).toUInt32 &&& Int32.toUInt32 31)).toInt32) &&& (1431655765 : Int32))) fun (x1 : Int32) =>
  qlt ((x1 &&& (858993459 : Int32)) + (((x1.toUInt32 >>> ((2 : Int32).toUInt32 &&& Int32.toUInt32 31)).toInt32) &&& (858993459 : Int32))) fun (x2 : Int32) =>
  qlt ((x2 + ((x2.toUInt32 >>> ((4 : Int32).toUInt32 &&& Int32.toUInt32 31)).toInt32)) &&& (252645135 : Int32)) fun (x3 : Int32) =>
  qlt (x3 + ((x3.toUInt32 >>> ((8 : Int32).toUInt32 &&& Int32.toUInt32 31)).toInt32)) fun (x4 : Int32) =>
  qlt (x4 + ((x4.toUInt32 >>> ((16 : Int32).toUInt32 &&& Int32.toUInt32 31)).toInt32)) fun (x5 : Int32) =>
  some (x5 &&& (63 : Int32))
set_option maxRecDepth 100000 in
set_option maxHeartbeats 4000000 in
theorem m6_bitCount_0f7a4 (l : Launch) (p1 : Int32) : qMet UX ROX l yJ6_bitCount_0f7a4 (qws yJ6_bitCount_0f7a4 cJ6_bitCount_0f7a4 1 (some .int)) R6_bitCount_0f7a4 [.int p1] (f6_bitCount_0f7a4 p1) qEr := by
  refine q_met (own := RJ6) 0 (by decide) rfl (Nat.le_of_ble_eq_true rfl) (ls := [some (.int p1)]) rfl fun h => ?_
  unfold f6_bitCount_0f7a4
  refine p_iload_n rfl dJ6_bitCount_0f7a4_0 rfl ?_
  refine p_iload_n rfl dJ6_bitCount_0f7a4_1 rfl ?_
  refine p_iconst (v := (1 : Int32)) kiconst_1 dJ6_bitCount_0f7a4_2 rfl ?_
  refine p_iushr dJ6_bitCount_0f7a4_3 rfl ?_
  refine p_ldcw (v := (1431655765 : Int32)) kcRJ6_265 dJ6_bitCount_0f7a4_4 rfl ?_
  refine p_iand dJ6_bitCount_0f7a4_7 rfl ?_
  refine p_isub dJ6_bitCount_0f7a4_8 rfl ?_
  refine p_isN_n (lf := fun x1 => [some (.int x1)]) dJ6_bitCount_0f7a4_9 rfl rfl rfl (fun _ => rfl) (fun x1 => ?_)
  refine p_iload_n rfl dJ6_bitCount_0f7a4_10 rfl ?_
  refine p_ldcw (v := (858993459 : Int32)) kcRJ6_266 dJ6_bitCount_0f7a4_11 rfl ?_
  refine p_iand dJ6_bitCount_0f7a4_14 rfl ?_
  refine p_iload_n rfl dJ6_bitCount_0f7a4_15 rfl ?_
  refine p_iconst (v := (2 : Int32)) kiconst_2 dJ6_bitCount_0f7a4_16 rfl ?_
  refine p_iushr dJ6_bitCount_0f7a4_17 rfl ?_
  refine p_ldcw (v := (858993459 : Int32)) kcRJ6_266 dJ6_bitCount_0f7a4_18 rfl ?_
  refine p_iand dJ6_bitCount_0f7a4_21 rfl ?_
  refine p_iadd dJ6_bitCount_0f7a4_22 rfl ?_
  refine p_isN_n (lf := fun x2 => [some (.int x2)]) dJ6_bitCount_0f7a4_23 rfl rfl rfl (fun _ => rfl) (fun x2 => ?_)
  refine p_iload_n rfl dJ6_bitCount_0f7a4_24 rfl ?_
  refine p_iload_n rfl dJ6_bitCount_0f7a4_25 rfl ?_
  refine p_iconst (v := (4 : Int32)) kiconst_4 dJ6_bitCount_0f7a4_26 rfl ?_
  refine p_iushr dJ6_bitCount_0f7a4_27 rfl ?_
  refine p_iadd dJ6_bitCount_0f7a4_28 rfl ?_
  refine p_ldcw (v := (252645135 : Int32)) kcRJ6_267 dJ6_bitCount_0f7a4_29 rfl ?_
  refine p_iand dJ6_bitCount_0f7a4_32 rfl ?_
  refine p_isN_n (lf := fun x3 => [some (.int x3)]) dJ6_bitCount_0f7a4_33 rfl rfl rfl (fun _ => rfl) (fun x3 => ?_)
  refine p_iload_n rfl dJ6_bitCount_0f7a4_34 rfl ?_
  refine p_iload_n rfl dJ6_bitCount_0f7a4_35 rfl ?_
  refine p_bipush (v := (8 : Int32)) kbipush_8 dJ6_bitCount_0f7a4_36 rfl ?_
  refine p_iushr dJ6_bitCount_0f7a4_38 rfl ?_
  refine p_iadd dJ6_bitCount_0f7a4_39 rfl ?_
  refine p_isN_n (lf := fun x4 => [some (.int x4)]) dJ6_bitCount_0f7a4_40 rfl rfl rfl (fun _ => rfl) (fun x4 => ?_)
  refine p_iload_n rfl dJ6_bitCount_0f7a4_41 rfl ?_
  refine p_iload_n rfl dJ6_bitCount_0f7a4_42 rfl ?_
  refine p_bipush (v := (16 : Int32)) kbipush_16 dJ6_bitCount_0f7a4_43 rfl ?_
  refine p_iushr dJ6_bitCount_0f7a4_45 rfl ?_
  refine p_iadd dJ6_bitCount_0f7a4_46 rfl ?_
  refine p_isN_n (lf := fun x5 => [some (.int x5)]) dJ6_bitCount_0f7a4_47 rfl rfl rfl (fun _ => rfl) (fun x5 => ?_)
  refine p_iload_n rfl dJ6_bitCount_0f7a4_48 rfl ?_
  refine p_bipush (v := (63 : Int32)) kbipush_63 dJ6_bitCount_0f7a4_49 rfl ?_
  refine p_iand dJ6_bitCount_0f7a4_51 rfl ?_
  exact p_iret rfl rfl dJ6_bitCount_0f7a4_52
noncomputable def f7_waitFor_L21 (p0 : Nat) (z2 : Int32) (k : Int32 → qH → Option (Int32 × qH)) : Nat → Int32 → qH → Option (Int32 × qH)
  | 0, _, _ => none
  | n + 1, x3, h4 =>
    if (h4.1 6 1) ≤ x3 then (
      k x3 h4)
    else (
      qj (fun (h6 : qH) =>
        qlt (x3 + (1 : Int32)) fun (x9 : Int32) =>
        f7_waitFor_L21 p0 z2 k n x9 h6) fun j7 =>
      if ((z2 >>> (x3 &&& 31)) &&& (1 : Int32)) = (1 : Int32) then (
        qb2 (f7_putAway p0 x3 h4) fun (z11 : Int32) (h12 : qH) =>
        j7 h12)
      else (
        j7 h4))
set_option maxRecDepth 100000 in
set_option maxHeartbeats 4000000 in
theorem w7_waitFor_L21 (l : Launch) (h0 : qH) (p0 : Nat) (z2 : Int32) (hp0 : kStage p0) {k : Int32 → qH → Option (Int32 × qH)} (hk : ∀ (x3 : Int32) (h4 : qH), PW UX ROX l R7_waitFor cX7_waitFor 4 (some .int) RX7 (qEw h0) 53 [some (.ref p0), none, some (.int z2), some (.int x3)] [] h4 (k x3 h4)) : ∀ (n : Nat) (x3 : Int32) (h4 : qH), PW UX ROX l R7_waitFor cX7_waitFor 4 (some .int) RX7 (qEw h0) 21 [some (.ref p0), none, some (.int z2), some (.int x3)] [] h4 (f7_waitFor_L21 p0 z2 k n x3 h4) := by
  intro n
  induction n with
  | zero => intro _ _; exact p_none
  | succ n ih =>
    intro x3 h4
    unfold f7_waitFor_L21
    refine p_iload_n rfl dX7_waitFor_21 rfl ?_
    refine p_aload_n rfl dX7_waitFor_22 rfl ?_
    refine p_getr qg_RX7_45 (uX_Stage hp0) rfl dX7_waitFor_23 rfl ?_
    refine p_geti qg_RX7_133 uX_6 rfl dX7_waitFor_26 rfl ?_
    refine p_if (fun c5 => ?_) (fun c5 => ?_)
    · refine p_icmp_ge_t (tgt := 53) dX7_waitFor_29 (by decide) c5 ?_
      exact hk x3 h4
    · refine p_icmp_ge_f (tgt := 53) dX7_waitFor_29 (by decide) rfl c5 ?_
      refine p_iload_n rfl dX7_waitFor_32 rfl ?_
      refine p_iload_n rfl dX7_waitFor_33 rfl ?_
      refine p_ishr dX7_waitFor_34 rfl ?_
      refine p_iconst (v := (1 : Int32)) kiconst_1 dX7_waitFor_35 rfl ?_
      refine p_iand dX7_waitFor_36 rfl ?_
      refine p_iconst (v := (1 : Int32)) kiconst_1 dX7_waitFor_37 rfl ?_
      refine p_jn (fun j7 => ∀ (h6 : qH), PW UX ROX l R7_waitFor cX7_waitFor 4 (some .int) RX7 (qEw h0) 47 [some (.ref p0), none, some (.int z2), some (.int x3)] [] h6 (j7 h6)) (fun h6 => ?_) (fun j7 J8 => ?_)
      · refine p_iiN (v := (1 : Int32)) (lf := fun x9 => [some (.ref p0), none, some (.int z2), some (.int x9)]) kiconst_1 dX7_waitFor_47 rfl rfl rfl rfl (fun _ => rfl) (fun x9 => ?_)
        refine p_goto (tgt := 21) dX7_waitFor_50 (by decide) ?_
        exact ih x9 h6
      · refine p_if (fun c10 => ?_) (fun c10 => ?_)
        · refine p_icmp_ne_f (tgt := 47) dX7_waitFor_38 (by decide) rfl c10 ?_
          refine p_aload_n rfl dX7_waitFor_41 rfl ?_
          refine p_iload_n rfl dX7_waitFor_42 rfl ?_
          refine p_cVw (f := f7_putAway p0 x3) (st := []) [.int x3] qRokX (m7_putAway l hp0 x3) cal_RX7_154 (uX_Stage hp0) rfl rfl ⟨rfl, rfl⟩ ⟨Nat.le_of_ble_eq_true rfl, Nat.le_of_ble_eq_true rfl⟩ (Nat.le_of_ble_eq_true rfl) dX7_waitFor_43 rfl (fun z11 h12 => ?_)
          refine p_pop rfl dX7_waitFor_46 rfl ?_
          exact J8 h12
        · refine p_icmp_ne_t (tgt := 47) dX7_waitFor_38 (by decide) c10 ?_
          exact J8 h4
noncomputable def f7_waitFor (p0 : Nat) (p1 : Int32) (h : qH) : Option (Int32 × qH) :=
  qlt (qw h p0 2 ((h.1 p0 2) + p1)) fun (h1 : qH) =>
  (f7_idleAt p0 (h1.1 p0 2) h1).bind fun (z2 : Int32) =>
  f7_waitFor_L21 p0 z2 (fun (x13 : Int32) (h14 : qH) =>
    (f6_bitCount_0f7a4 z2 h14).bind fun (z15 : Int32) =>
    some (z15, h14)) qN (0 : Int32) h1
set_option maxRecDepth 100000 in
set_option maxHeartbeats 4000000 in
theorem m7_waitFor (l : Launch) {p0 : Nat} (hp0 : kStage p0) (p1 : Int32) : qMet UX ROX l yX7_waitFor (qws yX7_waitFor cX7_waitFor 4 (some .int)) R7_waitFor [.ref p0, .int p1] (f7_waitFor p0 p1) qEw := by
  refine q_met (own := RX7) 2 (by decide) rfl (Nat.le_of_ble_eq_true rfl) (ls := [some (.ref p0), some (.int p1), none, none]) rfl fun h => ?_
  unfold f7_waitFor
  show PW UX ROX l R7_waitFor cX7_waitFor 4 (some .int) RX7 (qEw h) 0 [some (.ref p0), some (.int p1), none, none] [] h _
  refine p_aload_n rfl dX7_waitFor_0 rfl ?_
  refine p_dup rfl dX7_waitFor_1 rfl ?_
  refine p_geti qg_RX7_53 (uX_Stage hp0) rfl dX7_waitFor_2 rfl ?_
  refine p_iload_n rfl dX7_waitFor_5 rfl ?_
  refine p_iadd dX7_waitFor_6 rfl ?_
  refine p_puti qokX qp_RX7_53 (uX_Stage hp0) rfl dX7_waitFor_7 rfl ?_
  refine p_nmH (fun h1 => ?_)
  refine p_aload_n rfl dX7_waitFor_10 rfl ?_
  refine p_aload_n rfl dX7_waitFor_11 rfl ?_
  refine p_geti qg_RX7_53 (uX_Stage hp0) rfl dX7_waitFor_12 rfl ?_
  refine p_callVr (f := f7_idleAt p0 (h1.1 p0 2)) (st := []) [.int (h1.1 p0 2)] qRokX (m7_idleAt l hp0 (h1.1 p0 2)) cal_RX7_229 (uX_Stage hp0) rfl rfl ⟨rfl, rfl⟩ ⟨Nat.le_of_ble_eq_true rfl, Nat.le_of_ble_eq_true rfl⟩ (Nat.le_of_ble_eq_true rfl) dX7_waitFor_15 rfl (fun z2 => ?_)
  refine p_is_n (ls' := [some (.ref p0), some (.int p1), some (.int z2), none]) dX7_waitFor_18 rfl rfl rfl rfl ?_
  refine p_iconst (v := (0 : Int32)) kiconst_0 dX7_waitFor_19 rfl ?_
  refine p_is_n (ls' := [some (.ref p0), some (.int p1), some (.int z2), some (.int (0 : Int32))]) dX7_waitFor_20 rfl rfl rfl rfl ?_
  refine p_wk (ls' := [some (.ref p0), none, some (.int z2), some (.int (0 : Int32))]) ⟨rfl, rfl, rfl, trivial⟩ ?_
  refine w7_waitFor_L21 l h p0 z2 hp0 (fun x13 h14 => ?_) qN _ _
  refine p_iload_n rfl dX7_waitFor_53 rfl ?_
  refine p_callSr (f := f6_bitCount_0f7a4 z2) (st := []) [.int z2] qRokX (m6_bitCount_0f7a4 l z2) cal_RX7_232 rfl ⟨rfl, rfl⟩ ⟨Nat.le_of_ble_eq_true rfl, Nat.le_of_ble_eq_true rfl⟩ (Nat.le_of_ble_eq_true rfl) dX7_waitFor_54 rfl (fun z15 => ?_)
  exact p_iret rfl rfl dX7_waitFor_57
noncomputable def f7_writeNew (p0 : Nat) (p1 : Int32) (p2 : Int32) (h : qH) : Option (Int32 × qH) :=
  qb2 (f7_bringIn p0 p1 h) fun (z1 : Int32) (h2 : qH) =>
  qg (qin p1 8) <|
  (f7_writeRow p0 p1 (h2.1 (p0 + 3) (ix p1)) p2 h2).bind fun (h3 : qH) =>
  (f7_addFile p0 p1 p2 h3).bind fun (h4 : qH) =>
  some (((h4.1 p0 5) - (1 : Int32)), h4)
set_option maxRecDepth 100000 in
set_option maxHeartbeats 4000000 in
theorem m7_writeNew (l : Launch) {p0 : Nat} (hp0 : kStage p0) (p1 : Int32) (p2 : Int32) : qMet UX ROX l yX7_writeNew (qws yX7_writeNew cX7_writeNew 3 (some .int)) R7_writeNew [.ref p0, .int p1, .int p2] (f7_writeNew p0 p1 p2) qEw := by
  refine q_met (own := RX7) 0 (by decide) rfl (Nat.le_of_ble_eq_true rfl) (ls := [some (.ref p0), some (.int p1), some (.int p2)]) rfl fun h => ?_
  unfold f7_writeNew
  show PW UX ROX l R7_writeNew cX7_writeNew 3 (some .int) RX7 (qEw h) 0 [some (.ref p0), some (.int p1), some (.int p2)] [] h _
  refine p_aload_n rfl dX7_writeNew_0 rfl ?_
  refine p_iload_n rfl dX7_writeNew_1 rfl ?_
  refine p_cVw (f := f7_bringIn p0 p1) (st := []) [.int p1] qRokX (m7_bringIn l hp0 p1) cal_RX7_151 (uX_Stage hp0) rfl rfl ⟨rfl, rfl⟩ ⟨Nat.le_of_ble_eq_true rfl, Nat.le_of_ble_eq_true rfl⟩ (Nat.le_of_ble_eq_true rfl) dX7_writeNew_2 rfl (fun z1 h2 => ?_)
  refine p_pop rfl dX7_writeNew_5 rfl ?_
  refine p_aload_n rfl dX7_writeNew_6 rfl ?_
  refine p_iload_n rfl dX7_writeNew_7 rfl ?_
  refine p_aload_n rfl dX7_writeNew_8 rfl ?_
  refine p_getr qg_RX7_18 (uX_Stage hp0) rfl dX7_writeNew_9 rfl ?_
  refine p_iload_n rfl dX7_writeNew_12 rfl ?_
  refine p_iald (uX_Stage_3 hp0) dX7_writeNew_13 rfl (fun _ => ?_)
  refine p_iload_n rfl dX7_writeNew_14 rfl ?_
  refine p_callVv (f := f7_writeRow p0 p1 (h2.1 (p0 + 3) (ix p1)) p2) (st := []) [.int p1, .int (h2.1 (p0 + 3) (ix p1)), .int p2] qRokX (m7_writeRow l hp0 p1 (h2.1 (p0 + 3) (ix p1)) p2) cal_RX7_197 (uX_Stage hp0) rfl rfl ⟨rfl, rfl⟩ ⟨Nat.le_of_ble_eq_true rfl, Nat.le_of_ble_eq_true rfl⟩ (Nat.le_of_ble_eq_true rfl) dX7_writeNew_15 rfl (fun h3 => ?_)
  refine p_aload_n rfl dX7_writeNew_18 rfl ?_
  refine p_iload_n rfl dX7_writeNew_19 rfl ?_
  refine p_iload_n rfl dX7_writeNew_20 rfl ?_
  refine p_callVv (f := f7_addFile p0 p1 p2) (st := []) [.int p1, .int p2] qRokX (m7_addFile l hp0 p1 p2) cal_RX7_86 (uX_Stage hp0) rfl rfl ⟨rfl, rfl⟩ ⟨Nat.le_of_ble_eq_true rfl, Nat.le_of_ble_eq_true rfl⟩ (Nat.le_of_ble_eq_true rfl) dX7_writeNew_21 rfl (fun h4 => ?_)
  refine p_aload_n rfl dX7_writeNew_24 rfl ?_
  refine p_geti qg_RX7_63 (uX_Stage hp0) rfl dX7_writeNew_25 rfl ?_
  refine p_iconst (v := (1 : Int32)) kiconst_1 dX7_writeNew_28 rfl ?_
  refine p_isub dX7_writeNew_29 rfl ?_
  exact p_iret rfl rfl dX7_writeNew_30
noncomputable def f7_carryOut (p0 : Nat) (p1 : Int32) (p2 : Int32) (p3 : Int32) (h : qH) : Option (Int32 × qH) :=
  if p1 = (0 : Int32) then (
    qb2 (f7_askFor p0 p2 h) fun (z2 : Int32) (h3 : qH) =>
    some (z2, h3))
  else (
    if p1 = (1 : Int32) then (
    qb2 (f7_serveNext p0 h) fun (z5 : Int32) (h6 : qH) =>
    some (z5, h6))
  else (
    if p1 = (2 : Int32) then (
    qb2 (f7_writeNew p0 p2 p3 h) fun (z8 : Int32) (h9 : qH) =>
    some (z8, h9))
  else (
    if p1 = (3 : Int32) then (
    qb2 (f7_dropFile p0 p2 h) fun (z11 : Int32) (h12 : qH) =>
    some (z11, h12))
  else (
    if p1 = (4 : Int32) then (
    qb2 (f7_bringIn p0 p2 h) fun (z14 : Int32) (h15 : qH) =>
    some (z14, h15))
  else (
    if p1 = (5 : Int32) then (
    qb2 (f7_putAway p0 p2 h) fun (z17 : Int32) (h18 : qH) =>
    some (z17, h18))
  else (
    if p1 = (6 : Int32) then (
    qb2 (f7_copyTo p0 p2 p3 h) fun (z20 : Int32) (h21 : qH) =>
    some (z20, h21))
  else (
    if p1 = (7 : Int32) then (
    qb2 (f7_loseCatalog p0 h) fun (z23 : Int32) (h24 : qH) =>
    some (z23, h24))
  else (
    if p1 = (8 : Int32) then (
    qb2 (f7_readThrough p0 p2 h) fun (z26 : Int32) (h27 : qH) =>
    some (z26, h27))
  else (
    if p1 = (9 : Int32) then (
    qb2 (f7_waitFor p0 p2 h) fun (z29 : Int32) (h30 : qH) =>
    some (z29, h30))
  else (
    qb2 (f7_rescueWeak p0 h) fun (z31 : Int32) (h32 : qH) =>
    some (z31, h32)))))))))))
set_option maxRecDepth 100000 in
set_option maxHeartbeats 4000000 in
theorem m7_carryOut (l : Launch) {p0 : Nat} (hp0 : kStage p0) (p1 : Int32) (p2 : Int32) (p3 : Int32) : qMet UX ROX l yX7_carryOut (qws yX7_carryOut cX7_carryOut 4 (some .int)) R7_carryOut [.ref p0, .int p1, .int p2, .int p3] (f7_carryOut p0 p1 p2 p3) qEw := by
  refine q_met (own := RX7) 0 (by decide) rfl (Nat.le_of_ble_eq_true rfl) (ls := [some (.ref p0), some (.int p1), some (.int p2), some (.int p3)]) rfl fun h => ?_
  unfold f7_carryOut
  show PW UX ROX l R7_carryOut cX7_carryOut 4 (some .int) RX7 (qEw h) 0 [some (.ref p0), some (.int p1), some (.int p2), some (.int p3)] [] h _
  refine p_iload_n rfl dX7_carryOut_0 rfl ?_
  refine p_if (fun c1 => ?_) (fun c1 => ?_)
  · refine p_swI (v := (0 : Int32)) (tgt := 56) dX7_carryOut_1 c1 (by decide) (by decide) rfl (by decide) ?_
    refine p_aload_n rfl dX7_carryOut_56 rfl ?_
    refine p_iload_n rfl dX7_carryOut_57 rfl ?_
    refine p_cVw (f := f7_askFor p0 p2) (st := []) [.int p2] qRokX (m7_askFor l hp0 p2) cal_RX7_139 (uX_Stage hp0) rfl rfl ⟨rfl, rfl⟩ ⟨Nat.le_of_ble_eq_true rfl, Nat.le_of_ble_eq_true rfl⟩ (Nat.le_of_ble_eq_true rfl) dX7_carryOut_58 rfl (fun z2 h3 => ?_)
    exact p_iret rfl rfl dX7_carryOut_61
  · refine p_if (fun c4 => ?_) (fun c4 => ?_)
    · refine p_swI (v := (1 : Int32)) (tgt := 62) dX7_carryOut_1 c4 (by decide) (by decide) rfl (by decide) ?_
      refine p_aload_n rfl dX7_carryOut_62 rfl ?_
      refine p_cVw (f := f7_serveNext p0) (st := []) [] qRokX (m7_serveNext l hp0) cal_RX7_142 (uX_Stage hp0) rfl rfl ⟨rfl, rfl⟩ ⟨Nat.le_of_ble_eq_true rfl, Nat.le_of_ble_eq_true rfl⟩ (Nat.le_of_ble_eq_true rfl) dX7_carryOut_63 rfl (fun z5 h6 => ?_)
      exact p_iret rfl rfl dX7_carryOut_66
    · refine p_if (fun c7 => ?_) (fun c7 => ?_)
      · refine p_swI (v := (2 : Int32)) (tgt := 67) dX7_carryOut_1 c7 (by decide) (by decide) rfl (by decide) ?_
        refine p_aload_n rfl dX7_carryOut_67 rfl ?_
        refine p_iload_n rfl dX7_carryOut_68 rfl ?_
        refine p_iload_n rfl dX7_carryOut_69 rfl ?_
        refine p_cVw (f := f7_writeNew p0 p2 p3) (st := []) [.int p2, .int p3] qRokX (m7_writeNew l hp0 p2 p3) cal_RX7_145 (uX_Stage hp0) rfl rfl ⟨rfl, rfl⟩ ⟨Nat.le_of_ble_eq_true rfl, Nat.le_of_ble_eq_true rfl⟩ (Nat.le_of_ble_eq_true rfl) dX7_carryOut_70 rfl (fun z8 h9 => ?_)
        exact p_iret rfl rfl dX7_carryOut_73
      · refine p_if (fun c10 => ?_) (fun c10 => ?_)
        · refine p_swI (v := (3 : Int32)) (tgt := 74) dX7_carryOut_1 c10 (by decide) (by decide) rfl (by decide) ?_
          refine p_aload_n rfl dX7_carryOut_74 rfl ?_
          refine p_iload_n rfl dX7_carryOut_75 rfl ?_
          refine p_cVw (f := f7_dropFile p0 p2) (st := []) [.int p2] qRokX (m7_dropFile l hp0 p2) cal_RX7_148 (uX_Stage hp0) rfl rfl ⟨rfl, rfl⟩ ⟨Nat.le_of_ble_eq_true rfl, Nat.le_of_ble_eq_true rfl⟩ (Nat.le_of_ble_eq_true rfl) dX7_carryOut_76 rfl (fun z11 h12 => ?_)
          exact p_iret rfl rfl dX7_carryOut_79
        · refine p_if (fun c13 => ?_) (fun c13 => ?_)
          · refine p_swI (v := (4 : Int32)) (tgt := 80) dX7_carryOut_1 c13 (by decide) (by decide) rfl (by decide) ?_
            refine p_aload_n rfl dX7_carryOut_80 rfl ?_
            refine p_iload_n rfl dX7_carryOut_81 rfl ?_
            refine p_cVw (f := f7_bringIn p0 p2) (st := []) [.int p2] qRokX (m7_bringIn l hp0 p2) cal_RX7_151 (uX_Stage hp0) rfl rfl ⟨rfl, rfl⟩ ⟨Nat.le_of_ble_eq_true rfl, Nat.le_of_ble_eq_true rfl⟩ (Nat.le_of_ble_eq_true rfl) dX7_carryOut_82 rfl (fun z14 h15 => ?_)
            exact p_iret rfl rfl dX7_carryOut_85
          · refine p_if (fun c16 => ?_) (fun c16 => ?_)
            · refine p_swI (v := (5 : Int32)) (tgt := 86) dX7_carryOut_1 c16 (by decide) (by decide) rfl (by decide) ?_
              refine p_aload_n rfl dX7_carryOut_86 rfl ?_
              refine p_iload_n rfl dX7_carryOut_87 rfl ?_
              refine p_cVw (f := f7_putAway p0 p2) (st := []) [.int p2] qRokX (m7_putAway l hp0 p2) cal_RX7_154 (uX_Stage hp0) rfl rfl ⟨rfl, rfl⟩ ⟨Nat.le_of_ble_eq_true rfl, Nat.le_of_ble_eq_true rfl⟩ (Nat.le_of_ble_eq_true rfl) dX7_carryOut_88 rfl (fun z17 h18 => ?_)
              exact p_iret rfl rfl dX7_carryOut_91
            · refine p_if (fun c19 => ?_) (fun c19 => ?_)
              · refine p_swI (v := (6 : Int32)) (tgt := 92) dX7_carryOut_1 c19 (by decide) (by decide) rfl (by decide) ?_
                refine p_aload_n rfl dX7_carryOut_92 rfl ?_
                refine p_iload_n rfl dX7_carryOut_93 rfl ?_
                refine p_iload_n rfl dX7_carryOut_94 rfl ?_
                refine p_cVw (f := f7_copyTo p0 p2 p3) (st := []) [.int p2, .int p3] qRokX (m7_copyTo l hp0 p2 p3) cal_RX7_157 (uX_Stage hp0) rfl rfl ⟨rfl, rfl⟩ ⟨Nat.le_of_ble_eq_true rfl, Nat.le_of_ble_eq_true rfl⟩ (Nat.le_of_ble_eq_true rfl) dX7_carryOut_95 rfl (fun z20 h21 => ?_)
                exact p_iret rfl rfl dX7_carryOut_98
              · refine p_if (fun c22 => ?_) (fun c22 => ?_)
                · refine p_swI (v := (7 : Int32)) (tgt := 99) dX7_carryOut_1 c22 (by decide) (by decide) rfl (by decide) ?_
                  refine p_aload_n rfl dX7_carryOut_99 rfl ?_
                  refine p_cVw (f := f7_loseCatalog p0) (st := []) [] qRokX (m7_loseCatalog l hp0) cal_RX7_160 (uX_Stage hp0) rfl rfl ⟨rfl, rfl⟩ ⟨Nat.le_of_ble_eq_true rfl, Nat.le_of_ble_eq_true rfl⟩ (Nat.le_of_ble_eq_true rfl) dX7_carryOut_100 rfl (fun z23 h24 => ?_)
                  exact p_iret rfl rfl dX7_carryOut_103
                · refine p_if (fun c25 => ?_) (fun c25 => ?_)
                  · refine p_swI (v := (8 : Int32)) (tgt := 104) dX7_carryOut_1 c25 (by decide) (by decide) rfl (by decide) ?_
                    refine p_aload_n rfl dX7_carryOut_104 rfl ?_
                    refine p_iload_n rfl dX7_carryOut_105 rfl ?_
                    refine p_cVw (f := f7_readThrough p0 p2) (st := []) [.int p2] qRokX (m7_readThrough l hp0 p2) cal_RX7_163 (uX_Stage hp0) rfl rfl ⟨rfl, rfl⟩ ⟨Nat.le_of_ble_eq_true rfl, Nat.le_of_ble_eq_true rfl⟩ (Nat.le_of_ble_eq_true rfl) dX7_carryOut_106 rfl (fun z26 h27 => ?_)
                    exact p_iret rfl rfl dX7_carryOut_109
                  · refine p_if (fun c28 => ?_) (fun c28 => ?_)
                    · refine p_swI (v := (9 : Int32)) (tgt := 110) dX7_carryOut_1 c28 (by decide) (by decide) rfl (by decide) ?_
                      refine p_aload_n rfl dX7_carryOut_110 rfl ?_
                      refine p_iload_n rfl dX7_carryOut_111 rfl ?_
                      refine p_cVw (f := f7_waitFor p0 p2) (st := []) [.int p2] qRokX (m7_waitFor l hp0 p2) cal_RX7_166 (uX_Stage hp0) rfl rfl ⟨rfl, rfl⟩ ⟨Nat.le_of_ble_eq_true rfl, Nat.le_of_ble_eq_true rfl⟩ (Nat.le_of_ble_eq_true rfl) dX7_carryOut_112 rfl (fun z29 h30 => ?_)
                      exact p_iret rfl rfl dX7_carryOut_115
                    · refine p_swO (tgt := 116) dX7_carryOut_1 (by
                          have c1' := lv_neT c1 (a := 0) (by decide)
                          have c4' := lv_neT c4 (a := 1) (by decide)
                          have c7' := lv_neT c7 (a := 2) (by decide)
                          have c10' := lv_neT c10 (a := 3) (by decide)
                          have c13' := lv_neT c13 (a := 4) (by decide)
                          have c16' := lv_neT c16 (a := 5) (by decide)
                          have c19' := lv_neT c19 (a := 6) (by decide)
                          have c22' := lv_neT c22 (a := 7) (by decide)
                          have c25' := lv_neT c25 (a := 8) (by decide)
                          have c28' := lv_neT c28 (a := 9) (by decide)
                          omega) (by decide) ?_
                      refine p_aload_n rfl dX7_carryOut_116 rfl ?_
                      refine p_cVw (f := f7_rescueWeak p0) (st := []) [] qRokX (m7_rescueWeak l hp0) cal_RX7_169 (uX_Stage hp0) rfl rfl ⟨rfl, rfl⟩ ⟨Nat.le_of_ble_eq_true rfl, Nat.le_of_ble_eq_true rfl⟩ (Nat.le_of_ble_eq_true rfl) dX7_carryOut_117 rfl (fun z31 h32 => ?_)
                      exact p_iret rfl rfl dX7_carryOut_120
