noncomputable def f8_beginTrial (h : qH) : Option (qH) :=
  (f7_store 51 75 172 (0 : Int32) h).bind fun (h1 : qH) =>
  (f7_load 63 75 172 (0 : Int32) h1).bind fun (h2 : qH) =>
  qlt (qw h2 63 6 (0 : Int32)) fun (h3 : qH) =>
  some h3
set_option maxRecDepth 100000 in
set_option maxHeartbeats 4000000 in
theorem m8_beginTrial (l : Launch) : qMet UX ROX l yX8_beginTrial (qws yX8_beginTrial cX8_beginTrial 1 none) R8_beginTrial [.ref 0] f8_beginTrial qEv := by
  refine q_met (own := RX8) 0 (by decide) rfl (Nat.le_of_ble_eq_true rfl) (ls := [some (.ref 0)]) rfl fun h => ?_
  unfold f8_beginTrial
  show PW UX ROX l R8_beginTrial cX8_beginTrial 1 none RX8 (qEv h) 0 [some (.ref 0)] [] h _
  refine p_aload_n rfl dX8_beginTrial_0 rfl ?_
  refine p_getr qg_RX8_60 uX_0 rfl dX8_beginTrial_1 rfl ?_
  refine p_aload_n rfl dX8_beginTrial_4 rfl ?_
  refine p_getr qg_RX8_67 uX_0 rfl dX8_beginTrial_5 rfl ?_
  refine p_iconst (v := (0 : Int32)) kiconst_0 dX8_beginTrial_8 rfl ?_
  refine p_callVv (f := f7_store 51 75 172 (0 : Int32)) (st := []) [.ref 75, .int (0 : Int32)] qRokX (m7_store l (kStage_51) uX_75 (0 : Int32)) cal_RX8_316 uX_51 rfl rfl ⟨rfl, rfl⟩ ⟨Nat.le_of_ble_eq_true rfl, Nat.le_of_ble_eq_true rfl⟩ (Nat.le_of_ble_eq_true rfl) dX8_beginTrial_9 rfl (fun h1 => ?_)
  refine p_aload_n rfl dX8_beginTrial_12 rfl ?_
  refine p_getr qg_RX8_64 uX_0 rfl dX8_beginTrial_13 rfl ?_
  refine p_aload_n rfl dX8_beginTrial_16 rfl ?_
  refine p_getr qg_RX8_67 uX_0 rfl dX8_beginTrial_17 rfl ?_
  refine p_iconst (v := (0 : Int32)) kiconst_0 dX8_beginTrial_20 rfl ?_
  refine p_callVv (f := f7_load 63 75 172 (0 : Int32)) (st := []) [.ref 75, .int (0 : Int32)] qRokX (m7_load l (kStage_63) uX_75 (0 : Int32)) cal_RX8_320 uX_63 rfl rfl ⟨rfl, rfl⟩ ⟨Nat.le_of_ble_eq_true rfl, Nat.le_of_ble_eq_true rfl⟩ (Nat.le_of_ble_eq_true rfl) dX8_beginTrial_21 rfl (fun h2 => ?_)
  refine p_aload_n rfl dX8_beginTrial_24 rfl ?_
  refine p_getr qg_RX8_64 uX_0 rfl dX8_beginTrial_25 rfl ?_
  refine p_iconst (v := (0 : Int32)) kiconst_0 dX8_beginTrial_28 rfl ?_
  refine p_puti qokX qp_RX8_310 uX_63 rfl dX8_beginTrial_29 rfl ?_
  refine p_nmH (fun h3 => ?_)
  exact p_vret rfl rfl dX8_beginTrial_32
noncomputable def f8_tryServing_L11 (k : Int32 → qH → Option (qH)) : Nat → Int32 → qH → Option (qH)
  | 0, _, _ => none
  | n + 1, x3, h4 =>
    if (8 : Int32) ≤ x3 then (
      k x3 h4)
    else (
      (f7_askedFiles 63 h4).bind fun (z6 : Int32) =>
      if z6 ≤ 0 then (
        k x3 h4)
      else (
        qb2 (f7_serveNext 63 h4) fun (z8 : Int32) (h9 : qH) =>
        qg (qin x3 8) <|
        qlt (qw h9 76 (ix x3) z8) fun (h10 : qH) =>
        qlt (qw h10 0 12 ((h10.1 0 12) + (1 : Int32))) fun (h11 : qH) =>
        qlt (x3 + (1 : Int32)) fun (x12 : Int32) =>
        f8_tryServing_L11 k n x12 h11))
set_option maxRecDepth 100000 in
set_option maxHeartbeats 4000000 in
theorem w8_tryServing_L11 (l : Launch) (h0 : qH) {k : Int32 → qH → Option (qH)} (hk : ∀ (x3 : Int32) (h4 : qH), PW UX ROX l R8_tryServing cX8_tryServing 2 none RX8 (qEv h0) 56 [some (.ref 0), some (.int x3)] [] h4 (k x3 h4)) : ∀ (n : Nat) (x3 : Int32) (h4 : qH), PW UX ROX l R8_tryServing cX8_tryServing 2 none RX8 (qEv h0) 11 [some (.ref 0), some (.int x3)] [] h4 (f8_tryServing_L11 k n x3 h4) := by
  intro n
  induction n with
  | zero => intro _ _; exact p_none
  | succ n ih =>
    intro x3 h4
    unfold f8_tryServing_L11
    refine p_iload_n rfl dX8_tryServing_11 rfl ?_
    refine p_bipush (v := (8 : Int32)) kbipush_8 dX8_tryServing_12 rfl ?_
    refine p_if (fun c5 => ?_) (fun c5 => ?_)
    · refine p_icmp_ge_t (tgt := 56) dX8_tryServing_14 (by decide) c5 ?_
      exact hk x3 h4
    · refine p_icmp_ge_f (tgt := 56) dX8_tryServing_14 (by decide) rfl c5 ?_
      refine p_aload_n rfl dX8_tryServing_17 rfl ?_
      refine p_getr qg_RX8_64 uX_0 rfl dX8_tryServing_18 rfl ?_
      refine p_callVr (f := f7_askedFiles 63) (st := []) [] qRokX (m7_askedFiles l (kStage_63)) cal_RX8_326 uX_63 rfl rfl ⟨rfl, rfl⟩ ⟨Nat.le_of_ble_eq_true rfl, Nat.le_of_ble_eq_true rfl⟩ (Nat.le_of_ble_eq_true rfl) dX8_tryServing_21 rfl (fun z6 => ?_)
      refine p_if (fun c7 => ?_) (fun c7 => ?_)
      · refine p_if_le_t (tgt := 56) dX8_tryServing_24 (by decide) c7 ?_
        exact hk x3 h4
      · refine p_if_le_f (tgt := 56) dX8_tryServing_24 (by decide) rfl c7 ?_
        refine p_aload_n rfl dX8_tryServing_27 rfl ?_
        refine p_getr qg_RX8_71 uX_0 rfl dX8_tryServing_28 rfl ?_
        refine p_iload_n rfl dX8_tryServing_31 rfl ?_
        refine p_aload_n rfl dX8_tryServing_32 rfl ?_
        refine p_getr qg_RX8_64 uX_0 rfl dX8_tryServing_33 rfl ?_
        refine p_cVw (f := f7_serveNext 63) (st := [.int x3, .ref 76]) [] qRokX (m7_serveNext l (kStage_63)) cal_RX8_329 uX_63 rfl rfl ⟨rfl, rfl⟩ ⟨Nat.le_of_ble_eq_true rfl, Nat.le_of_ble_eq_true rfl⟩ (Nat.le_of_ble_eq_true rfl) dX8_tryServing_36 rfl (fun z8 h9 => ?_)
        refine p_iast qokX uX_76 dX8_tryServing_39 rfl (fun _ => ?_)
        refine p_nmH (fun h10 => ?_)
        refine p_aload_n rfl dX8_tryServing_40 rfl ?_
        refine p_dup rfl dX8_tryServing_41 rfl ?_
        refine p_geti qg_RX8_313 uX_0 rfl dX8_tryServing_42 rfl ?_
        refine p_iconst (v := (1 : Int32)) kiconst_1 dX8_tryServing_45 rfl ?_
        refine p_iadd dX8_tryServing_46 rfl ?_
        refine p_puti qokX qp_RX8_313 uX_0 rfl dX8_tryServing_47 rfl ?_
        refine p_nmH (fun h11 => ?_)
        refine p_iiN (v := (1 : Int32)) (lf := fun x12 => [some (.ref 0), some (.int x12)]) kiconst_1 dX8_tryServing_50 rfl rfl rfl rfl (fun _ => rfl) (fun x12 => ?_)
        refine p_goto (tgt := 11) dX8_tryServing_53 (by decide) ?_
        exact ih x12 h11
noncomputable def f8_tryServing (h : qH) : Option (qH) :=
  (f8_beginTrial h).bind fun (h1 : qH) =>
  qlt (qw h1 0 12 (0 : Int32)) fun (h2 : qH) =>
  f8_tryServing_L11 (fun (x13 : Int32) (h14 : qH) =>
    some h14) qN (0 : Int32) h2
set_option maxRecDepth 100000 in
set_option maxHeartbeats 4000000 in
theorem m8_tryServing (l : Launch) : qMet UX ROX l yX8_tryServing (qws yX8_tryServing cX8_tryServing 2 none) R8_tryServing [.ref 0] f8_tryServing qEv := by
  refine q_met (own := RX8) 1 (by decide) rfl (Nat.le_of_ble_eq_true rfl) (ls := [some (.ref 0), none]) rfl fun h => ?_
  unfold f8_tryServing
  show PW UX ROX l R8_tryServing cX8_tryServing 2 none RX8 (qEv h) 0 [some (.ref 0), none] [] h _
  refine p_aload_n rfl dX8_tryServing_0 rfl ?_
  refine p_callVv (f := f8_beginTrial) (st := []) [] qRokX (m8_beginTrial l) cal_RX8_323 uX_0 rfl rfl ⟨rfl, rfl⟩ ⟨Nat.le_of_ble_eq_true rfl, Nat.le_of_ble_eq_true rfl⟩ (Nat.le_of_ble_eq_true rfl) dX8_tryServing_1 rfl (fun h1 => ?_)
  refine p_aload_n rfl dX8_tryServing_4 rfl ?_
  refine p_iconst (v := (0 : Int32)) kiconst_0 dX8_tryServing_5 rfl ?_
  refine p_puti qokX qp_RX8_313 uX_0 rfl dX8_tryServing_6 rfl ?_
  refine p_nmH (fun h2 => ?_)
  refine p_iconst (v := (0 : Int32)) kiconst_0 dX8_tryServing_9 rfl ?_
  refine p_is_n (ls' := [some (.ref 0), some (.int (0 : Int32))]) dX8_tryServing_10 rfl rfl rfl rfl ?_
  refine w8_tryServing_L11 l h (fun x13 h14 => ?_) qN _ _
  exact p_vret rfl rfl dX8_tryServing_56
noncomputable def f8_all (p1 : Int32) (h : qH) : Option (Int32 × qH) :=
  (f4_isTold 6 h).bind fun (z1 : Int32) =>
  if z1 = 0 then (
    some ((-1 : Int32), h))
  else (
    if p1 < 0 then (
      some ((-1 : Int32), h))
    else (
      if p1 ≤ (2 : Int32) then (
        (f8_tryServing h).bind fun (h5 : qH) =>
        if p1 = (0 : Int32) then (
          some (((h5.1 63 2) - (h5.1 51 2)), h5))
        else (
          if p1 = (1 : Int32) then (
          some ((h5.1 63 6), h5))
        else (
          some ((h5.1 0 12), h5))))
      else (
        some ((-1 : Int32), h))))
set_option maxRecDepth 100000 in
set_option maxHeartbeats 4000000 in
theorem m8_all (l : Launch) (p1 : Int32) : qMet UX ROX l yX8_all (qws yX8_all cX8_all 2 (some .int)) R8_all [.ref 0, .int p1] (f8_all p1) qEw := by
  refine q_met (own := RX8) 0 (by decide) rfl (Nat.le_of_ble_eq_true rfl) (ls := [some (.ref 0), some (.int p1)]) rfl fun h => ?_
  unfold f8_all
  show PW UX ROX l R8_all cX8_all 2 (some .int) RX8 (qEw h) 0 [some (.ref 0), some (.int p1)] [] h _
  refine p_aload_n rfl dX8_all_0 rfl ?_
  refine p_getr qg_RX8_28 uX_0 rfl dX8_all_1 rfl ?_
  refine p_callVr (f := f4_isTold 6) (st := []) [] qRokX (m4_isTold l (kPlan_6)) cal_RX8_147 uX_6 rfl rfl ⟨rfl, rfl⟩ ⟨Nat.le_of_ble_eq_true rfl, Nat.le_of_ble_eq_true rfl⟩ (Nat.le_of_ble_eq_true rfl) dX8_all_4 rfl (fun z1 => ?_)
  refine p_if (fun c2 => ?_) (fun c2 => ?_)
  · refine p_if_eq_t (tgt := 19) dX8_all_7 (by decide) c2 ?_
    refine p_iconst (v := (-1 : Int32)) kiconst_m1 dX8_all_19 rfl ?_
    exact p_iret rfl rfl dX8_all_20
  · refine p_if_eq_f (tgt := 19) dX8_all_7 (by decide) rfl c2 ?_
    refine p_iload_n rfl dX8_all_10 rfl ?_
    refine p_if (fun c3 => ?_) (fun c3 => ?_)
    · refine p_if_lt_t (tgt := 19) dX8_all_11 (by decide) c3 ?_
      refine p_iconst (v := (-1 : Int32)) kiconst_m1 dX8_all_19 rfl ?_
      exact p_iret rfl rfl dX8_all_20
    · refine p_if_lt_f (tgt := 19) dX8_all_11 (by decide) rfl c3 ?_
      refine p_iload_n rfl dX8_all_14 rfl ?_
      refine p_iconst (v := (2 : Int32)) kiconst_2 dX8_all_15 rfl ?_
      refine p_if (fun c4 => ?_) (fun c4 => ?_)
      · refine p_icmp_le_t (tgt := 21) dX8_all_16 (by decide) c4 ?_
        refine p_aload_n rfl dX8_all_21 rfl ?_
        refine p_callVv (f := f8_tryServing) (st := []) [] qRokX (m8_tryServing l) cal_RX8_307 uX_0 rfl rfl ⟨rfl, rfl⟩ ⟨Nat.le_of_ble_eq_true rfl, Nat.le_of_ble_eq_true rfl⟩ (Nat.le_of_ble_eq_true rfl) dX8_all_22 rfl (fun h5 => ?_)
        refine p_iload_n rfl dX8_all_25 rfl ?_
        refine p_if (fun c6 => ?_) (fun c6 => ?_)
        · refine p_lk (off := 26) (tgt := 52) dX8_all_26 (by decide) (by rw [c6]; decide) (by decide) ?_
          refine p_aload_n rfl dX8_all_52 rfl ?_
          refine p_getr qg_RX8_64 uX_0 rfl dX8_all_53 rfl ?_
          refine p_geti qg_RX8_198 uX_63 rfl dX8_all_56 rfl ?_
          refine p_aload_n rfl dX8_all_59 rfl ?_
          refine p_getr qg_RX8_60 uX_0 rfl dX8_all_60 rfl ?_
          refine p_geti qg_RX8_198 uX_51 rfl dX8_all_63 rfl ?_
          refine p_isub dX8_all_66 rfl ?_
          exact p_iret rfl rfl dX8_all_67
        · refine p_if (fun c7 => ?_) (fun c7 => ?_)
          · refine p_lk (off := 42) (tgt := 68) dX8_all_26 (by decide) (by rw [c7]; decide) (by decide) ?_
            refine p_aload_n rfl dX8_all_68 rfl ?_
            refine p_getr qg_RX8_64 uX_0 rfl dX8_all_69 rfl ?_
            refine p_geti qg_RX8_310 uX_63 rfl dX8_all_72 rfl ?_
            exact p_iret rfl rfl dX8_all_75
          · refine p_lk (off := 50) (tgt := 76) dX8_all_26 (by decide) (by show Op.lookupswitch.offset [(0, 26), (1, 42)] _ _ = _; rw [lv_osw c6 (by decide)]; rw [lv_osw c7 (by decide)]; rfl) (by decide) ?_
            refine p_aload_n rfl dX8_all_76 rfl ?_
            refine p_geti qg_RX8_313 uX_0 rfl dX8_all_77 rfl ?_
            exact p_iret rfl rfl dX8_all_80
      · refine p_icmp_le_f (tgt := 21) dX8_all_16 (by decide) rfl c4 ?_
        refine p_iconst (v := (-1 : Int32)) kiconst_m1 dX8_all_19 rfl ?_
        exact p_iret rfl rfl dX8_all_20
noncomputable def f8_served (p1 : Int32) (h : qH) : Option (Int32 × qH) :=
  (f8_tryServing h).bind fun (h1 : qH) =>
  qj (fun (x2 : Int32) =>
    some (x2, h1)) fun j3 =>
  if p1 < 0 then (
    j3 (-1 : Int32))
  else (
    if p1 < (h1.1 0 12) then (
      qg (qin p1 8) <|
      j3 (h1.1 76 (ix p1)))
    else (
      j3 (-1 : Int32)))
set_option maxRecDepth 100000 in
set_option maxHeartbeats 4000000 in
theorem m8_served (l : Launch) (p1 : Int32) : qMet UX ROX l yX8_served (qws yX8_served cX8_served 2 (some .int)) R8_served [.ref 0, .int p1] (f8_served p1) qEw := by
  refine q_met (own := RX8) 0 (by decide) rfl (Nat.le_of_ble_eq_true rfl) (ls := [some (.ref 0), some (.int p1)]) rfl fun h => ?_
  unfold f8_served
  show PW UX ROX l R8_served cX8_served 2 (some .int) RX8 (qEw h) 0 [some (.ref 0), some (.int p1)] [] h _
  refine p_aload_n rfl dX8_served_0 rfl ?_
  refine p_callVv (f := f8_tryServing) (st := []) [] qRokX (m8_tryServing l) cal_RX8_307 uX_0 rfl rfl ⟨rfl, rfl⟩ ⟨Nat.le_of_ble_eq_true rfl, Nat.le_of_ble_eq_true rfl⟩ (Nat.le_of_ble_eq_true rfl) dX8_served_1 rfl (fun h1 => ?_)
  refine p_iload_n rfl dX8_served_4 rfl ?_
  refine p_jn (fun j3 => ∀ (x2 : Int32), PW UX ROX l R8_served cX8_served 2 (some .int) RX8 (qEw h) 26 [some (.ref 0), some (.int p1)] [.int x2] h1 (j3 x2)) (fun x2 => ?_) (fun j3 J4 => ?_)
  · exact p_iret rfl rfl dX8_served_26
  · refine p_if (fun c5 => ?_) (fun c5 => ?_)
    · refine p_if_lt_t (tgt := 16) dX8_served_5 (by decide) c5 ?_
      refine p_iconst (v := (-1 : Int32)) kiconst_m1 dX8_served_16 rfl ?_
      refine p_goto (tgt := 26) dX8_served_17 (by decide) ?_
      exact J4 (-1 : Int32)
    · refine p_if_lt_f (tgt := 16) dX8_served_5 (by decide) rfl c5 ?_
      refine p_iload_n rfl dX8_served_8 rfl ?_
      refine p_aload_n rfl dX8_served_9 rfl ?_
      refine p_geti qg_RX8_313 uX_0 rfl dX8_served_10 rfl ?_
      refine p_if (fun c6 => ?_) (fun c6 => ?_)
      · refine p_icmp_lt_t (tgt := 20) dX8_served_13 (by decide) c6 ?_
        refine p_aload_n rfl dX8_served_20 rfl ?_
        refine p_getr qg_RX8_71 uX_0 rfl dX8_served_21 rfl ?_
        refine p_iload_n rfl dX8_served_24 rfl ?_
        refine p_iald uX_76 dX8_served_25 rfl (fun _ => ?_)
        exact J4 (h1.1 76 (ix p1))
      · refine p_icmp_lt_f (tgt := 20) dX8_served_13 (by decide) rfl c6 ?_
        refine p_iconst (v := (-1 : Int32)) kiconst_m1 dX8_served_16 rfl ?_
        refine p_goto (tgt := 26) dX8_served_17 (by decide) ?_
        exact J4 (-1 : Int32)
noncomputable def f8_soon_L31 (p1 : Int32) (h : qH) (k : Int32 → Option (Int32 × qH)) : Nat → Int32 → Option (Int32 × qH)
  | 0, _ => none
  | n + 1, x5 =>
    if (h.1 0 12) ≤ x5 then (
      k x5)
    else (
      qg (qin x5 8) <|
      qg (qin p1 24) <|
      if (h.1 76 (ix x5)) = (h.1 58 (ix p1)) then (
        some ((x5 + (1 : Int32)), h))
      else (
        qlt (x5 + (1 : Int32)) fun (x8 : Int32) =>
        f8_soon_L31 p1 h k n x8))
set_option maxRecDepth 100000 in
set_option maxHeartbeats 4000000 in
theorem w8_soon_L31 (l : Launch) (h0 : qH) (p1 : Int32) (h : qH) {k : Int32 → Option (Int32 × qH)} (hk : ∀ (x5 : Int32), PW UX ROX l R8_soon cX8_soon 3 (some .int) RX8 (qEw h0) 67 [some (.ref 0), some (.int p1), some (.int x5)] [] h (k x5)) : ∀ (n : Nat) (x5 : Int32), PW UX ROX l R8_soon cX8_soon 3 (some .int) RX8 (qEw h0) 31 [some (.ref 0), some (.int p1), some (.int x5)] [] h (f8_soon_L31 p1 h k n x5) := by
  intro n
  induction n with
  | zero => intro _; exact p_none
  | succ n ih =>
    intro x5
    unfold f8_soon_L31
    refine p_iload_n rfl dX8_soon_31 rfl ?_
    refine p_aload_n rfl dX8_soon_32 rfl ?_
    refine p_geti qg_RX8_313 uX_0 rfl dX8_soon_33 rfl ?_
    refine p_if (fun c6 => ?_) (fun c6 => ?_)
    · refine p_icmp_ge_t (tgt := 67) dX8_soon_36 (by decide) c6 ?_
      exact hk x5
    · refine p_icmp_ge_f (tgt := 67) dX8_soon_36 (by decide) rfl c6 ?_
      refine p_aload_n rfl dX8_soon_39 rfl ?_
      refine p_getr qg_RX8_71 uX_0 rfl dX8_soon_40 rfl ?_
      refine p_iload_n rfl dX8_soon_43 rfl ?_
      refine p_iald uX_76 dX8_soon_44 rfl (fun _ => ?_)
      refine p_aload_n rfl dX8_soon_45 rfl ?_
      refine p_getr qg_RX8_60 uX_0 rfl dX8_soon_46 rfl ?_
      refine p_getr qg_RX8_208 uX_51 rfl dX8_soon_49 rfl ?_
      refine p_iload_n rfl dX8_soon_52 rfl ?_
      refine p_iald uX_58 dX8_soon_53 rfl (fun _ => ?_)
      refine p_if (fun c7 => ?_) (fun c7 => ?_)
      · refine p_icmp_ne_f (tgt := 61) dX8_soon_54 (by decide) rfl c7 ?_
        refine p_iload_n rfl dX8_soon_57 rfl ?_
        refine p_iconst (v := (1 : Int32)) kiconst_1 dX8_soon_58 rfl ?_
        refine p_iadd dX8_soon_59 rfl ?_
        exact p_iret rfl rfl dX8_soon_60
      · refine p_icmp_ne_t (tgt := 61) dX8_soon_54 (by decide) c7 ?_
        refine p_iiN (v := (1 : Int32)) (lf := fun x8 => [some (.ref 0), some (.int p1), some (.int x8)]) kiconst_1 dX8_soon_61 rfl rfl rfl rfl (fun _ => rfl) (fun x8 => ?_)
        refine p_goto (tgt := 31) dX8_soon_64 (by decide) ?_
        exact ih x8
noncomputable def f8_soon (p1 : Int32) (h : qH) : Option (Int32 × qH) :=
  (f7_isThere 51 p1 h).bind fun (z1 : Int32) =>
  if z1 = 0 then (
    some ((-1 : Int32), h))
  else (
    qg (qin p1 24) <|
    if (h.1 62 (ix p1)) = 0 then (
      some ((-1 : Int32), h))
    else (
      (f8_tryServing h).bind fun (h4 : qH) =>
      f8_soon_L31 p1 h4 (fun (x9 : Int32) =>
        some ((-1 : Int32), h4)) qN (0 : Int32)))
set_option maxRecDepth 100000 in
set_option maxHeartbeats 4000000 in
theorem m8_soon (l : Launch) (p1 : Int32) : qMet UX ROX l yX8_soon (qws yX8_soon cX8_soon 3 (some .int)) R8_soon [.ref 0, .int p1] (f8_soon p1) qEw := by
  refine q_met (own := RX8) 1 (by decide) rfl (Nat.le_of_ble_eq_true rfl) (ls := [some (.ref 0), some (.int p1), none]) rfl fun h => ?_
  unfold f8_soon
  show PW UX ROX l R8_soon cX8_soon 3 (some .int) RX8 (qEw h) 0 [some (.ref 0), some (.int p1), none] [] h _
  refine p_aload_n rfl dX8_soon_0 rfl ?_
  refine p_getr qg_RX8_60 uX_0 rfl dX8_soon_1 rfl ?_
  refine p_iload_n rfl dX8_soon_4 rfl ?_
  refine p_callVr (f := f7_isThere 51 p1) (st := []) [.int p1] qRokX (m7_isThere l (kStage_51) p1) cal_RX8_239 uX_51 rfl rfl ⟨rfl, rfl⟩ ⟨Nat.le_of_ble_eq_true rfl, Nat.le_of_ble_eq_true rfl⟩ (Nat.le_of_ble_eq_true rfl) dX8_soon_5 rfl (fun z1 => ?_)
  refine p_if (fun c2 => ?_) (fun c2 => ?_)
  · refine p_if_eq_t (tgt := 23) dX8_soon_8 (by decide) c2 ?_
    refine p_iconst (v := (-1 : Int32)) kiconst_m1 dX8_soon_23 rfl ?_
    exact p_iret rfl rfl dX8_soon_24
  · refine p_if_eq_f (tgt := 23) dX8_soon_8 (by decide) rfl c2 ?_
    refine p_aload_n rfl dX8_soon_11 rfl ?_
    refine p_getr qg_RX8_60 uX_0 rfl dX8_soon_12 rfl ?_
    refine p_getr qg_RX8_220 uX_51 rfl dX8_soon_15 rfl ?_
    refine p_iload_n rfl dX8_soon_18 rfl ?_
    refine p_iald uX_62 dX8_soon_19 rfl (fun _ => ?_)
    refine p_if (fun c3 => ?_) (fun c3 => ?_)
    · refine p_if_ne_f (tgt := 25) dX8_soon_20 (by decide) rfl c3 ?_
      refine p_iconst (v := (-1 : Int32)) kiconst_m1 dX8_soon_23 rfl ?_
      exact p_iret rfl rfl dX8_soon_24
    · refine p_if_ne_t (tgt := 25) dX8_soon_20 (by decide) c3 ?_
      refine p_aload_n rfl dX8_soon_25 rfl ?_
      refine p_callVv (f := f8_tryServing) (st := []) [] qRokX (m8_tryServing l) cal_RX8_307 uX_0 rfl rfl ⟨rfl, rfl⟩ ⟨Nat.le_of_ble_eq_true rfl, Nat.le_of_ble_eq_true rfl⟩ (Nat.le_of_ble_eq_true rfl) dX8_soon_26 rfl (fun h4 => ?_)
      refine p_iconst (v := (0 : Int32)) kiconst_0 dX8_soon_29 rfl ?_
      refine p_is_n (ls' := [some (.ref 0), some (.int p1), some (.int (0 : Int32))]) dX8_soon_30 rfl rfl rfl rfl ?_
      refine w8_soon_L31 l h p1 h4 (fun x9 => ?_) qN _
      refine p_iconst (v := (-1 : Int32)) kiconst_m1 dX8_soon_67 rfl ?_
      exact p_iret rfl rfl dX8_soon_68
noncomputable def f8_target (p1 : Int32) (h : qH) : Option (Int32) :=
  (f4_isTape 6 p1 h).bind fun (z1 : Int32) =>
  qj (fun (x2 : Int32) =>
    some x2) fun j3 =>
  if z1 = 0 then (
    j3 (-1 : Int32))
  else (
    (f7_targetFor 51 p1 h).bind fun (z6 : Int32) =>
    j3 z6)
set_option maxRecDepth 100000 in
set_option maxHeartbeats 4000000 in
theorem m8_target (l : Launch) (p1 : Int32) : qMet UX ROX l yX8_target (qws yX8_target cX8_target 2 (some .int)) R8_target [.ref 0, .int p1] (f8_target p1) qEr := by
  refine q_met (own := RX8) 0 (by decide) rfl (Nat.le_of_ble_eq_true rfl) (ls := [some (.ref 0), some (.int p1)]) rfl fun h => ?_
  unfold f8_target
  refine p_aload_n rfl dX8_target_0 rfl ?_
  refine p_getr qg_RX8_28 uX_0 rfl dX8_target_1 rfl ?_
  refine p_iload_n rfl dX8_target_4 rfl ?_
  refine p_callVr (f := f4_isTape 6 p1) (st := []) [.int p1] qRokX (m4_isTape l (kPlan_6) p1) cal_RX8_157 uX_6 rfl rfl ⟨rfl, rfl⟩ ⟨Nat.le_of_ble_eq_true rfl, Nat.le_of_ble_eq_true rfl⟩ (Nat.le_of_ble_eq_true rfl) dX8_target_5 rfl (fun z1 => ?_)
  refine p_jn (fun j3 => ∀ (x2 : Int32), PW UX ROX l R8_target cX8_target 2 (some .int) RX8 (qEr h) 23 [some (.ref 0), some (.int p1)] [.int x2] h (j3 x2)) (fun x2 => ?_) (fun j3 J4 => ?_)
  · exact p_iret rfl rfl dX8_target_23
  · refine p_if (fun c5 => ?_) (fun c5 => ?_)
    · refine p_if_eq_t (tgt := 22) dX8_target_8 (by decide) c5 ?_
      refine p_iconst (v := (-1 : Int32)) kiconst_m1 dX8_target_22 rfl ?_
      exact J4 (-1 : Int32)
    · refine p_if_eq_f (tgt := 22) dX8_target_8 (by decide) rfl c5 ?_
      refine p_aload_n rfl dX8_target_11 rfl ?_
      refine p_getr qg_RX8_60 uX_0 rfl dX8_target_12 rfl ?_
      refine p_iload_n rfl dX8_target_15 rfl ?_
      refine p_callVr (f := f7_targetFor 51 p1) (st := []) [.int p1] qRokX (m7_targetFor l (kStage_51) p1) cal_RX8_276 uX_51 rfl rfl ⟨rfl, rfl⟩ ⟨Nat.le_of_ble_eq_true rfl, Nat.le_of_ble_eq_true rfl⟩ (Nat.le_of_ble_eq_true rfl) dX8_target_16 rfl (fun z6 => ?_)
      refine p_goto (tgt := 23) dX8_target_19 (by decide) ?_
      exact J4 z6
noncomputable def f8_cheap_L7 (p1 : Int32) (k : Int32 → Int32 → Int32 → qH → Option (Int32 × qH)) : Nat → Int32 → Int32 → Int32 → qH → Option (Int32 × qH)
  | 0, _, _, _, _ => none
  | n + 1, x1, x2, x3, h4 =>
    if (h4.1 6 1) ≤ x3 then (
      k x1 x2 x3 h4)
    else (
      (f7_refusal 51 (2 : Int32) x3 p1 h4).bind fun (z6 : Int32) =>
      qj (fun (x7 : Int32) (x8 : Int32) (h9 : qH) =>
        qlt (x3 + (1 : Int32)) fun (x12 : Int32) =>
        f8_cheap_L7 p1 k n x7 x8 x12 h9) fun j10 =>
      if z6 = (-1 : Int32) then (
        (f8_beginTrial h4).bind fun (h14 : qH) =>
        qb2 (f7_carryOut 63 (2 : Int32) x3 p1 h14) fun (z15 : Int32) (h16 : qH) =>
        qlt ((h16.1 63 2) - (h16.1 51 2)) fun (x17 : Int32) =>
        if x1 = (-1 : Int32) then (
          j10 x3 x17 h16)
        else (
          if x2 ≤ x17 then (
            j10 x1 x2 h16)
          else (
            j10 x3 x17 h16)))
      else (
        j10 x1 x2 h4))
set_option maxRecDepth 100000 in
set_option maxHeartbeats 4000000 in
theorem w8_cheap_L7 (l : Launch) (h0 : qH) (p1 : Int32) {k : Int32 → Int32 → Int32 → qH → Option (Int32 × qH)} (hk : ∀ (x1 : Int32) (x2 : Int32) (x3 : Int32) (h4 : qH), PW UX ROX l R8_cheap cX8_cheap 6 (some .int) RX8 (qEw h0) 90 [some (.ref 0), some (.int p1), some (.int x1), some (.int x2), some (.int x3), none] [] h4 (k x1 x2 x3 h4)) : ∀ (n : Nat) (x1 : Int32) (x2 : Int32) (x3 : Int32) (h4 : qH), PW UX ROX l R8_cheap cX8_cheap 6 (some .int) RX8 (qEw h0) 7 [some (.ref 0), some (.int p1), some (.int x1), some (.int x2), some (.int x3), none] [] h4 (f8_cheap_L7 p1 k n x1 x2 x3 h4) := by
  intro n
  induction n with
  | zero => intro _ _ _ _; exact p_none
  | succ n ih =>
    intro x1 x2 x3 h4
    unfold f8_cheap_L7
    refine p_iload rfl dX8_cheap_7 rfl ?_
    refine p_aload_n rfl dX8_cheap_9 rfl ?_
    refine p_getr qg_RX8_28 uX_0 rfl dX8_cheap_10 rfl ?_
    refine p_geti qg_RX8_141 uX_6 rfl dX8_cheap_13 rfl ?_
    refine p_if (fun c5 => ?_) (fun c5 => ?_)
    · refine p_icmp_ge_t (tgt := 90) dX8_cheap_16 (by decide) c5 ?_
      exact hk x1 x2 x3 h4
    · refine p_icmp_ge_f (tgt := 90) dX8_cheap_16 (by decide) rfl c5 ?_
      refine p_aload_n rfl dX8_cheap_19 rfl ?_
      refine p_getr qg_RX8_60 uX_0 rfl dX8_cheap_20 rfl ?_
      refine p_iconst (v := (2 : Int32)) kiconst_2 dX8_cheap_23 rfl ?_
      refine p_iload rfl dX8_cheap_24 rfl ?_
      refine p_iload_n rfl dX8_cheap_26 rfl ?_
      refine p_callVr (f := f7_refusal 51 (2 : Int32) x3 p1) (st := []) [.int (2 : Int32), .int x3, .int p1] qRokX (m7_refusal l (kStage_51) (2 : Int32) x3 p1) cal_RX8_252 uX_51 rfl rfl ⟨rfl, rfl⟩ ⟨Nat.le_of_ble_eq_true rfl, Nat.le_of_ble_eq_true rfl⟩ (Nat.le_of_ble_eq_true rfl) dX8_cheap_27 rfl (fun z6 => ?_)
      refine p_iconst (v := (-1 : Int32)) kiconst_m1 dX8_cheap_30 rfl ?_
      refine p_jn (fun j10 => ∀ (x7 : Int32) (x8 : Int32) (h9 : qH), PW UX ROX l R8_cheap cX8_cheap 6 (some .int) RX8 (qEw h0) 84 [some (.ref 0), some (.int p1), some (.int x7), some (.int x8), some (.int x3), none] [] h9 (j10 x7 x8 h9)) (fun x7 x8 h9 => ?_) (fun j10 J11 => ?_)
      · refine p_iiN (v := (1 : Int32)) (lf := fun x12 => [some (.ref 0), some (.int p1), some (.int x7), some (.int x8), some (.int x12), none]) kiconst_1 dX8_cheap_84 rfl rfl rfl rfl (fun _ => rfl) (fun x12 => ?_)
        refine p_goto (tgt := 7) dX8_cheap_87 (by decide) ?_
        exact ih x7 x8 x12 h9
      · refine p_if (fun c13 => ?_) (fun c13 => ?_)
        · refine p_icmp_ne_f (tgt := 84) dX8_cheap_31 (by decide) rfl c13 ?_
          refine p_aload_n rfl dX8_cheap_34 rfl ?_
          refine p_callVv (f := f8_beginTrial) (st := []) [] qRokX (m8_beginTrial l) cal_RX8_323 uX_0 rfl rfl ⟨rfl, rfl⟩ ⟨Nat.le_of_ble_eq_true rfl, Nat.le_of_ble_eq_true rfl⟩ (Nat.le_of_ble_eq_true rfl) dX8_cheap_35 rfl (fun h14 => ?_)
          refine p_aload_n rfl dX8_cheap_38 rfl ?_
          refine p_getr qg_RX8_64 uX_0 rfl dX8_cheap_39 rfl ?_
          refine p_iconst (v := (2 : Int32)) kiconst_2 dX8_cheap_42 rfl ?_
          refine p_iload rfl dX8_cheap_43 rfl ?_
          refine p_iload_n rfl dX8_cheap_45 rfl ?_
          refine p_cVw (f := f7_carryOut 63 (2 : Int32) x3 p1) (st := []) [.int (2 : Int32), .int x3, .int p1] qRokX (m7_carryOut l (kStage_63) (2 : Int32) x3 p1) cal_RX8_260 uX_63 rfl rfl ⟨rfl, rfl⟩ ⟨Nat.le_of_ble_eq_true rfl, Nat.le_of_ble_eq_true rfl⟩ (Nat.le_of_ble_eq_true rfl) dX8_cheap_46 rfl (fun z15 h16 => ?_)
          refine p_pop rfl dX8_cheap_49 rfl ?_
          refine p_aload_n rfl dX8_cheap_50 rfl ?_
          refine p_getr qg_RX8_64 uX_0 rfl dX8_cheap_51 rfl ?_
          refine p_geti qg_RX8_198 uX_63 rfl dX8_cheap_54 rfl ?_
          refine p_aload_n rfl dX8_cheap_57 rfl ?_
          refine p_getr qg_RX8_60 uX_0 rfl dX8_cheap_58 rfl ?_
          refine p_geti qg_RX8_198 uX_51 rfl dX8_cheap_61 rfl ?_
          refine p_isub dX8_cheap_64 rfl ?_
          refine p_isN (lf := fun x17 => [some (.ref 0), some (.int p1), some (.int x1), some (.int x2), some (.int x3), some (.int x17)]) dX8_cheap_65 rfl rfl rfl (fun _ => rfl) (fun x17 => ?_)
          refine p_iload_n rfl dX8_cheap_67 rfl ?_
          refine p_iconst (v := (-1 : Int32)) kiconst_m1 dX8_cheap_68 rfl ?_
          refine p_if (fun c18 => ?_) (fun c18 => ?_)
          · refine p_icmp_eq_t (tgt := 78) dX8_cheap_69 (by decide) c18 ?_
            refine p_iload rfl dX8_cheap_78 rfl ?_
            refine p_is_n (ls' := [some (.ref 0), some (.int p1), some (.int x3), some (.int x2), some (.int x3), some (.int x17)]) dX8_cheap_80 rfl rfl rfl rfl ?_
            refine p_iload rfl dX8_cheap_81 rfl ?_
            refine p_is_n (ls' := [some (.ref 0), some (.int p1), some (.int x3), some (.int x17), some (.int x3), some (.int x17)]) dX8_cheap_83 rfl rfl rfl rfl ?_
            exact p_wk (ls' := [some (.ref 0), some (.int p1), some (.int x3), some (.int x17), some (.int x3), none]) ⟨rfl, rfl, rfl, rfl, rfl, trivial⟩ (J11 x3 x17 h16)
          · refine p_icmp_eq_f (tgt := 78) dX8_cheap_69 (by decide) rfl c18 ?_
            refine p_iload rfl dX8_cheap_72 rfl ?_
            refine p_iload_n rfl dX8_cheap_74 rfl ?_
            refine p_if (fun c19 => ?_) (fun c19 => ?_)
            · refine p_icmp_ge_t (tgt := 84) dX8_cheap_75 (by decide) c19 ?_
              exact p_wk (ls' := [some (.ref 0), some (.int p1), some (.int x1), some (.int x2), some (.int x3), none]) ⟨rfl, rfl, rfl, rfl, rfl, trivial⟩ (J11 x1 x2 h16)
            · refine p_icmp_ge_f (tgt := 84) dX8_cheap_75 (by decide) rfl c19 ?_
              refine p_iload rfl dX8_cheap_78 rfl ?_
              refine p_is_n (ls' := [some (.ref 0), some (.int p1), some (.int x3), some (.int x2), some (.int x3), some (.int x17)]) dX8_cheap_80 rfl rfl rfl rfl ?_
              refine p_iload rfl dX8_cheap_81 rfl ?_
              refine p_is_n (ls' := [some (.ref 0), some (.int p1), some (.int x3), some (.int x17), some (.int x3), some (.int x17)]) dX8_cheap_83 rfl rfl rfl rfl ?_
              exact p_wk (ls' := [some (.ref 0), some (.int p1), some (.int x3), some (.int x17), some (.int x3), none]) ⟨rfl, rfl, rfl, rfl, rfl, trivial⟩ (J11 x3 x17 h16)
        · refine p_icmp_ne_t (tgt := 84) dX8_cheap_31 (by decide) c13 ?_
          exact J11 x1 x2 h4
noncomputable def f8_cheap (p1 : Int32) (h : qH) : Option (Int32 × qH) :=
  f8_cheap_L7 p1 (fun (x20 : Int32) (x21 : Int32) (x22 : Int32) (h23 : qH) =>
    some (x20, h23)) qN (-1 : Int32) (0 : Int32) (0 : Int32) h
set_option maxRecDepth 100000 in
set_option maxHeartbeats 4000000 in
theorem m8_cheap (l : Launch) (p1 : Int32) : qMet UX ROX l yX8_cheap (qws yX8_cheap cX8_cheap 6 (some .int)) R8_cheap [.ref 0, .int p1] (f8_cheap p1) qEw := by
  refine q_met (own := RX8) 4 (by decide) rfl (Nat.le_of_ble_eq_true rfl) (ls := [some (.ref 0), some (.int p1), none, none, none, none]) rfl fun h => ?_
  unfold f8_cheap
  show PW UX ROX l R8_cheap cX8_cheap 6 (some .int) RX8 (qEw h) 0 [some (.ref 0), some (.int p1), none, none, none, none] [] h _
  refine p_iconst (v := (-1 : Int32)) kiconst_m1 dX8_cheap_0 rfl ?_
  refine p_is_n (ls' := [some (.ref 0), some (.int p1), some (.int (-1 : Int32)), none, none, none]) dX8_cheap_1 rfl rfl rfl rfl ?_
  refine p_iconst (v := (0 : Int32)) kiconst_0 dX8_cheap_2 rfl ?_
  refine p_is_n (ls' := [some (.ref 0), some (.int p1), some (.int (-1 : Int32)), some (.int (0 : Int32)), none, none]) dX8_cheap_3 rfl rfl rfl rfl ?_
  refine p_iconst (v := (0 : Int32)) kiconst_0 dX8_cheap_4 rfl ?_
  refine p_is (ls' := [some (.ref 0), some (.int p1), some (.int (-1 : Int32)), some (.int (0 : Int32)), some (.int (0 : Int32)), none]) dX8_cheap_5 rfl rfl rfl rfl ?_
  refine w8_cheap_L7 l h p1 (fun x20 x21 x22 h23 => ?_) qN _ _ _ _
  refine p_iload_n rfl dX8_cheap_90 rfl ?_
  exact p_iret rfl rfl dX8_cheap_91
noncomputable def f8_idle (p1 : Int32) (h : qH) : Option (Int32) :=
  (f7_refusal 51 (9 : Int32) p1 (-1 : Int32) h).bind fun (z1 : Int32) =>
  qj (fun (x2 : Int32) =>
    some x2) fun j3 =>
  if z1 = (-1 : Int32) then (
    (f7_idleAt 51 ((h.1 51 2) + p1) h).bind fun (z6 : Int32) =>
    j3 z6)
  else (
    j3 (-1 : Int32))
set_option maxRecDepth 100000 in
set_option maxHeartbeats 4000000 in
theorem m8_idle (l : Launch) (p1 : Int32) : qMet UX ROX l yX8_idle (qws yX8_idle cX8_idle 2 (some .int)) R8_idle [.ref 0, .int p1] (f8_idle p1) qEr := by
  refine q_met (own := RX8) 0 (by decide) rfl (Nat.le_of_ble_eq_true rfl) (ls := [some (.ref 0), some (.int p1)]) rfl fun h => ?_
  unfold f8_idle
  refine p_aload_n rfl dX8_idle_0 rfl ?_
  refine p_getr qg_RX8_60 uX_0 rfl dX8_idle_1 rfl ?_
  refine p_bipush (v := (9 : Int32)) kbipush_9 dX8_idle_4 rfl ?_
  refine p_iload_n rfl dX8_idle_6 rfl ?_
  refine p_iconst (v := (-1 : Int32)) kiconst_m1 dX8_idle_7 rfl ?_
  refine p_callVr (f := f7_refusal 51 (9 : Int32) p1 (-1 : Int32)) (st := []) [.int (9 : Int32), .int p1, .int (-1 : Int32)] qRokX (m7_refusal l (kStage_51) (9 : Int32) p1 (-1 : Int32)) cal_RX8_252 uX_51 rfl rfl ⟨rfl, rfl⟩ ⟨Nat.le_of_ble_eq_true rfl, Nat.le_of_ble_eq_true rfl⟩ (Nat.le_of_ble_eq_true rfl) dX8_idle_8 rfl (fun z1 => ?_)
  refine p_iconst (v := (-1 : Int32)) kiconst_m1 dX8_idle_11 rfl ?_
  refine p_jn (fun j3 => ∀ (x2 : Int32), PW UX ROX l R8_idle cX8_idle 2 (some .int) RX8 (qEr h) 35 [some (.ref 0), some (.int p1)] [.int x2] h (j3 x2)) (fun x2 => ?_) (fun j3 J4 => ?_)
  · exact p_iret rfl rfl dX8_idle_35
  · refine p_if (fun c5 => ?_) (fun c5 => ?_)
    · refine p_icmp_ne_f (tgt := 34) dX8_idle_12 (by decide) rfl c5 ?_
      refine p_aload_n rfl dX8_idle_15 rfl ?_
      refine p_getr qg_RX8_60 uX_0 rfl dX8_idle_16 rfl ?_
      refine p_aload_n rfl dX8_idle_19 rfl ?_
      refine p_getr qg_RX8_60 uX_0 rfl dX8_idle_20 rfl ?_
      refine p_geti qg_RX8_198 uX_51 rfl dX8_idle_23 rfl ?_
      refine p_iload_n rfl dX8_idle_26 rfl ?_
      refine p_iadd dX8_idle_27 rfl ?_
      refine p_callVr (f := f7_idleAt 51 ((h.1 51 2) + p1)) (st := []) [.int ((h.1 51 2) + p1)] qRokX (m7_idleAt l (kStage_51) ((h.1 51 2) + p1)) cal_RX8_332 uX_51 rfl rfl ⟨rfl, rfl⟩ ⟨Nat.le_of_ble_eq_true rfl, Nat.le_of_ble_eq_true rfl⟩ (Nat.le_of_ble_eq_true rfl) dX8_idle_28 rfl (fun z6 => ?_)
      refine p_goto (tgt := 35) dX8_idle_31 (by decide) ?_
      exact J4 z6
    · refine p_icmp_ne_t (tgt := 34) dX8_idle_12 (by decide) c5 ?_
      refine p_iconst (v := (-1 : Int32)) kiconst_m1 dX8_idle_34 rfl ?_
      exact J4 (-1 : Int32)
noncomputable def f8_shares_L29 (p1 : Int32) (p2 : Int32) (h : qH) (k : Int32 → Int32 → Option (Int32)) : Nat → Int32 → Int32 → Option (Int32)
  | 0, _, _ => none
  | n + 1, x5, x6 =>
    if (h.1 6 1) ≤ x6 then (
      k x5 x6)
    else (
      (f7_blocksOn 51 x6 h).bind fun (z8 : Int32) =>
      qlt (x5 + z8) fun (x9 : Int32) =>
      qlt (x6 + (1 : Int32)) fun (x10 : Int32) =>
      f8_shares_L29 p1 p2 h k n x9 x10)
set_option maxRecDepth 100000 in
set_option maxHeartbeats 4000000 in
theorem w8_shares_L29 (l : Launch) (p1 : Int32) (p2 : Int32) (h : qH) {k : Int32 → Int32 → Option (Int32)} (hk : ∀ (x5 : Int32) (x6 : Int32), PW UX ROX l R8_shares cX8_shares 5 (some .int) RX8 (qEr h) 59 [some (.ref 0), some (.int p1), some (.int p2), some (.int x5), some (.int x6)] [] h (k x5 x6)) : ∀ (n : Nat) (x5 : Int32) (x6 : Int32), PW UX ROX l R8_shares cX8_shares 5 (some .int) RX8 (qEr h) 29 [some (.ref 0), some (.int p1), some (.int p2), some (.int x5), some (.int x6)] [] h (f8_shares_L29 p1 p2 h k n x5 x6) := by
  intro n
  induction n with
  | zero => intro _ _; exact p_none
  | succ n ih =>
    intro x5 x6
    unfold f8_shares_L29
    refine p_iload rfl dX8_shares_29 rfl ?_
    refine p_aload_n rfl dX8_shares_31 rfl ?_
    refine p_getr qg_RX8_28 uX_0 rfl dX8_shares_32 rfl ?_
    refine p_geti qg_RX8_141 uX_6 rfl dX8_shares_35 rfl ?_
    refine p_if (fun c7 => ?_) (fun c7 => ?_)
    · refine p_icmp_ge_t (tgt := 59) dX8_shares_38 (by decide) c7 ?_
      exact hk x5 x6
    · refine p_icmp_ge_f (tgt := 59) dX8_shares_38 (by decide) rfl c7 ?_
      refine p_iload_n rfl dX8_shares_41 rfl ?_
      refine p_aload_n rfl dX8_shares_42 rfl ?_
      refine p_getr qg_RX8_60 uX_0 rfl dX8_shares_43 rfl ?_
      refine p_iload rfl dX8_shares_46 rfl ?_
      refine p_callVr (f := f7_blocksOn 51 x6) (st := [.int x5]) [.int x6] qRokX (m7_blocksOn l (kStage_51) x6) cal_RX8_192 uX_51 rfl rfl ⟨rfl, rfl⟩ ⟨Nat.le_of_ble_eq_true rfl, Nat.le_of_ble_eq_true rfl⟩ (Nat.le_of_ble_eq_true rfl) dX8_shares_48 rfl (fun z8 => ?_)
      refine p_iadd dX8_shares_51 rfl ?_
      refine p_isN_n (lf := fun x9 => [some (.ref 0), some (.int p1), some (.int p2), some (.int x9), some (.int x6)]) dX8_shares_52 rfl rfl rfl (fun _ => rfl) (fun x9 => ?_)
      refine p_iiN (v := (1 : Int32)) (lf := fun x10 => [some (.ref 0), some (.int p1), some (.int p2), some (.int x9), some (.int x10)]) kiconst_1 dX8_shares_53 rfl rfl rfl rfl (fun _ => rfl) (fun x10 => ?_)
      refine p_goto (tgt := 29) dX8_shares_56 (by decide) ?_
      exact ih x9 x10
noncomputable def f8_shares (p1 : Int32) (p2 : Int32) (h : qH) : Option (Int32) :=
  (f4_isTape 6 p1 h).bind fun (z1 : Int32) =>
  if z1 = 0 then (
    some (-1 : Int32))
  else (
    if p2 < 0 then (
      some (-1 : Int32))
    else (
      if p2 ≤ (999 : Int32) then (
        f8_shares_L29 p1 p2 h (fun (x11 : Int32) (x12 : Int32) =>
          qj (fun (x13 : Int32) =>
            some x13) fun j14 =>
          if x11 = 0 then (
            j14 (0 : Int32))
          else (
            (f7_blocksOn 51 p1 h).bind fun (z17 : Int32) =>
            qg (decide (¬ x11 = 0)) <|
            j14 ((p2 * z17) / x11))) qN (0 : Int32) (0 : Int32))
      else (
        some (-1 : Int32))))
set_option maxRecDepth 100000 in
set_option maxHeartbeats 4000000 in
theorem m8_shares (l : Launch) (p1 : Int32) (p2 : Int32) : qMet UX ROX l yX8_shares (qws yX8_shares cX8_shares 5 (some .int)) R8_shares [.ref 0, .int p1, .int p2] (f8_shares p1 p2) qEr := by
  refine q_met (own := RX8) 2 (by decide) rfl (Nat.le_of_ble_eq_true rfl) (ls := [some (.ref 0), some (.int p1), some (.int p2), none, none]) rfl fun h => ?_
  unfold f8_shares
  refine p_aload_n rfl dX8_shares_0 rfl ?_
  refine p_getr qg_RX8_28 uX_0 rfl dX8_shares_1 rfl ?_
  refine p_iload_n rfl dX8_shares_4 rfl ?_
  refine p_callVr (f := f4_isTape 6 p1) (st := []) [.int p1] qRokX (m4_isTape l (kPlan_6) p1) cal_RX8_157 uX_6 rfl rfl ⟨rfl, rfl⟩ ⟨Nat.le_of_ble_eq_true rfl, Nat.le_of_ble_eq_true rfl⟩ (Nat.le_of_ble_eq_true rfl) dX8_shares_5 rfl (fun z1 => ?_)
  refine p_if (fun c2 => ?_) (fun c2 => ?_)
  · refine p_if_eq_t (tgt := 22) dX8_shares_8 (by decide) c2 ?_
    refine p_iconst (v := (-1 : Int32)) kiconst_m1 dX8_shares_22 rfl ?_
    exact p_iret rfl rfl dX8_shares_23
  · refine p_if_eq_f (tgt := 22) dX8_shares_8 (by decide) rfl c2 ?_
    refine p_iload_n rfl dX8_shares_11 rfl ?_
    refine p_if (fun c3 => ?_) (fun c3 => ?_)
    · refine p_if_lt_t (tgt := 22) dX8_shares_12 (by decide) c3 ?_
      refine p_iconst (v := (-1 : Int32)) kiconst_m1 dX8_shares_22 rfl ?_
      exact p_iret rfl rfl dX8_shares_23
    · refine p_if_lt_f (tgt := 22) dX8_shares_12 (by decide) rfl c3 ?_
      refine p_iload_n rfl dX8_shares_15 rfl ?_
      refine p_sipush (v := (999 : Int32)) ksipush_999 dX8_shares_16 rfl ?_
      refine p_if (fun c4 => ?_) (fun c4 => ?_)
      · refine p_icmp_le_t (tgt := 24) dX8_shares_19 (by decide) c4 ?_
        refine p_iconst (v := (0 : Int32)) kiconst_0 dX8_shares_24 rfl ?_
        refine p_is_n (ls' := [some (.ref 0), some (.int p1), some (.int p2), some (.int (0 : Int32)), none]) dX8_shares_25 rfl rfl rfl rfl ?_
        refine p_iconst (v := (0 : Int32)) kiconst_0 dX8_shares_26 rfl ?_
        refine p_is (ls' := [some (.ref 0), some (.int p1), some (.int p2), some (.int (0 : Int32)), some (.int (0 : Int32))]) dX8_shares_27 rfl rfl rfl rfl ?_
        refine w8_shares_L29 l p1 p2 h (fun x11 x12 => ?_) qN _ _
        refine p_iload_n rfl dX8_shares_59 rfl ?_
        refine p_jn (fun j14 => ∀ (x13 : Int32), PW UX ROX l R8_shares cX8_shares 5 (some .int) RX8 (qEr h) 79 [some (.ref 0), some (.int p1), some (.int p2), some (.int x11), some (.int x12)] [.int x13] h (j14 x13)) (fun x13 => ?_) (fun j14 J15 => ?_)
        · exact p_iret rfl rfl dX8_shares_79
        · refine p_if (fun c16 => ?_) (fun c16 => ?_)
          · refine p_if_ne_f (tgt := 67) dX8_shares_60 (by decide) rfl c16 ?_
            refine p_iconst (v := (0 : Int32)) kiconst_0 dX8_shares_63 rfl ?_
            refine p_goto (tgt := 79) dX8_shares_64 (by decide) ?_
            exact J15 (0 : Int32)
          · refine p_if_ne_t (tgt := 67) dX8_shares_60 (by decide) c16 ?_
            refine p_iload_n rfl dX8_shares_67 rfl ?_
            refine p_aload_n rfl dX8_shares_68 rfl ?_
            refine p_getr qg_RX8_60 uX_0 rfl dX8_shares_69 rfl ?_
            refine p_iload_n rfl dX8_shares_72 rfl ?_
            refine p_callVr (f := f7_blocksOn 51 p1) (st := [.int p2]) [.int p1] qRokX (m7_blocksOn l (kStage_51) p1) cal_RX8_192 uX_51 rfl rfl ⟨rfl, rfl⟩ ⟨Nat.le_of_ble_eq_true rfl, Nat.le_of_ble_eq_true rfl⟩ (Nat.le_of_ble_eq_true rfl) dX8_shares_73 rfl (fun z17 => ?_)
            refine p_imul dX8_shares_76 rfl ?_
            refine p_iload_n rfl dX8_shares_77 rfl ?_
            refine p_idiv dX8_shares_78 rfl (fun _ => ?_)
            exact J15 ((p2 * z17) / x11)
      · refine p_icmp_le_f (tgt := 24) dX8_shares_19 (by decide) rfl c4 ?_
        refine p_iconst (v := (-1 : Int32)) kiconst_m1 dX8_shares_22 rfl ?_
        exact p_iret rfl rfl dX8_shares_23
noncomputable def f8_isScript (p1 : Int32) (h : qH) : Option (Int32) :=
  qlt (if p1 < 0 then (0 : Int32) else (if (h.1 0 6) ≤ p1 then (0 : Int32) else (1 : Int32))) fun (x3 : Int32) =>
  qg (qbo x3) <|
  some x3
set_option maxRecDepth 100000 in
set_option maxHeartbeats 4000000 in
theorem m8_isScript (l : Launch) (p1 : Int32) : qMet UX ROX l yX8_isScript (qws yX8_isScript cX8_isScript 2 (some .boolean)) R8_isScript [.ref 0, .int p1] (f8_isScript p1) qEr := by
  refine q_met (own := RX8) 0 (by decide) rfl (Nat.le_of_ble_eq_true rfl) (ls := [some (.ref 0), some (.int p1)]) rfl fun h => ?_
  unfold f8_isScript
  refine p_iload_n rfl dX8_isScript_0 rfl ?_
  refine p_vj 17 [some (.ref 0), some (.int p1)] [] (fun x3 => ?_) (fun J => ?_)
  · exact p_zretG rfl rfl dX8_isScript_17
  · refine p_dia (fun c1 => ?_) (fun c1 => ?_)
    · refine p_if_lt_t (tgt := 16) dX8_isScript_1 (by decide) c1 ?_
      refine p_iconst (v := (0 : Int32)) kiconst_0 dX8_isScript_16 rfl ?_
      exact J _
    · refine p_if_lt_f (tgt := 16) dX8_isScript_1 (by decide) rfl c1 ?_
      refine p_iload_n rfl dX8_isScript_4 rfl ?_
      refine p_aload_n rfl dX8_isScript_5 rfl ?_
      refine p_geti qg_RX8_121 uX_0 rfl dX8_isScript_6 rfl ?_
      refine p_dia (fun c2 => ?_) (fun c2 => ?_)
      · refine p_icmp_ge_t (tgt := 16) dX8_isScript_9 (by decide) c2 ?_
        refine p_iconst (v := (0 : Int32)) kiconst_0 dX8_isScript_16 rfl ?_
        exact J _
      · refine p_icmp_ge_f (tgt := 16) dX8_isScript_9 (by decide) rfl c2 ?_
        refine p_iconst (v := (1 : Int32)) kiconst_1 dX8_isScript_12 rfl ?_
        refine p_goto (tgt := 17) dX8_isScript_13 (by decide) ?_
        exact J _
noncomputable def f8_step (p1 : Int32) (p2 : Int32) (p3 : Int32) (h : qH) : Option (Int32) :=
  (f8_isScript p1 h).bind fun (z1 : Int32) =>
  if z1 = 0 then (
    some (-1000000 : Int32))
  else (
    if p2 < 0 then (
      some (-1000000 : Int32))
    else (
      qg (qin p1 4) <|
      if p2 < (h.1 ([23, 27, 31, 35].getD (ix p1) 0) 3) then (
        if p3 = (0 : Int32) then (
          qg (qin p1 4) <|
          qg (qin p2 16) <|
          some (h.1 (([23, 27, 31, 35].getD (ix p1) 0) + 1) (ix p2)))
        else (
          if p3 = (1 : Int32) then (
          qg (qin p1 4) <|
          qg (qin p2 16) <|
          some (h.1 (([23, 27, 31, 35].getD (ix p1) 0) + 2) (ix p2)))
        else (
          if p3 = (2 : Int32) then (
          qg (qin p1 4) <|
          qg (qin p2 16) <|
          some (h.1 (([23, 27, 31, 35].getD (ix p1) 0) + 3) (ix p2)))
        else (
          some (-1000000 : Int32)))))
      else (
        some (-1000000 : Int32))))
set_option maxRecDepth 100000 in
set_option maxHeartbeats 4000000 in
theorem m8_step (l : Launch) (p1 : Int32) (p2 : Int32) (p3 : Int32) : qMet UX ROX l yX8_step (qws yX8_step cX8_step 4 (some .int)) R8_step [.ref 0, .int p1, .int p2, .int p3] (f8_step p1 p2 p3) qEr := by
  refine q_met (own := RX8) 0 (by decide) rfl (Nat.le_of_ble_eq_true rfl) (ls := [some (.ref 0), some (.int p1), some (.int p2), some (.int p3)]) rfl fun h => ?_
  unfold f8_step
  refine p_aload_n rfl dX8_step_0 rfl ?_
  refine p_iload_n rfl dX8_step_1 rfl ?_
  refine p_callVr (f := f8_isScript p1) (st := []) [.int p1] qRokX (m8_isScript l p1) cal_RX8_335 uX_0 rfl rfl ⟨rfl, rfl⟩ ⟨Nat.le_of_ble_eq_true rfl, Nat.le_of_ble_eq_true rfl⟩ (Nat.le_of_ble_eq_true rfl) dX8_step_2 rfl (fun z1 => ?_)
  refine p_if (fun c2 => ?_) (fun c2 => ?_)
  · refine p_if_eq_t (tgt := 25) dX8_step_5 (by decide) c2 ?_
    refine p_ldc (v := (-1000000 : Int32)) kcRX8_207 dX8_step_25 rfl ?_
    exact p_iret rfl rfl dX8_step_27
  · refine p_if_eq_f (tgt := 25) dX8_step_5 (by decide) rfl c2 ?_
    refine p_iload_n rfl dX8_step_8 rfl ?_
    refine p_if (fun c3 => ?_) (fun c3 => ?_)
    · refine p_if_lt_t (tgt := 25) dX8_step_9 (by decide) c3 ?_
      refine p_ldc (v := (-1000000 : Int32)) kcRX8_207 dX8_step_25 rfl ?_
      exact p_iret rfl rfl dX8_step_27
    · refine p_if_lt_f (tgt := 25) dX8_step_9 (by decide) rfl c3 ?_
      refine p_iload_n rfl dX8_step_12 rfl ?_
      refine p_aload_n rfl dX8_step_13 rfl ?_
      refine p_getr qg_RX8_37 uX_0 rfl dX8_step_14 rfl ?_
      refine p_iload_n rfl dX8_step_17 rfl ?_
      refine p_aald uX_22 rfl dX8_step_18 rfl (fun hq4 => ?_)
      refine p_geti qg_RX8_338 (uX_Script (kScript_at hq4)) rfl dX8_step_19 rfl ?_
      refine p_if (fun c5 => ?_) (fun c5 => ?_)
      · refine p_icmp_lt_t (tgt := 28) dX8_step_22 (by decide) c5 ?_
        refine p_iload_n rfl dX8_step_28 rfl ?_
        refine p_if (fun c6 => ?_) (fun c6 => ?_)
        · refine p_swI (v := (0 : Int32)) (tgt := 56) dX8_step_29 c6 (by decide) (by decide) rfl (by decide) ?_
          refine p_aload_n rfl dX8_step_56 rfl ?_
          refine p_getr qg_RX8_37 uX_0 rfl dX8_step_57 rfl ?_
          refine p_iload_n rfl dX8_step_60 rfl ?_
          refine p_aald uX_22 rfl dX8_step_61 rfl (fun hq7 => ?_)
          refine p_getr qg_RX8_341 (uX_Script (kScript_at hq7)) rfl dX8_step_62 rfl ?_
          refine p_iload_n rfl dX8_step_65 rfl ?_
          refine p_iald (uX_Script_1 (kScript_at hq7)) dX8_step_66 rfl (fun _ => ?_)
          exact p_iret rfl rfl dX8_step_67
        · refine p_if (fun c8 => ?_) (fun c8 => ?_)
          · refine p_swI (v := (1 : Int32)) (tgt := 68) dX8_step_29 c8 (by decide) (by decide) rfl (by decide) ?_
            refine p_aload_n rfl dX8_step_68 rfl ?_
            refine p_getr qg_RX8_37 uX_0 rfl dX8_step_69 rfl ?_
            refine p_iload_n rfl dX8_step_72 rfl ?_
            refine p_aald uX_22 rfl dX8_step_73 rfl (fun hq9 => ?_)
            refine p_getr qg_RX8_344 (uX_Script (kScript_at hq9)) rfl dX8_step_74 rfl ?_
            refine p_iload_n rfl dX8_step_77 rfl ?_
            refine p_iald (uX_Script_2 (kScript_at hq9)) dX8_step_78 rfl (fun _ => ?_)
            exact p_iret rfl rfl dX8_step_79
          · refine p_if (fun c10 => ?_) (fun c10 => ?_)
            · refine p_swI (v := (2 : Int32)) (tgt := 80) dX8_step_29 c10 (by decide) (by decide) rfl (by decide) ?_
              refine p_aload_n rfl dX8_step_80 rfl ?_
              refine p_getr qg_RX8_37 uX_0 rfl dX8_step_81 rfl ?_
              refine p_iload_n rfl dX8_step_84 rfl ?_
              refine p_aald uX_22 rfl dX8_step_85 rfl (fun hq11 => ?_)
              refine p_getr qg_RX8_347 (uX_Script (kScript_at hq11)) rfl dX8_step_86 rfl ?_
              refine p_iload_n rfl dX8_step_89 rfl ?_
              refine p_iald (uX_Script_3 (kScript_at hq11)) dX8_step_90 rfl (fun _ => ?_)
              exact p_iret rfl rfl dX8_step_91
            · refine p_swO (tgt := 92) dX8_step_29 (by
                  have c6' := lv_neT c6 (a := 0) (by decide)
                  have c8' := lv_neT c8 (a := 1) (by decide)
                  have c10' := lv_neT c10 (a := 2) (by decide)
                  omega) (by decide) ?_
              refine p_ldc (v := (-1000000 : Int32)) kcRX8_207 dX8_step_92 rfl ?_
              exact p_iret rfl rfl dX8_step_94
      · refine p_icmp_lt_f (tgt := 28) dX8_step_22 (by decide) rfl c5 ?_
        refine p_ldc (v := (-1000000 : Int32)) kcRX8_207 dX8_step_25 rfl ?_
        exact p_iret rfl rfl dX8_step_27
noncomputable def f8_tryScript_L6 (p1 : Nat) (k : Int32 → qH → Option (Int32 × qH)) : Nat → Int32 → qH → Option (Int32 × qH)
  | 0, _, _ => none
  | n + 1, x2, h3 =>
    if (h3.1 p1 3) ≤ x2 then (
      k x2 h3)
    else (
      qg (qin x2 16) <|
      qg (qin x2 16) <|
      qg (qin x2 16) <|
      (f7_refusal 63 (h3.1 (p1 + 1) (ix x2)) (h3.1 (p1 + 2) (ix x2)) (h3.1 (p1 + 3) (ix x2)) h3).bind fun (z5 : Int32) =>
      if z5 = (-1 : Int32) then (
        qg (qin x2 16) <|
        qg (qin x2 16) <|
        qg (qin x2 16) <|
        qb2 (f7_carryOut 63 (h3.1 (p1 + 1) (ix x2)) (h3.1 (p1 + 2) (ix x2)) (h3.1 (p1 + 3) (ix x2)) h3) fun (z7 : Int32) (h8 : qH) =>
        qlt (x2 + (1 : Int32)) fun (x9 : Int32) =>
        f8_tryScript_L6 p1 k n x9 h8)
      else (
        some (x2, h3)))
set_option maxRecDepth 100000 in
set_option maxHeartbeats 4000000 in
theorem w8_tryScript_L6 (l : Launch) (h0 : qH) (p1 : Nat) (hp1 : kScript p1) {k : Int32 → qH → Option (Int32 × qH)} (hk : ∀ (x2 : Int32) (h3 : qH), PW UX ROX l R8_tryScript cX8_tryScript 3 (some .int) RX8 (qEw h0) 77 [some (.ref 0), some (.ref p1), some (.int x2)] [] h3 (k x2 h3)) : ∀ (n : Nat) (x2 : Int32) (h3 : qH), PW UX ROX l R8_tryScript cX8_tryScript 3 (some .int) RX8 (qEw h0) 6 [some (.ref 0), some (.ref p1), some (.int x2)] [] h3 (f8_tryScript_L6 p1 k n x2 h3) := by
  intro n
  induction n with
  | zero => intro _ _; exact p_none
  | succ n ih =>
    intro x2 h3
    unfold f8_tryScript_L6
    refine p_iload_n rfl dX8_tryScript_6 rfl ?_
    refine p_aload_n rfl dX8_tryScript_7 rfl ?_
    refine p_geti qg_RX8_338 (uX_Script hp1) rfl dX8_tryScript_8 rfl ?_
    refine p_if (fun c4 => ?_) (fun c4 => ?_)
    · refine p_icmp_ge_t (tgt := 77) dX8_tryScript_11 (by decide) c4 ?_
      exact hk x2 h3
    · refine p_icmp_ge_f (tgt := 77) dX8_tryScript_11 (by decide) rfl c4 ?_
      refine p_aload_n rfl dX8_tryScript_14 rfl ?_
      refine p_getr qg_RX8_64 uX_0 rfl dX8_tryScript_15 rfl ?_
      refine p_aload_n rfl dX8_tryScript_18 rfl ?_
      refine p_getr qg_RX8_341 (uX_Script hp1) rfl dX8_tryScript_19 rfl ?_
      refine p_iload_n rfl dX8_tryScript_22 rfl ?_
      refine p_iald (uX_Script_1 hp1) dX8_tryScript_23 rfl (fun _ => ?_)
      refine p_aload_n rfl dX8_tryScript_24 rfl ?_
      refine p_getr qg_RX8_344 (uX_Script hp1) rfl dX8_tryScript_25 rfl ?_
      refine p_iload_n rfl dX8_tryScript_28 rfl ?_
      refine p_iald (uX_Script_2 hp1) dX8_tryScript_29 rfl (fun _ => ?_)
      refine p_aload_n rfl dX8_tryScript_30 rfl ?_
      refine p_getr qg_RX8_347 (uX_Script hp1) rfl dX8_tryScript_31 rfl ?_
      refine p_iload_n rfl dX8_tryScript_34 rfl ?_
      refine p_iald (uX_Script_3 hp1) dX8_tryScript_35 rfl (fun _ => ?_)
      refine p_callVr (f := f7_refusal 63 (h3.1 (p1 + 1) (ix x2)) (h3.1 (p1 + 2) (ix x2)) (h3.1 (p1 + 3) (ix x2))) (st := []) [.int (h3.1 (p1 + 1) (ix x2)), .int (h3.1 (p1 + 2) (ix x2)), .int (h3.1 (p1 + 3) (ix x2))] qRokX (m7_refusal l (kStage_63) (h3.1 (p1 + 1) (ix x2)) (h3.1 (p1 + 2) (ix x2)) (h3.1 (p1 + 3) (ix x2))) cal_RX8_252 uX_63 rfl rfl ⟨rfl, rfl⟩ ⟨Nat.le_of_ble_eq_true rfl, Nat.le_of_ble_eq_true rfl⟩ (Nat.le_of_ble_eq_true rfl) dX8_tryScript_36 rfl (fun z5 => ?_)
      refine p_iconst (v := (-1 : Int32)) kiconst_m1 dX8_tryScript_39 rfl ?_
      refine p_if (fun c6 => ?_) (fun c6 => ?_)
      · refine p_icmp_eq_t (tgt := 45) dX8_tryScript_40 (by decide) c6 ?_
        refine p_aload_n rfl dX8_tryScript_45 rfl ?_
        refine p_getr qg_RX8_64 uX_0 rfl dX8_tryScript_46 rfl ?_
        refine p_aload_n rfl dX8_tryScript_49 rfl ?_
        refine p_getr qg_RX8_341 (uX_Script hp1) rfl dX8_tryScript_50 rfl ?_
        refine p_iload_n rfl dX8_tryScript_53 rfl ?_
        refine p_iald (uX_Script_1 hp1) dX8_tryScript_54 rfl (fun _ => ?_)
        refine p_aload_n rfl dX8_tryScript_55 rfl ?_
        refine p_getr qg_RX8_344 (uX_Script hp1) rfl dX8_tryScript_56 rfl ?_
        refine p_iload_n rfl dX8_tryScript_59 rfl ?_
        refine p_iald (uX_Script_2 hp1) dX8_tryScript_60 rfl (fun _ => ?_)
        refine p_aload_n rfl dX8_tryScript_61 rfl ?_
        refine p_getr qg_RX8_347 (uX_Script hp1) rfl dX8_tryScript_62 rfl ?_
        refine p_iload_n rfl dX8_tryScript_65 rfl ?_
        refine p_iald (uX_Script_3 hp1) dX8_tryScript_66 rfl (fun _ => ?_)
        refine p_cVw (f := f7_carryOut 63 (h3.1 (p1 + 1) (ix x2)) (h3.1 (p1 + 2) (ix x2)) (h3.1 (p1 + 3) (ix x2))) (st := []) [.int (h3.1 (p1 + 1) (ix x2)), .int (h3.1 (p1 + 2) (ix x2)), .int (h3.1 (p1 + 3) (ix x2))] qRokX (m7_carryOut l (kStage_63) (h3.1 (p1 + 1) (ix x2)) (h3.1 (p1 + 2) (ix x2)) (h3.1 (p1 + 3) (ix x2))) cal_RX8_260 uX_63 rfl rfl ⟨rfl, rfl⟩ ⟨Nat.le_of_ble_eq_true rfl, Nat.le_of_ble_eq_true rfl⟩ (Nat.le_of_ble_eq_true rfl) dX8_tryScript_67 rfl (fun z7 h8 => ?_)
        refine p_pop rfl dX8_tryScript_70 rfl ?_
        refine p_iiN (v := (1 : Int32)) (lf := fun x9 => [some (.ref 0), some (.ref p1), some (.int x9)]) kiconst_1 dX8_tryScript_71 rfl rfl rfl rfl (fun _ => rfl) (fun x9 => ?_)
        refine p_goto (tgt := 6) dX8_tryScript_74 (by decide) ?_
        exact ih x9 h8
      · refine p_icmp_eq_f (tgt := 45) dX8_tryScript_40 (by decide) rfl c6 ?_
        refine p_iload_n rfl dX8_tryScript_43 rfl ?_
        exact p_iret rfl rfl dX8_tryScript_44
noncomputable def f8_tryScript (p1 : Nat) (h : qH) : Option (Int32 × qH) :=
  (f8_beginTrial h).bind fun (h1 : qH) =>
  f8_tryScript_L6 p1 (fun (x10 : Int32) (h11 : qH) =>
    some ((h11.1 p1 3), h11)) qN (0 : Int32) h1
set_option maxRecDepth 100000 in
set_option maxHeartbeats 4000000 in
theorem m8_tryScript (l : Launch) {p1 : Nat} (hp1 : kScript p1) : qMet UX ROX l yX8_tryScript (qws yX8_tryScript cX8_tryScript 3 (some .int)) R8_tryScript [.ref 0, .ref p1] (f8_tryScript p1) qEw := by
  refine q_met (own := RX8) 1 (by decide) rfl (Nat.le_of_ble_eq_true rfl) (ls := [some (.ref 0), some (.ref p1), none]) rfl fun h => ?_
  unfold f8_tryScript
  show PW UX ROX l R8_tryScript cX8_tryScript 3 (some .int) RX8 (qEw h) 0 [some (.ref 0), some (.ref p1), none] [] h _
  refine p_aload_n rfl dX8_tryScript_0 rfl ?_
  refine p_callVv (f := f8_beginTrial) (st := []) [] qRokX (m8_beginTrial l) cal_RX8_323 uX_0 rfl rfl ⟨rfl, rfl⟩ ⟨Nat.le_of_ble_eq_true rfl, Nat.le_of_ble_eq_true rfl⟩ (Nat.le_of_ble_eq_true rfl) dX8_tryScript_1 rfl (fun h1 => ?_)
  refine p_iconst (v := (0 : Int32)) kiconst_0 dX8_tryScript_4 rfl ?_
  refine p_is_n (ls' := [some (.ref 0), some (.ref p1), some (.int (0 : Int32))]) dX8_tryScript_5 rfl rfl rfl rfl ?_
  refine w8_tryScript_L6 l h p1 hp1 (fun x10 h11 => ?_) qN _ _
  refine p_aload_n rfl dX8_tryScript_77 rfl ?_
  refine p_geti qg_RX8_338 (uX_Script hp1) rfl dX8_tryScript_78 rfl ?_
  exact p_iret rfl rfl dX8_tryScript_81
