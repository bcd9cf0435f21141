noncomputable def f9_digit (h : qH) : Option (Int32 × qH) :=
  if (h.1 0 4) = (-1 : Int32) then (
    qb2 (f9_ahead h) fun (z2 : Int32) (h3 : qH) =>
    (f9_isDigit z2 h3).bind fun (z4 : Int32) =>
    if z4 = 0 then (
      (f9_bad h3).bind fun (h6 : qH) =>
      some ((0 : Int32), h6))
    else (
      (f9_here h3).bind fun (z7 : Int32) =>
      qlt (z7 - (48 : Int32)) fun (x8 : Int32) =>
      qlt (qw h3 0 3 ((h3.1 0 3) + (1 : Int32))) fun (h9 : qH) =>
      some (x8, h9)))
  else (
    (f9_bad h).bind fun (h10 : qH) =>
    some ((0 : Int32), h10))
set_option maxRecDepth 100000 in
set_option maxHeartbeats 4000000 in
theorem m9_digit (l : Launch) : qMet UM ROM l yX9_digit (qws yX9_digit cX9_digit 2 (some .int)) R9_digit [.ref 0] f9_digit qEw := by
  refine q_met (own := RX9) 1 (by decide) rfl (Nat.le_of_ble_eq_true rfl) (ls := [some (.ref 0), none]) rfl fun h => ?_
  unfold f9_digit
  show PW UM ROM l R9_digit cX9_digit 2 (some .int) RX9 (qEw h) 0 [some (.ref 0), none] [] h _
  refine p_aload_n rfl dX9_digit_0 rfl ?_
  refine p_geti qg_RX9_87 uM_0 rfl dX9_digit_1 rfl ?_
  refine p_iconst (v := (-1 : Int32)) kiconst_m1 dX9_digit_4 rfl ?_
  refine p_if (fun c1 => ?_) (fun c1 => ?_)
  · refine p_icmp_ne_f (tgt := 18) dX9_digit_5 (by decide) rfl c1 ?_
    refine p_aload_n rfl dX9_digit_8 rfl ?_
    refine p_cVw (f := f9_ahead) (st := []) [] qRokM (m9_ahead l) cal_RX9_90 uM_0 rfl rfl ⟨rfl, rfl⟩ ⟨Nat.le_of_ble_eq_true rfl, Nat.le_of_ble_eq_true rfl⟩ (Nat.le_of_ble_eq_true rfl) dX9_digit_9 rfl (fun z2 h3 => ?_)
    refine p_callSr (f := f9_isDigit z2) (st := []) [.int z2] qRokM (m9_isDigit l z2) cal_RX9_93 rfl ⟨rfl, rfl⟩ ⟨Nat.le_of_ble_eq_true rfl, Nat.le_of_ble_eq_true rfl⟩ (Nat.le_of_ble_eq_true rfl) dX9_digit_12 rfl (fun z4 => ?_)
    refine p_if (fun c5 => ?_) (fun c5 => ?_)
    · refine p_if_ne_f (tgt := 24) dX9_digit_15 (by decide) rfl c5 ?_
      refine p_aload_n rfl dX9_digit_18 rfl ?_
      refine p_callVv (f := f9_bad) (st := []) [] qRokM (m9_bad l) cal_RX9_97 uM_0 rfl rfl ⟨rfl, rfl⟩ ⟨Nat.le_of_ble_eq_true rfl, Nat.le_of_ble_eq_true rfl⟩ (Nat.le_of_ble_eq_true rfl) dX9_digit_19 rfl (fun h6 => ?_)
      refine p_iconst (v := (0 : Int32)) kiconst_0 dX9_digit_22 rfl ?_
      exact p_iret rfl rfl dX9_digit_23
    · refine p_if_ne_t (tgt := 24) dX9_digit_15 (by decide) c5 ?_
      refine p_aload_n rfl dX9_digit_24 rfl ?_
      refine p_callVr (f := f9_here) (st := []) [] qRokM (m9_here l) cal_RX9_83 uM_0 rfl rfl ⟨rfl, rfl⟩ ⟨Nat.le_of_ble_eq_true rfl, Nat.le_of_ble_eq_true rfl⟩ (Nat.le_of_ble_eq_true rfl) dX9_digit_25 rfl (fun z7 => ?_)
      refine p_bipush (v := (48 : Int32)) kbipush_48 dX9_digit_28 rfl ?_
      refine p_isub dX9_digit_30 rfl ?_
      refine p_isN_n (lf := fun x8 => [some (.ref 0), some (.int x8)]) dX9_digit_31 rfl rfl rfl (fun _ => rfl) (fun x8 => ?_)
      refine p_aload_n rfl dX9_digit_32 rfl ?_
      refine p_dup rfl dX9_digit_33 rfl ?_
      refine p_geti qg_RX9_80 uM_0 rfl dX9_digit_34 rfl ?_
      refine p_iconst (v := (1 : Int32)) kiconst_1 dX9_digit_37 rfl ?_
      refine p_iadd dX9_digit_38 rfl ?_
      refine p_puti qokM qp_RX9_80 uM_0 rfl dX9_digit_39 rfl ?_
      refine p_nmH (fun h9 => ?_)
      refine p_iload_n rfl dX9_digit_42 rfl ?_
      exact p_iret rfl rfl dX9_digit_43
  · refine p_icmp_ne_t (tgt := 18) dX9_digit_5 (by decide) c1 ?_
    refine p_aload_n rfl dX9_digit_18 rfl ?_
    refine p_callVv (f := f9_bad) (st := []) [] qRokM (m9_bad l) cal_RX9_97 uM_0 rfl rfl ⟨rfl, rfl⟩ ⟨Nat.le_of_ble_eq_true rfl, Nat.le_of_ble_eq_true rfl⟩ (Nat.le_of_ble_eq_true rfl) dX9_digit_19 rfl (fun h10 => ?_)
    refine p_iconst (v := (0 : Int32)) kiconst_0 dX9_digit_22 rfl ?_
    exact p_iret rfl rfl dX9_digit_23
noncomputable def f9_comma (h : qH) : Option (qH) :=
  qj (fun (h1 : qH) =>
    some h1) fun j2 =>
  if (h.1 0 4) = (-1 : Int32) then (
    qb2 (f9_ahead h) fun (z5 : Int32) (h6 : qH) =>
    if z5 = (44 : Int32) then (
      qlt (qw h6 0 3 ((h6.1 0 3) + (1 : Int32))) fun (h8 : qH) =>
      j2 h8)
    else (
      (f9_bad h6).bind fun (h9 : qH) =>
      j2 h9))
  else (
    (f9_bad h).bind fun (h10 : qH) =>
    j2 h10)
set_option maxRecDepth 100000 in
set_option maxHeartbeats 4000000 in
theorem m9_comma (l : Launch) : qMet UM ROM l yX9_comma (qws yX9_comma cX9_comma 1 none) R9_comma [.ref 0] f9_comma qEv := by
  refine q_met (own := RX9) 0 (by decide) rfl (Nat.le_of_ble_eq_true rfl) (ls := [some (.ref 0)]) rfl fun h => ?_
  unfold f9_comma
  show PW UM ROM l R9_comma cX9_comma 1 none RX9 (qEv h) 0 [some (.ref 0)] [] h _
  refine p_aload_n rfl dX9_comma_0 rfl ?_
  refine p_geti qg_RX9_87 uM_0 rfl dX9_comma_1 rfl ?_
  refine p_iconst (v := (-1 : Int32)) kiconst_m1 dX9_comma_4 rfl ?_
  refine p_jn (fun j2 => ∀ (h1 : qH), PW UM ROM l R9_comma cX9_comma 1 none RX9 (qEv h) 34 [some (.ref 0)] [] h1 (j2 h1)) (fun h1 => ?_) (fun j2 J3 => ?_)
  · exact p_vret rfl rfl dX9_comma_34
  · refine p_if (fun c4 => ?_) (fun c4 => ?_)
    · refine p_icmp_ne_f (tgt := 30) dX9_comma_5 (by decide) rfl c4 ?_
      refine p_aload_n rfl dX9_comma_8 rfl ?_
      refine p_cVw (f := f9_ahead) (st := []) [] qRokM (m9_ahead l) cal_RX9_90 uM_0 rfl rfl ⟨rfl, rfl⟩ ⟨Nat.le_of_ble_eq_true rfl, Nat.le_of_ble_eq_true rfl⟩ (Nat.le_of_ble_eq_true rfl) dX9_comma_9 rfl (fun z5 h6 => ?_)
      refine p_bipush (v := (44 : Int32)) kbipush_44 dX9_comma_12 rfl ?_
      refine p_if (fun c7 => ?_) (fun c7 => ?_)
      · refine p_icmp_ne_f (tgt := 30) dX9_comma_14 (by decide) rfl c7 ?_
        refine p_aload_n rfl dX9_comma_17 rfl ?_
        refine p_dup rfl dX9_comma_18 rfl ?_
        refine p_geti qg_RX9_80 uM_0 rfl dX9_comma_19 rfl ?_
        refine p_iconst (v := (1 : Int32)) kiconst_1 dX9_comma_22 rfl ?_
        refine p_iadd dX9_comma_23 rfl ?_
        refine p_puti qokM qp_RX9_80 uM_0 rfl dX9_comma_24 rfl ?_
        refine p_nmH (fun h8 => ?_)
        refine p_goto (tgt := 34) dX9_comma_27 (by decide) ?_
        exact J3 h8
      · refine p_icmp_ne_t (tgt := 30) dX9_comma_14 (by decide) c7 ?_
        refine p_aload_n rfl dX9_comma_30 rfl ?_
        refine p_callVv (f := f9_bad) (st := []) [] qRokM (m9_bad l) cal_RX9_97 uM_0 rfl rfl ⟨rfl, rfl⟩ ⟨Nat.le_of_ble_eq_true rfl, Nat.le_of_ble_eq_true rfl⟩ (Nat.le_of_ble_eq_true rfl) dX9_comma_31 rfl (fun h9 => ?_)
        exact J3 h9
    · refine p_icmp_ne_t (tgt := 30) dX9_comma_5 (by decide) c4 ?_
      refine p_aload_n rfl dX9_comma_30 rfl ?_
      refine p_callVv (f := f9_bad) (st := []) [] qRokM (m9_bad l) cal_RX9_97 uM_0 rfl rfl ⟨rfl, rfl⟩ ⟨Nat.le_of_ble_eq_true rfl, Nat.le_of_ble_eq_true rfl⟩ (Nat.le_of_ble_eq_true rfl) dX9_comma_31 rfl (fun h10 => ?_)
      exact J3 h10
noncomputable def f9_readStep (p1 : Int32) (h : qH) : Option (qH) :=
  qb2 (f9_ahead h) fun (z1 : Int32) (h2 : qH) =>
  (f9_sortOf z1 h2).bind fun (z3 : Int32) =>
  if z3 = (-1 : Int32) then (
    (f9_bad h2).bind fun (h5 : qH) =>
    some h5)
  else (
    qlt (qw h2 0 3 ((h2.1 0 3) + (1 : Int32))) fun (h6 : qH) =>
    qg (qin p1 240) <|
    qlt (qw h6 7 (ix p1) z3) fun (h7 : qH) =>
    qg (qin (p1 + (1 : Int32)) 240) <|
    qlt (qw h7 7 (ix (p1 + (1 : Int32))) (-1 : Int32)) fun (h8 : qH) =>
    qg (qin (p1 + (2 : Int32)) 240) <|
    qlt (qw h8 7 (ix (p1 + (2 : Int32))) (-1 : Int32)) fun (h9 : qH) =>
    qj (fun (h10 : qH) =>
      qb2 (f9_number (0 : Int32) (99 : Int32) h10) fun (z13 : Int32) (h14 : qH) =>
      qg (qin (p1 + (1 : Int32)) 240) <|
      qlt (qw h14 7 (ix (p1 + (1 : Int32))) z13) fun (h15 : qH) =>
      some h15) fun j11 =>
    if z3 = (0 : Int32) then (
      j11 h9)
    else (
      if z3 = (1 : Int32) then (
      some h9)
    else (
      if z3 = (3 : Int32) then (
      j11 h9)
    else (
      if z3 = (7 : Int32) then (
      some h9)
    else (
      if z3 = (9 : Int32) then (
      j11 h9)
    else (
      if z3 = (10 : Int32) then (
      some h9)
    else (
      qb2 (f9_digit h9) fun (z22 : Int32) (h23 : qH) =>
      qg (qin (p1 + (1 : Int32)) 240) <|
      qlt (qw h23 7 (ix (p1 + (1 : Int32))) z22) fun (h24 : qH) =>
      qj (fun (h25 : qH) =>
        some h25) fun j26 =>
      qj ((f9_comma h24).bind fun (h30 : qH) =>
        qb2 (f9_digit h30) fun (z31 : Int32) (h32 : qH) =>
        qg (qin (p1 + (2 : Int32)) 240) <|
        qlt (qw h32 7 (ix (p1 + (2 : Int32))) z31) fun (h33 : qH) =>
        j26 h33) fun j28 =>
      if z3 = (2 : Int32) then (
        j28)
      else (
        if z3 = (6 : Int32) then (
          j28)
        else (
          j26 h24)))))))))
set_option maxRecDepth 100000 in
set_option maxHeartbeats 4000000 in
theorem m9_readStep (l : Launch) (p1 : Int32) : qMet UM ROM l yX9_readStep (qws yX9_readStep cX9_readStep 3 none) R9_readStep [.ref 0, .int p1] (f9_readStep p1) qEv := by
  refine q_met (own := RX9) 1 (by decide) rfl (Nat.le_of_ble_eq_true rfl) (ls := [some (.ref 0), some (.int p1), none]) rfl fun h => ?_
  unfold f9_readStep
  show PW UM ROM l R9_readStep cX9_readStep 3 none RX9 (qEv h) 0 [some (.ref 0), some (.int p1), none] [] h _
  refine p_aload_n rfl dX9_readStep_0 rfl ?_
  refine p_cVw (f := f9_ahead) (st := []) [] qRokM (m9_ahead l) cal_RX9_90 uM_0 rfl rfl ⟨rfl, rfl⟩ ⟨Nat.le_of_ble_eq_true rfl, Nat.le_of_ble_eq_true rfl⟩ (Nat.le_of_ble_eq_true rfl) dX9_readStep_1 rfl (fun z1 h2 => ?_)
  refine p_callSr (f := f9_sortOf z1) (st := []) [.int z1] qRokM (m9_sortOf l z1) cal_RX9_134 rfl ⟨rfl, rfl⟩ ⟨Nat.le_of_ble_eq_true rfl, Nat.le_of_ble_eq_true rfl⟩ (Nat.le_of_ble_eq_true rfl) dX9_readStep_4 rfl (fun z3 => ?_)
  refine p_is_n (ls' := [some (.ref 0), some (.int p1), some (.int z3)]) dX9_readStep_7 rfl rfl rfl rfl ?_
  refine p_iload_n rfl dX9_readStep_8 rfl ?_
  refine p_iconst (v := (-1 : Int32)) kiconst_m1 dX9_readStep_9 rfl ?_
  refine p_if (fun c4 => ?_) (fun c4 => ?_)
  · refine p_icmp_ne_f (tgt := 18) dX9_readStep_10 (by decide) rfl c4 ?_
    refine p_aload_n rfl dX9_readStep_13 rfl ?_
    refine p_callVv (f := f9_bad) (st := []) [] qRokM (m9_bad l) cal_RX9_97 uM_0 rfl rfl ⟨rfl, rfl⟩ ⟨Nat.le_of_ble_eq_true rfl, Nat.le_of_ble_eq_true rfl⟩ (Nat.le_of_ble_eq_true rfl) dX9_readStep_14 rfl (fun h5 => ?_)
    exact p_vret rfl rfl dX9_readStep_17
  · refine p_icmp_ne_t (tgt := 18) dX9_readStep_10 (by decide) c4 ?_
    refine p_aload_n rfl dX9_readStep_18 rfl ?_
    refine p_dup rfl dX9_readStep_19 rfl ?_
    refine p_geti qg_RX9_80 uM_0 rfl dX9_readStep_20 rfl ?_
    refine p_iconst (v := (1 : Int32)) kiconst_1 dX9_readStep_23 rfl ?_
    refine p_iadd dX9_readStep_24 rfl ?_
    refine p_puti qokM qp_RX9_80 uM_0 rfl dX9_readStep_25 rfl ?_
    refine p_nmH (fun h6 => ?_)
    refine p_aload_n rfl dX9_readStep_28 rfl ?_
    refine p_getr qg_RX9_28 uM_0 rfl dX9_readStep_29 rfl ?_
    refine p_iload_n rfl dX9_readStep_32 rfl ?_
    refine p_iload_n rfl dX9_readStep_33 rfl ?_
    refine p_iast qokM uM_7 dX9_readStep_34 rfl (fun _ => ?_)
    refine p_nmH (fun h7 => ?_)
    refine p_aload_n rfl dX9_readStep_35 rfl ?_
    refine p_getr qg_RX9_28 uM_0 rfl dX9_readStep_36 rfl ?_
    refine p_iload_n rfl dX9_readStep_39 rfl ?_
    refine p_iconst (v := (1 : Int32)) kiconst_1 dX9_readStep_40 rfl ?_
    refine p_iadd dX9_readStep_41 rfl ?_
    refine p_iconst (v := (-1 : Int32)) kiconst_m1 dX9_readStep_42 rfl ?_
    refine p_iast qokM uM_7 dX9_readStep_43 rfl (fun _ => ?_)
    refine p_nmH (fun h8 => ?_)
    refine p_aload_n rfl dX9_readStep_44 rfl ?_
    refine p_getr qg_RX9_28 uM_0 rfl dX9_readStep_45 rfl ?_
    refine p_iload_n rfl dX9_readStep_48 rfl ?_
    refine p_iconst (v := (2 : Int32)) kiconst_2 dX9_readStep_49 rfl ?_
    refine p_iadd dX9_readStep_50 rfl ?_
    refine p_iconst (v := (-1 : Int32)) kiconst_m1 dX9_readStep_51 rfl ?_
    refine p_iast qokM uM_7 dX9_readStep_52 rfl (fun _ => ?_)
    refine p_nmH (fun h9 => ?_)
    refine p_iload_n rfl dX9_readStep_53 rfl ?_
    refine p_jn (fun j11 => ∀ (h10 : qH), PW UM ROM l R9_readStep cX9_readStep 3 none RX9 (qEv h) 113 [some (.ref 0), some (.int p1), some (.int z3)] [] h10 (j11 h10)) (fun h10 => ?_) (fun j11 J12 => ?_)
    · refine p_aload_n rfl dX9_readStep_113 rfl ?_
      refine p_getr qg_RX9_28 uM_0 rfl dX9_readStep_114 rfl ?_
      refine p_iload_n rfl dX9_readStep_117 rfl ?_
      refine p_iconst (v := (1 : Int32)) kiconst_1 dX9_readStep_118 rfl ?_
      refine p_iadd dX9_readStep_119 rfl ?_
      refine p_aload_n rfl dX9_readStep_120 rfl ?_
      refine p_iconst (v := (0 : Int32)) kiconst_0 dX9_readStep_121 rfl ?_
      refine p_bipush (v := (99 : Int32)) kbipush_99 dX9_readStep_122 rfl ?_
      refine p_cVw (f := f9_number (0 : Int32) (99 : Int32)) (st := [.int (p1 + (1 : Int32)), .ref 7]) [.int (0 : Int32), .int (99 : Int32)] qRokM (m9_number l (0 : Int32) (99 : Int32)) cal_RX9_121 uM_0 rfl rfl ⟨rfl, rfl⟩ ⟨Nat.le_of_ble_eq_true rfl, Nat.le_of_ble_eq_true rfl⟩ (Nat.le_of_ble_eq_true rfl) dX9_readStep_124 rfl (fun z13 h14 => ?_)
      refine p_iast qokM uM_7 dX9_readStep_127 rfl (fun _ => ?_)
      refine p_nmH (fun h15 => ?_)
      exact p_vret rfl rfl dX9_readStep_128
    · refine p_if (fun c16 => ?_) (fun c16 => ?_)
      · refine p_swI (v := (0 : Int32)) (tgt := 113) dX9_readStep_54 c16 (by decide) (by decide) rfl (by decide) ?_
        exact J12 h9
      · refine p_if (fun c17 => ?_) (fun c17 => ?_)
        · refine p_swI (v := (1 : Int32)) (tgt := 112) dX9_readStep_54 c17 (by decide) (by decide) rfl (by decide) ?_
          exact p_vret rfl rfl dX9_readStep_112
        · refine p_if (fun c18 => ?_) (fun c18 => ?_)
          · refine p_swI (v := (3 : Int32)) (tgt := 113) dX9_readStep_54 c18 (by decide) (by decide) rfl (by decide) ?_
            exact J12 h9
          · refine p_if (fun c19 => ?_) (fun c19 => ?_)
            · refine p_swI (v := (7 : Int32)) (tgt := 112) dX9_readStep_54 c19 (by decide) (by decide) rfl (by decide) ?_
              exact p_vret rfl rfl dX9_readStep_112
            · refine p_if (fun c20 => ?_) (fun c20 => ?_)
              · refine p_swI (v := (9 : Int32)) (tgt := 113) dX9_readStep_54 c20 (by decide) (by decide) rfl (by decide) ?_
                exact J12 h9
              · refine p_if (fun c21 => ?_) (fun c21 => ?_)
                · refine p_swI (v := (10 : Int32)) (tgt := 112) dX9_readStep_54 c21 (by decide) (by decide) rfl (by decide) ?_
                  exact p_vret rfl rfl dX9_readStep_112
                · refine p_sv (pcJ := 129) (stJ := []) ?_ (fun D36 => ?_)
                  · refine p_aload_n rfl dX9_readStep_129 rfl ?_
                    refine p_getr qg_RX9_28 uM_0 rfl dX9_readStep_130 rfl ?_
                    refine p_iload_n rfl dX9_readStep_133 rfl ?_
                    refine p_iconst (v := (1 : Int32)) kiconst_1 dX9_readStep_134 rfl ?_
                    refine p_iadd dX9_readStep_135 rfl ?_
                    refine p_aload_n rfl dX9_readStep_136 rfl ?_
                    refine p_cVw (f := f9_digit) (st := [.int (p1 + (1 : Int32)), .ref 7]) [] qRokM (m9_digit l) cal_RX9_137 uM_0 rfl rfl ⟨rfl, rfl⟩ ⟨Nat.le_of_ble_eq_true rfl, Nat.le_of_ble_eq_true rfl⟩ (Nat.le_of_ble_eq_true rfl) dX9_readStep_137 rfl (fun z22 h23 => ?_)
                    refine p_iast qokM uM_7 dX9_readStep_140 rfl (fun _ => ?_)
                    refine p_nmH (fun h24 => ?_)
                    refine p_iload_n rfl dX9_readStep_141 rfl ?_
                    refine p_iconst (v := (2 : Int32)) kiconst_2 dX9_readStep_142 rfl ?_
                    refine p_jn (fun j26 => ∀ (h25 : qH), PW UM ROM l R9_readStep cX9_readStep 3 none RX9 (qEv h) 168 [some (.ref 0), some (.int p1), some (.int z3)] [] h25 (j26 h25)) (fun h25 => ?_) (fun j26 J27 => ?_)
                    · exact p_vret rfl rfl dX9_readStep_168
                    · refine p_jn (fun j28 => PW UM ROM l R9_readStep cX9_readStep 3 none RX9 (qEv h) 152 [some (.ref 0), some (.int p1), some (.int z3)] [] h24 j28) ?_ (fun j28 J29 => ?_)
                      · refine p_aload_n rfl dX9_readStep_152 rfl ?_
                        refine p_callVv (f := f9_comma) (st := []) [] qRokM (m9_comma l) cal_RX9_140 uM_0 rfl rfl ⟨rfl, rfl⟩ ⟨Nat.le_of_ble_eq_true rfl, Nat.le_of_ble_eq_true rfl⟩ (Nat.le_of_ble_eq_true rfl) dX9_readStep_153 rfl (fun h30 => ?_)
                        refine p_aload_n rfl dX9_readStep_156 rfl ?_
                        refine p_getr qg_RX9_28 uM_0 rfl dX9_readStep_157 rfl ?_
                        refine p_iload_n rfl dX9_readStep_160 rfl ?_
                        refine p_iconst (v := (2 : Int32)) kiconst_2 dX9_readStep_161 rfl ?_
                        refine p_iadd dX9_readStep_162 rfl ?_
                        refine p_aload_n rfl dX9_readStep_163 rfl ?_
                        refine p_cVw (f := f9_digit) (st := [.int (p1 + (2 : Int32)), .ref 7]) [] qRokM (m9_digit l) cal_RX9_137 uM_0 rfl rfl ⟨rfl, rfl⟩ ⟨Nat.le_of_ble_eq_true rfl, Nat.le_of_ble_eq_true rfl⟩ (Nat.le_of_ble_eq_true rfl) dX9_readStep_164 rfl (fun z31 h32 => ?_)
                        refine p_iast qokM uM_7 dX9_readStep_167 rfl (fun _ => ?_)
                        refine p_nmH (fun h33 => ?_)
                        exact J27 h33
                      · refine p_if (fun c34 => ?_) (fun c34 => ?_)
                        · refine p_icmp_eq_t (tgt := 152) dX9_readStep_143 (by decide) c34 ?_
                          exact J29
                        · refine p_icmp_eq_f (tgt := 152) dX9_readStep_143 (by decide) rfl c34 ?_
                          refine p_iload_n rfl dX9_readStep_146 rfl ?_
                          refine p_bipush (v := (6 : Int32)) kbipush_6 dX9_readStep_147 rfl ?_
                          refine p_if (fun c35 => ?_) (fun c35 => ?_)
                          · refine p_icmp_ne_f (tgt := 168) dX9_readStep_149 (by decide) rfl c35 ?_
                            exact J29
                          · refine p_icmp_ne_t (tgt := 168) dX9_readStep_149 (by decide) c35 ?_
                            exact J27 h24
                  · by_cases e37 : z3 = (2 : Int32)
                    · exact p_swI (v := (2 : Int32)) (tgt := 129) dX9_readStep_54 e37 (by decide) (by decide) rfl (by decide) D36
                    by_cases e38 : z3 = (4 : Int32)
                    · exact p_swI (v := (4 : Int32)) (tgt := 129) dX9_readStep_54 e38 (by decide) (by decide) rfl (by decide) D36
                    by_cases e39 : z3 = (5 : Int32)
                    · exact p_swI (v := (5 : Int32)) (tgt := 129) dX9_readStep_54 e39 (by decide) (by decide) rfl (by decide) D36
                    by_cases e40 : z3 = (6 : Int32)
                    · exact p_swI (v := (6 : Int32)) (tgt := 129) dX9_readStep_54 e40 (by decide) (by decide) rfl (by decide) D36
                    by_cases e41 : z3 = (8 : Int32)
                    · exact p_swI (v := (8 : Int32)) (tgt := 129) dX9_readStep_54 e41 (by decide) (by decide) rfl (by decide) D36
                    exact p_swO (tgt := 129) dX9_readStep_54 (by
                        have c16' := lv_neT c16 (a := 0) (by decide)
                        have c17' := lv_neT c17 (a := 1) (by decide)
                        have c18' := lv_neT c18 (a := 3) (by decide)
                        have c19' := lv_neT c19 (a := 7) (by decide)
                        have c20' := lv_neT c20 (a := 9) (by decide)
                        have c21' := lv_neT c21 (a := 10) (by decide)
                        have e37' := lv_neT e37 (a := 2) (by decide)
                        have e38' := lv_neT e38 (a := 4) (by decide)
                        have e39' := lv_neT e39 (a := 5) (by decide)
                        have e40' := lv_neT e40 (a := 6) (by decide)
                        have e41' := lv_neT e41 (a := 8) (by decide)
                        omega) (by decide) D36
noncomputable def f9_readScript_L19 (p1 : Int32) (k : Int32 → qH → Option (Int32 × qH)) : Nat → Int32 → qH → Option (Int32 × qH)
  | 0, _, _ => none
  | n + 1, x4, h5 =>
    if x4 = 0 then (
      k x4 h5)
    else (
      qg (qin p1 5) <|
      (f9_readStep ((3 : Int32) * (((16 : Int32) * p1) + (h5.1 8 (ix p1)))) h5).bind fun (h7 : qH) =>
      qg (qin p1 5) <|
      qg (qin p1 5) <|
      qlt (qw h7 8 (ix p1) ((h7.1 8 (ix p1)) + (1 : Int32))) fun (h8 : qH) =>
      qj (fun (x9 : Int32) (h10 : qH) =>
        qlt (if x9 = 0 then (0 : Int32) else (1 : Int32)) fun (x14 : Int32) =>
        qlt (qw h10 0 3 ((h10.1 0 3) + x14)) fun (h15 : qH) =>
        f9_readScript_L19 p1 k n x9 h15) fun j11 =>
      if (h8.1 0 4) = (-1 : Int32) then (
        qb2 (f9_ahead h8) fun (z17 : Int32) (h18 : qH) =>
        if z17 = (59 : Int32) then (
          qg (qin p1 5) <|
          if (16 : Int32) ≤ (h18.1 8 (ix p1)) then (
            j11 (0 : Int32) h18)
          else (
            j11 (1 : Int32) h18))
        else (
          j11 (0 : Int32) h18))
      else (
        j11 (0 : Int32) h8))
set_option maxRecDepth 100000 in
set_option maxHeartbeats 4000000 in
theorem w9_readScript_L19 (l : Launch) (h0 : qH) (p1 : Int32) {k : Int32 → qH → Option (Int32 × qH)} (hk : ∀ (x4 : Int32) (h5 : qH), PW UM ROM l R9_readScript cX9_readScript 3 (some .int) RX9 (qEw h0) 105 [some (.ref 0), some (.int p1), some (.int x4)] [] h5 (k x4 h5)) : ∀ (n : Nat) (x4 : Int32) (h5 : qH), PW UM ROM l R9_readScript cX9_readScript 3 (some .int) RX9 (qEw h0) 19 [some (.ref 0), some (.int p1), some (.int x4)] [] h5 (f9_readScript_L19 p1 k n x4 h5) := by
  intro n
  induction n with
  | zero => intro _ _; exact p_none
  | succ n ih =>
    intro x4 h5
    unfold f9_readScript_L19
    refine p_iload_n rfl dX9_readScript_19 rfl ?_
    refine p_if (fun c6 => ?_) (fun c6 => ?_)
    · refine p_if_eq_t (tgt := 105) dX9_readScript_20 (by decide) c6 ?_
      exact hk x4 h5
    · refine p_if_eq_f (tgt := 105) dX9_readScript_20 (by decide) rfl c6 ?_
      refine p_aload_n rfl dX9_readScript_23 rfl ?_
      refine p_iconst (v := (3 : Int32)) kiconst_3 dX9_readScript_24 rfl ?_
      refine p_bipush (v := (16 : Int32)) kbipush_16 dX9_readScript_25 rfl ?_
      refine p_iload_n rfl dX9_readScript_27 rfl ?_
      refine p_imul dX9_readScript_28 rfl ?_
      refine p_aload_n rfl dX9_readScript_29 rfl ?_
      refine p_getr qg_RX9_31 uM_0 rfl dX9_readScript_30 rfl ?_
      refine p_iload_n rfl dX9_readScript_33 rfl ?_
      refine p_iald uM_8 dX9_readScript_34 rfl (fun _ => ?_)
      refine p_iadd dX9_readScript_35 rfl ?_
      refine p_imul dX9_readScript_36 rfl ?_
      refine p_callVv (f := f9_readStep ((3 : Int32) * (((16 : Int32) * p1) + (h5.1 8 (ix p1))))) (st := []) [.int ((3 : Int32) * (((16 : Int32) * p1) + (h5.1 8 (ix p1))))] qRokM (m9_readStep l ((3 : Int32) * (((16 : Int32) * p1) + (h5.1 8 (ix p1))))) cal_RX9_143 uM_0 rfl rfl ⟨rfl, rfl⟩ ⟨Nat.le_of_ble_eq_true rfl, Nat.le_of_ble_eq_true rfl⟩ (Nat.le_of_ble_eq_true rfl) dX9_readScript_37 rfl (fun h7 => ?_)
      refine p_aload_n rfl dX9_readScript_40 rfl ?_
      refine p_getr qg_RX9_31 uM_0 rfl dX9_readScript_41 rfl ?_
      refine p_iload_n rfl dX9_readScript_44 rfl ?_
      refine p_dup2 rfl rfl dX9_readScript_45 rfl ?_
      refine p_iald uM_8 dX9_readScript_46 rfl (fun _ => ?_)
      refine p_iconst (v := (1 : Int32)) kiconst_1 dX9_readScript_47 rfl ?_
      refine p_iadd dX9_readScript_48 rfl ?_
      refine p_iast qokM uM_8 dX9_readScript_49 rfl (fun _ => ?_)
      refine p_nmH (fun h8 => ?_)
      refine p_aload_n rfl dX9_readScript_50 rfl ?_
      refine p_geti qg_RX9_87 uM_0 rfl dX9_readScript_51 rfl ?_
      refine p_iconst (v := (-1 : Int32)) kiconst_m1 dX9_readScript_54 rfl ?_
      refine p_jn (fun j11 => ∀ (x9 : Int32) (h10 : qH), PW UM ROM l R9_readScript cX9_readScript 3 (some .int) RX9 (qEw h0) 83 [some (.ref 0), some (.int p1), some (.int x4)] [.int x9] h10 (j11 x9 h10)) (fun x9 h10 => ?_) (fun j11 J12 => ?_)
      · refine p_is_n (ls' := [some (.ref 0), some (.int p1), some (.int x9)]) dX9_readScript_83 rfl rfl rfl rfl ?_
        refine p_aload_n rfl dX9_readScript_84 rfl ?_
        refine p_dup rfl dX9_readScript_85 rfl ?_
        refine p_geti qg_RX9_80 uM_0 rfl dX9_readScript_86 rfl ?_
        refine p_iload_n rfl dX9_readScript_89 rfl ?_
        refine p_vj 98 [some (.ref 0), some (.int p1), some (.int x9)] [.int (h10.1 0 3), .ref 0] (fun x14 => ?_) (fun J => ?_)
        · refine p_iadd dX9_readScript_98 rfl ?_
          refine p_puti qokM qp_RX9_80 uM_0 rfl dX9_readScript_99 rfl ?_
          refine p_nmH (fun h15 => ?_)
          refine p_goto (tgt := 19) dX9_readScript_102 (by decide) ?_
          exact ih x9 h15
        · refine p_dia (fun c13 => ?_) (fun c13 => ?_)
          · refine p_if_eq_t (tgt := 97) dX9_readScript_90 (by decide) c13 ?_
            refine p_iconst (v := (0 : Int32)) kiconst_0 dX9_readScript_97 rfl ?_
            exact J _
          · refine p_if_eq_f (tgt := 97) dX9_readScript_90 (by decide) rfl c13 ?_
            refine p_iconst (v := (1 : Int32)) kiconst_1 dX9_readScript_93 rfl ?_
            refine p_goto (tgt := 98) dX9_readScript_94 (by decide) ?_
            exact J _
      · refine p_if (fun c16 => ?_) (fun c16 => ?_)
        · refine p_icmp_ne_f (tgt := 82) dX9_readScript_55 (by decide) rfl c16 ?_
          refine p_aload_n rfl dX9_readScript_58 rfl ?_
          refine p_cVw (f := f9_ahead) (st := []) [] qRokM (m9_ahead l) cal_RX9_90 uM_0 rfl rfl ⟨rfl, rfl⟩ ⟨Nat.le_of_ble_eq_true rfl, Nat.le_of_ble_eq_true rfl⟩ (Nat.le_of_ble_eq_true rfl) dX9_readScript_59 rfl (fun z17 h18 => ?_)
          refine p_bipush (v := (59 : Int32)) kbipush_59 dX9_readScript_62 rfl ?_
          refine p_if (fun c19 => ?_) (fun c19 => ?_)
          · refine p_icmp_ne_f (tgt := 82) dX9_readScript_64 (by decide) rfl c19 ?_
            refine p_aload_n rfl dX9_readScript_67 rfl ?_
            refine p_getr qg_RX9_31 uM_0 rfl dX9_readScript_68 rfl ?_
            refine p_iload_n rfl dX9_readScript_71 rfl ?_
            refine p_iald uM_8 dX9_readScript_72 rfl (fun _ => ?_)
            refine p_bipush (v := (16 : Int32)) kbipush_16 dX9_readScript_73 rfl ?_
            refine p_if (fun c20 => ?_) (fun c20 => ?_)
            · refine p_icmp_ge_t (tgt := 82) dX9_readScript_75 (by decide) c20 ?_
              refine p_iconst (v := (0 : Int32)) kiconst_0 dX9_readScript_82 rfl ?_
              exact J12 (0 : Int32) h18
            · refine p_icmp_ge_f (tgt := 82) dX9_readScript_75 (by decide) rfl c20 ?_
              refine p_iconst (v := (1 : Int32)) kiconst_1 dX9_readScript_78 rfl ?_
              refine p_goto (tgt := 83) dX9_readScript_79 (by decide) ?_
              exact J12 (1 : Int32) h18
          · refine p_icmp_ne_t (tgt := 82) dX9_readScript_64 (by decide) c19 ?_
            refine p_iconst (v := (0 : Int32)) kiconst_0 dX9_readScript_82 rfl ?_
            exact J12 (0 : Int32) h18
        · refine p_icmp_ne_t (tgt := 82) dX9_readScript_55 (by decide) c16 ?_
          refine p_iconst (v := (0 : Int32)) kiconst_0 dX9_readScript_82 rfl ?_
          exact J12 (0 : Int32) h8
noncomputable def f9_readScript (p1 : Int32) (h : qH) : Option (Int32 × qH) :=
  qlt (qw h 0 3 (0 : Int32)) fun (h1 : qH) =>
  qlt (qw h1 0 4 (-1 : Int32)) fun (h2 : qH) =>
  qg (qin p1 5) <|
  qlt (qw h2 8 (ix p1) (0 : Int32)) fun (h3 : qH) =>
  f9_readScript_L19 p1 (fun (x21 : Int32) (h22 : qH) =>
    qj (fun (h23 : qH) =>
      some ((h23.1 0 4), h23)) fun j24 =>
    if (h22.1 0 4) = (-1 : Int32) then (
      qb2 (f9_ahead h22) fun (z27 : Int32) (h28 : qH) =>
      if z27 = (-1 : Int32) then (
        j24 h28)
      else (
        (f9_bad h28).bind fun (h30 : qH) =>
        j24 h30))
    else (
      j24 h22)) qN (1 : Int32) h3
set_option maxRecDepth 100000 in
set_option maxHeartbeats 4000000 in
theorem m9_readScript (l : Launch) (p1 : Int32) : qMet UM ROM l yX9_readScript (qws yX9_readScript cX9_readScript 3 (some .int)) R9_readScript [.ref 0, .int p1] (f9_readScript p1) qEw := by
  refine q_met (own := RX9) 1 (by decide) rfl (Nat.le_of_ble_eq_true rfl) (ls := [some (.ref 0), some (.int p1), none]) rfl fun h => ?_
  unfold f9_readScript
  show PW UM ROM l R9_readScript cX9_readScript 3 (some .int) RX9 (qEw h) 0 [some (.ref 0), some (.int p1), none] [] h _
  refine p_aload_n rfl dX9_readScript_0 rfl ?_
  refine p_iconst (v := (0 : Int32)) kiconst_0 dX9_readScript_1 rfl ?_
  refine p_puti qokM qp_RX9_80 uM_0 rfl dX9_readScript_2 rfl ?_
  refine p_nmH (fun h1 => ?_)
  refine p_aload_n rfl dX9_readScript_5 rfl ?_
  refine p_iconst (v := (-1 : Int32)) kiconst_m1 dX9_readScript_6 rfl ?_
  refine p_puti qokM qp_RX9_87 uM_0 rfl dX9_readScript_7 rfl ?_
  refine p_nmH (fun h2 => ?_)
  refine p_aload_n rfl dX9_readScript_10 rfl ?_
  refine p_getr qg_RX9_31 uM_0 rfl dX9_readScript_11 rfl ?_
  refine p_iload_n rfl dX9_readScript_14 rfl ?_
  refine p_iconst (v := (0 : Int32)) kiconst_0 dX9_readScript_15 rfl ?_
  refine p_iast qokM uM_8 dX9_readScript_16 rfl (fun _ => ?_)
  refine p_nmH (fun h3 => ?_)
  refine p_iconst (v := (1 : Int32)) kiconst_1 dX9_readScript_17 rfl ?_
  refine p_is_n (ls' := [some (.ref 0), some (.int p1), some (.int (1 : Int32))]) dX9_readScript_18 rfl rfl rfl rfl ?_
  refine w9_readScript_L19 l h p1 (fun x21 h22 => ?_) qN _ _
  refine p_aload_n rfl dX9_readScript_105 rfl ?_
  refine p_geti qg_RX9_87 uM_0 rfl dX9_readScript_106 rfl ?_
  refine p_iconst (v := (-1 : Int32)) kiconst_m1 dX9_readScript_109 rfl ?_
  refine p_jn (fun j24 => ∀ (h23 : qH), PW UM ROM l R9_readScript cX9_readScript 3 (some .int) RX9 (qEw h) 125 [some (.ref 0), some (.int p1), some (.int x21)] [] h23 (j24 h23)) (fun h23 => ?_) (fun j24 J25 => ?_)
  · refine p_aload_n rfl dX9_readScript_125 rfl ?_
    refine p_geti qg_RX9_87 uM_0 rfl dX9_readScript_126 rfl ?_
    exact p_iret rfl rfl dX9_readScript_129
  · refine p_if (fun c26 => ?_) (fun c26 => ?_)
    · refine p_icmp_ne_f (tgt := 125) dX9_readScript_110 (by decide) rfl c26 ?_
      refine p_aload_n rfl dX9_readScript_113 rfl ?_
      refine p_cVw (f := f9_ahead) (st := []) [] qRokM (m9_ahead l) cal_RX9_90 uM_0 rfl rfl ⟨rfl, rfl⟩ ⟨Nat.le_of_ble_eq_true rfl, Nat.le_of_ble_eq_true rfl⟩ (Nat.le_of_ble_eq_true rfl) dX9_readScript_114 rfl (fun z27 h28 => ?_)
      refine p_iconst (v := (-1 : Int32)) kiconst_m1 dX9_readScript_117 rfl ?_
      refine p_if (fun c29 => ?_) (fun c29 => ?_)
      · refine p_icmp_eq_t (tgt := 125) dX9_readScript_118 (by decide) c29 ?_
        exact J25 h28
      · refine p_icmp_eq_f (tgt := 125) dX9_readScript_118 (by decide) rfl c29 ?_
        refine p_aload_n rfl dX9_readScript_121 rfl ?_
        refine p_callVv (f := f9_bad) (st := []) [] qRokM (m9_bad l) cal_RX9_97 uM_0 rfl rfl ⟨rfl, rfl⟩ ⟨Nat.le_of_ble_eq_true rfl, Nat.le_of_ble_eq_true rfl⟩ (Nat.le_of_ble_eq_true rfl) dX9_readScript_122 rfl (fun h30 => ?_)
        exact J25 h30
    · refine p_icmp_ne_t (tgt := 125) dX9_readScript_110 (by decide) c26 ?_
      exact J25 h22
noncomputable def f9_fault (p1 : Int32) (h : qH) : Option (Int32 × qH) :=
  qj (fun (x1 : Int32) (h2 : qH) =>
    some (x1, h2)) fun j3 =>
  if p1 = 0 then (
    qb2 (f9_readHall h) fun (z6 : Int32) (h7 : qH) =>
    j3 z6 h7)
  else (
    if p1 = (1 : Int32) then (
      qb2 (f9_readScript (4 : Int32) h) fun (z9 : Int32) (h10 : qH) =>
      j3 z9 h10)
    else (
      j3 (-2 : Int32) h))
set_option maxRecDepth 100000 in
set_option maxHeartbeats 4000000 in
theorem m9_fault (l : Launch) (p1 : Int32) : qMet UM ROM l yX9_fault (qws yX9_fault cX9_fault 2 (some .int)) R9_fault [.ref 0, .int p1] (f9_fault p1) qEw := by
  refine q_met (own := RX9) 0 (by decide) rfl (Nat.le_of_ble_eq_true rfl) (ls := [some (.ref 0), some (.int p1)]) rfl fun h => ?_
  unfold f9_fault
  show PW UM ROM l R9_fault cX9_fault 2 (some .int) RX9 (qEw h) 0 [some (.ref 0), some (.int p1)] [] h _
  refine p_iload_n rfl dX9_fault_0 rfl ?_
  refine p_jn (fun j3 => ∀ (x1 : Int32) (h2 : qH), PW UM ROM l R9_fault cX9_fault 2 (some .int) RX9 (qEw h) 26 [some (.ref 0), some (.int p1)] [.int x1] h2 (j3 x1 h2)) (fun x1 h2 => ?_) (fun j3 J4 => ?_)
  · exact p_iret rfl rfl dX9_fault_26
  · refine p_if (fun c5 => ?_) (fun c5 => ?_)
    · refine p_if_ne_f (tgt := 11) dX9_fault_1 (by decide) rfl c5 ?_
      refine p_aload_n rfl dX9_fault_4 rfl ?_
      refine p_cVw (f := f9_readHall) (st := []) [] qRokM (m9_readHall l) cal_RX9_147 uM_0 rfl rfl ⟨rfl, rfl⟩ ⟨Nat.le_of_ble_eq_true rfl, Nat.le_of_ble_eq_true rfl⟩ (Nat.le_of_ble_eq_true rfl) dX9_fault_5 rfl (fun z6 h7 => ?_)
      refine p_goto (tgt := 26) dX9_fault_8 (by decide) ?_
      exact J4 z6 h7
    · refine p_if_ne_t (tgt := 11) dX9_fault_1 (by decide) c5 ?_
      refine p_iload_n rfl dX9_fault_11 rfl ?_
      refine p_iconst (v := (1 : Int32)) kiconst_1 dX9_fault_12 rfl ?_
      refine p_if (fun c8 => ?_) (fun c8 => ?_)
      · refine p_icmp_ne_f (tgt := 24) dX9_fault_13 (by decide) rfl c8 ?_
        refine p_aload_n rfl dX9_fault_16 rfl ?_
        refine p_iconst (v := (4 : Int32)) kiconst_4 dX9_fault_17 rfl ?_
        refine p_cVw (f := f9_readScript (4 : Int32)) (st := []) [.int (4 : Int32)] qRokM (m9_readScript l (4 : Int32)) cal_RX9_150 uM_0 rfl rfl ⟨rfl, rfl⟩ ⟨Nat.le_of_ble_eq_true rfl, Nat.le_of_ble_eq_true rfl⟩ (Nat.le_of_ble_eq_true rfl) dX9_fault_18 rfl (fun z9 h10 => ?_)
        refine p_goto (tgt := 26) dX9_fault_21 (by decide) ?_
        exact J4 z9 h10
      · refine p_icmp_ne_t (tgt := 24) dX9_fault_13 (by decide) c8 ?_
        refine p_bipush (v := (-2 : Int32)) kbipush_m2 dX9_fault_24 rfl ?_
        exact J4 (-2 : Int32) h
noncomputable def f9_isHall (h : qH) : Option (Int32) :=
  qlt (if (h.1 0 12) ≤ 0 then (0 : Int32) else (1 : Int32)) fun (x2 : Int32) =>
  qg (qbo x2) <|
  some x2
set_option maxRecDepth 100000 in
set_option maxHeartbeats 4000000 in
theorem m9_isHall (l : Launch) : qMet UM ROM l yX9_isHall (qws yX9_isHall cX9_isHall 1 (some .boolean)) R9_isHall [.ref 0] f9_isHall qEr := by
  refine q_met (own := RX9) 0 (by decide) rfl (Nat.le_of_ble_eq_true rfl) (ls := [some (.ref 0)]) rfl fun h => ?_
  unfold f9_isHall
  refine p_aload_n rfl dX9_isHall_0 rfl ?_
  refine p_geti qg_RX9_153 uM_0 rfl dX9_isHall_1 rfl ?_
  refine p_vj 12 [some (.ref 0)] [] (fun x2 => ?_) (fun J => ?_)
  · exact p_zretG rfl rfl dX9_isHall_12
  · refine p_dia (fun c1 => ?_) (fun c1 => ?_)
    · refine p_if_le_t (tgt := 11) dX9_isHall_4 (by decide) c1 ?_
      refine p_iconst (v := (0 : Int32)) kiconst_0 dX9_isHall_11 rfl ?_
      exact J _
    · refine p_if_le_f (tgt := 11) dX9_isHall_4 (by decide) rfl c1 ?_
      refine p_iconst (v := (1 : Int32)) kiconst_1 dX9_isHall_7 rfl ?_
      refine p_goto (tgt := 12) dX9_isHall_8 (by decide) ?_
      exact J _
noncomputable def f9_isTape (p1 : Int32) (h : qH) : Option (Int32) :=
  (f9_in p1 (0 : Int32) ((h.1 0 12) - (1 : Int32)) h).bind fun (z1 : Int32) =>
  qg (qbo z1) <|
  some z1
set_option maxRecDepth 100000 in
set_option maxHeartbeats 4000000 in
theorem m9_isTape (l : Launch) (p1 : Int32) : qMet UM ROM l yX9_isTape (qws yX9_isTape cX9_isTape 2 (some .boolean)) R9_isTape [.ref 0, .int p1] (f9_isTape p1) qEr := by
  refine q_met (own := RX9) 0 (by decide) rfl (Nat.le_of_ble_eq_true rfl) (ls := [some (.ref 0), some (.int p1)]) rfl fun h => ?_
  unfold f9_isTape
  refine p_iload_n rfl dX9_isTape_0 rfl ?_
  refine p_iconst (v := (0 : Int32)) kiconst_0 dX9_isTape_1 rfl ?_
  refine p_aload_n rfl dX9_isTape_2 rfl ?_
  refine p_geti qg_RX9_153 uM_0 rfl dX9_isTape_3 rfl ?_
  refine p_iconst (v := (1 : Int32)) kiconst_1 dX9_isTape_6 rfl ?_
  refine p_isub dX9_isTape_7 rfl ?_
  refine p_callSr (f := f9_in p1 (0 : Int32) ((h.1 0 12) - (1 : Int32))) (st := []) [.int p1, .int (0 : Int32), .int ((h.1 0 12) - (1 : Int32))] qRokM (m9_in l p1 (0 : Int32) ((h.1 0 12) - (1 : Int32))) cal_RX9_76 rfl ⟨rfl, rfl⟩ ⟨Nat.le_of_ble_eq_true rfl, Nat.le_of_ble_eq_true rfl⟩ (Nat.le_of_ble_eq_true rfl) dX9_isTape_8 rfl (fun z1 => ?_)
  exact p_zretG rfl rfl dX9_isTape_11
noncomputable def f9_isFile (p1 : Int32) (h : qH) : Option (Int32) :=
  (f9_isHall h).bind fun (z1 : Int32) =>
  qj (fun (x2 : Int32) =>
    qg (qbo x2) <|
    some x2) fun j3 =>
  if z1 = 0 then (
    j3 (0 : Int32))
  else (
    (f9_in p1 (0 : Int32) ((h.1 9 168) - (1 : Int32)) h).bind fun (z6 : Int32) =>
    if z6 = 0 then (
      j3 (0 : Int32))
    else (
      j3 (1 : Int32)))
set_option maxRecDepth 100000 in
set_option maxHeartbeats 4000000 in
theorem m9_isFile (l : Launch) (p1 : Int32) : qMet UM ROM l yX9_isFile (qws yX9_isFile cX9_isFile 2 (some .boolean)) R9_isFile [.ref 0, .int p1] (f9_isFile p1) qEr := by
  refine q_met (own := RX9) 0 (by decide) rfl (Nat.le_of_ble_eq_true rfl) (ls := [some (.ref 0), some (.int p1)]) rfl fun h => ?_
  unfold f9_isFile
  refine p_aload_n rfl dX9_isFile_0 rfl ?_
  refine p_callVr (f := f9_isHall) (st := []) [] qRokM (m9_isHall l) cal_RX9_156 uM_0 rfl rfl ⟨rfl, rfl⟩ ⟨Nat.le_of_ble_eq_true rfl, Nat.le_of_ble_eq_true rfl⟩ (Nat.le_of_ble_eq_true rfl) dX9_isFile_1 rfl (fun z1 => ?_)
  refine p_jn (fun j3 => ∀ (x2 : Int32), PW UM ROM l R9_isFile cX9_isFile 2 (some .boolean) RX9 (qEr h) 30 [some (.ref 0), some (.int p1)] [.int x2] h (j3 x2)) (fun x2 => ?_) (fun j3 J4 => ?_)
  · exact p_zretG rfl rfl dX9_isFile_30
  · refine p_if (fun c5 => ?_) (fun c5 => ?_)
    · refine p_if_eq_t (tgt := 29) dX9_isFile_4 (by decide) c5 ?_
      refine p_iconst (v := (0 : Int32)) kiconst_0 dX9_isFile_29 rfl ?_
      exact J4 (0 : Int32)
    · refine p_if_eq_f (tgt := 29) dX9_isFile_4 (by decide) rfl c5 ?_
      refine p_iload_n rfl dX9_isFile_7 rfl ?_
      refine p_iconst (v := (0 : Int32)) kiconst_0 dX9_isFile_8 rfl ?_
      refine p_aload_n rfl dX9_isFile_9 rfl ?_
      refine p_getr qg_RX9_34 uM_0 rfl dX9_isFile_10 rfl ?_
      refine p_sipush (v := (168 : Int32)) ksipush_168 dX9_isFile_13 rfl ?_
      refine p_ialdK uM_9 kix_168 kqin_168_353 dX9_isFile_16 rfl ?_
      refine p_iconst (v := (1 : Int32)) kiconst_1 dX9_isFile_17 rfl ?_
      refine p_isub dX9_isFile_18 rfl ?_
      refine p_callSr (f := f9_in p1 (0 : Int32) ((h.1 9 168) - (1 : Int32))) (st := []) [.int p1, .int (0 : Int32), .int ((h.1 9 168) - (1 : Int32))] qRokM (m9_in l p1 (0 : Int32) ((h.1 9 168) - (1 : Int32))) cal_RX9_76 rfl ⟨rfl, rfl⟩ ⟨Nat.le_of_ble_eq_true rfl, Nat.le_of_ble_eq_true rfl⟩ (Nat.le_of_ble_eq_true rfl) dX9_isFile_19 rfl (fun z6 => ?_)
      refine p_if (fun c7 => ?_) (fun c7 => ?_)
      · refine p_if_eq_t (tgt := 29) dX9_isFile_22 (by decide) c7 ?_
        refine p_iconst (v := (0 : Int32)) kiconst_0 dX9_isFile_29 rfl ?_
        exact J4 (0 : Int32)
      · refine p_if_eq_f (tgt := 29) dX9_isFile_22 (by decide) rfl c7 ?_
        refine p_iconst (v := (1 : Int32)) kiconst_1 dX9_isFile_25 rfl ?_
        refine p_goto (tgt := 30) dX9_isFile_26 (by decide) ?_
        exact J4 (1 : Int32)
noncomputable def f9_isHeld (p1 : Int32) (h : qH) : Option (Int32) :=
  (f9_isFile p1 h).bind fun (z1 : Int32) =>
  qj (fun (x2 : Int32) =>
    qg (qbo x2) <|
    some x2) fun j3 =>
  if z1 = 0 then (
    j3 (0 : Int32))
  else (
    qg (qin ((48 : Int32) + p1) 353) <|
    if (h.1 9 (ix ((48 : Int32) + p1))) = (-1 : Int32) then (
      j3 (0 : Int32))
    else (
      j3 (1 : Int32)))
set_option maxRecDepth 100000 in
set_option maxHeartbeats 4000000 in
theorem m9_isHeld (l : Launch) (p1 : Int32) : qMet UM ROM l yX9_isHeld (qws yX9_isHeld cX9_isHeld 2 (some .boolean)) R9_isHeld [.ref 0, .int p1] (f9_isHeld p1) qEr := by
  refine q_met (own := RX9) 0 (by decide) rfl (Nat.le_of_ble_eq_true rfl) (ls := [some (.ref 0), some (.int p1)]) rfl fun h => ?_
  unfold f9_isHeld
  refine p_aload_n rfl dX9_isHeld_0 rfl ?_
  refine p_iload_n rfl dX9_isHeld_1 rfl ?_
  refine p_callVr (f := f9_isFile p1) (st := []) [.int p1] qRokM (m9_isFile l p1) cal_RX9_160 uM_0 rfl rfl ⟨rfl, rfl⟩ ⟨Nat.le_of_ble_eq_true rfl, Nat.le_of_ble_eq_true rfl⟩ (Nat.le_of_ble_eq_true rfl) dX9_isHeld_2 rfl (fun z1 => ?_)
  refine p_jn (fun j3 => ∀ (x2 : Int32), PW UM ROM l R9_isHeld cX9_isHeld 2 (some .boolean) RX9 (qEr h) 26 [some (.ref 0), some (.int p1)] [.int x2] h (j3 x2)) (fun x2 => ?_) (fun j3 J4 => ?_)
  · exact p_zretG rfl rfl dX9_isHeld_26
  · refine p_if (fun c5 => ?_) (fun c5 => ?_)
    · refine p_if_eq_t (tgt := 25) dX9_isHeld_5 (by decide) c5 ?_
      refine p_iconst (v := (0 : Int32)) kiconst_0 dX9_isHeld_25 rfl ?_
      exact J4 (0 : Int32)
    · refine p_if_eq_f (tgt := 25) dX9_isHeld_5 (by decide) rfl c5 ?_
      refine p_aload_n rfl dX9_isHeld_8 rfl ?_
      refine p_getr qg_RX9_34 uM_0 rfl dX9_isHeld_9 rfl ?_
      refine p_bipush (v := (48 : Int32)) kbipush_48 dX9_isHeld_12 rfl ?_
      refine p_iload_n rfl dX9_isHeld_14 rfl ?_
      refine p_iadd dX9_isHeld_15 rfl ?_
      refine p_iald uM_9 dX9_isHeld_16 rfl (fun _ => ?_)
      refine p_iconst (v := (-1 : Int32)) kiconst_m1 dX9_isHeld_17 rfl ?_
      refine p_if (fun c6 => ?_) (fun c6 => ?_)
      · refine p_icmp_eq_t (tgt := 25) dX9_isHeld_18 (by decide) c6 ?_
        refine p_iconst (v := (0 : Int32)) kiconst_0 dX9_isHeld_25 rfl ?_
        exact J4 (0 : Int32)
      · refine p_icmp_eq_f (tgt := 25) dX9_isHeld_18 (by decide) rfl c6 ?_
        refine p_iconst (v := (1 : Int32)) kiconst_1 dX9_isHeld_21 rfl ?_
        refine p_goto (tgt := 26) dX9_isHeld_22 (by decide) ?_
        exact J4 (1 : Int32)
noncomputable def f9_isOn (p1 : Int32) (p2 : Int32) (h : qH) : Option (Int32) :=
  qg (qin ((48 : Int32) + p1) 353) <|
  qlt (if (h.1 9 (ix ((48 : Int32) + p1))) = p2 then (1 : Int32) else (0 : Int32)) fun (x2 : Int32) =>
  qg (qbo x2) <|
  some x2
set_option maxRecDepth 100000 in
set_option maxHeartbeats 4000000 in
theorem m9_isOn (l : Launch) (p1 : Int32) (p2 : Int32) : qMet UM ROM l yX9_isOn (qws yX9_isOn cX9_isOn 3 (some .boolean)) R9_isOn [.ref 0, .int p1, .int p2] (f9_isOn p1 p2) qEr := by
  refine q_met (own := RX9) 0 (by decide) rfl (Nat.le_of_ble_eq_true rfl) (ls := [some (.ref 0), some (.int p1), some (.int p2)]) rfl fun h => ?_
  unfold f9_isOn
  refine p_aload_n rfl dX9_isOn_0 rfl ?_
  refine p_getr qg_RX9_34 uM_0 rfl dX9_isOn_1 rfl ?_
  refine p_bipush (v := (48 : Int32)) kbipush_48 dX9_isOn_4 rfl ?_
  refine p_iload_n rfl dX9_isOn_6 rfl ?_
  refine p_iadd dX9_isOn_7 rfl ?_
  refine p_iald uM_9 dX9_isOn_8 rfl (fun _ => ?_)
  refine p_iload_n rfl dX9_isOn_9 rfl ?_
  refine p_vj 18 [some (.ref 0), some (.int p1), some (.int p2)] [] (fun x2 => ?_) (fun J => ?_)
  · exact p_zretG rfl rfl dX9_isOn_18
  · refine p_dia (fun c1 => ?_) (fun c1 => ?_)
    · refine p_icmp_ne_f (tgt := 17) dX9_isOn_10 (by decide) rfl c1 ?_
      refine p_iconst (v := (1 : Int32)) kiconst_1 dX9_isOn_13 rfl ?_
      refine p_goto (tgt := 18) dX9_isOn_14 (by decide) ?_
      exact J _
    · refine p_icmp_ne_t (tgt := 17) dX9_isOn_10 (by decide) c1 ?_
      refine p_iconst (v := (0 : Int32)) kiconst_0 dX9_isOn_17 rfl ?_
      exact J _
noncomputable def f9_blocksOfTape (h : qH) : Option (Int32) :=
  some ((h.1 5 2) * (h.1 5 3))
set_option maxRecDepth 100000 in
set_option maxHeartbeats 4000000 in
theorem m9_blocksOfTape (l : Launch) : qMet UM ROM l yX9_blocksOfTape (qws yX9_blocksOfTape cX9_blocksOfTape 1 (some .int)) R9_blocksOfTape [.ref 0] f9_blocksOfTape qEr := by
  refine q_met (own := RX9) 0 (by decide) rfl (Nat.le_of_ble_eq_true rfl) (ls := [some (.ref 0)]) rfl fun h => ?_
  unfold f9_blocksOfTape
  refine p_aload_n rfl dX9_blocksOfTape_0 rfl ?_
  refine p_getr qg_RX9_22 uM_0 rfl dX9_blocksOfTape_1 rfl ?_
  refine p_iconst (v := (2 : Int32)) kiconst_2 dX9_blocksOfTape_4 rfl ?_
  refine p_ialdK uM_5 kix_2 kqin_2_8 dX9_blocksOfTape_5 rfl ?_
  refine p_aload_n rfl dX9_blocksOfTape_6 rfl ?_
  refine p_getr qg_RX9_22 uM_0 rfl dX9_blocksOfTape_7 rfl ?_
  refine p_iconst (v := (3 : Int32)) kiconst_3 dX9_blocksOfTape_10 rfl ?_
  refine p_ialdK uM_5 kix_3 kqin_3_8 dX9_blocksOfTape_11 rfl ?_
  refine p_imul dX9_blocksOfTape_12 rfl ?_
  exact p_iret rfl rfl dX9_blocksOfTape_13
noncomputable def f9_isDriven (p1 : Int32) (h : qH) : Option (Int32) :=
  qg (qin ((0 : Int32) + p1) 353) <|
  qlt (if (h.1 9 (ix ((0 : Int32) + p1))) < (h.1 5 0) then (0 : Int32) else (1 : Int32)) fun (x2 : Int32) =>
  qg (qbo x2) <|
  some x2
set_option maxRecDepth 100000 in
set_option maxHeartbeats 4000000 in
theorem m9_isDriven (l : Launch) (p1 : Int32) : qMet UM ROM l yX9_isDriven (qws yX9_isDriven cX9_isDriven 2 (some .boolean)) R9_isDriven [.ref 0, .int p1] (f9_isDriven p1) qEr := by
  refine q_met (own := RX9) 0 (by decide) rfl (Nat.le_of_ble_eq_true rfl) (ls := [some (.ref 0), some (.int p1)]) rfl fun h => ?_
  unfold f9_isDriven
  refine p_aload_n rfl dX9_isDriven_0 rfl ?_
  refine p_getr qg_RX9_34 uM_0 rfl dX9_isDriven_1 rfl ?_
  refine p_iconst (v := (0 : Int32)) kiconst_0 dX9_isDriven_4 rfl ?_
  refine p_iload_n rfl dX9_isDriven_5 rfl ?_
  refine p_iadd dX9_isDriven_6 rfl ?_
  refine p_iald uM_9 dX9_isDriven_7 rfl (fun _ => ?_)
  refine p_aload_n rfl dX9_isDriven_8 rfl ?_
  refine p_getr qg_RX9_22 uM_0 rfl dX9_isDriven_9 rfl ?_
  refine p_iconst (v := (0 : Int32)) kiconst_0 dX9_isDriven_12 rfl ?_
  refine p_ialdK uM_5 kix_0 kqin_0_8 dX9_isDriven_13 rfl ?_
  refine p_vj 22 [some (.ref 0), some (.int p1)] [] (fun x2 => ?_) (fun J => ?_)
  · exact p_zretG rfl rfl dX9_isDriven_22
  · refine p_dia (fun c1 => ?_) (fun c1 => ?_)
    · refine p_icmp_lt_t (tgt := 21) dX9_isDriven_14 (by decide) c1 ?_
      refine p_iconst (v := (0 : Int32)) kiconst_0 dX9_isDriven_21 rfl ?_
      exact J _
    · refine p_icmp_lt_f (tgt := 21) dX9_isDriven_14 (by decide) rfl c1 ?_
      refine p_iconst (v := (1 : Int32)) kiconst_1 dX9_isDriven_17 rfl ?_
      refine p_goto (tgt := 22) dX9_isDriven_18 (by decide) ?_
      exact J _
noncomputable def f9_filesOn_L4 (p1 : Int32) (h : qH) (k : Int32 → Int32 → Option (Int32)) : Nat → Int32 → Int32 → Option (Int32)
  | 0, _, _ => none
  | n + 1, x1, x2 =>
    if (h.1 9 168) ≤ x2 then (
      k x1 x2)
    else (
      (f9_isOn x2 p1 h).bind fun (z4 : Int32) =>
      qlt (if z4 = 0 then (0 : Int32) else (1 : Int32)) fun (x6 : Int32) =>
      qlt (x1 + x6) fun (x7 : Int32) =>
      qlt (x2 + (1 : Int32)) fun (x8 : Int32) =>
      f9_filesOn_L4 p1 h k n x7 x8)
set_option maxRecDepth 100000 in
set_option maxHeartbeats 4000000 in
theorem w9_filesOn_L4 (l : Launch) (p1 : Int32) (h : qH) {k : Int32 → Int32 → Option (Int32)} (hk : ∀ (x1 : Int32) (x2 : Int32), PW UM ROM l R9_filesOn cX9_filesOn 4 (some .int) RX9 (qEr h) 39 [some (.ref 0), some (.int p1), some (.int x1), some (.int x2)] [] h (k x1 x2)) : ∀ (n : Nat) (x1 : Int32) (x2 : Int32), PW UM ROM l R9_filesOn cX9_filesOn 4 (some .int) RX9 (qEr h) 4 [some (.ref 0), some (.int p1), some (.int x1), some (.int x2)] [] h (f9_filesOn_L4 p1 h k n x1 x2) := by
  intro n
  induction n with
  | zero => intro _ _; exact p_none
  | succ n ih =>
    intro x1 x2
    unfold f9_filesOn_L4
    refine p_iload_n rfl dX9_filesOn_4 rfl ?_
    refine p_aload_n rfl dX9_filesOn_5 rfl ?_
    refine p_getr qg_RX9_34 uM_0 rfl dX9_filesOn_6 rfl ?_
    refine p_sipush (v := (168 : Int32)) ksipush_168 dX9_filesOn_9 rfl ?_
    refine p_ialdK uM_9 kix_168 kqin_168_353 dX9_filesOn_12 rfl ?_
    refine p_if (fun c3 => ?_) (fun c3 => ?_)
    · refine p_icmp_ge_t (tgt := 39) dX9_filesOn_13 (by decide) c3 ?_
      exact hk x1 x2
    · refine p_icmp_ge_f (tgt := 39) dX9_filesOn_13 (by decide) rfl c3 ?_
      refine p_iload_n rfl dX9_filesOn_16 rfl ?_
      refine p_aload_n rfl dX9_filesOn_17 rfl ?_
      refine p_iload_n rfl dX9_filesOn_18 rfl ?_
      refine p_iload_n rfl dX9_filesOn_19 rfl ?_
      refine p_callVr (f := f9_isOn x2 p1) (st := [.int x1]) [.int x2, .int p1] qRokM (m9_isOn l x2 p1) cal_RX9_163 uM_0 rfl rfl ⟨rfl, rfl⟩ ⟨Nat.le_of_ble_eq_true rfl, Nat.le_of_ble_eq_true rfl⟩ (Nat.le_of_ble_eq_true rfl) dX9_filesOn_20 rfl (fun z4 => ?_)
      refine p_vj 31 [some (.ref 0), some (.int p1), some (.int x1), some (.int x2)] [.int x1] (fun x6 => ?_) (fun J => ?_)
      · refine p_iadd dX9_filesOn_31 rfl ?_
        refine p_isN_n (lf := fun x7 => [some (.ref 0), some (.int p1), some (.int x7), some (.int x2)]) dX9_filesOn_32 rfl rfl rfl (fun _ => rfl) (fun x7 => ?_)
        refine p_iiN (v := (1 : Int32)) (lf := fun x8 => [some (.ref 0), some (.int p1), some (.int x7), some (.int x8)]) kiconst_1 dX9_filesOn_33 rfl rfl rfl rfl (fun _ => rfl) (fun x8 => ?_)
        refine p_goto (tgt := 4) dX9_filesOn_36 (by decide) ?_
        exact ih x7 x8
      · refine p_dia (fun c5 => ?_) (fun c5 => ?_)
        · refine p_if_eq_t (tgt := 30) dX9_filesOn_23 (by decide) c5 ?_
          refine p_iconst (v := (0 : Int32)) kiconst_0 dX9_filesOn_30 rfl ?_
          exact J _
        · refine p_if_eq_f (tgt := 30) dX9_filesOn_23 (by decide) rfl c5 ?_
          refine p_iconst (v := (1 : Int32)) kiconst_1 dX9_filesOn_26 rfl ?_
          refine p_goto (tgt := 31) dX9_filesOn_27 (by decide) ?_
          exact J _
noncomputable def f9_filesOn (p1 : Int32) (h : qH) : Option (Int32) :=
  f9_filesOn_L4 p1 h (fun (x9 : Int32) (x10 : Int32) =>
    some x9) qN (0 : Int32) (0 : Int32)
set_option maxRecDepth 100000 in
set_option maxHeartbeats 4000000 in
theorem m9_filesOn (l : Launch) (p1 : Int32) : qMet UM ROM l yX9_filesOn (qws yX9_filesOn cX9_filesOn 4 (some .int)) R9_filesOn [.ref 0, .int p1] (f9_filesOn p1) qEr := by
  refine q_met (own := RX9) 2 (by decide) rfl (Nat.le_of_ble_eq_true rfl) (ls := [some (.ref 0), some (.int p1), none, none]) rfl fun h => ?_
  unfold f9_filesOn
  refine p_iconst (v := (0 : Int32)) kiconst_0 dX9_filesOn_0 rfl ?_
  refine p_is_n (ls' := [some (.ref 0), some (.int p1), some (.int (0 : Int32)), none]) dX9_filesOn_1 rfl rfl rfl rfl ?_
  refine p_iconst (v := (0 : Int32)) kiconst_0 dX9_filesOn_2 rfl ?_
  refine p_is_n (ls' := [some (.ref 0), some (.int p1), some (.int (0 : Int32)), some (.int (0 : Int32))]) dX9_filesOn_3 rfl rfl rfl rfl ?_
  refine w9_filesOn_L4 l p1 h (fun x9 x10 => ?_) qN _ _
  refine p_iload_n rfl dX9_filesOn_39 rfl ?_
  exact p_iret rfl rfl dX9_filesOn_40
noncomputable def f9_blocksOn_L4 (p1 : Int32) (h : qH) (k : Int32 → Int32 → Option (Int32)) : Nat → Int32 → Int32 → Option (Int32)
  | 0, _, _ => none
  | n + 1, x1, x2 =>
    if (h.1 9 168) ≤ x2 then (
      k x1 x2)
    else (
      (f9_isOn x2 p1 h).bind fun (z4 : Int32) =>
      qj (fun (x5 : Int32) =>
        qlt (x1 + x5) fun (x8 : Int32) =>
        qlt (x2 + (1 : Int32)) fun (x9 : Int32) =>
        f9_blocksOn_L4 p1 h k n x8 x9) fun j6 =>
      if z4 = 0 then (
        j6 (0 : Int32))
      else (
        qg (qin ((96 : Int32) + x2) 353) <|
        j6 (h.1 9 (ix ((96 : Int32) + x2)))))
set_option maxRecDepth 100000 in
set_option maxHeartbeats 4000000 in
theorem w9_blocksOn_L4 (l : Launch) (p1 : Int32) (h : qH) {k : Int32 → Int32 → Option (Int32)} (hk : ∀ (x1 : Int32) (x2 : Int32), PW UM ROM l R9_blocksOn cX9_blocksOn 4 (some .int) RX9 (qEr h) 47 [some (.ref 0), some (.int p1), some (.int x1), some (.int x2)] [] h (k x1 x2)) : ∀ (n : Nat) (x1 : Int32) (x2 : Int32), PW UM ROM l R9_blocksOn cX9_blocksOn 4 (some .int) RX9 (qEr h) 4 [some (.ref 0), some (.int p1), some (.int x1), some (.int x2)] [] h (f9_blocksOn_L4 p1 h k n x1 x2) := by
  intro n
  induction n with
  | zero => intro _ _; exact p_none
  | succ n ih =>
    intro x1 x2
    unfold f9_blocksOn_L4
    refine p_iload_n rfl dX9_blocksOn_4 rfl ?_
    refine p_aload_n rfl dX9_blocksOn_5 rfl ?_
    refine p_getr qg_RX9_34 uM_0 rfl dX9_blocksOn_6 rfl ?_
    refine p_sipush (v := (168 : Int32)) ksipush_168 dX9_blocksOn_9 rfl ?_
    refine p_ialdK uM_9 kix_168 kqin_168_353 dX9_blocksOn_12 rfl ?_
    refine p_if (fun c3 => ?_) (fun c3 => ?_)
    · refine p_icmp_ge_t (tgt := 47) dX9_blocksOn_13 (by decide) c3 ?_
      exact hk x1 x2
    · refine p_icmp_ge_f (tgt := 47) dX9_blocksOn_13 (by decide) rfl c3 ?_
      refine p_iload_n rfl dX9_blocksOn_16 rfl ?_
      refine p_aload_n rfl dX9_blocksOn_17 rfl ?_
      refine p_iload_n rfl dX9_blocksOn_18 rfl ?_
      refine p_iload_n rfl dX9_blocksOn_19 rfl ?_
      refine p_callVr (f := f9_isOn x2 p1) (st := [.int x1]) [.int x2, .int p1] qRokM (m9_isOn l x2 p1) cal_RX9_163 uM_0 rfl rfl ⟨rfl, rfl⟩ ⟨Nat.le_of_ble_eq_true rfl, Nat.le_of_ble_eq_true rfl⟩ (Nat.le_of_ble_eq_true rfl) dX9_blocksOn_20 rfl (fun z4 => ?_)
      refine p_jn (fun j6 => ∀ (x5 : Int32), PW UM ROM l R9_blocksOn cX9_blocksOn 4 (some .int) RX9 (qEr h) 39 [some (.ref 0), some (.int p1), some (.int x1), some (.int x2)] [.int x5, .int x1] h (j6 x5)) (fun x5 => ?_) (fun j6 J7 => ?_)
      · refine p_iadd dX9_blocksOn_39 rfl ?_
        refine p_isN_n (lf := fun x8 => [some (.ref 0), some (.int p1), some (.int x8), some (.int x2)]) dX9_blocksOn_40 rfl rfl rfl (fun _ => rfl) (fun x8 => ?_)
        refine p_iiN (v := (1 : Int32)) (lf := fun x9 => [some (.ref 0), some (.int p1), some (.int x8), some (.int x9)]) kiconst_1 dX9_blocksOn_41 rfl rfl rfl rfl (fun _ => rfl) (fun x9 => ?_)
        refine p_goto (tgt := 4) dX9_blocksOn_44 (by decide) ?_
        exact ih x8 x9
      · refine p_if (fun c10 => ?_) (fun c10 => ?_)
        · refine p_if_eq_t (tgt := 38) dX9_blocksOn_23 (by decide) c10 ?_
          refine p_iconst (v := (0 : Int32)) kiconst_0 dX9_blocksOn_38 rfl ?_
          exact J7 (0 : Int32)
        · refine p_if_eq_f (tgt := 38) dX9_blocksOn_23 (by decide) rfl c10 ?_
          refine p_aload_n rfl dX9_blocksOn_26 rfl ?_
          refine p_getr qg_RX9_34 uM_0 rfl dX9_blocksOn_27 rfl ?_
          refine p_bipush (v := (96 : Int32)) kbipush_96 dX9_blocksOn_30 rfl ?_
          refine p_iload_n rfl dX9_blocksOn_32 rfl ?_
          refine p_iadd dX9_blocksOn_33 rfl ?_
          refine p_iald uM_9 dX9_blocksOn_34 rfl (fun _ => ?_)
          refine p_goto (tgt := 39) dX9_blocksOn_35 (by decide) ?_
          exact J7 (h.1 9 (ix ((96 : Int32) + x2)))
noncomputable def f9_blocksOn (p1 : Int32) (h : qH) : Option (Int32) :=
  f9_blocksOn_L4 p1 h (fun (x11 : Int32) (x12 : Int32) =>
    some x11) qN (0 : Int32) (0 : Int32)
set_option maxRecDepth 100000 in
set_option maxHeartbeats 4000000 in
theorem m9_blocksOn (l : Launch) (p1 : Int32) : qMet UM ROM l yX9_blocksOn (qws yX9_blocksOn cX9_blocksOn 4 (some .int)) R9_blocksOn [.ref 0, .int p1] (f9_blocksOn p1) qEr := by
  refine q_met (own := RX9) 2 (by decide) rfl (Nat.le_of_ble_eq_true rfl) (ls := [some (.ref 0), some (.int p1), none, none]) rfl fun h => ?_
  unfold f9_blocksOn
  refine p_iconst (v := (0 : Int32)) kiconst_0 dX9_blocksOn_0 rfl ?_
  refine p_is_n (ls' := [some (.ref 0), some (.int p1), some (.int (0 : Int32)), none]) dX9_blocksOn_1 rfl rfl rfl rfl ?_
  refine p_iconst (v := (0 : Int32)) kiconst_0 dX9_blocksOn_2 rfl ?_
  refine p_is_n (ls' := [some (.ref 0), some (.int p1), some (.int (0 : Int32)), some (.int (0 : Int32))]) dX9_blocksOn_3 rfl rfl rfl rfl ?_
  refine w9_blocksOn_L4 l p1 h (fun x11 x12 => ?_) qN _ _
  refine p_iload_n rfl dX9_blocksOn_47 rfl ?_
  exact p_iret rfl rfl dX9_blocksOn_48
