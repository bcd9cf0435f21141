noncomputable def f5_readItems_L2 (p1 : Int32) (p2 : Int32) (k : Int32 → qH → Option (Int32 × qH)) : Nat → Int32 → qH → Option (Int32 × qH)
  | 0, _, _ => none
  | n + 1, x1, h2 =>
    if p2 ≤ x1 then (
      k x1 h2)
    else (
      qg (qin x1 12) <|
      qg (qin x1 12) <|
      qlt (qw h2 4 (ix x1) (stDefaults (ix x1))) fun (h4 : qH) =>
      qg (qin x1 12) <|
      qlt (qw h4 5 (ix x1) (0 : Int32)) fun (h5 : qH) =>
      qlt (x1 + (1 : Int32)) fun (x6 : Int32) =>
      f5_readItems_L2 p1 p2 k n x6 h5)
set_option maxRecDepth 100000 in
set_option maxHeartbeats 4000000 in
theorem w5_readItems_L2 (l : Launch) (h0 : qH) (p1 : Int32) (p2 : Int32) {k : Int32 → qH → Option (Int32 × qH)} (hk : ∀ (x1 : Int32) (h2 : qH), PW UX ROX l R5_readItems cX5_readItems 7 (some .int) RX5 (qEw h0) 31 [some (.ref 3), some (.int p1), some (.int p2), some (.int x1), none, none, none] [] h2 (k x1 h2)) : ∀ (n : Nat) (x1 : Int32) (h2 : qH), PW UX ROX l R5_readItems cX5_readItems 7 (some .int) RX5 (qEw h0) 2 [some (.ref 3), some (.int p1), some (.int p2), some (.int x1), none, none, none] [] h2 (f5_readItems_L2 p1 p2 k n x1 h2) := by
  intro n
  induction n with
  | zero => intro _ _; exact p_none
  | succ n ih =>
    intro x1 h2
    unfold f5_readItems_L2
    refine p_iload_n rfl dX5_readItems_2 rfl ?_
    refine p_iload_n rfl dX5_readItems_3 rfl ?_
    refine p_if (fun c3 => ?_) (fun c3 => ?_)
    · refine p_icmp_ge_t (tgt := 31) dX5_readItems_4 (by decide) c3 ?_
      exact hk x1 h2
    · refine p_icmp_ge_f (tgt := 31) dX5_readItems_4 (by decide) rfl c3 ?_
      refine p_aload_n rfl dX5_readItems_7 rfl ?_
      refine p_getr qg_RX5_9 uX_3 rfl dX5_readItems_8 rfl ?_
      refine p_iload_n rfl dX5_readItems_11 rfl ?_
      refine p_gst gs_RX5_90 dX5_readItems_12 rfl ?_
      refine p_iload_n rfl dX5_readItems_15 rfl ?_
      refine p_sald st_2 dX5_readItems_16 rfl (fun _ => ?_)
      refine p_iast qokX uX_4 dX5_readItems_17 rfl (fun _ => ?_)
      refine p_nmH (fun h4 => ?_)
      refine p_aload_n rfl dX5_readItems_18 rfl ?_
      refine p_getr qg_RX5_15 uX_3 rfl dX5_readItems_19 rfl ?_
      refine p_iload_n rfl dX5_readItems_22 rfl ?_
      refine p_iconst (v := (0 : Int32)) kiconst_0 dX5_readItems_23 rfl ?_
      refine p_zast qokX kzn_0 uX_5 dX5_readItems_24 rfl (fun _ => ?_)
      refine p_nmH (fun h5 => ?_)
      refine p_iiN (v := (1 : Int32)) (lf := fun x6 => [some (.ref 3), some (.int p1), some (.int p2), some (.int x6), none, none, none]) kiconst_1 dX5_readItems_25 rfl rfl rfl rfl (fun _ => rfl) (fun x6 => ?_)
      refine p_goto (tgt := 2) dX5_readItems_28 (by decide) ?_
      exact ih x6 h5
noncomputable def f5_readItems_L33 (p1 : Int32) (p2 : Int32) (k : Int32 → qH → Option (Int32 × qH)) : Nat → Int32 → qH → Option (Int32 × qH)
  | 0, _, _ => none
  | n + 1, x9, h10 =>
    if p2 < x9 then (
      k x9 h10)
    else (
      qb2 (f5_nextSign h10) fun (z12 : Int32) (h13 : qH) =>
      if z12 = (-1 : Int32) then (
        some ((-1 : Int32), h13))
      else (
        if z12 = (59 : Int32) then (
          some ((-1 : Int32), h13))
        else (
          (f5_indexIn 211 z12 h13).bind fun (z16 : Int32) =>
          if z16 < p1 then (
            some ((h13.1 3 4), h13))
          else (
            if p2 ≤ z16 then (
              some ((h13.1 3 4), h13))
            else (
              qg (qin z16 12) <|
              if (h13.1 5 (ix z16)) = 0 then (
                qlt (qw h13 3 4 ((h13.1 3 4) + (1 : Int32))) fun (h20 : qH) =>
                qg (qin z16 12) <|
                qg (qin z16 12) <|
                qb2 (f5_readNumber (stLows (ix z16)) (stHighs (ix z16)) h20) fun (z21 : Int32) (h22 : qH) =>
                if z21 = (-1 : Int32) then (
                  qg (qin z16 12) <|
                  qlt (qw h22 5 (ix z16) (1 : Int32)) fun (h24 : qH) =>
                  qg (qin z16 12) <|
                  qlt (qw h24 4 (ix z16) (h24.1 3 5)) fun (h25 : qH) =>
                  qlt (x9 + (1 : Int32)) fun (x26 : Int32) =>
                  f5_readItems_L33 p1 p2 k n x26 h25)
                else (
                  some (z21, h22)))
              else (
                some ((h13.1 3 4), h13)))))))
set_option maxRecDepth 100000 in
set_option maxHeartbeats 4000000 in
theorem w5_readItems_L33 (l : Launch) (h0 : qH) (p1 : Int32) (p2 : Int32) {k : Int32 → qH → Option (Int32 × qH)} (hk : ∀ (x9 : Int32) (h10 : qH), PW UX ROX l R5_readItems cX5_readItems 7 (some .int) RX5 (qEw h0) 157 [some (.ref 3), some (.int p1), some (.int p2), some (.int x9), none, none, none] [] h10 (k x9 h10)) : ∀ (n : Nat) (x9 : Int32) (h10 : qH), PW UX ROX l R5_readItems cX5_readItems 7 (some .int) RX5 (qEw h0) 33 [some (.ref 3), some (.int p1), some (.int p2), some (.int x9), none, none, none] [] h10 (f5_readItems_L33 p1 p2 k n x9 h10) := by
  intro n
  induction n with
  | zero => intro _ _; exact p_none
  | succ n ih =>
    intro x9 h10
    unfold f5_readItems_L33
    refine p_iload_n rfl dX5_readItems_33 rfl ?_
    refine p_iload_n rfl dX5_readItems_34 rfl ?_
    refine p_if (fun c11 => ?_) (fun c11 => ?_)
    · refine p_icmp_gt_t (tgt := 157) dX5_readItems_35 (by decide) c11 ?_
      exact hk x9 h10
    · refine p_icmp_gt_f (tgt := 157) dX5_readItems_35 (by decide) rfl c11 ?_
      refine p_aload_n rfl dX5_readItems_38 rfl ?_
      refine p_cVw (f := f5_nextSign) (st := []) [] qRokX (m5_nextSign l) cal_RX5_57 uX_3 rfl rfl ⟨rfl, rfl⟩ ⟨Nat.le_of_ble_eq_true rfl, Nat.le_of_ble_eq_true rfl⟩ (Nat.le_of_ble_eq_true rfl) dX5_readItems_39 rfl (fun z12 h13 => ?_)
      refine p_is (ls' := [some (.ref 3), some (.int p1), some (.int p2), some (.int x9), some (.int z12), none, none]) dX5_readItems_42 rfl rfl rfl rfl ?_
      refine p_iload rfl dX5_readItems_44 rfl ?_
      refine p_iconst (v := (-1 : Int32)) kiconst_m1 dX5_readItems_46 rfl ?_
      refine p_if (fun c14 => ?_) (fun c14 => ?_)
      · refine p_icmp_eq_t (tgt := 57) dX5_readItems_47 (by decide) c14 ?_
        refine p_iconst (v := (-1 : Int32)) kiconst_m1 dX5_readItems_57 rfl ?_
        exact p_iret rfl rfl dX5_readItems_58
      · refine p_icmp_eq_f (tgt := 57) dX5_readItems_47 (by decide) rfl c14 ?_
        refine p_iload rfl dX5_readItems_50 rfl ?_
        refine p_bipush (v := (59 : Int32)) kbipush_59 dX5_readItems_52 rfl ?_
        refine p_if (fun c15 => ?_) (fun c15 => ?_)
        · refine p_icmp_ne_f (tgt := 59) dX5_readItems_54 (by decide) rfl c15 ?_
          refine p_iconst (v := (-1 : Int32)) kiconst_m1 dX5_readItems_57 rfl ?_
          exact p_iret rfl rfl dX5_readItems_58
        · refine p_icmp_ne_t (tgt := 59) dX5_readItems_54 (by decide) c15 ?_
          refine p_ldcS (q := 211) ksRX5_93 rfl dX5_readItems_59 rfl ?_
          refine p_iload rfl dX5_readItems_61 rfl ?_
          refine p_callSr (f := f5_indexIn 211 z12) (st := []) [.ref 211, .int z12] qRokX (m5_indexIn l kStr_211 z12) cal_RX5_61 rfl ⟨rfl, rfl⟩ ⟨Nat.le_of_ble_eq_true rfl, Nat.le_of_ble_eq_true rfl⟩ (Nat.le_of_ble_eq_true rfl) dX5_readItems_63 rfl (fun z16 => ?_)
          refine p_is (ls' := [some (.ref 3), some (.int p1), some (.int p2), some (.int x9), some (.int z12), some (.int z16), none]) dX5_readItems_66 rfl rfl rfl rfl ?_
          refine p_iload rfl dX5_readItems_68 rfl ?_
          refine p_iload_n rfl dX5_readItems_70 rfl ?_
          refine p_if (fun c17 => ?_) (fun c17 => ?_)
          · refine p_icmp_lt_t (tgt := 90) dX5_readItems_71 (by decide) c17 ?_
            refine p_aload_n rfl dX5_readItems_90 rfl ?_
            refine p_geti qg_RX5_32 uX_3 rfl dX5_readItems_91 rfl ?_
            exact p_iret rfl rfl dX5_readItems_94
          · refine p_icmp_lt_f (tgt := 90) dX5_readItems_71 (by decide) rfl c17 ?_
            refine p_iload rfl dX5_readItems_74 rfl ?_
            refine p_iload_n rfl dX5_readItems_76 rfl ?_
            refine p_if (fun c18 => ?_) (fun c18 => ?_)
            · refine p_icmp_ge_t (tgt := 90) dX5_readItems_77 (by decide) c18 ?_
              refine p_aload_n rfl dX5_readItems_90 rfl ?_
              refine p_geti qg_RX5_32 uX_3 rfl dX5_readItems_91 rfl ?_
              exact p_iret rfl rfl dX5_readItems_94
            · refine p_icmp_ge_f (tgt := 90) dX5_readItems_77 (by decide) rfl c18 ?_
              refine p_aload_n rfl dX5_readItems_80 rfl ?_
              refine p_getr qg_RX5_15 uX_3 rfl dX5_readItems_81 rfl ?_
              refine p_iload rfl dX5_readItems_84 rfl ?_
              refine p_zald uX_5 dX5_readItems_86 rfl (fun _ => ?_)
              refine p_if (fun c19 => ?_) (fun c19 => ?_)
              · refine p_if_eq_t (tgt := 95) dX5_readItems_87 (by decide) c19 ?_
                refine p_aload_n rfl dX5_readItems_95 rfl ?_
                refine p_dup rfl dX5_readItems_96 rfl ?_
                refine p_geti qg_RX5_32 uX_3 rfl dX5_readItems_97 rfl ?_
                refine p_iconst (v := (1 : Int32)) kiconst_1 dX5_readItems_100 rfl ?_
                refine p_iadd dX5_readItems_101 rfl ?_
                refine p_puti qokX qp_RX5_32 uX_3 rfl dX5_readItems_102 rfl ?_
                refine p_nmH (fun h20 => ?_)
                refine p_aload_n rfl dX5_readItems_105 rfl ?_
                refine p_gst gs_RX5_95 dX5_readItems_106 rfl ?_
                refine p_iload rfl dX5_readItems_109 rfl ?_
                refine p_sald st_0 dX5_readItems_111 rfl (fun _ => ?_)
                refine p_gst gs_RX5_98 dX5_readItems_112 rfl ?_
                refine p_iload rfl dX5_readItems_115 rfl ?_
                refine p_sald st_1 dX5_readItems_117 rfl (fun _ => ?_)
                refine p_cVw (f := f5_readNumber (stLows (ix z16)) (stHighs (ix z16))) (st := []) [.int (stLows (ix z16)), .int (stHighs (ix z16))] qRokX (m5_readNumber l (stLows (ix z16)) (stHighs (ix z16))) cal_RX5_101 uX_3 rfl rfl ⟨rfl, rfl⟩ ⟨Nat.le_of_ble_eq_true rfl, Nat.le_of_ble_eq_true rfl⟩ (Nat.le_of_ble_eq_true rfl) dX5_readItems_118 rfl (fun z21 h22 => ?_)
                refine p_is (ls' := [some (.ref 3), some (.int p1), some (.int p2), some (.int x9), some (.int z12), some (.int z16), some (.int z21)]) dX5_readItems_121 rfl rfl rfl rfl ?_
                refine p_iload rfl dX5_readItems_123 rfl ?_
                refine p_iconst (v := (-1 : Int32)) kiconst_m1 dX5_readItems_125 rfl ?_
                refine p_if (fun c23 => ?_) (fun c23 => ?_)
                · refine p_icmp_eq_t (tgt := 132) dX5_readItems_126 (by decide) c23 ?_
                  refine p_aload_n rfl dX5_readItems_132 rfl ?_
                  refine p_getr qg_RX5_15 uX_3 rfl dX5_readItems_133 rfl ?_
                  refine p_iload rfl dX5_readItems_136 rfl ?_
                  refine p_iconst (v := (1 : Int32)) kiconst_1 dX5_readItems_138 rfl ?_
                  refine p_zast qokX kzn_1 uX_5 dX5_readItems_139 rfl (fun _ => ?_)
                  refine p_nmH (fun h24 => ?_)
                  refine p_aload_n rfl dX5_readItems_140 rfl ?_
                  refine p_getr qg_RX5_9 uX_3 rfl dX5_readItems_141 rfl ?_
                  refine p_iload rfl dX5_readItems_144 rfl ?_
                  refine p_aload_n rfl dX5_readItems_146 rfl ?_
                  refine p_geti qg_RX5_104 uX_3 rfl dX5_readItems_147 rfl ?_
                  refine p_iast qokX uX_4 dX5_readItems_150 rfl (fun _ => ?_)
                  refine p_nmH (fun h25 => ?_)
                  refine p_iiN (v := (1 : Int32)) (lf := fun x26 => [some (.ref 3), some (.int p1), some (.int p2), some (.int x26), some (.int z12), some (.int z16), some (.int z21)]) kiconst_1 dX5_readItems_151 rfl rfl rfl rfl (fun _ => rfl) (fun x26 => ?_)
                  refine p_goto (tgt := 33) dX5_readItems_154 (by decide) ?_
                  exact p_wk (ls' := [some (.ref 3), some (.int p1), some (.int p2), some (.int x26), none, none, none]) ⟨rfl, rfl, rfl, rfl, trivial⟩ (ih x26 h25)
                · refine p_icmp_eq_f (tgt := 132) dX5_readItems_126 (by decide) rfl c23 ?_
                  refine p_iload rfl dX5_readItems_129 rfl ?_
                  exact p_iret rfl rfl dX5_readItems_131
              · refine p_if_eq_f (tgt := 95) dX5_readItems_87 (by decide) rfl c19 ?_
                refine p_aload_n rfl dX5_readItems_90 rfl ?_
                refine p_geti qg_RX5_32 uX_3 rfl dX5_readItems_91 rfl ?_
                exact p_iret rfl rfl dX5_readItems_94
noncomputable def f5_readItems (p1 : Int32) (p2 : Int32) (h : qH) : Option (Int32 × qH) :=
  f5_readItems_L2 p1 p2 (fun (x7 : Int32) (h8 : qH) =>
    f5_readItems_L33 p1 p2 (fun (x27 : Int32) (h28 : qH) =>
      some ((h28.1 3 4), h28)) qN p1 h8) qN p1 h
set_option maxRecDepth 100000 in
set_option maxHeartbeats 4000000 in
theorem m5_readItems (l : Launch) (p1 : Int32) (p2 : Int32) : qMet UX ROX l yX5_readItems (qws yX5_readItems cX5_readItems 7 (some .int)) R5_readItems [.ref 3, .int p1, .int p2] (f5_readItems p1 p2) qEw := by
  refine q_met (own := RX5) 4 (by decide) rfl (Nat.le_of_ble_eq_true rfl) (ls := [some (.ref 3), some (.int p1), some (.int p2), none, none, none, none]) rfl fun h => ?_
  unfold f5_readItems
  show PW UX ROX l R5_readItems cX5_readItems 7 (some .int) RX5 (qEw h) 0 [some (.ref 3), some (.int p1), some (.int p2), none, none, none, none] [] h _
  refine p_iload_n rfl dX5_readItems_0 rfl ?_
  refine p_is_n (ls' := [some (.ref 3), some (.int p1), some (.int p2), some (.int p1), none, none, none]) dX5_readItems_1 rfl rfl rfl rfl ?_
  refine w5_readItems_L2 l h p1 p2 (fun x7 h8 => ?_) qN _ _
  refine p_iload_n rfl dX5_readItems_31 rfl ?_
  refine p_is_n (ls' := [some (.ref 3), some (.int p1), some (.int p2), some (.int p1), none, none, none]) dX5_readItems_32 rfl rfl rfl rfl ?_
  refine w5_readItems_L33 l h p1 p2 (fun x27 h28 => ?_) qN _ _
  refine p_aload_n rfl dX5_readItems_157 rfl ?_
  refine p_geti qg_RX5_32 uX_3 rfl dX5_readItems_158 rfl ?_
  exact p_iret rfl rfl dX5_readItems_161
noncomputable def f5_readClause (p1 : Nat) (h : qH) : Option (Int32 × qH) :=
  qb2 (f5_nextSign h) fun (z1 : Int32) (h2 : qH) =>
  (f5_indexIn 210 z1 h2).bind fun (z3 : Int32) =>
  if z3 < 0 then (
    some ((h2.1 3 4), h2))
  else (
    (f5_isOneTooMany z3 p1 h2).bind fun (z5 : Int32) =>
    if z5 = 0 then (
      qlt (qw h2 3 4 ((h2.1 3 4) + (1 : Int32))) fun (h7 : qH) =>
      qg (qin z3 4) <|
      qg (qin (z3 + (1 : Int32)) 4) <|
      qb2 (f5_readItems (stClauses (ix z3)) (stClauses (ix (z3 + (1 : Int32)))) h7) fun (z8 : Int32) (h9 : qH) =>
      if z8 = (-1 : Int32) then (
        qj (fun (h11 : qH) =>
          some ((-1 : Int32), h11)) fun j12 =>
        if z3 = 0 then (
          qlt (qw h9 3 3 (1 : Int32)) fun (h15 : qH) =>
          (f4_setRules p1 4 12 h15).bind fun (h16 : qH) =>
          j12 h16)
        else (
          if z3 = (1 : Int32) then (
            (f4_addTape p1 (h9.1 4 8) (h9.1 4 9) h9).bind fun (h18 : qH) =>
            j12 h18)
          else (
            (f4_addFile p1 (h9.1 4 10) (h9.1 4 11) h9).bind fun (h19 : qH) =>
            j12 h19)))
      else (
        some (z8, h9)))
    else (
      some ((h2.1 3 4), h2)))
set_option maxRecDepth 100000 in
set_option maxHeartbeats 4000000 in
theorem m5_readClause (l : Launch) {p1 : Nat} (hp1 : kPlan p1) : qMet UX ROX l yX5_readClause (qws yX5_readClause cX5_readClause 4 (some .int)) R5_readClause [.ref 3, .ref p1] (f5_readClause p1) qEw := by
  refine q_met (own := RX5) 2 (by decide) rfl (Nat.le_of_ble_eq_true rfl) (ls := [some (.ref 3), some (.ref p1), none, none]) rfl fun h => ?_
  unfold f5_readClause
  show PW UX ROX l R5_readClause cX5_readClause 4 (some .int) RX5 (qEw h) 0 [some (.ref 3), some (.ref p1), none, none] [] h _
  refine p_ldcS (q := 210) ksRX5_55 rfl dX5_readClause_0 rfl ?_
  refine p_aload_n rfl dX5_readClause_2 rfl ?_
  refine p_cVw (f := f5_nextSign) (st := [.ref 210]) [] qRokX (m5_nextSign l) cal_RX5_57 uX_3 rfl rfl ⟨rfl, rfl⟩ ⟨Nat.le_of_ble_eq_true rfl, Nat.le_of_ble_eq_true rfl⟩ (Nat.le_of_ble_eq_true rfl) dX5_readClause_3 rfl (fun z1 h2 => ?_)
  refine p_callSr (f := f5_indexIn 210 z1) (st := []) [.ref 210, .int z1] qRokX (m5_indexIn l kStr_210 z1) cal_RX5_61 rfl ⟨rfl, rfl⟩ ⟨Nat.le_of_ble_eq_true rfl, Nat.le_of_ble_eq_true rfl⟩ (Nat.le_of_ble_eq_true rfl) dX5_readClause_6 rfl (fun z3 => ?_)
  refine p_is_n (ls' := [some (.ref 3), some (.ref p1), some (.int z3), none]) dX5_readClause_9 rfl rfl rfl rfl ?_
  refine p_iload_n rfl dX5_readClause_10 rfl ?_
  refine p_if (fun c4 => ?_) (fun c4 => ?_)
  · refine p_if_lt_t (tgt := 23) dX5_readClause_11 (by decide) c4 ?_
    refine p_aload_n rfl dX5_readClause_23 rfl ?_
    refine p_geti qg_RX5_32 uX_3 rfl dX5_readClause_24 rfl ?_
    exact p_iret rfl rfl dX5_readClause_27
  · refine p_if_lt_f (tgt := 23) dX5_readClause_11 (by decide) rfl c4 ?_
    refine p_aload_n rfl dX5_readClause_14 rfl ?_
    refine p_iload_n rfl dX5_readClause_15 rfl ?_
    refine p_aload_n rfl dX5_readClause_16 rfl ?_
    refine p_callVr (f := f5_isOneTooMany z3 p1) (st := []) [.int z3, .ref p1] qRokX (m5_isOneTooMany l z3 hp1) cal_RX5_65 uX_3 rfl rfl ⟨rfl, rfl⟩ ⟨Nat.le_of_ble_eq_true rfl, Nat.le_of_ble_eq_true rfl⟩ (Nat.le_of_ble_eq_true rfl) dX5_readClause_17 rfl (fun z5 => ?_)
    refine p_if (fun c6 => ?_) (fun c6 => ?_)
    · refine p_if_eq_t (tgt := 28) dX5_readClause_20 (by decide) c6 ?_
      refine p_aload_n rfl dX5_readClause_28 rfl ?_
      refine p_dup rfl dX5_readClause_29 rfl ?_
      refine p_geti qg_RX5_32 uX_3 rfl dX5_readClause_30 rfl ?_
      refine p_iconst (v := (1 : Int32)) kiconst_1 dX5_readClause_33 rfl ?_
      refine p_iadd dX5_readClause_34 rfl ?_
      refine p_puti qokX qp_RX5_32 uX_3 rfl dX5_readClause_35 rfl ?_
      refine p_nmH (fun h7 => ?_)
      refine p_aload_n rfl dX5_readClause_38 rfl ?_
      refine p_gst gs_RX5_69 dX5_readClause_39 rfl ?_
      refine p_iload_n rfl dX5_readClause_42 rfl ?_
      refine p_sald st_3 dX5_readClause_43 rfl (fun _ => ?_)
      refine p_gst gs_RX5_69 dX5_readClause_44 rfl ?_
      refine p_iload_n rfl dX5_readClause_47 rfl ?_
      refine p_iconst (v := (1 : Int32)) kiconst_1 dX5_readClause_48 rfl ?_
      refine p_iadd dX5_readClause_49 rfl ?_
      refine p_sald st_3 dX5_readClause_50 rfl (fun _ => ?_)
      refine p_cVw (f := f5_readItems (stClauses (ix z3)) (stClauses (ix (z3 + (1 : Int32))))) (st := []) [.int (stClauses (ix z3)), .int (stClauses (ix (z3 + (1 : Int32))))] qRokX (m5_readItems l (stClauses (ix z3)) (stClauses (ix (z3 + (1 : Int32))))) cal_RX5_72 uX_3 rfl rfl ⟨rfl, rfl⟩ ⟨Nat.le_of_ble_eq_true rfl, Nat.le_of_ble_eq_true rfl⟩ (Nat.le_of_ble_eq_true rfl) dX5_readClause_51 rfl (fun z8 h9 => ?_)
      refine p_is_n (ls' := [some (.ref 3), some (.ref p1), some (.int z3), some (.int z8)]) dX5_readClause_54 rfl rfl rfl rfl ?_
      refine p_iload_n rfl dX5_readClause_55 rfl ?_
      refine p_iconst (v := (-1 : Int32)) kiconst_m1 dX5_readClause_56 rfl ?_
      refine p_if (fun c10 => ?_) (fun c10 => ?_)
      · refine p_icmp_eq_t (tgt := 62) dX5_readClause_57 (by decide) c10 ?_
        refine p_iload_n rfl dX5_readClause_62 rfl ?_
        refine p_jn (fun j12 => ∀ (h11 : qH), PW UX ROX l R5_readClause cX5_readClause 4 (some .int) RX5 (qEw h) 126 [some (.ref 3), some (.ref p1), some (.int z3), some (.int z8)] [] h11 (j12 h11)) (fun h11 => ?_) (fun j12 J13 => ?_)
        · refine p_iconst (v := (-1 : Int32)) kiconst_m1 dX5_readClause_126 rfl ?_
          exact p_iret rfl rfl dX5_readClause_127
        · refine p_if (fun c14 => ?_) (fun c14 => ?_)
          · refine p_if_ne_f (tgt := 82) dX5_readClause_63 (by decide) rfl c14 ?_
            refine p_aload_n rfl dX5_readClause_66 rfl ?_
            refine p_iconst (v := (1 : Int32)) kiconst_1 dX5_readClause_67 rfl ?_
            refine p_putz qokX kz_1 qp_RX5_28 uX_3 rfl dX5_readClause_68 rfl ?_
            refine p_nmH (fun h15 => ?_)
            refine p_aload_n rfl dX5_readClause_71 rfl ?_
            refine p_aload_n rfl dX5_readClause_72 rfl ?_
            refine p_getr qg_RX5_9 uX_3 rfl dX5_readClause_73 rfl ?_
            refine p_callVv (f := f4_setRules p1 4 12) (st := []) [.ref 4] qRokX (m4_setRules l hp1 uX_4) cal_RX5_76 (uX_Plan hp1) rfl rfl ⟨rfl, rfl⟩ ⟨Nat.le_of_ble_eq_true rfl, Nat.le_of_ble_eq_true rfl⟩ (Nat.le_of_ble_eq_true rfl) dX5_readClause_76 rfl (fun h16 => ?_)
            refine p_goto (tgt := 126) dX5_readClause_79 (by decide) ?_
            exact J13 h16
          · refine p_if_ne_t (tgt := 82) dX5_readClause_63 (by decide) c14 ?_
            refine p_iload_n rfl dX5_readClause_82 rfl ?_
            refine p_iconst (v := (1 : Int32)) kiconst_1 dX5_readClause_83 rfl ?_
            refine p_if (fun c17 => ?_) (fun c17 => ?_)
            · refine p_icmp_ne_f (tgt := 108) dX5_readClause_84 (by decide) rfl c17 ?_
              refine p_aload_n rfl dX5_readClause_87 rfl ?_
              refine p_aload_n rfl dX5_readClause_88 rfl ?_
              refine p_getr qg_RX5_9 uX_3 rfl dX5_readClause_89 rfl ?_
              refine p_bipush (v := (8 : Int32)) kbipush_8 dX5_readClause_92 rfl ?_
              refine p_ialdK uX_4 kix_8 kqin_8_12 dX5_readClause_94 rfl ?_
              refine p_aload_n rfl dX5_readClause_95 rfl ?_
              refine p_getr qg_RX5_9 uX_3 rfl dX5_readClause_96 rfl ?_
              refine p_bipush (v := (9 : Int32)) kbipush_9 dX5_readClause_99 rfl ?_
              refine p_ialdK uX_4 kix_9 kqin_9_12 dX5_readClause_101 rfl ?_
              refine p_callVv (f := f4_addTape p1 (h9.1 4 8) (h9.1 4 9)) (st := []) [.int (h9.1 4 8), .int (h9.1 4 9)] qRokX (m4_addTape l hp1 (h9.1 4 8) (h9.1 4 9)) cal_RX5_80 (uX_Plan hp1) rfl rfl ⟨rfl, rfl⟩ ⟨Nat.le_of_ble_eq_true rfl, Nat.le_of_ble_eq_true rfl⟩ (Nat.le_of_ble_eq_true rfl) dX5_readClause_102 rfl (fun h18 => ?_)
              refine p_goto (tgt := 126) dX5_readClause_105 (by decide) ?_
              exact J13 h18
            · refine p_icmp_ne_t (tgt := 108) dX5_readClause_84 (by decide) c17 ?_
              refine p_aload_n rfl dX5_readClause_108 rfl ?_
              refine p_aload_n rfl dX5_readClause_109 rfl ?_
              refine p_getr qg_RX5_9 uX_3 rfl dX5_readClause_110 rfl ?_
              refine p_bipush (v := (10 : Int32)) kbipush_10 dX5_readClause_113 rfl ?_
              refine p_ialdK uX_4 kix_10 kqin_10_12 dX5_readClause_115 rfl ?_
              refine p_aload_n rfl dX5_readClause_116 rfl ?_
              refine p_getr qg_RX5_9 uX_3 rfl dX5_readClause_117 rfl ?_
              refine p_bipush (v := (11 : Int32)) kbipush_11 dX5_readClause_120 rfl ?_
              refine p_ialdK uX_4 kix_11 kqin_11_12 dX5_readClause_122 rfl ?_
              refine p_callVv (f := f4_addFile p1 (h9.1 4 10) (h9.1 4 11)) (st := []) [.int (h9.1 4 10), .int (h9.1 4 11)] qRokX (m4_addFile l hp1 (h9.1 4 10) (h9.1 4 11)) cal_RX5_84 (uX_Plan hp1) rfl rfl ⟨rfl, rfl⟩ ⟨Nat.le_of_ble_eq_true rfl, Nat.le_of_ble_eq_true rfl⟩ (Nat.le_of_ble_eq_true rfl) dX5_readClause_123 rfl (fun h19 => ?_)
              exact J13 h19
      · refine p_icmp_eq_f (tgt := 62) dX5_readClause_57 (by decide) rfl c10 ?_
        refine p_iload_n rfl dX5_readClause_60 rfl ?_
        exact p_iret rfl rfl dX5_readClause_61
    · refine p_if_eq_f (tgt := 28) dX5_readClause_20 (by decide) rfl c6 ?_
      refine p_aload_n rfl dX5_readClause_23 rfl ?_
      refine p_geti qg_RX5_32 uX_3 rfl dX5_readClause_24 rfl ?_
      exact p_iret rfl rfl dX5_readClause_27
noncomputable def f5_readHall_L16 (p1 : Nat) (k : Int32 → qH → Option (Int32 × qH)) : Nat → Int32 → qH → Option (Int32 × qH)
  | 0, _, _ => none
  | n + 1, x4, h5 =>
    if (240 : Int32) < x4 then (
      k x4 h5)
    else (
      qb2 (f5_readClause p1 h5) fun (z7 : Int32) (h8 : qH) =>
      if z7 = (-1 : Int32) then (
        (f0_signAt (h8.1 3 4) h8).bind fun (z10 : Int32) =>
        if z10 = (-1 : Int32) then (
          k x4 h8)
        else (
          qlt (qw h8 3 4 ((h8.1 3 4) + (1 : Int32))) fun (h12 : qH) =>
          qlt (x4 + (1 : Int32)) fun (x13 : Int32) =>
          f5_readHall_L16 p1 k n x13 h12))
      else (
        some (z7, h8)))
set_option maxRecDepth 100000 in
set_option maxHeartbeats 4000000 in
theorem w5_readHall_L16 (l : Launch) (h0 : qH) (p1 : Nat) (hp1 : kPlan p1) {k : Int32 → qH → Option (Int32 × qH)} (hk : ∀ (x4 : Int32) (h5 : qH), PW UX ROX l R5_readHall cX5_readHall 4 (some .int) RX5 (qEw h0) 70 [some (.ref 3), some (.ref p1), some (.int x4), none] [] h5 (k x4 h5)) : ∀ (n : Nat) (x4 : Int32) (h5 : qH), PW UX ROX l R5_readHall cX5_readHall 4 (some .int) RX5 (qEw h0) 16 [some (.ref 3), some (.ref p1), some (.int x4), none] [] h5 (f5_readHall_L16 p1 k n x4 h5) := by
  intro n
  induction n with
  | zero => intro _ _; exact p_none
  | succ n ih =>
    intro x4 h5
    unfold f5_readHall_L16
    refine p_iload_n rfl dX5_readHall_16 rfl ?_
    refine p_sipush (v := (240 : Int32)) ksipush_240 dX5_readHall_17 rfl ?_
    refine p_if (fun c6 => ?_) (fun c6 => ?_)
    · refine p_icmp_gt_t (tgt := 70) dX5_readHall_20 (by decide) c6 ?_
      exact hk x4 h5
    · refine p_icmp_gt_f (tgt := 70) dX5_readHall_20 (by decide) rfl c6 ?_
      refine p_aload_n rfl dX5_readHall_23 rfl ?_
      refine p_aload_n rfl dX5_readHall_24 rfl ?_
      refine p_cVw (f := f5_readClause p1) (st := []) [.ref p1] qRokX (m5_readClause l hp1) cal_RX5_36 uX_3 rfl rfl ⟨rfl, rfl⟩ ⟨Nat.le_of_ble_eq_true rfl, Nat.le_of_ble_eq_true rfl⟩ (Nat.le_of_ble_eq_true rfl) dX5_readHall_25 rfl (fun z7 h8 => ?_)
      refine p_is_n (ls' := [some (.ref 3), some (.ref p1), some (.int x4), some (.int z7)]) dX5_readHall_28 rfl rfl rfl rfl ?_
      refine p_iload_n rfl dX5_readHall_29 rfl ?_
      refine p_iconst (v := (-1 : Int32)) kiconst_m1 dX5_readHall_30 rfl ?_
      refine p_if (fun c9 => ?_) (fun c9 => ?_)
      · refine p_icmp_eq_t (tgt := 36) dX5_readHall_31 (by decide) c9 ?_
        refine p_aload_n rfl dX5_readHall_36 rfl ?_
        refine p_getr qg_RX5_19 uX_3 rfl dX5_readHall_37 rfl ?_
        refine p_aload_n rfl dX5_readHall_40 rfl ?_
        refine p_geti qg_RX5_32 uX_3 rfl dX5_readHall_41 rfl ?_
        refine p_callVr (f := f0_signAt (h8.1 3 4)) (st := []) [.int (h8.1 3 4)] qRokX (m0_signAt l (h8.1 3 4)) cal_RX5_40 uX_1 rfl rfl ⟨rfl, rfl⟩ ⟨Nat.le_of_ble_eq_true rfl, Nat.le_of_ble_eq_true rfl⟩ (Nat.le_of_ble_eq_true rfl) dX5_readHall_44 rfl (fun z10 => ?_)
        refine p_iconst (v := (-1 : Int32)) kiconst_m1 dX5_readHall_47 rfl ?_
        refine p_if (fun c11 => ?_) (fun c11 => ?_)
        · refine p_icmp_ne_f (tgt := 54) dX5_readHall_48 (by decide) rfl c11 ?_
          refine p_goto (tgt := 70) dX5_readHall_51 (by decide) ?_
          exact p_wk (ls' := [some (.ref 3), some (.ref p1), some (.int x4), none]) ⟨rfl, rfl, rfl, trivial⟩ (hk x4 h8)
        · refine p_icmp_ne_t (tgt := 54) dX5_readHall_48 (by decide) c11 ?_
          refine p_aload_n rfl dX5_readHall_54 rfl ?_
          refine p_dup rfl dX5_readHall_55 rfl ?_
          refine p_geti qg_RX5_32 uX_3 rfl dX5_readHall_56 rfl ?_
          refine p_iconst (v := (1 : Int32)) kiconst_1 dX5_readHall_59 rfl ?_
          refine p_iadd dX5_readHall_60 rfl ?_
          refine p_puti qokX qp_RX5_32 uX_3 rfl dX5_readHall_61 rfl ?_
          refine p_nmH (fun h12 => ?_)
          refine p_iiN (v := (1 : Int32)) (lf := fun x13 => [some (.ref 3), some (.ref p1), some (.int x13), some (.int z7)]) kiconst_1 dX5_readHall_64 rfl rfl rfl rfl (fun _ => rfl) (fun x13 => ?_)
          refine p_goto (tgt := 16) dX5_readHall_67 (by decide) ?_
          exact p_wk (ls' := [some (.ref 3), some (.ref p1), some (.int x13), none]) ⟨rfl, rfl, rfl, trivial⟩ (ih x13 h12)
      · refine p_icmp_eq_f (tgt := 36) dX5_readHall_31 (by decide) rfl c9 ?_
        refine p_iload_n rfl dX5_readHall_34 rfl ?_
        exact p_iret rfl rfl dX5_readHall_35
noncomputable def f5_readHall (p1 : Nat) (h : qH) : Option (Int32 × qH) :=
  (f4_clear p1 h).bind fun (h1 : qH) =>
  qlt (qw h1 3 3 (0 : Int32)) fun (h2 : qH) =>
  qlt (qw h2 3 4 (0 : Int32)) fun (h3 : qH) =>
  f5_readHall_L16 p1 (fun (x14 : Int32) (h15 : qH) =>
    qj (fun (x16 : Int32) =>
      some (x16, h15)) fun j17 =>
    if (h15.1 p1 1) ≤ 0 then (
      j17 (h15.1 1 1))
    else (
      if (h15.1 (p1 + 1) 0) < (h15.1 p1 1) then (
        j17 (h15.1 1 1))
      else (
        j17 (-1 : Int32)))) qN (0 : Int32) h3
set_option maxRecDepth 100000 in
set_option maxHeartbeats 4000000 in
theorem m5_readHall (l : Launch) {p1 : Nat} (hp1 : kPlan p1) : qMet UX ROX l yX5_readHall (qws yX5_readHall cX5_readHall 4 (some .int)) R5_readHall [.ref 3, .ref p1] (f5_readHall p1) qEw := by
  refine q_met (own := RX5) 2 (by decide) rfl (Nat.le_of_ble_eq_true rfl) (ls := [some (.ref 3), some (.ref p1), none, none]) rfl fun h => ?_
  unfold f5_readHall
  show PW UX ROX l R5_readHall cX5_readHall 4 (some .int) RX5 (qEw h) 0 [some (.ref 3), some (.ref p1), none, none] [] h _
  refine p_aload_n rfl dX5_readHall_0 rfl ?_
  refine p_callVv (f := f4_clear p1) (st := []) [] qRokX (m4_clear l hp1) cal_RX5_23 (uX_Plan hp1) rfl rfl ⟨rfl, rfl⟩ ⟨Nat.le_of_ble_eq_true rfl, Nat.le_of_ble_eq_true rfl⟩ (Nat.le_of_ble_eq_true rfl) dX5_readHall_1 rfl (fun h1 => ?_)
  refine p_aload_n rfl dX5_readHall_4 rfl ?_
  refine p_iconst (v := (0 : Int32)) kiconst_0 dX5_readHall_5 rfl ?_
  refine p_putz qokX kz_0 qp_RX5_28 uX_3 rfl dX5_readHall_6 rfl ?_
  refine p_nmH (fun h2 => ?_)
  refine p_aload_n rfl dX5_readHall_9 rfl ?_
  refine p_iconst (v := (0 : Int32)) kiconst_0 dX5_readHall_10 rfl ?_
  refine p_puti qokX qp_RX5_32 uX_3 rfl dX5_readHall_11 rfl ?_
  refine p_nmH (fun h3 => ?_)
  refine p_iconst (v := (0 : Int32)) kiconst_0 dX5_readHall_14 rfl ?_
  refine p_is_n (ls' := [some (.ref 3), some (.ref p1), some (.int (0 : Int32)), none]) dX5_readHall_15 rfl rfl rfl rfl ?_
  refine w5_readHall_L16 l h p1 hp1 (fun x14 h15 => ?_) qN _ _
  refine p_aload_n rfl dX5_readHall_70 rfl ?_
  refine p_geti qg_RX5_46 (uX_Plan hp1) rfl dX5_readHall_71 rfl ?_
  refine p_jn (fun j17 => ∀ (x16 : Int32), PW UX ROX l R5_readHall cX5_readHall 4 (some .int) RX5 (qEw h) 101 [some (.ref 3), some (.ref p1), some (.int x14), none] [.int x16] h15 (j17 x16)) (fun x16 => ?_) (fun j17 J18 => ?_)
  · exact p_iret rfl rfl dX5_readHall_101
  · refine p_if (fun c19 => ?_) (fun c19 => ?_)
    · refine p_if_le_t (tgt := 94) dX5_readHall_74 (by decide) c19 ?_
      refine p_aload_n rfl dX5_readHall_94 rfl ?_
      refine p_getr qg_RX5_19 uX_3 rfl dX5_readHall_95 rfl ?_
      refine p_geti qg_RX5_52 uX_1 rfl dX5_readHall_98 rfl ?_
      exact J18 (h15.1 1 1)
    · refine p_if_le_f (tgt := 94) dX5_readHall_74 (by decide) rfl c19 ?_
      refine p_aload_n rfl dX5_readHall_77 rfl ?_
      refine p_geti qg_RX5_46 (uX_Plan hp1) rfl dX5_readHall_78 rfl ?_
      refine p_aload_n rfl dX5_readHall_81 rfl ?_
      refine p_getr qg_RX5_49 (uX_Plan hp1) rfl dX5_readHall_82 rfl ?_
      refine p_iconst (v := (0 : Int32)) kiconst_0 dX5_readHall_85 rfl ?_
      refine p_ialdK (uX_Plan_1 hp1) kix_0 kqin_0_8 dX5_readHall_86 rfl ?_
      refine p_if (fun c20 => ?_) (fun c20 => ?_)
      · refine p_icmp_gt_t (tgt := 94) dX5_readHall_87 (by decide) c20 ?_
        refine p_aload_n rfl dX5_readHall_94 rfl ?_
        refine p_getr qg_RX5_19 uX_3 rfl dX5_readHall_95 rfl ?_
        refine p_geti qg_RX5_52 uX_1 rfl dX5_readHall_98 rfl ?_
        exact J18 (h15.1 1 1)
      · refine p_icmp_gt_f (tgt := 94) dX5_readHall_87 (by decide) rfl c20 ?_
        refine p_iconst (v := (-1 : Int32)) kiconst_m1 dX5_readHall_90 rfl ?_
        refine p_goto (tgt := 101) dX5_readHall_91 (by decide) ?_
        exact J18 (-1 : Int32)
noncomputable def f5_readStep (p1 : Nat) (h : qH) : Option (Int32 × qH) :=
  qb2 (f5_nextSign h) fun (z1 : Int32) (h2 : qH) =>
  (f5_indexIn 212 z1 h2).bind fun (z3 : Int32) =>
  if 0 ≤ z3 then (
    qlt (qw h2 3 4 ((h2.1 3 4) + (1 : Int32))) fun (h5 : qH) =>
    qg (qin z3 11) <|
    qlt (stForms (ix z3)) fun (x6 : Int32) =>
    if x6 = 0 then (
      (f6_add p1 z3 (-1 : Int32) (-1 : Int32) h5).bind fun (h8 : qH) =>
      some ((-1 : Int32), h8))
    else (
      qj (fun (x9 : Int32) (h10 : qH) =>
        qlt (h10.1 3 5) fun (x13 : Int32) =>
        qj (fun (x14 : Int32) (h15 : qH) =>
          qj (fun (h18 : qH) =>
            some (x14, h18)) fun j19 =>
          if x14 = (-1 : Int32) then (
            qlt (if x6 = (3 : Int32) then (h15.1 3 5) else (-1 : Int32)) fun (x23 : Int32) =>
            (f6_add p1 z3 x13 x23 h15).bind fun (h24 : qH) =>
            j19 h24)
          else (
            j19 h15)) fun j16 =>
        if x9 = (-1 : Int32) then (
          if x6 = (3 : Int32) then (
            qb2 (f5_readComma h10) fun (z27 : Int32) (h28 : qH) =>
            if z27 = (-1 : Int32) then (
              qb2 (f5_readDigit h28) fun (z30 : Int32) (h31 : qH) =>
              j16 z30 h31)
            else (
              j16 z27 h28))
          else (
            j16 x9 h10))
        else (
          j16 x9 h10)) fun j11 =>
      if x6 = (1 : Int32) then (
        qb2 (f5_readNumber (0 : Int32) (99 : Int32) h5) fun (z33 : Int32) (h34 : qH) =>
        j11 z33 h34)
      else (
        qb2 (f5_readDigit h5) fun (z35 : Int32) (h36 : qH) =>
        j11 z35 h36)))
  else (
    some ((h2.1 3 4), h2))
set_option maxRecDepth 100000 in
set_option maxHeartbeats 4000000 in
theorem m5_readStep (l : Launch) {p1 : Nat} (hp1 : kScript p1) : qMet UX ROX l yX5_readStep (qws yX5_readStep cX5_readStep 6 (some .int)) R5_readStep [.ref 3, .ref p1] (f5_readStep p1) qEw := by
  refine q_met (own := RX5) 4 (by decide) rfl (Nat.le_of_ble_eq_true rfl) (ls := [some (.ref 3), some (.ref p1), none, none, none, none]) rfl fun h => ?_
  unfold f5_readStep
  show PW UX ROX l R5_readStep cX5_readStep 6 (some .int) RX5 (qEw h) 0 [some (.ref 3), some (.ref p1), none, none, none, none] [] h _
  refine p_ldcS (q := 212) ksRX5_116 rfl dX5_readStep_0 rfl ?_
  refine p_aload_n rfl dX5_readStep_2 rfl ?_
  refine p_cVw (f := f5_nextSign) (st := [.ref 212]) [] qRokX (m5_nextSign l) cal_RX5_57 uX_3 rfl rfl ⟨rfl, rfl⟩ ⟨Nat.le_of_ble_eq_true rfl, Nat.le_of_ble_eq_true rfl⟩ (Nat.le_of_ble_eq_true rfl) dX5_readStep_3 rfl (fun z1 h2 => ?_)
  refine p_callSr (f := f5_indexIn 212 z1) (st := []) [.ref 212, .int z1] qRokX (m5_indexIn l kStr_212 z1) cal_RX5_61 rfl ⟨rfl, rfl⟩ ⟨Nat.le_of_ble_eq_true rfl, Nat.le_of_ble_eq_true rfl⟩ (Nat.le_of_ble_eq_true rfl) dX5_readStep_6 rfl (fun z3 => ?_)
  refine p_is_n (ls' := [some (.ref 3), some (.ref p1), some (.int z3), none, none, none]) dX5_readStep_9 rfl rfl rfl rfl ?_
  refine p_iload_n rfl dX5_readStep_10 rfl ?_
  refine p_if (fun c4 => ?_) (fun c4 => ?_)
  · refine p_if_ge_t (tgt := 19) dX5_readStep_11 (by decide) c4 ?_
    refine p_aload_n rfl dX5_readStep_19 rfl ?_
    refine p_dup rfl dX5_readStep_20 rfl ?_
    refine p_geti qg_RX5_32 uX_3 rfl dX5_readStep_21 rfl ?_
    refine p_iconst (v := (1 : Int32)) kiconst_1 dX5_readStep_24 rfl ?_
    refine p_iadd dX5_readStep_25 rfl ?_
    refine p_puti qokX qp_RX5_32 uX_3 rfl dX5_readStep_26 rfl ?_
    refine p_nmH (fun h5 => ?_)
    refine p_gst gs_RX5_118 dX5_readStep_29 rfl ?_
    refine p_iload_n rfl dX5_readStep_32 rfl ?_
    refine p_sald st_4 dX5_readStep_33 rfl (fun _ => ?_)
    refine p_isN_n (lf := fun x6 => [some (.ref 3), some (.ref p1), some (.int z3), some (.int x6), none, none]) dX5_readStep_34 rfl rfl rfl (fun _ => rfl) (fun x6 => ?_)
    refine p_iload_n rfl dX5_readStep_35 rfl ?_
    refine p_if (fun c7 => ?_) (fun c7 => ?_)
    · refine p_if_ne_f (tgt := 48) dX5_readStep_36 (by decide) rfl c7 ?_
      refine p_aload_n rfl dX5_readStep_39 rfl ?_
      refine p_iload_n rfl dX5_readStep_40 rfl ?_
      refine p_iconst (v := (-1 : Int32)) kiconst_m1 dX5_readStep_41 rfl ?_
      refine p_iconst (v := (-1 : Int32)) kiconst_m1 dX5_readStep_42 rfl ?_
      refine p_callVv (f := f6_add p1 z3 (-1 : Int32) (-1 : Int32)) (st := []) [.int z3, .int (-1 : Int32), .int (-1 : Int32)] qRokX (m6_add l hp1 z3 (-1 : Int32) (-1 : Int32)) cal_RX5_121 (uX_Script hp1) rfl rfl ⟨rfl, rfl⟩ ⟨Nat.le_of_ble_eq_true rfl, Nat.le_of_ble_eq_true rfl⟩ (Nat.le_of_ble_eq_true rfl) dX5_readStep_43 rfl (fun h8 => ?_)
      refine p_iconst (v := (-1 : Int32)) kiconst_m1 dX5_readStep_46 rfl ?_
      exact p_iret rfl rfl dX5_readStep_47
    · refine p_if_ne_t (tgt := 48) dX5_readStep_36 (by decide) c7 ?_
      refine p_iload_n rfl dX5_readStep_48 rfl ?_
      refine p_iconst (v := (1 : Int32)) kiconst_1 dX5_readStep_49 rfl ?_
      refine p_jn (fun j11 => ∀ (x9 : Int32) (h10 : qH), PW UX ROX l R5_readStep cX5_readStep 6 (some .int) RX5 (qEw h) 67 [some (.ref 3), some (.ref p1), some (.int z3), some (.int x6), none, none] [.int x9] h10 (j11 x9 h10)) (fun x9 h10 => ?_) (fun j11 J12 => ?_)
      · refine p_is (ls' := [some (.ref 3), some (.ref p1), some (.int z3), some (.int x6), some (.int x9), none]) dX5_readStep_67 rfl rfl rfl rfl ?_
        refine p_aload_n rfl dX5_readStep_69 rfl ?_
        refine p_geti qg_RX5_104 uX_3 rfl dX5_readStep_70 rfl ?_
        refine p_isN (lf := fun x13 => [some (.ref 3), some (.ref p1), some (.int z3), some (.int x6), some (.int x9), some (.int x13)]) dX5_readStep_73 rfl rfl rfl (fun _ => rfl) (fun x13 => ?_)
        refine p_iload rfl dX5_readStep_75 rfl ?_
        refine p_iconst (v := (-1 : Int32)) kiconst_m1 dX5_readStep_77 rfl ?_
        refine p_jn (fun j16 => ∀ (x14 : Int32) (h15 : qH), PW UX ROX l R5_readStep cX5_readStep 6 (some .int) RX5 (qEw h) 104 [some (.ref 3), some (.ref p1), some (.int z3), some (.int x6), some (.int x14), some (.int x13)] [] h15 (j16 x14 h15)) (fun x14 h15 => ?_) (fun j16 J17 => ?_)
        · refine p_iload rfl dX5_readStep_104 rfl ?_
          refine p_iconst (v := (-1 : Int32)) kiconst_m1 dX5_readStep_106 rfl ?_
          refine p_jn (fun j19 => ∀ (h18 : qH), PW UX ROX l R5_readStep cX5_readStep 6 (some .int) RX5 (qEw h) 130 [some (.ref 3), some (.ref p1), some (.int z3), some (.int x6), some (.int x14), some (.int x13)] [] h18 (j19 h18)) (fun h18 => ?_) (fun j19 J20 => ?_)
          · refine p_iload rfl dX5_readStep_130 rfl ?_
            exact p_iret rfl rfl dX5_readStep_132
          · refine p_if (fun c21 => ?_) (fun c21 => ?_)
            · refine p_icmp_ne_f (tgt := 130) dX5_readStep_107 (by decide) rfl c21 ?_
              refine p_aload_n rfl dX5_readStep_110 rfl ?_
              refine p_iload_n rfl dX5_readStep_111 rfl ?_
              refine p_iload rfl dX5_readStep_112 rfl ?_
              refine p_iload_n rfl dX5_readStep_114 rfl ?_
              refine p_iconst (v := (3 : Int32)) kiconst_3 dX5_readStep_115 rfl ?_
              refine p_vj 127 [some (.ref 3), some (.ref p1), some (.int z3), some (.int x6), some (.int x14), some (.int x13)] [.int x13, .int z3, .ref p1] (fun x23 => ?_) (fun J => ?_)
              · refine p_callVv (f := f6_add p1 z3 x13 x23) (st := []) [.int z3, .int x13, .int x23] qRokX (m6_add l hp1 z3 x13 x23) cal_RX5_121 (uX_Script hp1) rfl rfl ⟨rfl, rfl⟩ ⟨Nat.le_of_ble_eq_true rfl, Nat.le_of_ble_eq_true rfl⟩ (Nat.le_of_ble_eq_true rfl) dX5_readStep_127 rfl (fun h24 => ?_)
                exact J20 h24
              · refine p_dia (fun c22 => ?_) (fun c22 => ?_)
                · refine p_icmp_ne_f (tgt := 126) dX5_readStep_116 (by decide) rfl c22 ?_
                  refine p_aload_n rfl dX5_readStep_119 rfl ?_
                  refine p_geti qg_RX5_104 uX_3 rfl dX5_readStep_120 rfl ?_
                  refine p_goto (tgt := 127) dX5_readStep_123 (by decide) ?_
                  exact J _
                · refine p_icmp_ne_t (tgt := 126) dX5_readStep_116 (by decide) c22 ?_
                  refine p_iconst (v := (-1 : Int32)) kiconst_m1 dX5_readStep_126 rfl ?_
                  exact J _
            · refine p_icmp_ne_t (tgt := 130) dX5_readStep_107 (by decide) c21 ?_
              exact J20 h15
        · refine p_if (fun c25 => ?_) (fun c25 => ?_)
          · refine p_icmp_ne_f (tgt := 104) dX5_readStep_78 (by decide) rfl c25 ?_
            refine p_iload_n rfl dX5_readStep_81 rfl ?_
            refine p_iconst (v := (3 : Int32)) kiconst_3 dX5_readStep_82 rfl ?_
            refine p_if (fun c26 => ?_) (fun c26 => ?_)
            · refine p_icmp_ne_f (tgt := 104) dX5_readStep_83 (by decide) rfl c26 ?_
              refine p_aload_n rfl dX5_readStep_86 rfl ?_
              refine p_cVw (f := f5_readComma) (st := []) [] qRokX (m5_readComma l) cal_RX5_128 uX_3 rfl rfl ⟨rfl, rfl⟩ ⟨Nat.le_of_ble_eq_true rfl, Nat.le_of_ble_eq_true rfl⟩ (Nat.le_of_ble_eq_true rfl) dX5_readStep_87 rfl (fun z27 h28 => ?_)
              refine p_is (ls' := [some (.ref 3), some (.ref p1), some (.int z3), some (.int x6), some (.int z27), some (.int x13)]) dX5_readStep_90 rfl rfl rfl rfl ?_
              refine p_iload rfl dX5_readStep_92 rfl ?_
              refine p_iconst (v := (-1 : Int32)) kiconst_m1 dX5_readStep_94 rfl ?_
              refine p_if (fun c29 => ?_) (fun c29 => ?_)
              · refine p_icmp_ne_f (tgt := 104) dX5_readStep_95 (by decide) rfl c29 ?_
                refine p_aload_n rfl dX5_readStep_98 rfl ?_
                refine p_cVw (f := f5_readDigit) (st := []) [] qRokX (m5_readDigit l) cal_RX5_125 uX_3 rfl rfl ⟨rfl, rfl⟩ ⟨Nat.le_of_ble_eq_true rfl, Nat.le_of_ble_eq_true rfl⟩ (Nat.le_of_ble_eq_true rfl) dX5_readStep_99 rfl (fun z30 h31 => ?_)
                refine p_is (ls' := [some (.ref 3), some (.ref p1), some (.int z3), some (.int x6), some (.int z30), some (.int x13)]) dX5_readStep_102 rfl rfl rfl rfl ?_
                exact J17 z30 h31
              · refine p_icmp_ne_t (tgt := 104) dX5_readStep_95 (by decide) c29 ?_
                exact J17 z27 h28
            · refine p_icmp_ne_t (tgt := 104) dX5_readStep_83 (by decide) c26 ?_
              exact J17 x9 h10
          · refine p_icmp_ne_t (tgt := 104) dX5_readStep_78 (by decide) c25 ?_
            exact J17 x9 h10
      · refine p_if (fun c32 => ?_) (fun c32 => ?_)
        · refine p_icmp_ne_f (tgt := 63) dX5_readStep_50 (by decide) rfl c32 ?_
          refine p_aload_n rfl dX5_readStep_53 rfl ?_
          refine p_iconst (v := (0 : Int32)) kiconst_0 dX5_readStep_54 rfl ?_
          refine p_bipush (v := (99 : Int32)) kbipush_99 dX5_readStep_55 rfl ?_
          refine p_cVw (f := f5_readNumber (0 : Int32) (99 : Int32)) (st := []) [.int (0 : Int32), .int (99 : Int32)] qRokX (m5_readNumber l (0 : Int32) (99 : Int32)) cal_RX5_101 uX_3 rfl rfl ⟨rfl, rfl⟩ ⟨Nat.le_of_ble_eq_true rfl, Nat.le_of_ble_eq_true rfl⟩ (Nat.le_of_ble_eq_true rfl) dX5_readStep_57 rfl (fun z33 h34 => ?_)
          refine p_goto (tgt := 67) dX5_readStep_60 (by decide) ?_
          exact J12 z33 h34
        · refine p_icmp_ne_t (tgt := 63) dX5_readStep_50 (by decide) c32 ?_
          refine p_aload_n rfl dX5_readStep_63 rfl ?_
          refine p_cVw (f := f5_readDigit) (st := []) [] qRokX (m5_readDigit l) cal_RX5_125 uX_3 rfl rfl ⟨rfl, rfl⟩ ⟨Nat.le_of_ble_eq_true rfl, Nat.le_of_ble_eq_true rfl⟩ (Nat.le_of_ble_eq_true rfl) dX5_readStep_64 rfl (fun z35 h36 => ?_)
          exact J12 z35 h36
  · refine p_if_ge_f (tgt := 19) dX5_readStep_11 (by decide) rfl c4 ?_
    refine p_aload_n rfl dX5_readStep_14 rfl ?_
    refine p_geti qg_RX5_32 uX_3 rfl dX5_readStep_15 rfl ?_
    exact p_iret rfl rfl dX5_readStep_18
noncomputable def f5_readScript_L12 (p1 : Nat) (k : Int32 → qH → Option (Int32 × qH)) : Nat → Int32 → qH → Option (Int32 × qH)
  | 0, _, _ => none
  | n + 1, x3, h4 =>
    if (16 : Int32) ≤ x3 then (
      k x3 h4)
    else (
      qb2 (f5_readStep p1 h4) fun (z6 : Int32) (h7 : qH) =>
      if z6 = (-1 : Int32) then (
        qb2 (f5_nextSign h7) fun (z9 : Int32) (h10 : qH) =>
        if z9 = (-1 : Int32) then (
          some ((-1 : Int32), h10))
        else (
          if z9 = (59 : Int32) then (
            if (h10.1 p1 3) = (16 : Int32) then (
              some ((h10.1 3 4), h10))
            else (
              qlt (qw h10 3 4 ((h10.1 3 4) + (1 : Int32))) fun (h14 : qH) =>
              qlt (x3 + (1 : Int32)) fun (x15 : Int32) =>
              f5_readScript_L12 p1 k n x15 h14))
          else (
            some ((h10.1 3 4), h10))))
      else (
        some (z6, h7)))
set_option maxRecDepth 100000 in
set_option maxHeartbeats 4000000 in
theorem w5_readScript_L12 (l : Launch) (h0 : qH) (p1 : Nat) (hp1 : kScript p1) {k : Int32 → qH → Option (Int32 × qH)} (hk : ∀ (x3 : Int32) (h4 : qH), PW UX ROX l R5_readScript cX5_readScript 5 (some .int) RX5 (qEw h0) 82 [some (.ref 3), some (.ref p1), some (.int x3), none, none] [] h4 (k x3 h4)) : ∀ (n : Nat) (x3 : Int32) (h4 : qH), PW UX ROX l R5_readScript cX5_readScript 5 (some .int) RX5 (qEw h0) 12 [some (.ref 3), some (.ref p1), some (.int x3), none, none] [] h4 (f5_readScript_L12 p1 k n x3 h4) := by
  intro n
  induction n with
  | zero => intro _ _; exact p_none
  | succ n ih =>
    intro x3 h4
    unfold f5_readScript_L12
    refine p_iload_n rfl dX5_readScript_12 rfl ?_
    refine p_bipush (v := (16 : Int32)) kbipush_16 dX5_readScript_13 rfl ?_
    refine p_if (fun c5 => ?_) (fun c5 => ?_)
    · refine p_icmp_ge_t (tgt := 82) dX5_readScript_15 (by decide) c5 ?_
      exact hk x3 h4
    · refine p_icmp_ge_f (tgt := 82) dX5_readScript_15 (by decide) rfl c5 ?_
      refine p_aload_n rfl dX5_readScript_18 rfl ?_
      refine p_aload_n rfl dX5_readScript_19 rfl ?_
      refine p_cVw (f := f5_readStep p1) (st := []) [.ref p1] qRokX (m5_readStep l hp1) cal_RX5_112 uX_3 rfl rfl ⟨rfl, rfl⟩ ⟨Nat.le_of_ble_eq_true rfl, Nat.le_of_ble_eq_true rfl⟩ (Nat.le_of_ble_eq_true rfl) dX5_readScript_20 rfl (fun z6 h7 => ?_)
      refine p_is_n (ls' := [some (.ref 3), some (.ref p1), some (.int x3), some (.int z6), none]) dX5_readScript_23 rfl rfl rfl rfl ?_
      refine p_iload_n rfl dX5_readScript_24 rfl ?_
      refine p_iconst (v := (-1 : Int32)) kiconst_m1 dX5_readScript_25 rfl ?_
      refine p_if (fun c8 => ?_) (fun c8 => ?_)
      · refine p_icmp_eq_t (tgt := 31) dX5_readScript_26 (by decide) c8 ?_
        refine p_aload_n rfl dX5_readScript_31 rfl ?_
        refine p_cVw (f := f5_nextSign) (st := []) [] qRokX (m5_nextSign l) cal_RX5_57 uX_3 rfl rfl ⟨rfl, rfl⟩ ⟨Nat.le_of_ble_eq_true rfl, Nat.le_of_ble_eq_true rfl⟩ (Nat.le_of_ble_eq_true rfl) dX5_readScript_32 rfl (fun z9 h10 => ?_)
        refine p_is (ls' := [some (.ref 3), some (.ref p1), some (.int x3), some (.int z6), some (.int z9)]) dX5_readScript_35 rfl rfl rfl rfl ?_
        refine p_iload rfl dX5_readScript_37 rfl ?_
        refine p_iconst (v := (-1 : Int32)) kiconst_m1 dX5_readScript_39 rfl ?_
        refine p_if (fun c11 => ?_) (fun c11 => ?_)
        · refine p_icmp_ne_f (tgt := 45) dX5_readScript_40 (by decide) rfl c11 ?_
          refine p_iconst (v := (-1 : Int32)) kiconst_m1 dX5_readScript_43 rfl ?_
          exact p_iret rfl rfl dX5_readScript_44
        · refine p_icmp_ne_t (tgt := 45) dX5_readScript_40 (by decide) c11 ?_
          refine p_iload rfl dX5_readScript_45 rfl ?_
          refine p_bipush (v := (59 : Int32)) kbipush_59 dX5_readScript_47 rfl ?_
          refine p_if (fun c12 => ?_) (fun c12 => ?_)
          · refine p_icmp_ne_f (tgt := 61) dX5_readScript_49 (by decide) rfl c12 ?_
            refine p_aload_n rfl dX5_readScript_52 rfl ?_
            refine p_geti qg_RX5_107 (uX_Script hp1) rfl dX5_readScript_53 rfl ?_
            refine p_bipush (v := (16 : Int32)) kbipush_16 dX5_readScript_56 rfl ?_
            refine p_if (fun c13 => ?_) (fun c13 => ?_)
            · refine p_icmp_ne_f (tgt := 66) dX5_readScript_58 (by decide) rfl c13 ?_
              refine p_aload_n rfl dX5_readScript_61 rfl ?_
              refine p_geti qg_RX5_32 uX_3 rfl dX5_readScript_62 rfl ?_
              exact p_iret rfl rfl dX5_readScript_65
            · refine p_icmp_ne_t (tgt := 66) dX5_readScript_58 (by decide) c13 ?_
              refine p_aload_n rfl dX5_readScript_66 rfl ?_
              refine p_dup rfl dX5_readScript_67 rfl ?_
              refine p_geti qg_RX5_32 uX_3 rfl dX5_readScript_68 rfl ?_
              refine p_iconst (v := (1 : Int32)) kiconst_1 dX5_readScript_71 rfl ?_
              refine p_iadd dX5_readScript_72 rfl ?_
              refine p_puti qokX qp_RX5_32 uX_3 rfl dX5_readScript_73 rfl ?_
              refine p_nmH (fun h14 => ?_)
              refine p_iiN (v := (1 : Int32)) (lf := fun x15 => [some (.ref 3), some (.ref p1), some (.int x15), some (.int z6), some (.int z9)]) kiconst_1 dX5_readScript_76 rfl rfl rfl rfl (fun _ => rfl) (fun x15 => ?_)
              refine p_goto (tgt := 12) dX5_readScript_79 (by decide) ?_
              exact p_wk (ls' := [some (.ref 3), some (.ref p1), some (.int x15), none, none]) ⟨rfl, rfl, rfl, trivial⟩ (ih x15 h14)
          · refine p_icmp_ne_t (tgt := 61) dX5_readScript_49 (by decide) c12 ?_
            refine p_aload_n rfl dX5_readScript_61 rfl ?_
            refine p_geti qg_RX5_32 uX_3 rfl dX5_readScript_62 rfl ?_
            exact p_iret rfl rfl dX5_readScript_65
      · refine p_icmp_eq_f (tgt := 31) dX5_readScript_26 (by decide) rfl c8 ?_
        refine p_iload_n rfl dX5_readScript_29 rfl ?_
        exact p_iret rfl rfl dX5_readScript_30
noncomputable def f5_readScript (p1 : Nat) (h : qH) : Option (Int32 × qH) :=
  qlt (qw h p1 3 (0 : Int32)) fun (h1 : qH) =>
  qlt (qw h1 3 4 (0 : Int32)) fun (h2 : qH) =>
  f5_readScript_L12 p1 (fun (x16 : Int32) (h17 : qH) =>
    some ((h17.1 3 4), h17)) qN (0 : Int32) h2
set_option maxRecDepth 100000 in
set_option maxHeartbeats 4000000 in
theorem m5_readScript (l : Launch) {p1 : Nat} (hp1 : kScript p1) : qMet UX ROX l yX5_readScript (qws yX5_readScript cX5_readScript 5 (some .int)) R5_readScript [.ref 3, .ref p1] (f5_readScript p1) qEw := by
  refine q_met (own := RX5) 3 (by decide) rfl (Nat.le_of_ble_eq_true rfl) (ls := [some (.ref 3), some (.ref p1), none, none, none]) rfl fun h => ?_
  unfold f5_readScript
  show PW UX ROX l R5_readScript cX5_readScript 5 (some .int) RX5 (qEw h) 0 [some (.ref 3), some (.ref p1), none, none, none] [] h _
  refine p_aload_n rfl dX5_readScript_0 rfl ?_
  refine p_iconst (v := (0 : Int32)) kiconst_0 dX5_readScript_1 rfl ?_
  refine p_puti qokX qp_RX5_107 (uX_Script hp1) rfl dX5_readScript_2 rfl ?_
  refine p_nmH (fun h1 => ?_)
  refine p_aload_n rfl dX5_readScript_5 rfl ?_
  refine p_iconst (v := (0 : Int32)) kiconst_0 dX5_readScript_6 rfl ?_
  refine p_puti qokX qp_RX5_32 uX_3 rfl dX5_readScript_7 rfl ?_
  refine p_nmH (fun h2 => ?_)
  refine p_iconst (v := (0 : Int32)) kiconst_0 dX5_readScript_10 rfl ?_
  refine p_is_n (ls' := [some (.ref 3), some (.ref p1), some (.int (0 : Int32)), none, none]) dX5_readScript_11 rfl rfl rfl rfl ?_
  refine w5_readScript_L12 l h p1 hp1 (fun x16 h17 => ?_) qN _ _
  refine p_aload_n rfl dX5_readScript_82 rfl ?_
  refine p_geti qg_RX5_32 uX_3 rfl dX5_readScript_83 rfl ?_
  exact p_iret rfl rfl dX5_readScript_86
noncomputable def f8_fault (p1 : Int32) (h : qH) : Option (Int32 × qH) :=
  if p1 = 0 then (
    qb2 (f5_readHall 14 h) fun (z2 : Int32) (h3 : qH) =>
    some (z2, h3))
  else (
    if p1 = (1 : Int32) then (
      qb2 (f5_readScript 39 h) fun (z5 : Int32) (h6 : qH) =>
      some (z5, h6))
    else (
      some ((-2 : Int32), h)))
set_option maxRecDepth 100000 in
set_option maxHeartbeats 4000000 in
theorem m8_fault (l : Launch) (p1 : Int32) : qMet UX ROX l yX8_fault (qws yX8_fault cX8_fault 2 (some .int)) R8_fault [.ref 0, .int p1] (f8_fault p1) qEw := by
  refine q_met (own := RX8) 0 (by decide) rfl (Nat.le_of_ble_eq_true rfl) (ls := [some (.ref 0), some (.int p1)]) rfl fun h => ?_
  unfold f8_fault
  show PW UX ROX l R8_fault cX8_fault 2 (some .int) RX8 (qEw h) 0 [some (.ref 0), some (.int p1)] [] h _
  refine p_iload_n rfl dX8_fault_0 rfl ?_
  refine p_if (fun c1 => ?_) (fun c1 => ?_)
  · refine p_if_ne_f (tgt := 16) dX8_fault_1 (by decide) rfl c1 ?_
    refine p_aload_n rfl dX8_fault_4 rfl ?_
    refine p_getr qg_RX8_21 uX_0 rfl dX8_fault_5 rfl ?_
    refine p_aload_n rfl dX8_fault_8 rfl ?_
    refine p_getr qg_RX8_32 uX_0 rfl dX8_fault_9 rfl ?_
    refine p_cVw (f := f5_readHall 14) (st := []) [.ref 14] qRokX (m5_readHall l (kPlan_14)) cal_RX8_109 uX_3 rfl rfl ⟨rfl, rfl⟩ ⟨Nat.le_of_ble_eq_true rfl, Nat.le_of_ble_eq_true rfl⟩ (Nat.le_of_ble_eq_true rfl) dX8_fault_12 rfl (fun z2 h3 => ?_)
    exact p_iret rfl rfl dX8_fault_15
  · refine p_if_ne_t (tgt := 16) dX8_fault_1 (by decide) c1 ?_
    refine p_iload_n rfl dX8_fault_16 rfl ?_
    refine p_iconst (v := (1 : Int32)) kiconst_1 dX8_fault_17 rfl ?_
    refine p_if (fun c4 => ?_) (fun c4 => ?_)
    · refine p_icmp_ne_f (tgt := 33) dX8_fault_18 (by decide) rfl c4 ?_
      refine p_aload_n rfl dX8_fault_21 rfl ?_
      refine p_getr qg_RX8_21 uX_0 rfl dX8_fault_22 rfl ?_
      refine p_aload_n rfl dX8_fault_25 rfl ?_
      refine p_getr qg_RX8_42 uX_0 rfl dX8_fault_26 rfl ?_
      refine p_cVw (f := f5_readScript 39) (st := []) [.ref 39] qRokX (m5_readScript l (kScript_39)) cal_RX8_113 uX_3 rfl rfl ⟨rfl, rfl⟩ ⟨Nat.le_of_ble_eq_true rfl, Nat.le_of_ble_eq_true rfl⟩ (Nat.le_of_ble_eq_true rfl) dX8_fault_29 rfl (fun z5 h6 => ?_)
      exact p_iret rfl rfl dX8_fault_32
    · refine p_icmp_ne_t (tgt := 33) dX8_fault_18 (by decide) c4 ?_
      refine p_bipush (v := (-2 : Int32)) kbipush_m2 dX8_fault_33 rfl ?_
      exact p_iret rfl rfl dX8_fault_35
noncomputable def f8_text (p1 : Int32) (h : qH) : Option (Int32 × qH) :=
  qj (fun (h1 : qH) =>
    if p1 = (1 : Int32) then (
      if (4 : Int32) ≤ (h1.1 0 6) then (
        some ((-1 : Int32), h1))
      else (
        qb2 (f5_readScript 39 h1) fun (z6 : Int32) (h7 : qH) =>
        if z6 = (-1 : Int32) then (
          qb2 (f8_keepScript h7) fun (z9 : Int32) (h10 : qH) =>
          some (z9, h10))
        else (
          some ((-1 : Int32), h7))))
    else (
      some ((-1 : Int32), h1))) fun j2 =>
  if p1 = 0 then (
    qb2 (f5_readHall 14 h) fun (z12 : Int32) (h13 : qH) =>
    if z12 = (-1 : Int32) then (
      qb2 (f8_openHall h13) fun (z15 : Int32) (h16 : qH) =>
      some (z15, h16))
    else (
      j2 h13))
  else (
    j2 h)
set_option maxRecDepth 100000 in
set_option maxHeartbeats 4000000 in
theorem m8_text (l : Launch) (p1 : Int32) : qMet UX ROX l yX8_text (qws yX8_text cX8_text 2 (some .int)) R8_text [.ref 0, .int p1] (f8_text p1) qEw := by
  refine q_met (own := RX8) 0 (by decide) rfl (Nat.le_of_ble_eq_true rfl) (ls := [some (.ref 0), some (.int p1)]) rfl fun h => ?_
  unfold f8_text
  show PW UX ROX l R8_text cX8_text 2 (some .int) RX8 (qEw h) 0 [some (.ref 0), some (.int p1)] [] h _
  refine p_iload_n rfl dX8_text_0 rfl ?_
  refine p_jn (fun j2 => ∀ (h1 : qH), PW UX ROX l R8_text cX8_text 2 (some .int) RX8 (qEw h) 24 [some (.ref 0), some (.int p1)] [] h1 (j2 h1)) (fun h1 => ?_) (fun j2 J3 => ?_)
  · refine p_iload_n rfl dX8_text_24 rfl ?_
    refine p_iconst (v := (1 : Int32)) kiconst_1 dX8_text_25 rfl ?_
    refine p_if (fun c4 => ?_) (fun c4 => ?_)
    · refine p_icmp_ne_f (tgt := 57) dX8_text_26 (by decide) rfl c4 ?_
      refine p_aload_n rfl dX8_text_29 rfl ?_
      refine p_geti qg_RX8_121 uX_0 rfl dX8_text_30 rfl ?_
      refine p_iconst (v := (4 : Int32)) kiconst_4 dX8_text_33 rfl ?_
      refine p_if (fun c5 => ?_) (fun c5 => ?_)
      · refine p_icmp_ge_t (tgt := 57) dX8_text_34 (by decide) c5 ?_
        refine p_iconst (v := (-1 : Int32)) kiconst_m1 dX8_text_57 rfl ?_
        exact p_iret rfl rfl dX8_text_58
      · refine p_icmp_ge_f (tgt := 57) dX8_text_34 (by decide) rfl c5 ?_
        refine p_aload_n rfl dX8_text_37 rfl ?_
        refine p_getr qg_RX8_21 uX_0 rfl dX8_text_38 rfl ?_
        refine p_aload_n rfl dX8_text_41 rfl ?_
        refine p_getr qg_RX8_42 uX_0 rfl dX8_text_42 rfl ?_
        refine p_cVw (f := f5_readScript 39) (st := []) [.ref 39] qRokX (m5_readScript l (kScript_39)) cal_RX8_113 uX_3 rfl rfl ⟨rfl, rfl⟩ ⟨Nat.le_of_ble_eq_true rfl, Nat.le_of_ble_eq_true rfl⟩ (Nat.le_of_ble_eq_true rfl) dX8_text_45 rfl (fun z6 h7 => ?_)
        refine p_iconst (v := (-1 : Int32)) kiconst_m1 dX8_text_48 rfl ?_
        refine p_if (fun c8 => ?_) (fun c8 => ?_)
        · refine p_icmp_ne_f (tgt := 57) dX8_text_49 (by decide) rfl c8 ?_
          refine p_aload_n rfl dX8_text_52 rfl ?_
          refine p_cVw (f := f8_keepScript) (st := []) [] qRokX (m8_keepScript l) cal_RX8_124 uX_0 rfl rfl ⟨rfl, rfl⟩ ⟨Nat.le_of_ble_eq_true rfl, Nat.le_of_ble_eq_true rfl⟩ (Nat.le_of_ble_eq_true rfl) dX8_text_53 rfl (fun z9 h10 => ?_)
          exact p_iret rfl rfl dX8_text_56
        · refine p_icmp_ne_t (tgt := 57) dX8_text_49 (by decide) c8 ?_
          refine p_iconst (v := (-1 : Int32)) kiconst_m1 dX8_text_57 rfl ?_
          exact p_iret rfl rfl dX8_text_58
    · refine p_icmp_ne_t (tgt := 57) dX8_text_26 (by decide) c4 ?_
      refine p_iconst (v := (-1 : Int32)) kiconst_m1 dX8_text_57 rfl ?_
      exact p_iret rfl rfl dX8_text_58
  · refine p_if (fun c11 => ?_) (fun c11 => ?_)
    · refine p_if_ne_f (tgt := 24) dX8_text_1 (by decide) rfl c11 ?_
      refine p_aload_n rfl dX8_text_4 rfl ?_
      refine p_getr qg_RX8_21 uX_0 rfl dX8_text_5 rfl ?_
      refine p_aload_n rfl dX8_text_8 rfl ?_
      refine p_getr qg_RX8_32 uX_0 rfl dX8_text_9 rfl ?_
      refine p_cVw (f := f5_readHall 14) (st := []) [.ref 14] qRokX (m5_readHall l (kPlan_14)) cal_RX8_109 uX_3 rfl rfl ⟨rfl, rfl⟩ ⟨Nat.le_of_ble_eq_true rfl, Nat.le_of_ble_eq_true rfl⟩ (Nat.le_of_ble_eq_true rfl) dX8_text_12 rfl (fun z12 h13 => ?_)
      refine p_iconst (v := (-1 : Int32)) kiconst_m1 dX8_text_15 rfl ?_
      refine p_if (fun c14 => ?_) (fun c14 => ?_)
      · refine p_icmp_ne_f (tgt := 24) dX8_text_16 (by decide) rfl c14 ?_
        refine p_aload_n rfl dX8_text_19 rfl ?_
        refine p_cVw (f := f8_openHall) (st := []) [] qRokX (m8_openHall l) cal_RX8_117 uX_0 rfl rfl ⟨rfl, rfl⟩ ⟨Nat.le_of_ble_eq_true rfl, Nat.le_of_ble_eq_true rfl⟩ (Nat.le_of_ble_eq_true rfl) dX8_text_20 rfl (fun z15 h16 => ?_)
        exact p_iret rfl rfl dX8_text_23
      · refine p_icmp_ne_t (tgt := 24) dX8_text_16 (by decide) c14 ?_
        exact J3 h13
    · refine p_if_ne_t (tgt := 24) dX8_text_1 (by decide) c11 ?_
      exact J3 h
