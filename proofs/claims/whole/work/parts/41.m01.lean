noncomputable def f9_highest (p1 : Int32) (p2 : Int32) (h : qH) : Option (Int32) :=
  if p1 = (115 : Int32) then (
    if p2 = (0 : Int32) then (
      some (10 : Int32))
    else (
      if p2 = (1 : Int32) then (
      some (3 : Int32))
    else (
      if p2 = (2 : Int32) then (
      some (16 : Int32))
    else (
      if p2 = (3 : Int32) then (
      some (6 : Int32))
    else (
      if p2 = (4 : Int32) then (
      some (9 : Int32))
    else (
      if p2 = (5 : Int32) then (
      some (5 : Int32))
    else (
      some (99 : Int32))))))))
  else (
    qlt (if p1 = (116 : Int32) then (99 : Int32) else (if p2 = 0 then (7 : Int32) else (9 : Int32))) fun (x10 : Int32) =>
    some x10)
set_option maxRecDepth 100000 in
set_option maxHeartbeats 4000000 in
theorem m9_highest (l : Launch) (p1 : Int32) (p2 : Int32) : qMet UM ROM l yX9_highest (qws yX9_highest cX9_highest 2 (some .int)) R9_highest [.int p1, .int p2] (f9_highest p1 p2) qEr := by
  refine q_met (own := RX9) 0 (by decide) rfl (Nat.le_of_ble_eq_true rfl) (ls := [some (.int p1), some (.int p2)]) rfl fun h => ?_
  unfold f9_highest
  refine p_iload_n rfl dX9_highest_0 rfl ?_
  refine p_bipush (v := (115 : Int32)) kbipush_115 dX9_highest_1 rfl ?_
  refine p_if (fun c1 => ?_) (fun c1 => ?_)
  · refine p_icmp_ne_f (tgt := 63) dX9_highest_3 (by decide) rfl c1 ?_
    refine p_iload_n rfl dX9_highest_6 rfl ?_
    refine p_if (fun c2 => ?_) (fun c2 => ?_)
    · refine p_swI (v := (0 : Int32)) (tgt := 44) dX9_highest_7 c2 (by decide) (by decide) rfl (by decide) ?_
      refine p_bipush (v := (10 : Int32)) kbipush_10 dX9_highest_44 rfl ?_
      exact p_iret rfl rfl dX9_highest_46
    · refine p_if (fun c3 => ?_) (fun c3 => ?_)
      · refine p_swI (v := (1 : Int32)) (tgt := 47) dX9_highest_7 c3 (by decide) (by decide) rfl (by decide) ?_
        refine p_iconst (v := (3 : Int32)) kiconst_3 dX9_highest_47 rfl ?_
        exact p_iret rfl rfl dX9_highest_48
      · refine p_if (fun c4 => ?_) (fun c4 => ?_)
        · refine p_swI (v := (2 : Int32)) (tgt := 49) dX9_highest_7 c4 (by decide) (by decide) rfl (by decide) ?_
          refine p_bipush (v := (16 : Int32)) kbipush_16 dX9_highest_49 rfl ?_
          exact p_iret rfl rfl dX9_highest_51
        · refine p_if (fun c5 => ?_) (fun c5 => ?_)
          · refine p_swI (v := (3 : Int32)) (tgt := 52) dX9_highest_7 c5 (by decide) (by decide) rfl (by decide) ?_
            refine p_bipush (v := (6 : Int32)) kbipush_6 dX9_highest_52 rfl ?_
            exact p_iret rfl rfl dX9_highest_54
          · refine p_if (fun c6 => ?_) (fun c6 => ?_)
            · refine p_swI (v := (4 : Int32)) (tgt := 55) dX9_highest_7 c6 (by decide) (by decide) rfl (by decide) ?_
              refine p_bipush (v := (9 : Int32)) kbipush_9 dX9_highest_55 rfl ?_
              exact p_iret rfl rfl dX9_highest_57
            · refine p_if (fun c7 => ?_) (fun c7 => ?_)
              · refine p_swI (v := (5 : Int32)) (tgt := 58) dX9_highest_7 c7 (by decide) (by decide) rfl (by decide) ?_
                refine p_iconst (v := (5 : Int32)) kiconst_5 dX9_highest_58 rfl ?_
                exact p_iret rfl rfl dX9_highest_59
              · refine p_swO (tgt := 60) dX9_highest_7 (by
                    have c2' := lv_neT c2 (a := 0) (by decide)
                    have c3' := lv_neT c3 (a := 1) (by decide)
                    have c4' := lv_neT c4 (a := 2) (by decide)
                    have c5' := lv_neT c5 (a := 3) (by decide)
                    have c6' := lv_neT c6 (a := 4) (by decide)
                    have c7' := lv_neT c7 (a := 5) (by decide)
                    omega) (by decide) ?_
                refine p_bipush (v := (99 : Int32)) kbipush_99 dX9_highest_60 rfl ?_
                exact p_iret rfl rfl dX9_highest_62
  · refine p_icmp_ne_t (tgt := 63) dX9_highest_3 (by decide) c1 ?_
    refine p_iload_n rfl dX9_highest_63 rfl ?_
    refine p_bipush (v := (116 : Int32)) kbipush_116 dX9_highest_64 rfl ?_
    refine p_vj 85 [some (.int p1), some (.int p2)] [] (fun x10 => ?_) (fun J => ?_)
    · exact p_iret rfl rfl dX9_highest_85
    · refine p_dia (fun c8 => ?_) (fun c8 => ?_)
      · refine p_icmp_ne_f (tgt := 74) dX9_highest_66 (by decide) rfl c8 ?_
        refine p_bipush (v := (99 : Int32)) kbipush_99 dX9_highest_69 rfl ?_
        refine p_goto (tgt := 85) dX9_highest_71 (by decide) ?_
        exact J _
      · refine p_icmp_ne_t (tgt := 74) dX9_highest_66 (by decide) c8 ?_
        refine p_iload_n rfl dX9_highest_74 rfl ?_
        refine p_dia (fun c9 => ?_) (fun c9 => ?_)
        · refine p_if_ne_f (tgt := 83) dX9_highest_75 (by decide) rfl c9 ?_
          refine p_bipush (v := (7 : Int32)) kbipush_7 dX9_highest_78 rfl ?_
          refine p_goto (tgt := 85) dX9_highest_80 (by decide) ?_
          exact J _
        · refine p_if_ne_t (tgt := 83) dX9_highest_75 (by decide) c9 ?_
          refine p_bipush (v := (9 : Int32)) kbipush_9 dX9_highest_83 rfl ?_
          exact J _
noncomputable def f9_usual (p1 : Int32) (p2 : Int32) (h : qH) : Option (Int32) :=
  if p1 = (115 : Int32) then (
    if p2 = (0 : Int32) then (
      some (8 : Int32))
    else (
      if p2 = (2 : Int32) then (
      some (8 : Int32))
    else (
      if p2 = (3 : Int32) then (
      some (4 : Int32))
    else (
      if p2 = (4 : Int32) then (
      some (3 : Int32))
    else (
      if p2 = (6 : Int32) then (
      some (20 : Int32))
    else (
      if p2 = (7 : Int32) then (
      some (30 : Int32))
    else (
      some (1 : Int32))))))))
  else (
    qlt (if p1 = (102 : Int32) then p2 else (0 : Int32)) fun (x12 : Int32) =>
    some x12)
set_option maxRecDepth 100000 in
set_option maxHeartbeats 4000000 in
theorem m9_usual (l : Launch) (p1 : Int32) (p2 : Int32) : qMet UM ROM l yX9_usual (qws yX9_usual cX9_usual 2 (some .int)) R9_usual [.int p1, .int p2] (f9_usual p1 p2) qEr := by
  refine q_met (own := RX9) 0 (by decide) rfl (Nat.le_of_ble_eq_true rfl) (ls := [some (.int p1), some (.int p2)]) rfl fun h => ?_
  unfold f9_usual
  refine p_iload_n rfl dX9_usual_0 rfl ?_
  refine p_bipush (v := (115 : Int32)) kbipush_115 dX9_usual_1 rfl ?_
  refine p_if (fun c1 => ?_) (fun c1 => ?_)
  · refine p_icmp_ne_f (tgt := 67) dX9_usual_3 (by decide) rfl c1 ?_
    refine p_iload_n rfl dX9_usual_6 rfl ?_
    refine p_if (fun c2 => ?_) (fun c2 => ?_)
    · refine p_swI (v := (0 : Int32)) (tgt := 52) dX9_usual_7 c2 (by decide) (by decide) rfl (by decide) ?_
      refine p_bipush (v := (8 : Int32)) kbipush_8 dX9_usual_52 rfl ?_
      exact p_iret rfl rfl dX9_usual_54
    · refine p_if (fun c3 => ?_) (fun c3 => ?_)
      · refine p_swI (v := (2 : Int32)) (tgt := 52) dX9_usual_7 c3 (by decide) (by decide) rfl (by decide) ?_
        refine p_bipush (v := (8 : Int32)) kbipush_8 dX9_usual_52 rfl ?_
        exact p_iret rfl rfl dX9_usual_54
      · refine p_if (fun c4 => ?_) (fun c4 => ?_)
        · refine p_swI (v := (3 : Int32)) (tgt := 55) dX9_usual_7 c4 (by decide) (by decide) rfl (by decide) ?_
          refine p_iconst (v := (4 : Int32)) kiconst_4 dX9_usual_55 rfl ?_
          exact p_iret rfl rfl dX9_usual_56
        · refine p_if (fun c5 => ?_) (fun c5 => ?_)
          · refine p_swI (v := (4 : Int32)) (tgt := 57) dX9_usual_7 c5 (by decide) (by decide) rfl (by decide) ?_
            refine p_iconst (v := (3 : Int32)) kiconst_3 dX9_usual_57 rfl ?_
            exact p_iret rfl rfl dX9_usual_58
          · refine p_if (fun c6 => ?_) (fun c6 => ?_)
            · refine p_swI (v := (6 : Int32)) (tgt := 59) dX9_usual_7 c6 (by decide) (by decide) rfl (by decide) ?_
              refine p_bipush (v := (20 : Int32)) kbipush_20 dX9_usual_59 rfl ?_
              exact p_iret rfl rfl dX9_usual_61
            · refine p_if (fun c7 => ?_) (fun c7 => ?_)
              · refine p_swI (v := (7 : Int32)) (tgt := 62) dX9_usual_7 c7 (by decide) (by decide) rfl (by decide) ?_
                refine p_bipush (v := (30 : Int32)) kbipush_30 dX9_usual_62 rfl ?_
                exact p_iret rfl rfl dX9_usual_64
              · refine p_sv (pcJ := 65) (stJ := []) ?_ (fun D8 => ?_)
                · refine p_iconst (v := (1 : Int32)) kiconst_1 dX9_usual_65 rfl ?_
                  exact p_iret rfl rfl dX9_usual_66
                · by_cases e9 : p2 = (1 : Int32)
                  · exact p_swI (v := (1 : Int32)) (tgt := 65) dX9_usual_7 e9 (by decide) (by decide) rfl (by decide) D8
                  by_cases e10 : p2 = (5 : Int32)
                  · exact p_swI (v := (5 : Int32)) (tgt := 65) dX9_usual_7 e10 (by decide) (by decide) rfl (by decide) D8
                  exact p_swO (tgt := 65) dX9_usual_7 (by
                      have c2' := lv_neT c2 (a := 0) (by decide)
                      have c3' := lv_neT c3 (a := 2) (by decide)
                      have c4' := lv_neT c4 (a := 3) (by decide)
                      have c5' := lv_neT c5 (a := 4) (by decide)
                      have c6' := lv_neT c6 (a := 6) (by decide)
                      have c7' := lv_neT c7 (a := 7) (by decide)
                      have e9' := lv_neT e9 (a := 1) (by decide)
                      have e10' := lv_neT e10 (a := 5) (by decide)
                      omega) (by decide) D8
  · refine p_icmp_ne_t (tgt := 67) dX9_usual_3 (by decide) c1 ?_
    refine p_iload_n rfl dX9_usual_67 rfl ?_
    refine p_bipush (v := (102 : Int32)) kbipush_102 dX9_usual_68 rfl ?_
    refine p_vj 78 [some (.int p1), some (.int p2)] [] (fun x12 => ?_) (fun J => ?_)
    · exact p_iret rfl rfl dX9_usual_78
    · refine p_dia (fun c11 => ?_) (fun c11 => ?_)
      · refine p_icmp_ne_f (tgt := 77) dX9_usual_70 (by decide) rfl c11 ?_
        refine p_iload_n rfl dX9_usual_73 rfl ?_
        refine p_goto (tgt := 78) dX9_usual_74 (by decide) ?_
        exact J _
      · refine p_icmp_ne_t (tgt := 77) dX9_usual_70 (by decide) c11 ?_
        refine p_iconst (v := (0 : Int32)) kiconst_0 dX9_usual_77 rfl ?_
        exact J _
noncomputable def f9_items_L3 (p1 : Int32) (p2 : Nat) (np2 : Nat) (p3 : Int32) (p4 : Int32) (k : Int32 → qH → Option (qH)) : Nat → Int32 → qH → Option (qH)
  | 0, _, _ => none
  | n + 1, x1, h2 =>
    if p4 ≤ x1 then (
      k x1 h2)
    else (
      (f9_usual p1 x1 h2).bind fun (z4 : Int32) =>
      qg (qin (p3 + x1) np2) <|
      qlt (qw h2 p2 (ix (p3 + x1)) z4) fun (h5 : qH) =>
      qlt (x1 + (1 : Int32)) fun (x6 : Int32) =>
      f9_items_L3 p1 p2 np2 p3 p4 k n x6 h5)
set_option maxRecDepth 100000 in
set_option maxHeartbeats 4000000 in
theorem w9_items_L3 (l : Launch) (h0 : qH) (p1 : Int32) (p2 : Nat) (np2 : Nat) (p3 : Int32) (p4 : Int32) (hp2 : UM[p2]? = some (.inr (0, .inl np2, []))) {k : Int32 → qH → Option (qH)} (hk : ∀ (x1 : Int32) (h2 : qH), PW UM ROM l R9_items cX9_items 7 none RX9 (qEv h0) 28 [some (.ref 0), some (.int p1), some (.ref p2), some (.int p3), some (.int p4), some (.int x1), none] [] h2 (k x1 h2)) : ∀ (n : Nat) (x1 : Int32) (h2 : qH), PW UM ROM l R9_items cX9_items 7 none RX9 (qEv h0) 3 [some (.ref 0), some (.int p1), some (.ref p2), some (.int p3), some (.int p4), some (.int x1), none] [] h2 (f9_items_L3 p1 p2 np2 p3 p4 k n x1 h2) := by
  intro n
  induction n with
  | zero => intro _ _; exact p_none
  | succ n ih =>
    intro x1 h2
    unfold f9_items_L3
    refine p_iload rfl dX9_items_3 rfl ?_
    refine p_iload rfl dX9_items_5 rfl ?_
    refine p_if (fun c3 => ?_) (fun c3 => ?_)
    · refine p_icmp_ge_t (tgt := 28) dX9_items_7 (by decide) c3 ?_
      exact hk x1 h2
    · refine p_icmp_ge_f (tgt := 28) dX9_items_7 (by decide) rfl c3 ?_
      refine p_aload_n rfl dX9_items_10 rfl ?_
      refine p_iload_n rfl dX9_items_11 rfl ?_
      refine p_iload rfl dX9_items_12 rfl ?_
      refine p_iadd dX9_items_14 rfl ?_
      refine p_iload_n rfl dX9_items_15 rfl ?_
      refine p_iload rfl dX9_items_16 rfl ?_
      refine p_callSr (f := f9_usual p1 x1) (st := [.int (p3 + x1), .ref p2]) [.int p1, .int x1] qRokM (m9_usual l p1 x1) cal_RX9_104 rfl ⟨rfl, rfl⟩ ⟨Nat.le_of_ble_eq_true rfl, Nat.le_of_ble_eq_true rfl⟩ (Nat.le_of_ble_eq_true rfl) dX9_items_18 rfl (fun z4 => ?_)
      refine p_iast qokM hp2 dX9_items_21 rfl (fun _ => ?_)
      refine p_nmH (fun h5 => ?_)
      refine p_iiN (v := (1 : Int32)) (lf := fun x6 => [some (.ref 0), some (.int p1), some (.ref p2), some (.int p3), some (.int p4), some (.int x6), none]) kiconst_1 dX9_items_22 rfl rfl rfl rfl (fun _ => rfl) (fun x6 => ?_)
      refine p_goto (tgt := 3) dX9_items_25 (by decide) ?_
      exact ih x6 h5
noncomputable def f9_items_L41 (p1 : Int32) (p2 : Nat) (np2 : Nat) (p3 : Int32) (k : Int32 → Int32 → qH → Option (qH)) : Nat → Int32 → Int32 → qH → Option (qH)
  | 0, _, _, _ => none
  | n + 1, x12, x13, h14 =>
    if (h14.1 0 4) = (-1 : Int32) then (
      if x13 = (-1 : Int32) then (
        k x12 x13 h14)
      else (
        (f9_has x12 x13 h14).bind fun (z17 : Int32) =>
        if z17 = 0 then (
          qlt (x12 ||| ((1 : Int32) <<< (x13 &&& 31))) fun (x19 : Int32) =>
          qlt (qw h14 0 3 ((h14.1 0 3) + (1 : Int32))) fun (h20 : qH) =>
          (f9_lowest p1 x13 h20).bind fun (z21 : Int32) =>
          (f9_highest p1 x13 h20).bind fun (z22 : Int32) =>
          qb2 (f9_number z21 z22 h20) fun (z23 : Int32) (h24 : qH) =>
          qg (qin (p3 + x13) np2) <|
          qlt (qw h24 p2 (ix (p3 + x13)) z23) fun (h25 : qH) =>
          qj (fun (x26 : Int32) (h27 : qH) =>
            f9_items_L41 p1 p2 np2 p3 k n x19 x26 h27) fun j28 =>
          if (h25.1 0 4) = (-1 : Int32) then (
            qb2 (f9_ahead h25) fun (z31 : Int32) (h32 : qH) =>
            (f9_itemOf p1 z31 h32).bind fun (z33 : Int32) =>
            j28 z33 h32)
          else (
            j28 (-1 : Int32) h25))
        else (
          k x12 x13 h14)))
    else (
      k x12 x13 h14)
set_option maxRecDepth 100000 in
set_option maxHeartbeats 4000000 in
theorem w9_items_L41 (l : Launch) (h0 : qH) (p1 : Int32) (p2 : Nat) (np2 : Nat) (p3 : Int32) (hp2 : UM[p2]? = some (.inr (0, .inl np2, []))) {k : Int32 → Int32 → qH → Option (qH)} (hk : ∀ (x12 : Int32) (x13 : Int32) (h14 : qH), PW UM ROM l R9_items cX9_items 7 none RX9 (qEv h0) 131 [some (.ref 0), some (.int p1), some (.ref p2), some (.int p3), none, some (.int x12), some (.int x13)] [] h14 (k x12 x13 h14)) : ∀ (n : Nat) (x12 : Int32) (x13 : Int32) (h14 : qH), PW UM ROM l R9_items cX9_items 7 none RX9 (qEv h0) 41 [some (.ref 0), some (.int p1), some (.ref p2), some (.int p3), none, some (.int x12), some (.int x13)] [] h14 (f9_items_L41 p1 p2 np2 p3 k n x12 x13 h14) := by
  intro n
  induction n with
  | zero => intro _ _ _; exact p_none
  | succ n ih =>
    intro x12 x13 h14
    unfold f9_items_L41
    refine p_aload_n rfl dX9_items_41 rfl ?_
    refine p_geti qg_RX9_87 uM_0 rfl dX9_items_42 rfl ?_
    refine p_iconst (v := (-1 : Int32)) kiconst_m1 dX9_items_45 rfl ?_
    refine p_if (fun c15 => ?_) (fun c15 => ?_)
    · refine p_icmp_ne_f (tgt := 131) dX9_items_46 (by decide) rfl c15 ?_
      refine p_iload rfl dX9_items_49 rfl ?_
      refine p_iconst (v := (-1 : Int32)) kiconst_m1 dX9_items_51 rfl ?_
      refine p_if (fun c16 => ?_) (fun c16 => ?_)
      · refine p_icmp_eq_t (tgt := 131) dX9_items_52 (by decide) c16 ?_
        exact hk x12 x13 h14
      · refine p_icmp_eq_f (tgt := 131) dX9_items_52 (by decide) rfl c16 ?_
        refine p_iload rfl dX9_items_55 rfl ?_
        refine p_iload rfl dX9_items_57 rfl ?_
        refine p_callSr (f := f9_has x12 x13) (st := []) [.int x12, .int x13] qRokM (m9_has l x12 x13) cal_RX9_111 rfl ⟨rfl, rfl⟩ ⟨Nat.le_of_ble_eq_true rfl, Nat.le_of_ble_eq_true rfl⟩ (Nat.le_of_ble_eq_true rfl) dX9_items_59 rfl (fun z17 => ?_)
        refine p_if (fun c18 => ?_) (fun c18 => ?_)
        · refine p_if_ne_f (tgt := 131) dX9_items_62 (by decide) rfl c18 ?_
          refine p_iload rfl dX9_items_65 rfl ?_
          refine p_iconst (v := (1 : Int32)) kiconst_1 dX9_items_67 rfl ?_
          refine p_iload rfl dX9_items_68 rfl ?_
          refine p_ishl dX9_items_70 rfl ?_
          refine p_ior dX9_items_71 rfl ?_
          refine p_isN (lf := fun x19 => [some (.ref 0), some (.int p1), some (.ref p2), some (.int p3), none, some (.int x19), some (.int x13)]) dX9_items_72 rfl rfl rfl (fun _ => rfl) (fun x19 => ?_)
          refine p_aload_n rfl dX9_items_74 rfl ?_
          refine p_dup rfl dX9_items_75 rfl ?_
          refine p_geti qg_RX9_80 uM_0 rfl dX9_items_76 rfl ?_
          refine p_iconst (v := (1 : Int32)) kiconst_1 dX9_items_79 rfl ?_
          refine p_iadd dX9_items_80 rfl ?_
          refine p_puti qokM qp_RX9_80 uM_0 rfl dX9_items_81 rfl ?_
          refine p_nmH (fun h20 => ?_)
          refine p_aload_n rfl dX9_items_84 rfl ?_
          refine p_iload_n rfl dX9_items_85 rfl ?_
          refine p_iload rfl dX9_items_86 rfl ?_
          refine p_iadd dX9_items_88 rfl ?_
          refine p_aload_n rfl dX9_items_89 rfl ?_
          refine p_iload_n rfl dX9_items_90 rfl ?_
          refine p_iload rfl dX9_items_91 rfl ?_
          refine p_callSr (f := f9_lowest p1 x13) (st := [.ref 0, .int (p3 + x13), .ref p2]) [.int p1, .int x13] qRokM (m9_lowest l p1 x13) cal_RX9_115 rfl ⟨rfl, rfl⟩ ⟨Nat.le_of_ble_eq_true rfl, Nat.le_of_ble_eq_true rfl⟩ (Nat.le_of_ble_eq_true rfl) dX9_items_93 rfl (fun z21 => ?_)
          refine p_iload_n rfl dX9_items_96 rfl ?_
          refine p_iload rfl dX9_items_97 rfl ?_
          refine p_callSr (f := f9_highest p1 x13) (st := [.int z21, .ref 0, .int (p3 + x13), .ref p2]) [.int p1, .int x13] qRokM (m9_highest l p1 x13) cal_RX9_118 rfl ⟨rfl, rfl⟩ ⟨Nat.le_of_ble_eq_true rfl, Nat.le_of_ble_eq_true rfl⟩ (Nat.le_of_ble_eq_true rfl) dX9_items_99 rfl (fun z22 => ?_)
          refine p_cVw (f := f9_number z21 z22) (st := [.int (p3 + x13), .ref p2]) [.int z21, .int z22] qRokM (m9_number l z21 z22) cal_RX9_121 uM_0 rfl rfl ⟨rfl, rfl⟩ ⟨Nat.le_of_ble_eq_true rfl, Nat.le_of_ble_eq_true rfl⟩ (Nat.le_of_ble_eq_true rfl) dX9_items_102 rfl (fun z23 h24 => ?_)
          refine p_iast qokM hp2 dX9_items_105 rfl (fun _ => ?_)
          refine p_nmH (fun h25 => ?_)
          refine p_aload_n rfl dX9_items_106 rfl ?_
          refine p_geti qg_RX9_87 uM_0 rfl dX9_items_107 rfl ?_
          refine p_iconst (v := (-1 : Int32)) kiconst_m1 dX9_items_110 rfl ?_
          refine p_jn (fun j28 => ∀ (x26 : Int32) (h27 : qH), PW UM ROM l R9_items cX9_items 7 none RX9 (qEv h0) 126 [some (.ref 0), some (.int p1), some (.ref p2), some (.int p3), none, some (.int x19), some (.int x13)] [.int x26] h27 (j28 x26 h27)) (fun x26 h27 => ?_) (fun j28 J29 => ?_)
          · refine p_is (ls' := [some (.ref 0), some (.int p1), some (.ref p2), some (.int p3), none, some (.int x19), some (.int x26)]) dX9_items_126 rfl rfl rfl rfl ?_
            refine p_goto (tgt := 41) dX9_items_128 (by decide) ?_
            exact ih x19 x26 h27
          · refine p_if (fun c30 => ?_) (fun c30 => ?_)
            · refine p_icmp_ne_f (tgt := 125) dX9_items_111 (by decide) rfl c30 ?_
              refine p_iload_n rfl dX9_items_114 rfl ?_
              refine p_aload_n rfl dX9_items_115 rfl ?_
              refine p_cVw (f := f9_ahead) (st := [.int p1]) [] qRokM (m9_ahead l) cal_RX9_90 uM_0 rfl rfl ⟨rfl, rfl⟩ ⟨Nat.le_of_ble_eq_true rfl, Nat.le_of_ble_eq_true rfl⟩ (Nat.le_of_ble_eq_true rfl) dX9_items_116 rfl (fun z31 h32 => ?_)
              refine p_callSr (f := f9_itemOf p1 z31) (st := []) [.int p1, .int z31] qRokM (m9_itemOf l p1 z31) cal_RX9_108 rfl ⟨rfl, rfl⟩ ⟨Nat.le_of_ble_eq_true rfl, Nat.le_of_ble_eq_true rfl⟩ (Nat.le_of_ble_eq_true rfl) dX9_items_119 rfl (fun z33 => ?_)
              refine p_goto (tgt := 126) dX9_items_122 (by decide) ?_
              exact J29 z33 h32
            · refine p_icmp_ne_t (tgt := 125) dX9_items_111 (by decide) c30 ?_
              refine p_iconst (v := (-1 : Int32)) kiconst_m1 dX9_items_125 rfl ?_
              exact J29 (-1 : Int32) h25
        · refine p_if_ne_t (tgt := 131) dX9_items_62 (by decide) c18 ?_
          exact hk x12 x13 h14
    · refine p_icmp_ne_t (tgt := 131) dX9_items_46 (by decide) c15 ?_
      exact hk x12 x13 h14
noncomputable def f9_items (p1 : Int32) (p2 : Nat) (np2 : Nat) (p3 : Int32) (p4 : Int32) (h : qH) : Option (qH) :=
  f9_items_L3 p1 p2 np2 p3 p4 (fun (x7 : Int32) (h8 : qH) =>
    qb2 (f9_ahead h8) fun (z9 : Int32) (h10 : qH) =>
    (f9_itemOf p1 z9 h10).bind fun (z11 : Int32) =>
    f9_items_L41 p1 p2 np2 p3 (fun (x34 : Int32) (x35 : Int32) (h36 : qH) =>
      some h36) qN (0 : Int32) z11 h10) qN (0 : Int32) h
set_option maxRecDepth 100000 in
set_option maxHeartbeats 4000000 in
theorem m9_items (l : Launch) (p1 : Int32) {p2 : Nat} {np2 : Nat} (hp2 : UM[p2]? = some (.inr (0, .inl np2, []))) (p3 : Int32) (p4 : Int32) : qMet UM ROM l yX9_items (qws yX9_items cX9_items 7 none) R9_items [.ref 0, .int p1, .ref p2, .int p3, .int p4] (f9_items p1 p2 np2 p3 p4) qEv := by
  refine q_met (own := RX9) 2 (by decide) rfl (Nat.le_of_ble_eq_true rfl) (ls := [some (.ref 0), some (.int p1), some (.ref p2), some (.int p3), some (.int p4), none, none]) rfl fun h => ?_
  unfold f9_items
  show PW UM ROM l R9_items cX9_items 7 none RX9 (qEv h) 0 [some (.ref 0), some (.int p1), some (.ref p2), some (.int p3), some (.int p4), none, none] [] h _
  refine p_iconst (v := (0 : Int32)) kiconst_0 dX9_items_0 rfl ?_
  refine p_is (ls' := [some (.ref 0), some (.int p1), some (.ref p2), some (.int p3), some (.int p4), some (.int (0 : Int32)), none]) dX9_items_1 rfl rfl rfl rfl ?_
  refine w9_items_L3 l h p1 p2 np2 p3 p4 hp2 (fun x7 h8 => ?_) qN _ _
  refine p_iconst (v := (0 : Int32)) kiconst_0 dX9_items_28 rfl ?_
  refine p_is (ls' := [some (.ref 0), some (.int p1), some (.ref p2), some (.int p3), some (.int p4), some (.int (0 : Int32)), none]) dX9_items_29 rfl rfl rfl rfl ?_
  refine p_iload_n rfl dX9_items_31 rfl ?_
  refine p_aload_n rfl dX9_items_32 rfl ?_
  refine p_cVw (f := f9_ahead) (st := [.int p1]) [] qRokM (m9_ahead l) cal_RX9_90 uM_0 rfl rfl ⟨rfl, rfl⟩ ⟨Nat.le_of_ble_eq_true rfl, Nat.le_of_ble_eq_true rfl⟩ (Nat.le_of_ble_eq_true rfl) dX9_items_33 rfl (fun z9 h10 => ?_)
  refine p_callSr (f := f9_itemOf p1 z9) (st := []) [.int p1, .int z9] qRokM (m9_itemOf l p1 z9) cal_RX9_108 rfl ⟨rfl, rfl⟩ ⟨Nat.le_of_ble_eq_true rfl, Nat.le_of_ble_eq_true rfl⟩ (Nat.le_of_ble_eq_true rfl) dX9_items_36 rfl (fun z11 => ?_)
  refine p_is (ls' := [some (.ref 0), some (.int p1), some (.ref p2), some (.int p3), some (.int p4), some (.int (0 : Int32)), some (.int z11)]) dX9_items_39 rfl rfl rfl rfl ?_
  refine p_wk (ls' := [some (.ref 0), some (.int p1), some (.ref p2), some (.int p3), none, some (.int (0 : Int32)), some (.int z11)]) ⟨rfl, rfl, rfl, rfl, rfl, rfl, trivial⟩ ?_
  refine w9_items_L41 l h p1 p2 np2 p3 hp2 (fun x34 x35 h36 => ?_) qN _ _ _
  exact p_vret rfl rfl dX9_items_131
noncomputable def f9_readHall_L24 (k : Int32 → qH → Option (Int32 × qH)) : Nat → Int32 → qH → Option (Int32 × qH)
  | 0, _, _ => none
  | n + 1, x5, h6 =>
    if (8 : Int32) ≤ x5 then (
      k x5 h6)
    else (
      (f9_usual (115 : Int32) x5 h6).bind fun (z8 : Int32) =>
      qg (qin x5 8) <|
      qlt (qw h6 2 (ix x5) z8) fun (h9 : qH) =>
      qlt (x5 + (1 : Int32)) fun (x10 : Int32) =>
      f9_readHall_L24 k n x10 h9)
set_option maxRecDepth 100000 in
set_option maxHeartbeats 4000000 in
theorem w9_readHall_L24 (l : Launch) (h0 : qH) {k : Int32 → qH → Option (Int32 × qH)} (hk : ∀ (x5 : Int32) (h6 : qH), PW UM ROM l R9_readHall cX9_readHall 4 (some .int) RX9 (qEw h0) 48 [some (.ref 0), some (.int (0 : Int32)), some (.int x5), none] [] h6 (k x5 h6)) : ∀ (n : Nat) (x5 : Int32) (h6 : qH), PW UM ROM l R9_readHall cX9_readHall 4 (some .int) RX9 (qEw h0) 24 [some (.ref 0), some (.int (0 : Int32)), some (.int x5), none] [] h6 (f9_readHall_L24 k n x5 h6) := by
  intro n
  induction n with
  | zero => intro _ _; exact p_none
  | succ n ih =>
    intro x5 h6
    unfold f9_readHall_L24
    refine p_iload_n rfl dX9_readHall_24 rfl ?_
    refine p_bipush (v := (8 : Int32)) kbipush_8 dX9_readHall_25 rfl ?_
    refine p_if (fun c7 => ?_) (fun c7 => ?_)
    · refine p_icmp_ge_t (tgt := 48) dX9_readHall_27 (by decide) c7 ?_
      exact hk x5 h6
    · refine p_icmp_ge_f (tgt := 48) dX9_readHall_27 (by decide) rfl c7 ?_
      refine p_aload_n rfl dX9_readHall_30 rfl ?_
      refine p_getr qg_RX9_13 uM_0 rfl dX9_readHall_31 rfl ?_
      refine p_iload_n rfl dX9_readHall_34 rfl ?_
      refine p_bipush (v := (115 : Int32)) kbipush_115 dX9_readHall_35 rfl ?_
      refine p_iload_n rfl dX9_readHall_37 rfl ?_
      refine p_callSr (f := f9_usual (115 : Int32) x5) (st := [.int x5, .ref 2]) [.int (115 : Int32), .int x5] qRokM (m9_usual l (115 : Int32) x5) cal_RX9_104 rfl ⟨rfl, rfl⟩ ⟨Nat.le_of_ble_eq_true rfl, Nat.le_of_ble_eq_true rfl⟩ (Nat.le_of_ble_eq_true rfl) dX9_readHall_38 rfl (fun z8 => ?_)
      refine p_iast qokM uM_2 dX9_readHall_41 rfl (fun _ => ?_)
      refine p_nmH (fun h9 => ?_)
      refine p_iiN (v := (1 : Int32)) (lf := fun x10 => [some (.ref 0), some (.int (0 : Int32)), some (.int x10), none]) kiconst_1 dX9_readHall_42 rfl rfl rfl rfl (fun _ => rfl) (fun x10 => ?_)
      refine p_goto (tgt := 24) dX9_readHall_45 (by decide) ?_
      exact ih x10 h9
noncomputable def f9_readHall_L50 (k : Int32 → Int32 → qH → Option (Int32 × qH)) : Nat → Int32 → Int32 → qH → Option (Int32 × qH)
  | 0, _, _, _ => none
  | n + 1, x13, x14, h15 =>
    if x14 = 0 then (
      k x13 x14 h15)
    else (
      if (h15.1 0 4) = (-1 : Int32) then (
        qb2 (f9_ahead h15) fun (z18 : Int32) (h19 : qH) =>
        qj (fun (x20 : Int32) (h21 : qH) =>
          qj (fun (x24 : Int32) (h25 : qH) =>
            qlt (if x24 = 0 then (0 : Int32) else (1 : Int32)) fun (x29 : Int32) =>
            qlt (qw h25 0 3 ((h25.1 0 3) + x29)) fun (h30 : qH) =>
            f9_readHall_L50 k n x20 x24 h30) fun j26 =>
          if (h21.1 0 4) = (-1 : Int32) then (
            qb2 (f9_ahead h21) fun (z32 : Int32) (h33 : qH) =>
            if z32 = (59 : Int32) then (
              j26 (1 : Int32) h33)
            else (
              j26 (0 : Int32) h33))
          else (
            j26 (0 : Int32) h21)) fun j22 =>
        qj (fun (x35 : Int32) (h36 : qH) =>
          qj (fun (h39 : qH) =>
            if z18 = (102 : Int32) then (
              if (24 : Int32) ≤ (h39.1 0 9) then (
                (f9_bad h39).bind fun (h44 : qH) =>
                j22 x35 h44)
              else (
                qlt (qw h39 0 3 ((h39.1 0 3) + (1 : Int32))) fun (h45 : qH) =>
                (f9_items z18 4 48 ((2 : Int32) * (h45.1 0 9)) (2 : Int32) h45).bind fun (h46 : qH) =>
                qlt (qw h46 0 9 ((h46.1 0 9) + (1 : Int32))) fun (h47 : qH) =>
                j22 x35 h47))
            else (
              (f9_bad h39).bind fun (h48 : qH) =>
              j22 x35 h48)) fun j40 =>
          if z18 = (116 : Int32) then (
            if (8 : Int32) ≤ (h36.1 0 8) then (
              j40 h36)
            else (
              qlt (qw h36 0 3 ((h36.1 0 3) + (1 : Int32))) fun (h51 : qH) =>
              (f9_items z18 3 16 ((2 : Int32) * (h51.1 0 8)) (2 : Int32) h51).bind fun (h52 : qH) =>
              qlt (qw h52 0 8 ((h52.1 0 8) + (1 : Int32))) fun (h53 : qH) =>
              j22 x35 h53))
          else (
            j40 h36)) fun j37 =>
        if z18 = (115 : Int32) then (
          if x13 = 0 then (
            qlt (qw h19 0 3 ((h19.1 0 3) + (1 : Int32))) fun (h56 : qH) =>
            (f9_items z18 2 8 (0 : Int32) (8 : Int32) h56).bind fun (h57 : qH) =>
            j22 (1 : Int32) h57)
          else (
            j37 x13 h19))
        else (
          j37 x13 h19))
      else (
        k x13 x14 h15))
set_option maxRecDepth 100000 in
set_option maxHeartbeats 4000000 in
theorem w9_readHall_L50 (l : Launch) (h0 : qH) {k : Int32 → Int32 → qH → Option (Int32 × qH)} (hk : ∀ (x13 : Int32) (x14 : Int32) (h15 : qH), PW UM ROM l R9_readHall cX9_readHall 4 (some .int) RX9 (qEw h0) 260 [some (.ref 0), some (.int x13), some (.int x14), none] [] h15 (k x13 x14 h15)) : ∀ (n : Nat) (x13 : Int32) (x14 : Int32) (h15 : qH), PW UM ROM l R9_readHall cX9_readHall 4 (some .int) RX9 (qEw h0) 50 [some (.ref 0), some (.int x13), some (.int x14), none] [] h15 (f9_readHall_L50 k n x13 x14 h15) := by
  intro n
  induction n with
  | zero => intro _ _ _; exact p_none
  | succ n ih =>
    intro x13 x14 h15
    unfold f9_readHall_L50
    refine p_iload_n rfl dX9_readHall_50 rfl ?_
    refine p_if (fun c16 => ?_) (fun c16 => ?_)
    · refine p_if_eq_t (tgt := 260) dX9_readHall_51 (by decide) c16 ?_
      exact hk x13 x14 h15
    · refine p_if_eq_f (tgt := 260) dX9_readHall_51 (by decide) rfl c16 ?_
      refine p_aload_n rfl dX9_readHall_54 rfl ?_
      refine p_geti qg_RX9_87 uM_0 rfl dX9_readHall_55 rfl ?_
      refine p_iconst (v := (-1 : Int32)) kiconst_m1 dX9_readHall_58 rfl ?_
      refine p_if (fun c17 => ?_) (fun c17 => ?_)
      · refine p_icmp_ne_f (tgt := 260) dX9_readHall_59 (by decide) rfl c17 ?_
        refine p_aload_n rfl dX9_readHall_62 rfl ?_
        refine p_cVw (f := f9_ahead) (st := []) [] qRokM (m9_ahead l) cal_RX9_90 uM_0 rfl rfl ⟨rfl, rfl⟩ ⟨Nat.le_of_ble_eq_true rfl, Nat.le_of_ble_eq_true rfl⟩ (Nat.le_of_ble_eq_true rfl) dX9_readHall_63 rfl (fun z18 h19 => ?_)
        refine p_is_n (ls' := [some (.ref 0), some (.int x13), some (.int x14), some (.int z18)]) dX9_readHall_66 rfl rfl rfl rfl ?_
        refine p_iload_n rfl dX9_readHall_67 rfl ?_
        refine p_bipush (v := (115 : Int32)) kbipush_115 dX9_readHall_68 rfl ?_
        refine p_jn (fun j22 => ∀ (x20 : Int32) (h21 : qH), PW UM ROM l R9_readHall cX9_readHall 4 (some .int) RX9 (qEw h0) 216 [some (.ref 0), some (.int x20), some (.int x14), some (.int z18)] [] h21 (j22 x20 h21)) (fun x20 h21 => ?_) (fun j22 J23 => ?_)
        · refine p_aload_n rfl dX9_readHall_216 rfl ?_
          refine p_geti qg_RX9_87 uM_0 rfl dX9_readHall_217 rfl ?_
          refine p_iconst (v := (-1 : Int32)) kiconst_m1 dX9_readHall_220 rfl ?_
          refine p_jn (fun j26 => ∀ (x24 : Int32) (h25 : qH), PW UM ROM l R9_readHall cX9_readHall 4 (some .int) RX9 (qEw h0) 238 [some (.ref 0), some (.int x20), some (.int x14), some (.int z18)] [.int x24] h25 (j26 x24 h25)) (fun x24 h25 => ?_) (fun j26 J27 => ?_)
          · refine p_is_n (ls' := [some (.ref 0), some (.int x20), some (.int x24), some (.int z18)]) dX9_readHall_238 rfl rfl rfl rfl ?_
            refine p_aload_n rfl dX9_readHall_239 rfl ?_
            refine p_dup rfl dX9_readHall_240 rfl ?_
            refine p_geti qg_RX9_80 uM_0 rfl dX9_readHall_241 rfl ?_
            refine p_iload_n rfl dX9_readHall_244 rfl ?_
            refine p_vj 253 [some (.ref 0), some (.int x20), some (.int x24), some (.int z18)] [.int (h25.1 0 3), .ref 0] (fun x29 => ?_) (fun J => ?_)
            · refine p_iadd dX9_readHall_253 rfl ?_
              refine p_puti qokM qp_RX9_80 uM_0 rfl dX9_readHall_254 rfl ?_
              refine p_nmH (fun h30 => ?_)
              refine p_goto (tgt := 50) dX9_readHall_257 (by decide) ?_
              exact p_wk (ls' := [some (.ref 0), some (.int x20), some (.int x24), none]) ⟨rfl, rfl, rfl, trivial⟩ (ih x20 x24 h30)
            · refine p_dia (fun c28 => ?_) (fun c28 => ?_)
              · refine p_if_eq_t (tgt := 252) dX9_readHall_245 (by decide) c28 ?_
                refine p_iconst (v := (0 : Int32)) kiconst_0 dX9_readHall_252 rfl ?_
                exact J _
              · refine p_if_eq_f (tgt := 252) dX9_readHall_245 (by decide) rfl c28 ?_
                refine p_iconst (v := (1 : Int32)) kiconst_1 dX9_readHall_248 rfl ?_
                refine p_goto (tgt := 253) dX9_readHall_249 (by decide) ?_
                exact J _
          · refine p_if (fun c31 => ?_) (fun c31 => ?_)
            · refine p_icmp_ne_f (tgt := 237) dX9_readHall_221 (by decide) rfl c31 ?_
              refine p_aload_n rfl dX9_readHall_224 rfl ?_
              refine p_cVw (f := f9_ahead) (st := []) [] qRokM (m9_ahead l) cal_RX9_90 uM_0 rfl rfl ⟨rfl, rfl⟩ ⟨Nat.le_of_ble_eq_true rfl, Nat.le_of_ble_eq_true rfl⟩ (Nat.le_of_ble_eq_true rfl) dX9_readHall_225 rfl (fun z32 h33 => ?_)
              refine p_bipush (v := (59 : Int32)) kbipush_59 dX9_readHall_228 rfl ?_
              refine p_if (fun c34 => ?_) (fun c34 => ?_)
              · refine p_icmp_ne_f (tgt := 237) dX9_readHall_230 (by decide) rfl c34 ?_
                refine p_iconst (v := (1 : Int32)) kiconst_1 dX9_readHall_233 rfl ?_
                refine p_goto (tgt := 238) dX9_readHall_234 (by decide) ?_
                exact J27 (1 : Int32) h33
              · refine p_icmp_ne_t (tgt := 237) dX9_readHall_230 (by decide) c34 ?_
                refine p_iconst (v := (0 : Int32)) kiconst_0 dX9_readHall_237 rfl ?_
                exact J27 (0 : Int32) h33
            · refine p_icmp_ne_t (tgt := 237) dX9_readHall_221 (by decide) c31 ?_
              refine p_iconst (v := (0 : Int32)) kiconst_0 dX9_readHall_237 rfl ?_
              exact J27 (0 : Int32) h21
        · refine p_jn (fun j37 => ∀ (x35 : Int32) (h36 : qH), PW UM ROM l R9_readHall cX9_readHall 4 (some .int) RX9 (qEw h0) 104 [some (.ref 0), some (.int x35), some (.int x14), some (.int z18)] [] h36 (j37 x35 h36)) (fun x35 h36 => ?_) (fun j37 J38 => ?_)
          · refine p_iload_n rfl dX9_readHall_104 rfl ?_
            refine p_bipush (v := (116 : Int32)) kbipush_116 dX9_readHall_105 rfl ?_
            refine p_jn (fun j40 => ∀ (h39 : qH), PW UM ROM l R9_readHall cX9_readHall 4 (some .int) RX9 (qEw h0) 158 [some (.ref 0), some (.int x35), some (.int x14), some (.int z18)] [] h39 (j40 h39)) (fun h39 => ?_) (fun j40 J41 => ?_)
            · refine p_iload_n rfl dX9_readHall_158 rfl ?_
              refine p_bipush (v := (102 : Int32)) kbipush_102 dX9_readHall_159 rfl ?_
              refine p_if (fun c42 => ?_) (fun c42 => ?_)
              · refine p_icmp_ne_f (tgt := 212) dX9_readHall_161 (by decide) rfl c42 ?_
                refine p_aload_n rfl dX9_readHall_164 rfl ?_
                refine p_geti qg_RX9_127 uM_0 rfl dX9_readHall_165 rfl ?_
                refine p_bipush (v := (24 : Int32)) kbipush_24 dX9_readHall_168 rfl ?_
                refine p_if (fun c43 => ?_) (fun c43 => ?_)
                · refine p_icmp_ge_t (tgt := 212) dX9_readHall_170 (by decide) c43 ?_
                  refine p_aload_n rfl dX9_readHall_212 rfl ?_
                  refine p_callVv (f := f9_bad) (st := []) [] qRokM (m9_bad l) cal_RX9_97 uM_0 rfl rfl ⟨rfl, rfl⟩ ⟨Nat.le_of_ble_eq_true rfl, Nat.le_of_ble_eq_true rfl⟩ (Nat.le_of_ble_eq_true rfl) dX9_readHall_213 rfl (fun h44 => ?_)
                  exact J23 x35 h44
                · refine p_icmp_ge_f (tgt := 212) dX9_readHall_170 (by decide) rfl c43 ?_
                  refine p_aload_n rfl dX9_readHall_173 rfl ?_
                  refine p_dup rfl dX9_readHall_174 rfl ?_
                  refine p_geti qg_RX9_80 uM_0 rfl dX9_readHall_175 rfl ?_
                  refine p_iconst (v := (1 : Int32)) kiconst_1 dX9_readHall_178 rfl ?_
                  refine p_iadd dX9_readHall_179 rfl ?_
                  refine p_puti qokM qp_RX9_80 uM_0 rfl dX9_readHall_180 rfl ?_
                  refine p_nmH (fun h45 => ?_)
                  refine p_aload_n rfl dX9_readHall_183 rfl ?_
                  refine p_iload_n rfl dX9_readHall_184 rfl ?_
                  refine p_aload_n rfl dX9_readHall_185 rfl ?_
                  refine p_getr qg_RX9_19 uM_0 rfl dX9_readHall_186 rfl ?_
                  refine p_iconst (v := (2 : Int32)) kiconst_2 dX9_readHall_189 rfl ?_
                  refine p_aload_n rfl dX9_readHall_190 rfl ?_
                  refine p_geti qg_RX9_127 uM_0 rfl dX9_readHall_191 rfl ?_
                  refine p_imul dX9_readHall_194 rfl ?_
                  refine p_iconst (v := (2 : Int32)) kiconst_2 dX9_readHall_195 rfl ?_
                  refine p_callVv (f := f9_items z18 4 48 ((2 : Int32) * (h45.1 0 9)) (2 : Int32)) (st := []) [.int z18, .ref 4, .int ((2 : Int32) * (h45.1 0 9)), .int (2 : Int32)] qRokM (m9_items l z18 uM_4 ((2 : Int32) * (h45.1 0 9)) (2 : Int32)) cal_RX9_130 uM_0 rfl rfl ⟨rfl, rfl⟩ ⟨Nat.le_of_ble_eq_true rfl, Nat.le_of_ble_eq_true rfl⟩ (Nat.le_of_ble_eq_true rfl) dX9_readHall_196 rfl (fun h46 => ?_)
                  refine p_aload_n rfl dX9_readHall_199 rfl ?_
                  refine p_dup rfl dX9_readHall_200 rfl ?_
                  refine p_geti qg_RX9_127 uM_0 rfl dX9_readHall_201 rfl ?_
                  refine p_iconst (v := (1 : Int32)) kiconst_1 dX9_readHall_204 rfl ?_
                  refine p_iadd dX9_readHall_205 rfl ?_
                  refine p_puti qokM qp_RX9_127 uM_0 rfl dX9_readHall_206 rfl ?_
                  refine p_nmH (fun h47 => ?_)
                  refine p_goto (tgt := 216) dX9_readHall_209 (by decide) ?_
                  exact J23 x35 h47
              · refine p_icmp_ne_t (tgt := 212) dX9_readHall_161 (by decide) c42 ?_
                refine p_aload_n rfl dX9_readHall_212 rfl ?_
                refine p_callVv (f := f9_bad) (st := []) [] qRokM (m9_bad l) cal_RX9_97 uM_0 rfl rfl ⟨rfl, rfl⟩ ⟨Nat.le_of_ble_eq_true rfl, Nat.le_of_ble_eq_true rfl⟩ (Nat.le_of_ble_eq_true rfl) dX9_readHall_213 rfl (fun h48 => ?_)
                exact J23 x35 h48
            · refine p_if (fun c49 => ?_) (fun c49 => ?_)
              · refine p_icmp_ne_f (tgt := 158) dX9_readHall_107 (by decide) rfl c49 ?_
                refine p_aload_n rfl dX9_readHall_110 rfl ?_
                refine p_geti qg_RX9_124 uM_0 rfl dX9_readHall_111 rfl ?_
                refine p_bipush (v := (8 : Int32)) kbipush_8 dX9_readHall_114 rfl ?_
                refine p_if (fun c50 => ?_) (fun c50 => ?_)
                · refine p_icmp_ge_t (tgt := 158) dX9_readHall_116 (by decide) c50 ?_
                  exact J41 h36
                · refine p_icmp_ge_f (tgt := 158) dX9_readHall_116 (by decide) rfl c50 ?_
                  refine p_aload_n rfl dX9_readHall_119 rfl ?_
                  refine p_dup rfl dX9_readHall_120 rfl ?_
                  refine p_geti qg_RX9_80 uM_0 rfl dX9_readHall_121 rfl ?_
                  refine p_iconst (v := (1 : Int32)) kiconst_1 dX9_readHall_124 rfl ?_
                  refine p_iadd dX9_readHall_125 rfl ?_
                  refine p_puti qokM qp_RX9_80 uM_0 rfl dX9_readHall_126 rfl ?_
                  refine p_nmH (fun h51 => ?_)
                  refine p_aload_n rfl dX9_readHall_129 rfl ?_
                  refine p_iload_n rfl dX9_readHall_130 rfl ?_
                  refine p_aload_n rfl dX9_readHall_131 rfl ?_
                  refine p_getr qg_RX9_16 uM_0 rfl dX9_readHall_132 rfl ?_
                  refine p_iconst (v := (2 : Int32)) kiconst_2 dX9_readHall_135 rfl ?_
                  refine p_aload_n rfl dX9_readHall_136 rfl ?_
                  refine p_geti qg_RX9_124 uM_0 rfl dX9_readHall_137 rfl ?_
                  refine p_imul dX9_readHall_140 rfl ?_
                  refine p_iconst (v := (2 : Int32)) kiconst_2 dX9_readHall_141 rfl ?_
                  refine p_callVv (f := f9_items z18 3 16 ((2 : Int32) * (h51.1 0 8)) (2 : Int32)) (st := []) [.int z18, .ref 3, .int ((2 : Int32) * (h51.1 0 8)), .int (2 : Int32)] qRokM (m9_items l z18 uM_3 ((2 : Int32) * (h51.1 0 8)) (2 : Int32)) cal_RX9_130 uM_0 rfl rfl ⟨rfl, rfl⟩ ⟨Nat.le_of_ble_eq_true rfl, Nat.le_of_ble_eq_true rfl⟩ (Nat.le_of_ble_eq_true rfl) dX9_readHall_142 rfl (fun h52 => ?_)
                  refine p_aload_n rfl dX9_readHall_145 rfl ?_
                  refine p_dup rfl dX9_readHall_146 rfl ?_
                  refine p_geti qg_RX9_124 uM_0 rfl dX9_readHall_147 rfl ?_
                  refine p_iconst (v := (1 : Int32)) kiconst_1 dX9_readHall_150 rfl ?_
                  refine p_iadd dX9_readHall_151 rfl ?_
                  refine p_puti qokM qp_RX9_124 uM_0 rfl dX9_readHall_152 rfl ?_
                  refine p_nmH (fun h53 => ?_)
                  refine p_goto (tgt := 216) dX9_readHall_155 (by decide) ?_
                  exact J23 x35 h53
              · refine p_icmp_ne_t (tgt := 158) dX9_readHall_107 (by decide) c49 ?_
                exact J41 h36
          · refine p_if (fun c54 => ?_) (fun c54 => ?_)
            · refine p_icmp_ne_f (tgt := 104) dX9_readHall_70 (by decide) rfl c54 ?_
              refine p_iload_n rfl dX9_readHall_73 rfl ?_
              refine p_if (fun c55 => ?_) (fun c55 => ?_)
              · refine p_if_ne_f (tgt := 104) dX9_readHall_74 (by decide) rfl c55 ?_
                refine p_iconst (v := (1 : Int32)) kiconst_1 dX9_readHall_77 rfl ?_
                refine p_is_n (ls' := [some (.ref 0), some (.int (1 : Int32)), some (.int x14), some (.int z18)]) dX9_readHall_78 rfl rfl rfl rfl ?_
                refine p_aload_n rfl dX9_readHall_79 rfl ?_
                refine p_dup rfl dX9_readHall_80 rfl ?_
                refine p_geti qg_RX9_80 uM_0 rfl dX9_readHall_81 rfl ?_
                refine p_iconst (v := (1 : Int32)) kiconst_1 dX9_readHall_84 rfl ?_
                refine p_iadd dX9_readHall_85 rfl ?_
                refine p_puti qokM qp_RX9_80 uM_0 rfl dX9_readHall_86 rfl ?_
                refine p_nmH (fun h56 => ?_)
                refine p_aload_n rfl dX9_readHall_89 rfl ?_
                refine p_iload_n rfl dX9_readHall_90 rfl ?_
                refine p_aload_n rfl dX9_readHall_91 rfl ?_
                refine p_getr qg_RX9_13 uM_0 rfl dX9_readHall_92 rfl ?_
                refine p_iconst (v := (0 : Int32)) kiconst_0 dX9_readHall_95 rfl ?_
                refine p_bipush (v := (8 : Int32)) kbipush_8 dX9_readHall_96 rfl ?_
                refine p_callVv (f := f9_items z18 2 8 (0 : Int32) (8 : Int32)) (st := []) [.int z18, .ref 2, .int (0 : Int32), .int (8 : Int32)] qRokM (m9_items l z18 uM_2 (0 : Int32) (8 : Int32)) cal_RX9_130 uM_0 rfl rfl ⟨rfl, rfl⟩ ⟨Nat.le_of_ble_eq_true rfl, Nat.le_of_ble_eq_true rfl⟩ (Nat.le_of_ble_eq_true rfl) dX9_readHall_98 rfl (fun h57 => ?_)
                refine p_goto (tgt := 216) dX9_readHall_101 (by decide) ?_
                exact J23 (1 : Int32) h57
              · refine p_if_ne_t (tgt := 104) dX9_readHall_74 (by decide) c55 ?_
                exact J38 x13 h19
            · refine p_icmp_ne_t (tgt := 104) dX9_readHall_70 (by decide) c54 ?_
              exact J38 x13 h19
      · refine p_icmp_ne_t (tgt := 260) dX9_readHall_59 (by decide) c17 ?_
        exact hk x13 x14 h15
noncomputable def f9_readHall (h : qH) : Option (Int32 × qH) :=
  qlt (qw h 0 3 (0 : Int32)) fun (h1 : qH) =>
  qlt (qw h1 0 4 (-1 : Int32)) fun (h2 : qH) =>
  qlt (qw h2 0 8 (0 : Int32)) fun (h3 : qH) =>
  qlt (qw h3 0 9 (0 : Int32)) fun (h4 : qH) =>
  f9_readHall_L24 (fun (x11 : Int32) (h12 : qH) =>
    f9_readHall_L50 (fun (x58 : Int32) (x59 : Int32) (h60 : qH) =>
      qj (fun (h61 : qH) =>
        some ((h61.1 0 4), h61)) fun j62 =>
      if (h60.1 0 4) = (-1 : Int32) then (
        qb2 (f9_ahead h60) fun (z65 : Int32) (h66 : qH) =>
        if z65 = (-1 : Int32) then (
          if (h66.1 0 8) = 0 then (
            (f9_bad h66).bind fun (h69 : qH) =>
            j62 h69)
          else (
            if (h66.1 0 8) ≤ (h66.1 2 0) then (
              j62 h66)
            else (
              (f9_bad h66).bind fun (h71 : qH) =>
              j62 h71)))
        else (
          (f9_bad h66).bind fun (h72 : qH) =>
          j62 h72))
      else (
        j62 h60)) qN (0 : Int32) (1 : Int32) h12) qN (0 : Int32) h4
set_option maxRecDepth 100000 in
set_option maxHeartbeats 4000000 in
theorem m9_readHall (l : Launch) : qMet UM ROM l yX9_readHall (qws yX9_readHall cX9_readHall 4 (some .int)) R9_readHall [.ref 0] f9_readHall qEw := by
  refine q_met (own := RX9) 3 (by decide) rfl (Nat.le_of_ble_eq_true rfl) (ls := [some (.ref 0), none, none, none]) rfl fun h => ?_
  unfold f9_readHall
  show PW UM ROM l R9_readHall cX9_readHall 4 (some .int) RX9 (qEw h) 0 [some (.ref 0), none, none, none] [] h _
  refine p_aload_n rfl dX9_readHall_0 rfl ?_
  refine p_iconst (v := (0 : Int32)) kiconst_0 dX9_readHall_1 rfl ?_
  refine p_puti qokM qp_RX9_80 uM_0 rfl dX9_readHall_2 rfl ?_
  refine p_nmH (fun h1 => ?_)
  refine p_aload_n rfl dX9_readHall_5 rfl ?_
  refine p_iconst (v := (-1 : Int32)) kiconst_m1 dX9_readHall_6 rfl ?_
  refine p_puti qokM qp_RX9_87 uM_0 rfl dX9_readHall_7 rfl ?_
  refine p_nmH (fun h2 => ?_)
  refine p_aload_n rfl dX9_readHall_10 rfl ?_
  refine p_iconst (v := (0 : Int32)) kiconst_0 dX9_readHall_11 rfl ?_
  refine p_puti qokM qp_RX9_124 uM_0 rfl dX9_readHall_12 rfl ?_
  refine p_nmH (fun h3 => ?_)
  refine p_aload_n rfl dX9_readHall_15 rfl ?_
  refine p_iconst (v := (0 : Int32)) kiconst_0 dX9_readHall_16 rfl ?_
  refine p_puti qokM qp_RX9_127 uM_0 rfl dX9_readHall_17 rfl ?_
  refine p_nmH (fun h4 => ?_)
  refine p_iconst (v := (0 : Int32)) kiconst_0 dX9_readHall_20 rfl ?_
  refine p_is_n (ls' := [some (.ref 0), some (.int (0 : Int32)), none, none]) dX9_readHall_21 rfl rfl rfl rfl ?_
  refine p_iconst (v := (0 : Int32)) kiconst_0 dX9_readHall_22 rfl ?_
  refine p_is_n (ls' := [some (.ref 0), some (.int (0 : Int32)), some (.int (0 : Int32)), none]) dX9_readHall_23 rfl rfl rfl rfl ?_
  refine w9_readHall_L24 l h (fun x11 h12 => ?_) qN _ _
  refine p_iconst (v := (1 : Int32)) kiconst_1 dX9_readHall_48 rfl ?_
  refine p_is_n (ls' := [some (.ref 0), some (.int (0 : Int32)), some (.int (1 : Int32)), none]) dX9_readHall_49 rfl rfl rfl rfl ?_
  refine w9_readHall_L50 l h (fun x58 x59 h60 => ?_) qN _ _ _
  refine p_aload_n rfl dX9_readHall_260 rfl ?_
  refine p_geti qg_RX9_87 uM_0 rfl dX9_readHall_261 rfl ?_
  refine p_iconst (v := (-1 : Int32)) kiconst_m1 dX9_readHall_264 rfl ?_
  refine p_jn (fun j62 => ∀ (h61 : qH), PW UM ROM l R9_readHall cX9_readHall 4 (some .int) RX9 (qEw h) 300 [some (.ref 0), some (.int x58), some (.int x59), none] [] h61 (j62 h61)) (fun h61 => ?_) (fun j62 J63 => ?_)
  · refine p_aload_n rfl dX9_readHall_300 rfl ?_
    refine p_geti qg_RX9_87 uM_0 rfl dX9_readHall_301 rfl ?_
    exact p_iret rfl rfl dX9_readHall_304
  · refine p_if (fun c64 => ?_) (fun c64 => ?_)
    · refine p_icmp_ne_f (tgt := 300) dX9_readHall_265 (by decide) rfl c64 ?_
      refine p_aload_n rfl dX9_readHall_268 rfl ?_
      refine p_cVw (f := f9_ahead) (st := []) [] qRokM (m9_ahead l) cal_RX9_90 uM_0 rfl rfl ⟨rfl, rfl⟩ ⟨Nat.le_of_ble_eq_true rfl, Nat.le_of_ble_eq_true rfl⟩ (Nat.le_of_ble_eq_true rfl) dX9_readHall_269 rfl (fun z65 h66 => ?_)
      refine p_iconst (v := (-1 : Int32)) kiconst_m1 dX9_readHall_272 rfl ?_
      refine p_if (fun c67 => ?_) (fun c67 => ?_)
      · refine p_icmp_ne_f (tgt := 296) dX9_readHall_273 (by decide) rfl c67 ?_
        refine p_aload_n rfl dX9_readHall_276 rfl ?_
        refine p_geti qg_RX9_124 uM_0 rfl dX9_readHall_277 rfl ?_
        refine p_if (fun c68 => ?_) (fun c68 => ?_)
        · refine p_if_eq_t (tgt := 296) dX9_readHall_280 (by decide) c68 ?_
          refine p_aload_n rfl dX9_readHall_296 rfl ?_
          refine p_callVv (f := f9_bad) (st := []) [] qRokM (m9_bad l) cal_RX9_97 uM_0 rfl rfl ⟨rfl, rfl⟩ ⟨Nat.le_of_ble_eq_true rfl, Nat.le_of_ble_eq_true rfl⟩ (Nat.le_of_ble_eq_true rfl) dX9_readHall_297 rfl (fun h69 => ?_)
          exact J63 h69
        · refine p_if_eq_f (tgt := 296) dX9_readHall_280 (by decide) rfl c68 ?_
          refine p_aload_n rfl dX9_readHall_283 rfl ?_
          refine p_geti qg_RX9_124 uM_0 rfl dX9_readHall_284 rfl ?_
          refine p_aload_n rfl dX9_readHall_287 rfl ?_
          refine p_getr qg_RX9_13 uM_0 rfl dX9_readHall_288 rfl ?_
          refine p_iconst (v := (0 : Int32)) kiconst_0 dX9_readHall_291 rfl ?_
          refine p_ialdK uM_2 kix_0 kqin_0_8 dX9_readHall_292 rfl ?_
          refine p_if (fun c70 => ?_) (fun c70 => ?_)
          · refine p_icmp_le_t (tgt := 300) dX9_readHall_293 (by decide) c70 ?_
            exact J63 h66
          · refine p_icmp_le_f (tgt := 300) dX9_readHall_293 (by decide) rfl c70 ?_
            refine p_aload_n rfl dX9_readHall_296 rfl ?_
            refine p_callVv (f := f9_bad) (st := []) [] qRokM (m9_bad l) cal_RX9_97 uM_0 rfl rfl ⟨rfl, rfl⟩ ⟨Nat.le_of_ble_eq_true rfl, Nat.le_of_ble_eq_true rfl⟩ (Nat.le_of_ble_eq_true rfl) dX9_readHall_297 rfl (fun h71 => ?_)
            exact J63 h71
      · refine p_icmp_ne_t (tgt := 296) dX9_readHall_273 (by decide) c67 ?_
        refine p_aload_n rfl dX9_readHall_296 rfl ?_
        refine p_callVv (f := f9_bad) (st := []) [] qRokM (m9_bad l) cal_RX9_97 uM_0 rfl rfl ⟨rfl, rfl⟩ ⟨Nat.le_of_ble_eq_true rfl, Nat.le_of_ble_eq_true rfl⟩ (Nat.le_of_ble_eq_true rfl) dX9_readHall_297 rfl (fun h72 => ?_)
        exact J63 h72
    · refine p_icmp_ne_t (tgt := 300) dX9_readHall_265 (by decide) c64 ?_
      exact J63 h60
noncomputable def f9_sortOf (p1 : Int32) (h : qH) : Option (Int32) :=
  if p1 = (97 : Int32) then (
    some (0 : Int32))
  else (
    if p1 = (99 : Int32) then (
    some (6 : Int32))
  else (
    if p1 = (100 : Int32) then (
    some (3 : Int32))
  else (
    if p1 = (108 : Int32) then (
    some (7 : Int32))
  else (
    if p1 = (109 : Int32) then (
    some (4 : Int32))
  else (
    if p1 = (112 : Int32) then (
    some (9 : Int32))
  else (
    if p1 = (114 : Int32) then (
    some (8 : Int32))
  else (
    if p1 = (115 : Int32) then (
    some (1 : Int32))
  else (
    if p1 = (117 : Int32) then (
    some (5 : Int32))
  else (
    if p1 = (119 : Int32) then (
    some (2 : Int32))
  else (
    if p1 = (120 : Int32) then (
    some (10 : Int32))
  else (
    some (-1 : Int32))))))))))))
set_option maxRecDepth 100000 in
set_option maxHeartbeats 4000000 in
theorem m9_sortOf (l : Launch) (p1 : Int32) : qMet UM ROM l yX9_sortOf (qws yX9_sortOf cX9_sortOf 1 (some .int)) R9_sortOf [.int p1] (f9_sortOf p1) qEr := by
  refine q_met (own := RX9) 0 (by decide) rfl (Nat.le_of_ble_eq_true rfl) (ls := [some (.int p1)]) rfl fun h => ?_
  unfold f9_sortOf
  refine p_iload_n rfl dX9_sortOf_0 rfl ?_
  refine p_if (fun c1 => ?_) (fun c1 => ?_)
  · refine p_swI (v := (97 : Int32)) (tgt := 112) dX9_sortOf_1 c1 (by decide) (by decide) rfl (by decide) ?_
    refine p_iconst (v := (0 : Int32)) kiconst_0 dX9_sortOf_112 rfl ?_
    exact p_iret rfl rfl dX9_sortOf_113
  · refine p_if (fun c2 => ?_) (fun c2 => ?_)
    · refine p_swI (v := (99 : Int32)) (tgt := 124) dX9_sortOf_1 c2 (by decide) (by decide) rfl (by decide) ?_
      refine p_bipush (v := (6 : Int32)) kbipush_6 dX9_sortOf_124 rfl ?_
      exact p_iret rfl rfl dX9_sortOf_126
    · refine p_if (fun c3 => ?_) (fun c3 => ?_)
      · refine p_swI (v := (100 : Int32)) (tgt := 118) dX9_sortOf_1 c3 (by decide) (by decide) rfl (by decide) ?_
        refine p_iconst (v := (3 : Int32)) kiconst_3 dX9_sortOf_118 rfl ?_
        exact p_iret rfl rfl dX9_sortOf_119
      · refine p_if (fun c4 => ?_) (fun c4 => ?_)
        · refine p_swI (v := (108 : Int32)) (tgt := 127) dX9_sortOf_1 c4 (by decide) (by decide) rfl (by decide) ?_
          refine p_bipush (v := (7 : Int32)) kbipush_7 dX9_sortOf_127 rfl ?_
          exact p_iret rfl rfl dX9_sortOf_129
        · refine p_if (fun c5 => ?_) (fun c5 => ?_)
          · refine p_swI (v := (109 : Int32)) (tgt := 120) dX9_sortOf_1 c5 (by decide) (by decide) rfl (by decide) ?_
            refine p_iconst (v := (4 : Int32)) kiconst_4 dX9_sortOf_120 rfl ?_
            exact p_iret rfl rfl dX9_sortOf_121
          · refine p_if (fun c6 => ?_) (fun c6 => ?_)
            · refine p_swI (v := (112 : Int32)) (tgt := 133) dX9_sortOf_1 c6 (by decide) (by decide) rfl (by decide) ?_
              refine p_bipush (v := (9 : Int32)) kbipush_9 dX9_sortOf_133 rfl ?_
              exact p_iret rfl rfl dX9_sortOf_135
            · refine p_if (fun c7 => ?_) (fun c7 => ?_)
              · refine p_swI (v := (114 : Int32)) (tgt := 130) dX9_sortOf_1 c7 (by decide) (by decide) rfl (by decide) ?_
                refine p_bipush (v := (8 : Int32)) kbipush_8 dX9_sortOf_130 rfl ?_
                exact p_iret rfl rfl dX9_sortOf_132
              · refine p_if (fun c8 => ?_) (fun c8 => ?_)
                · refine p_swI (v := (115 : Int32)) (tgt := 114) dX9_sortOf_1 c8 (by decide) (by decide) rfl (by decide) ?_
                  refine p_iconst (v := (1 : Int32)) kiconst_1 dX9_sortOf_114 rfl ?_
                  exact p_iret rfl rfl dX9_sortOf_115
                · refine p_if (fun c9 => ?_) (fun c9 => ?_)
                  · refine p_swI (v := (117 : Int32)) (tgt := 122) dX9_sortOf_1 c9 (by decide) (by decide) rfl (by decide) ?_
                    refine p_iconst (v := (5 : Int32)) kiconst_5 dX9_sortOf_122 rfl ?_
                    exact p_iret rfl rfl dX9_sortOf_123
                  · refine p_if (fun c10 => ?_) (fun c10 => ?_)
                    · refine p_swI (v := (119 : Int32)) (tgt := 116) dX9_sortOf_1 c10 (by decide) (by decide) rfl (by decide) ?_
                      refine p_iconst (v := (2 : Int32)) kiconst_2 dX9_sortOf_116 rfl ?_
                      exact p_iret rfl rfl dX9_sortOf_117
                    · refine p_if (fun c11 => ?_) (fun c11 => ?_)
                      · refine p_swI (v := (120 : Int32)) (tgt := 136) dX9_sortOf_1 c11 (by decide) (by decide) rfl (by decide) ?_
                        refine p_bipush (v := (10 : Int32)) kbipush_10 dX9_sortOf_136 rfl ?_
                        exact p_iret rfl rfl dX9_sortOf_138
                      · refine p_sv (pcJ := 139) (stJ := []) ?_ (fun D12 => ?_)
                        · refine p_iconst (v := (-1 : Int32)) kiconst_m1 dX9_sortOf_139 rfl ?_
                          exact p_iret rfl rfl dX9_sortOf_140
                        · by_cases e13 : p1 = (98 : Int32)
                          · exact p_swI (v := (98 : Int32)) (tgt := 139) dX9_sortOf_1 e13 (by decide) (by decide) rfl (by decide) D12
                          by_cases e14 : p1 = (101 : Int32)
                          · exact p_swI (v := (101 : Int32)) (tgt := 139) dX9_sortOf_1 e14 (by decide) (by decide) rfl (by decide) D12
                          by_cases e15 : p1 = (102 : Int32)
                          · exact p_swI (v := (102 : Int32)) (tgt := 139) dX9_sortOf_1 e15 (by decide) (by decide) rfl (by decide) D12
                          by_cases e16 : p1 = (103 : Int32)
                          · exact p_swI (v := (103 : Int32)) (tgt := 139) dX9_sortOf_1 e16 (by decide) (by decide) rfl (by decide) D12
                          by_cases e17 : p1 = (104 : Int32)
                          · exact p_swI (v := (104 : Int32)) (tgt := 139) dX9_sortOf_1 e17 (by decide) (by decide) rfl (by decide) D12
                          by_cases e18 : p1 = (105 : Int32)
                          · exact p_swI (v := (105 : Int32)) (tgt := 139) dX9_sortOf_1 e18 (by decide) (by decide) rfl (by decide) D12
                          by_cases e19 : p1 = (106 : Int32)
                          · exact p_swI (v := (106 : Int32)) (tgt := 139) dX9_sortOf_1 e19 (by decide) (by decide) rfl (by decide) D12
                          by_cases e20 : p1 = (107 : Int32)
                          · exact p_swI (v := (107 : Int32)) (tgt := 139) dX9_sortOf_1 e20 (by decide) (by decide) rfl (by decide) D12
                          by_cases e21 : p1 = (110 : Int32)
                          · exact p_swI (v := (110 : Int32)) (tgt := 139) dX9_sortOf_1 e21 (by decide) (by decide) rfl (by decide) D12
                          by_cases e22 : p1 = (111 : Int32)
                          · exact p_swI (v := (111 : Int32)) (tgt := 139) dX9_sortOf_1 e22 (by decide) (by decide) rfl (by decide) D12
                          by_cases e23 : p1 = (113 : Int32)
                          · exact p_swI (v := (113 : Int32)) (tgt := 139) dX9_sortOf_1 e23 (by decide) (by decide) rfl (by decide) D12
                          by_cases e24 : p1 = (116 : Int32)
                          · exact p_swI (v := (116 : Int32)) (tgt := 139) dX9_sortOf_1 e24 (by decide) (by decide) rfl (by decide) D12
                          by_cases e25 : p1 = (118 : Int32)
                          · exact p_swI (v := (118 : Int32)) (tgt := 139) dX9_sortOf_1 e25 (by decide) (by decide) rfl (by decide) D12
                          exact p_swO (tgt := 139) dX9_sortOf_1 (by
                              have c1' := lv_neT c1 (a := 97) (by decide)
                              have c2' := lv_neT c2 (a := 99) (by decide)
                              have c3' := lv_neT c3 (a := 100) (by decide)
                              have c4' := lv_neT c4 (a := 108) (by decide)
                              have c5' := lv_neT c5 (a := 109) (by decide)
                              have c6' := lv_neT c6 (a := 112) (by decide)
                              have c7' := lv_neT c7 (a := 114) (by decide)
                              have c8' := lv_neT c8 (a := 115) (by decide)
                              have c9' := lv_neT c9 (a := 117) (by decide)
                              have c10' := lv_neT c10 (a := 119) (by decide)
                              have c11' := lv_neT c11 (a := 120) (by decide)
                              have e13' := lv_neT e13 (a := 98) (by decide)
                              have e14' := lv_neT e14 (a := 101) (by decide)
                              have e15' := lv_neT e15 (a := 102) (by decide)
                              have e16' := lv_neT e16 (a := 103) (by decide)
                              have e17' := lv_neT e17 (a := 104) (by decide)
                              have e18' := lv_neT e18 (a := 105) (by decide)
                              have e19' := lv_neT e19 (a := 106) (by decide)
                              have e20' := lv_neT e20 (a := 107) (by decide)
                              have e21' := lv_neT e21 (a := 110) (by decide)
                              have e22' := lv_neT e22 (a := 111) (by decide)
                              have e23' := lv_neT e23 (a := 113) (by decide)
                              have e24' := lv_neT e24 (a := 116) (by decide)
                              have e25' := lv_neT e25 (a := 118) (by decide)
                              omega) (by decide) D12
