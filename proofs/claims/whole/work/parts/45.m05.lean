noncomputable def f9_bestOrder_L4 (p1 : Int32) (k : Int32 → Int32 → qH → Option (Int32 × qH)) : Nat → Int32 → Int32 → qH → Option (Int32 × qH)
  | 0, _, _, _ => none
  | n + 1, x1, x2, h3 =>
    if (3 : Int32) ≤ x2 then (
      k x1 x2 h3)
    else (
      (f9_headOf p1 h3).bind fun (z5 : Int32) =>
      qb2 (f9_laysOrder p1 x2 z5 h3) fun (z6 : Int32) (h7 : qH) =>
      (f9_headOf p1 h7).bind fun (z8 : Int32) =>
      qb2 (f9_laysOrder p1 x1 z8 h7) fun (z9 : Int32) (h10 : qH) =>
      qlt (if z9 ≤ z6 then x1 else x2) fun (x12 : Int32) =>
      qlt (x2 + (1 : Int32)) fun (x13 : Int32) =>
      f9_bestOrder_L4 p1 k n x12 x13 h10)
set_option maxRecDepth 100000 in
set_option maxHeartbeats 4000000 in
theorem w9_bestOrder_L4 (l : Launch) (h0 : qH) (p1 : Int32) {k : Int32 → Int32 → qH → Option (Int32 × qH)} (hk : ∀ (x1 : Int32) (x2 : Int32) (h3 : qH), PW UM ROM l R9_bestOrder cX9_bestOrder 4 (some .int) RX9 (qEw h0) 46 [some (.ref 0), some (.int p1), some (.int x1), some (.int x2)] [] h3 (k x1 x2 h3)) : ∀ (n : Nat) (x1 : Int32) (x2 : Int32) (h3 : qH), PW UM ROM l R9_bestOrder cX9_bestOrder 4 (some .int) RX9 (qEw h0) 4 [some (.ref 0), some (.int p1), some (.int x1), some (.int x2)] [] h3 (f9_bestOrder_L4 p1 k n x1 x2 h3) := by
  intro n
  induction n with
  | zero => intro _ _ _; exact p_none
  | succ n ih =>
    intro x1 x2 h3
    unfold f9_bestOrder_L4
    refine p_iload_n rfl dX9_bestOrder_4 rfl ?_
    refine p_iconst (v := (3 : Int32)) kiconst_3 dX9_bestOrder_5 rfl ?_
    refine p_if (fun c4 => ?_) (fun c4 => ?_)
    · refine p_icmp_ge_t (tgt := 46) dX9_bestOrder_6 (by decide) c4 ?_
      exact hk x1 x2 h3
    · refine p_icmp_ge_f (tgt := 46) dX9_bestOrder_6 (by decide) rfl c4 ?_
      refine p_aload_n rfl dX9_bestOrder_9 rfl ?_
      refine p_iload_n rfl dX9_bestOrder_10 rfl ?_
      refine p_iload_n rfl dX9_bestOrder_11 rfl ?_
      refine p_aload_n rfl dX9_bestOrder_12 rfl ?_
      refine p_iload_n rfl dX9_bestOrder_13 rfl ?_
      refine p_callVr (f := f9_headOf p1) (st := [.int x2, .int p1, .ref 0]) [.int p1] qRokM (m9_headOf l p1) cal_RX9_243 uM_0 rfl rfl ⟨rfl, rfl⟩ ⟨Nat.le_of_ble_eq_true rfl, Nat.le_of_ble_eq_true rfl⟩ (Nat.le_of_ble_eq_true rfl) dX9_bestOrder_14 rfl (fun z5 => ?_)
      refine p_cVw (f := f9_laysOrder p1 x2 z5) (st := []) [.int p1, .int x2, .int z5] qRokM (m9_laysOrder l p1 x2 z5) cal_RX9_246 uM_0 rfl rfl ⟨rfl, rfl⟩ ⟨Nat.le_of_ble_eq_true rfl, Nat.le_of_ble_eq_true rfl⟩ (Nat.le_of_ble_eq_true rfl) dX9_bestOrder_17 rfl (fun z6 h7 => ?_)
      refine p_aload_n rfl dX9_bestOrder_20 rfl ?_
      refine p_iload_n rfl dX9_bestOrder_21 rfl ?_
      refine p_iload_n rfl dX9_bestOrder_22 rfl ?_
      refine p_aload_n rfl dX9_bestOrder_23 rfl ?_
      refine p_iload_n rfl dX9_bestOrder_24 rfl ?_
      refine p_callVr (f := f9_headOf p1) (st := [.int x1, .int p1, .ref 0, .int z6]) [.int p1] qRokM (m9_headOf l p1) cal_RX9_243 uM_0 rfl rfl ⟨rfl, rfl⟩ ⟨Nat.le_of_ble_eq_true rfl, Nat.le_of_ble_eq_true rfl⟩ (Nat.le_of_ble_eq_true rfl) dX9_bestOrder_25 rfl (fun z8 => ?_)
      refine p_cVw (f := f9_laysOrder p1 x1 z8) (st := [.int z6]) [.int p1, .int x1, .int z8] qRokM (m9_laysOrder l p1 x1 z8) cal_RX9_246 uM_0 rfl rfl ⟨rfl, rfl⟩ ⟨Nat.le_of_ble_eq_true rfl, Nat.le_of_ble_eq_true rfl⟩ (Nat.le_of_ble_eq_true rfl) dX9_bestOrder_28 rfl (fun z9 h10 => ?_)
      refine p_vj 39 [some (.ref 0), some (.int p1), some (.int x1), some (.int x2)] [] (fun x12 => ?_) (fun J => ?_)
      · refine p_is_n (ls' := [some (.ref 0), some (.int p1), some (.int x12), some (.int x2)]) dX9_bestOrder_39 rfl rfl rfl rfl ?_
        refine p_iiN (v := (1 : Int32)) (lf := fun x13 => [some (.ref 0), some (.int p1), some (.int x12), some (.int x13)]) kiconst_1 dX9_bestOrder_40 rfl rfl rfl rfl (fun _ => rfl) (fun x13 => ?_)
        refine p_goto (tgt := 4) dX9_bestOrder_43 (by decide) ?_
        exact ih x12 x13 h10
      · refine p_dia (fun c11 => ?_) (fun c11 => ?_)
        · refine p_icmp_ge_t (tgt := 38) dX9_bestOrder_31 (by decide) c11 ?_
          refine p_iload_n rfl dX9_bestOrder_38 rfl ?_
          exact J _
        · refine p_icmp_ge_f (tgt := 38) dX9_bestOrder_31 (by decide) rfl c11 ?_
          refine p_iload_n rfl dX9_bestOrder_34 rfl ?_
          refine p_goto (tgt := 39) dX9_bestOrder_35 (by decide) ?_
          exact J _
noncomputable def f9_bestOrder (p1 : Int32) (h : qH) : Option (Int32 × qH) :=
  f9_bestOrder_L4 p1 (fun (x14 : Int32) (x15 : Int32) (h16 : qH) =>
    some (x14, h16)) qN (0 : Int32) (1 : Int32) h
set_option maxRecDepth 100000 in
set_option maxHeartbeats 4000000 in
theorem m9_bestOrder (l : Launch) (p1 : Int32) : qMet UM ROM l yX9_bestOrder (qws yX9_bestOrder cX9_bestOrder 4 (some .int)) R9_bestOrder [.ref 0, .int p1] (f9_bestOrder p1) qEw := by
  refine q_met (own := RX9) 2 (by decide) rfl (Nat.le_of_ble_eq_true rfl) (ls := [some (.ref 0), some (.int p1), none, none]) rfl fun h => ?_
  unfold f9_bestOrder
  show PW UM ROM l R9_bestOrder cX9_bestOrder 4 (some .int) RX9 (qEw h) 0 [some (.ref 0), some (.int p1), none, none] [] h _
  refine p_iconst (v := (0 : Int32)) kiconst_0 dX9_bestOrder_0 rfl ?_
  refine p_is_n (ls' := [some (.ref 0), some (.int p1), some (.int (0 : Int32)), none]) dX9_bestOrder_1 rfl rfl rfl rfl ?_
  refine p_iconst (v := (1 : Int32)) kiconst_1 dX9_bestOrder_2 rfl ?_
  refine p_is_n (ls' := [some (.ref 0), some (.int p1), some (.int (0 : Int32)), some (.int (1 : Int32))]) dX9_bestOrder_3 rfl rfl rfl rfl ?_
  refine w9_bestOrder_L4 l h p1 (fun x14 x15 h16 => ?_) qN _ _ _
  refine p_iload_n rfl dX9_bestOrder_46 rfl ?_
  exact p_iret rfl rfl dX9_bestOrder_47
noncomputable def f9_nextTape_L16 (x2 : Int32) (h : qH) (k : Int32 → Int32 → Option (Int32)) : Nat → Int32 → Int32 → Option (Int32)
  | 0, _, _ => none
  | n + 1, x5, x6 =>
    if (h.1 0 12) ≤ x6 then (
      k x5 x6)
    else (
      (f9_askedOn x6 h).bind fun (z8 : Int32) =>
      qj (fun (x9 : Int32) =>
        qlt (x6 + (1 : Int32)) fun (x12 : Int32) =>
        f9_nextTape_L16 x2 h k n x9 x12) fun j10 =>
      if z8 ≤ 0 then (
        j10 x5)
      else (
        qj (qj (fun (x16 : Int32) =>
            j10 x16) fun j17 =>
          if x5 = (-1 : Int32) then (
            j17 x6)
          else (
            (f9_askedOn x6 h).bind fun (z20 : Int32) =>
            (f9_askedOn x5 h).bind fun (z21 : Int32) =>
            if z20 ≤ z21 then (
              j17 x5)
            else (
              j17 x6))) fun j14 =>
        if x2 = (1 : Int32) then (
          j14)
        else (
          (f9_isDriven x6 h).bind fun (z24 : Int32) =>
          if z24 = 0 then (
            j10 x5)
          else (
            j14))))
set_option maxRecDepth 100000 in
set_option maxHeartbeats 4000000 in
theorem w9_nextTape_L16 (l : Launch) (x2 : Int32) (h : qH) {k : Int32 → Int32 → Option (Int32)} (hk : ∀ (x5 : Int32) (x6 : Int32), PW UM ROM l R9_nextTape cX9_nextTape 4 (some .int) RX9 (qEr h) 75 [some (.ref 0), some (.int x5), some (.int x2), some (.int x6)] [] h (k x5 x6)) : ∀ (n : Nat) (x5 : Int32) (x6 : Int32), PW UM ROM l R9_nextTape cX9_nextTape 4 (some .int) RX9 (qEr h) 16 [some (.ref 0), some (.int x5), some (.int x2), some (.int x6)] [] h (f9_nextTape_L16 x2 h k n x5 x6) := by
  intro n
  induction n with
  | zero => intro _ _; exact p_none
  | succ n ih =>
    intro x5 x6
    unfold f9_nextTape_L16
    refine p_iload_n rfl dX9_nextTape_16 rfl ?_
    refine p_aload_n rfl dX9_nextTape_17 rfl ?_
    refine p_geti qg_RX9_153 uM_0 rfl dX9_nextTape_18 rfl ?_
    refine p_if (fun c7 => ?_) (fun c7 => ?_)
    · refine p_icmp_ge_t (tgt := 75) dX9_nextTape_21 (by decide) c7 ?_
      exact hk x5 x6
    · refine p_icmp_ge_f (tgt := 75) dX9_nextTape_21 (by decide) rfl c7 ?_
      refine p_aload_n rfl dX9_nextTape_24 rfl ?_
      refine p_iload_n rfl dX9_nextTape_25 rfl ?_
      refine p_callVr (f := f9_askedOn x6) (st := []) [.int x6] qRokM (m9_askedOn l x6) cal_RX9_166 uM_0 rfl rfl ⟨rfl, rfl⟩ ⟨Nat.le_of_ble_eq_true rfl, Nat.le_of_ble_eq_true rfl⟩ (Nat.le_of_ble_eq_true rfl) dX9_nextTape_26 rfl (fun z8 => ?_)
      refine p_jn (fun j10 => ∀ (x9 : Int32), PW UM ROM l R9_nextTape cX9_nextTape 4 (some .int) RX9 (qEr h) 69 [some (.ref 0), some (.int x9), some (.int x2), some (.int x6)] [] h (j10 x9)) (fun x9 => ?_) (fun j10 J11 => ?_)
      · refine p_iiN (v := (1 : Int32)) (lf := fun x12 => [some (.ref 0), some (.int x9), some (.int x2), some (.int x12)]) kiconst_1 dX9_nextTape_69 rfl rfl rfl rfl (fun _ => rfl) (fun x12 => ?_)
        refine p_goto (tgt := 16) dX9_nextTape_72 (by decide) ?_
        exact ih x9 x12
      · refine p_if (fun c13 => ?_) (fun c13 => ?_)
        · refine p_if_le_t (tgt := 69) dX9_nextTape_29 (by decide) c13 ?_
          exact J11 x5
        · refine p_if_le_f (tgt := 69) dX9_nextTape_29 (by decide) rfl c13 ?_
          refine p_iload_n rfl dX9_nextTape_32 rfl ?_
          refine p_iconst (v := (1 : Int32)) kiconst_1 dX9_nextTape_33 rfl ?_
          refine p_jn (fun j14 => PW UM ROM l R9_nextTape cX9_nextTape 4 (some .int) RX9 (qEr h) 45 [some (.ref 0), some (.int x5), some (.int x2), some (.int x6)] [] h j14) ?_ (fun j14 J15 => ?_)
          · refine p_iload_n rfl dX9_nextTape_45 rfl ?_
            refine p_iconst (v := (-1 : Int32)) kiconst_m1 dX9_nextTape_46 rfl ?_
            refine p_jn (fun j17 => ∀ (x16 : Int32), PW UM ROM l R9_nextTape cX9_nextTape 4 (some .int) RX9 (qEr h) 68 [some (.ref 0), some (.int x5), some (.int x2), some (.int x6)] [.int x16] h (j17 x16)) (fun x16 => ?_) (fun j17 J18 => ?_)
            · refine p_is_n (ls' := [some (.ref 0), some (.int x16), some (.int x2), some (.int x6)]) dX9_nextTape_68 rfl rfl rfl rfl ?_
              exact J11 x16
            · refine p_if (fun c19 => ?_) (fun c19 => ?_)
              · refine p_icmp_eq_t (tgt := 63) dX9_nextTape_47 (by decide) c19 ?_
                refine p_iload_n rfl dX9_nextTape_63 rfl ?_
                refine p_goto (tgt := 68) dX9_nextTape_64 (by decide) ?_
                exact J18 x6
              · refine p_icmp_eq_f (tgt := 63) dX9_nextTape_47 (by decide) rfl c19 ?_
                refine p_aload_n rfl dX9_nextTape_50 rfl ?_
                refine p_iload_n rfl dX9_nextTape_51 rfl ?_
                refine p_callVr (f := f9_askedOn x6) (st := []) [.int x6] qRokM (m9_askedOn l x6) cal_RX9_166 uM_0 rfl rfl ⟨rfl, rfl⟩ ⟨Nat.le_of_ble_eq_true rfl, Nat.le_of_ble_eq_true rfl⟩ (Nat.le_of_ble_eq_true rfl) dX9_nextTape_52 rfl (fun z20 => ?_)
                refine p_aload_n rfl dX9_nextTape_55 rfl ?_
                refine p_iload_n rfl dX9_nextTape_56 rfl ?_
                refine p_callVr (f := f9_askedOn x5) (st := [.int z20]) [.int x5] qRokM (m9_askedOn l x5) cal_RX9_166 uM_0 rfl rfl ⟨rfl, rfl⟩ ⟨Nat.le_of_ble_eq_true rfl, Nat.le_of_ble_eq_true rfl⟩ (Nat.le_of_ble_eq_true rfl) dX9_nextTape_57 rfl (fun z21 => ?_)
                refine p_if (fun c22 => ?_) (fun c22 => ?_)
                · refine p_icmp_le_t (tgt := 67) dX9_nextTape_60 (by decide) c22 ?_
                  refine p_iload_n rfl dX9_nextTape_67 rfl ?_
                  exact J18 x5
                · refine p_icmp_le_f (tgt := 67) dX9_nextTape_60 (by decide) rfl c22 ?_
                  refine p_iload_n rfl dX9_nextTape_63 rfl ?_
                  refine p_goto (tgt := 68) dX9_nextTape_64 (by decide) ?_
                  exact J18 x6
          · refine p_if (fun c23 => ?_) (fun c23 => ?_)
            · refine p_icmp_eq_t (tgt := 45) dX9_nextTape_34 (by decide) c23 ?_
              exact J15
            · refine p_icmp_eq_f (tgt := 45) dX9_nextTape_34 (by decide) rfl c23 ?_
              refine p_aload_n rfl dX9_nextTape_37 rfl ?_
              refine p_iload_n rfl dX9_nextTape_38 rfl ?_
              refine p_callVr (f := f9_isDriven x6) (st := []) [.int x6] qRokM (m9_isDriven l x6) cal_RX9_209 uM_0 rfl rfl ⟨rfl, rfl⟩ ⟨Nat.le_of_ble_eq_true rfl, Nat.le_of_ble_eq_true rfl⟩ (Nat.le_of_ble_eq_true rfl) dX9_nextTape_39 rfl (fun z24 => ?_)
              refine p_if (fun c25 => ?_) (fun c25 => ?_)
              · refine p_if_eq_t (tgt := 69) dX9_nextTape_42 (by decide) c25 ?_
                exact J11 x5
              · refine p_if_eq_f (tgt := 69) dX9_nextTape_42 (by decide) rfl c25 ?_
                exact J15
noncomputable def f9_nextTape_L4 (h : qH) (k : Int32 → Int32 → Option (Int32)) : Nat → Int32 → Int32 → Option (Int32)
  | 0, _, _ => none
  | n + 1, x1, x2 =>
    if (2 : Int32) ≤ x2 then (
      k x1 x2)
    else (
      if x1 = (-1 : Int32) then (
        f9_nextTape_L16 x2 h (fun (x26 : Int32) (x27 : Int32) =>
          qlt (x2 + (1 : Int32)) fun (x28 : Int32) =>
          f9_nextTape_L4 h k n x26 x28) qN x1 (0 : Int32))
      else (
        k x1 x2))
set_option maxRecDepth 100000 in
set_option maxHeartbeats 4000000 in
theorem w9_nextTape_L4 (l : Launch) (h : qH) {k : Int32 → Int32 → Option (Int32)} (hk : ∀ (x1 : Int32) (x2 : Int32), PW UM ROM l R9_nextTape cX9_nextTape 4 (some .int) RX9 (qEr h) 81 [some (.ref 0), some (.int x1), some (.int x2), none] [] h (k x1 x2)) : ∀ (n : Nat) (x1 : Int32) (x2 : Int32), PW UM ROM l R9_nextTape cX9_nextTape 4 (some .int) RX9 (qEr h) 4 [some (.ref 0), some (.int x1), some (.int x2), none] [] h (f9_nextTape_L4 h k n x1 x2) := by
  intro n
  induction n with
  | zero => intro _ _; exact p_none
  | succ n ih =>
    intro x1 x2
    unfold f9_nextTape_L4
    refine p_iload_n rfl dX9_nextTape_4 rfl ?_
    refine p_iconst (v := (2 : Int32)) kiconst_2 dX9_nextTape_5 rfl ?_
    refine p_if (fun c3 => ?_) (fun c3 => ?_)
    · refine p_icmp_ge_t (tgt := 81) dX9_nextTape_6 (by decide) c3 ?_
      exact hk x1 x2
    · refine p_icmp_ge_f (tgt := 81) dX9_nextTape_6 (by decide) rfl c3 ?_
      refine p_iload_n rfl dX9_nextTape_9 rfl ?_
      refine p_iconst (v := (-1 : Int32)) kiconst_m1 dX9_nextTape_10 rfl ?_
      refine p_if (fun c4 => ?_) (fun c4 => ?_)
      · refine p_icmp_ne_f (tgt := 81) dX9_nextTape_11 (by decide) rfl c4 ?_
        refine p_iconst (v := (0 : Int32)) kiconst_0 dX9_nextTape_14 rfl ?_
        refine p_is_n (ls' := [some (.ref 0), some (.int x1), some (.int x2), some (.int (0 : Int32))]) dX9_nextTape_15 rfl rfl rfl rfl ?_
        refine w9_nextTape_L16 l x2 h (fun x26 x27 => ?_) qN _ _
        refine p_iiN (v := (1 : Int32)) (lf := fun x28 => [some (.ref 0), some (.int x26), some (.int x28), some (.int x27)]) kiconst_1 dX9_nextTape_75 rfl rfl rfl rfl (fun _ => rfl) (fun x28 => ?_)
        refine p_goto (tgt := 4) dX9_nextTape_78 (by decide) ?_
        exact p_wk (ls' := [some (.ref 0), some (.int x26), some (.int x28), none]) ⟨rfl, rfl, rfl, trivial⟩ (ih x26 x28)
      · refine p_icmp_ne_t (tgt := 81) dX9_nextTape_11 (by decide) c4 ?_
        exact hk x1 x2
noncomputable def f9_nextTape (h : qH) : Option (Int32) :=
  f9_nextTape_L4 h (fun (x29 : Int32) (x30 : Int32) =>
    some x29) qN (-1 : Int32) (0 : Int32)
set_option maxRecDepth 100000 in
set_option maxHeartbeats 4000000 in
theorem m9_nextTape (l : Launch) : qMet UM ROM l yX9_nextTape (qws yX9_nextTape cX9_nextTape 4 (some .int)) R9_nextTape [.ref 0] f9_nextTape qEr := by
  refine q_met (own := RX9) 3 (by decide) rfl (Nat.le_of_ble_eq_true rfl) (ls := [some (.ref 0), none, none, none]) rfl fun h => ?_
  unfold f9_nextTape
  refine p_iconst (v := (-1 : Int32)) kiconst_m1 dX9_nextTape_0 rfl ?_
  refine p_is_n (ls' := [some (.ref 0), some (.int (-1 : Int32)), none, none]) dX9_nextTape_1 rfl rfl rfl rfl ?_
  refine p_iconst (v := (0 : Int32)) kiconst_0 dX9_nextTape_2 rfl ?_
  refine p_is_n (ls' := [some (.ref 0), some (.int (-1 : Int32)), some (.int (0 : Int32)), none]) dX9_nextTape_3 rfl rfl rfl rfl ?_
  refine w9_nextTape_L4 l h (fun x29 x30 => ?_) qN _ _
  refine p_iload_n rfl dX9_nextTape_81 rfl ?_
  exact p_iret rfl rfl dX9_nextTape_82
noncomputable def f9_servesNow_L28 (z1 : Int32) (k : Int32 → qH → Option (Int32 × qH)) : Nat → Int32 → qH → Option (Int32 × qH)
  | 0, _, _ => none
  | n + 1, x8, h9 =>
    if (h9.1 0 20) ≤ x8 then (
      k x8 h9)
    else (
      qg (qin x8 24) <|
      qlt (h9.1 11 (ix x8)) fun (x11 : Int32) =>
      qg (qin ((72 : Int32) + x11) 353) <|
      qg (qin ((96 : Int32) + x11) 353) <|
      (f9_reads z1 (h9.1 9 (ix ((72 : Int32) + x11))) (h9.1 9 (ix ((96 : Int32) + x11))) h9).bind fun (h12 : qH) =>
      qg (qin ((144 : Int32) + x11) 353) <|
      qlt (qw h12 9 (ix ((144 : Int32) + x11)) (0 : Int32)) fun (h13 : qH) =>
      qlt (x8 + (1 : Int32)) fun (x14 : Int32) =>
      f9_servesNow_L28 z1 k n x14 h13)
set_option maxRecDepth 100000 in
set_option maxHeartbeats 4000000 in
theorem w9_servesNow_L28 (l : Launch) (h0 : qH) (z1 : Int32) {k : Int32 → qH → Option (Int32 × qH)} (hk : ∀ (x8 : Int32) (h9 : qH), PW UM ROM l R9_servesNow cX9_servesNow 4 (some .int) RX9 (qEw h0) 83 [some (.ref 0), some (.int z1), some (.int x8), none] [] h9 (k x8 h9)) : ∀ (n : Nat) (x8 : Int32) (h9 : qH), PW UM ROM l R9_servesNow cX9_servesNow 4 (some .int) RX9 (qEw h0) 28 [some (.ref 0), some (.int z1), some (.int x8), none] [] h9 (f9_servesNow_L28 z1 k n x8 h9) := by
  intro n
  induction n with
  | zero => intro _ _; exact p_none
  | succ n ih =>
    intro x8 h9
    unfold f9_servesNow_L28
    refine p_iload_n rfl dX9_servesNow_28 rfl ?_
    refine p_aload_n rfl dX9_servesNow_29 rfl ?_
    refine p_geti qg_RX9_236 uM_0 rfl dX9_servesNow_30 rfl ?_
    refine p_if (fun c10 => ?_) (fun c10 => ?_)
    · refine p_icmp_ge_t (tgt := 83) dX9_servesNow_33 (by decide) c10 ?_
      exact hk x8 h9
    · refine p_icmp_ge_f (tgt := 83) dX9_servesNow_33 (by decide) rfl c10 ?_
      refine p_aload_n rfl dX9_servesNow_36 rfl ?_
      refine p_getr qg_RX9_40 uM_0 rfl dX9_servesNow_37 rfl ?_
      refine p_iload_n rfl dX9_servesNow_40 rfl ?_
      refine p_iald uM_11 dX9_servesNow_41 rfl (fun _ => ?_)
      refine p_isN_n (lf := fun x11 => [some (.ref 0), some (.int z1), some (.int x8), some (.int x11)]) dX9_servesNow_42 rfl rfl rfl (fun _ => rfl) (fun x11 => ?_)
      refine p_aload_n rfl dX9_servesNow_43 rfl ?_
      refine p_iload_n rfl dX9_servesNow_44 rfl ?_
      refine p_aload_n rfl dX9_servesNow_45 rfl ?_
      refine p_getr qg_RX9_34 uM_0 rfl dX9_servesNow_46 rfl ?_
      refine p_bipush (v := (72 : Int32)) kbipush_72 dX9_servesNow_49 rfl ?_
      refine p_iload_n rfl dX9_servesNow_51 rfl ?_
      refine p_iadd dX9_servesNow_52 rfl ?_
      refine p_iald uM_9 dX9_servesNow_53 rfl (fun _ => ?_)
      refine p_aload_n rfl dX9_servesNow_54 rfl ?_
      refine p_getr qg_RX9_34 uM_0 rfl dX9_servesNow_55 rfl ?_
      refine p_bipush (v := (96 : Int32)) kbipush_96 dX9_servesNow_58 rfl ?_
      refine p_iload_n rfl dX9_servesNow_60 rfl ?_
      refine p_iadd dX9_servesNow_61 rfl ?_
      refine p_iald uM_9 dX9_servesNow_62 rfl (fun _ => ?_)
      refine p_callVv (f := f9_reads z1 (h9.1 9 (ix ((72 : Int32) + x11))) (h9.1 9 (ix ((96 : Int32) + x11)))) (st := []) [.int z1, .int (h9.1 9 (ix ((72 : Int32) + x11))), .int (h9.1 9 (ix ((96 : Int32) + x11)))] qRokM (m9_reads l z1 (h9.1 9 (ix ((72 : Int32) + x11))) (h9.1 9 (ix ((96 : Int32) + x11)))) cal_RX9_259 uM_0 rfl rfl ⟨rfl, rfl⟩ ⟨Nat.le_of_ble_eq_true rfl, Nat.le_of_ble_eq_true rfl⟩ (Nat.le_of_ble_eq_true rfl) dX9_servesNow_63 rfl (fun h12 => ?_)
      refine p_aload_n rfl dX9_servesNow_66 rfl ?_
      refine p_getr qg_RX9_34 uM_0 rfl dX9_servesNow_67 rfl ?_
      refine p_sipush (v := (144 : Int32)) ksipush_144 dX9_servesNow_70 rfl ?_
      refine p_iload_n rfl dX9_servesNow_73 rfl ?_
      refine p_iadd dX9_servesNow_74 rfl ?_
      refine p_iconst (v := (0 : Int32)) kiconst_0 dX9_servesNow_75 rfl ?_
      refine p_iast qokM uM_9 dX9_servesNow_76 rfl (fun _ => ?_)
      refine p_nmH (fun h13 => ?_)
      refine p_iiN (v := (1 : Int32)) (lf := fun x14 => [some (.ref 0), some (.int z1), some (.int x14), some (.int x11)]) kiconst_1 dX9_servesNow_77 rfl rfl rfl rfl (fun _ => rfl) (fun x14 => ?_)
      refine p_goto (tgt := 28) dX9_servesNow_80 (by decide) ?_
      exact p_wk (ls' := [some (.ref 0), some (.int z1), some (.int x14), none]) ⟨rfl, rfl, rfl, trivial⟩ (ih x14 h13)
noncomputable def f9_servesNow (h : qH) : Option (Int32 × qH) :=
  (f9_nextTape h).bind fun (z1 : Int32) =>
  (f9_brings z1 h).bind fun (h2 : qH) =>
  qb2 (f9_bestOrder z1 h2) fun (z3 : Int32) (h4 : qH) =>
  (f9_headOf z1 h4).bind fun (z5 : Int32) =>
  qb2 (f9_laysOrder z1 z3 z5 h4) fun (z6 : Int32) (h7 : qH) =>
  f9_servesNow_L28 z1 (fun (x15 : Int32) (h16 : qH) =>
    some (z1, h16)) qN (0 : Int32) h7
set_option maxRecDepth 100000 in
set_option maxHeartbeats 4000000 in
theorem m9_servesNow (l : Launch) : qMet UM ROM l yX9_servesNow (qws yX9_servesNow cX9_servesNow 4 (some .int)) R9_servesNow [.ref 0] f9_servesNow qEw := by
  refine q_met (own := RX9) 3 (by decide) rfl (Nat.le_of_ble_eq_true rfl) (ls := [some (.ref 0), none, none, none]) rfl fun h => ?_
  unfold f9_servesNow
  show PW UM ROM l R9_servesNow cX9_servesNow 4 (some .int) RX9 (qEw h) 0 [some (.ref 0), none, none, none] [] h _
  refine p_aload_n rfl dX9_servesNow_0 rfl ?_
  refine p_callVr (f := f9_nextTape) (st := []) [] qRokM (m9_nextTape l) cal_RX9_250 uM_0 rfl rfl ⟨rfl, rfl⟩ ⟨Nat.le_of_ble_eq_true rfl, Nat.le_of_ble_eq_true rfl⟩ (Nat.le_of_ble_eq_true rfl) dX9_servesNow_1 rfl (fun z1 => ?_)
  refine p_is_n (ls' := [some (.ref 0), some (.int z1), none, none]) dX9_servesNow_4 rfl rfl rfl rfl ?_
  refine p_aload_n rfl dX9_servesNow_5 rfl ?_
  refine p_iload_n rfl dX9_servesNow_6 rfl ?_
  refine p_callVv (f := f9_brings z1) (st := []) [.int z1] qRokM (m9_brings l z1) cal_RX9_253 uM_0 rfl rfl ⟨rfl, rfl⟩ ⟨Nat.le_of_ble_eq_true rfl, Nat.le_of_ble_eq_true rfl⟩ (Nat.le_of_ble_eq_true rfl) dX9_servesNow_7 rfl (fun h2 => ?_)
  refine p_aload_n rfl dX9_servesNow_10 rfl ?_
  refine p_iload_n rfl dX9_servesNow_11 rfl ?_
  refine p_aload_n rfl dX9_servesNow_12 rfl ?_
  refine p_iload_n rfl dX9_servesNow_13 rfl ?_
  refine p_cVw (f := f9_bestOrder z1) (st := [.int z1, .ref 0]) [.int z1] qRokM (m9_bestOrder l z1) cal_RX9_256 uM_0 rfl rfl ⟨rfl, rfl⟩ ⟨Nat.le_of_ble_eq_true rfl, Nat.le_of_ble_eq_true rfl⟩ (Nat.le_of_ble_eq_true rfl) dX9_servesNow_14 rfl (fun z3 h4 => ?_)
  refine p_aload_n rfl dX9_servesNow_17 rfl ?_
  refine p_iload_n rfl dX9_servesNow_18 rfl ?_
  refine p_callVr (f := f9_headOf z1) (st := [.int z3, .int z1, .ref 0]) [.int z1] qRokM (m9_headOf l z1) cal_RX9_243 uM_0 rfl rfl ⟨rfl, rfl⟩ ⟨Nat.le_of_ble_eq_true rfl, Nat.le_of_ble_eq_true rfl⟩ (Nat.le_of_ble_eq_true rfl) dX9_servesNow_19 rfl (fun z5 => ?_)
  refine p_cVw (f := f9_laysOrder z1 z3 z5) (st := []) [.int z1, .int z3, .int z5] qRokM (m9_laysOrder l z1 z3 z5) cal_RX9_246 uM_0 rfl rfl ⟨rfl, rfl⟩ ⟨Nat.le_of_ble_eq_true rfl, Nat.le_of_ble_eq_true rfl⟩ (Nat.le_of_ble_eq_true rfl) dX9_servesNow_22 rfl (fun z6 h7 => ?_)
  refine p_pop rfl dX9_servesNow_25 rfl ?_
  refine p_iconst (v := (0 : Int32)) kiconst_0 dX9_servesNow_26 rfl ?_
  refine p_is_n (ls' := [some (.ref 0), some (.int z1), some (.int (0 : Int32)), none]) dX9_servesNow_27 rfl rfl rfl rfl ?_
  refine w9_servesNow_L28 l h z1 (fun x15 h16 => ?_) qN _ _
  refine p_iload_n rfl dX9_servesNow_83 rfl ?_
  exact p_iret rfl rfl dX9_servesNow_84
noncomputable def f9_targetOf_L4 (p1 : Int32) (h : qH) (k : Int32 → Int32 → Option (Int32)) : Nat → Int32 → Int32 → Option (Int32)
  | 0, _, _ => none
  | n + 1, x1, x2 =>
    if (h.1 0 12) ≤ x2 then (
      k x1 x2)
    else (
      qj (fun (x4 : Int32) =>
        qlt (x2 + (1 : Int32)) fun (x7 : Int32) =>
        f9_targetOf_L4 p1 h k n x4 x7) fun j5 =>
      if x2 = p1 then (
        j5 x1)
      else (
        qg (qin ((16 : Int32) + x2) 353) <|
        if (h.1 9 (ix ((16 : Int32) + x2))) = 0 then (
          qj (fun (x10 : Int32) =>
            j5 x10) fun j11 =>
          if x1 = (-1 : Int32) then (
            j11 x2)
          else (
            qg (qin ((24 : Int32) + x2) 353) <|
            qg (qin ((24 : Int32) + x1) 353) <|
            if (h.1 9 (ix ((24 : Int32) + x1))) ≤ (h.1 9 (ix ((24 : Int32) + x2))) then (
              j11 x1)
            else (
              j11 x2)))
        else (
          j5 x1)))
set_option maxRecDepth 100000 in
set_option maxHeartbeats 4000000 in
theorem w9_targetOf_L4 (l : Launch) (p1 : Int32) (h : qH) {k : Int32 → Int32 → Option (Int32)} (hk : ∀ (x1 : Int32) (x2 : Int32), PW UM ROM l R9_targetOf cX9_targetOf 4 (some .int) RX9 (qEr h) 67 [some (.ref 0), some (.int p1), some (.int x1), some (.int x2)] [] h (k x1 x2)) : ∀ (n : Nat) (x1 : Int32) (x2 : Int32), PW UM ROM l R9_targetOf cX9_targetOf 4 (some .int) RX9 (qEr h) 4 [some (.ref 0), some (.int p1), some (.int x1), some (.int x2)] [] h (f9_targetOf_L4 p1 h k n x1 x2) := by
  intro n
  induction n with
  | zero => intro _ _; exact p_none
  | succ n ih =>
    intro x1 x2
    unfold f9_targetOf_L4
    refine p_iload_n rfl dX9_targetOf_4 rfl ?_
    refine p_aload_n rfl dX9_targetOf_5 rfl ?_
    refine p_geti qg_RX9_153 uM_0 rfl dX9_targetOf_6 rfl ?_
    refine p_if (fun c3 => ?_) (fun c3 => ?_)
    · refine p_icmp_ge_t (tgt := 67) dX9_targetOf_9 (by decide) c3 ?_
      exact hk x1 x2
    · refine p_icmp_ge_f (tgt := 67) dX9_targetOf_9 (by decide) rfl c3 ?_
      refine p_iload_n rfl dX9_targetOf_12 rfl ?_
      refine p_iload_n rfl dX9_targetOf_13 rfl ?_
      refine p_jn (fun j5 => ∀ (x4 : Int32), PW UM ROM l R9_targetOf cX9_targetOf 4 (some .int) RX9 (qEr h) 61 [some (.ref 0), some (.int p1), some (.int x4), some (.int x2)] [] h (j5 x4)) (fun x4 => ?_) (fun j5 J6 => ?_)
      · refine p_iiN (v := (1 : Int32)) (lf := fun x7 => [some (.ref 0), some (.int p1), some (.int x4), some (.int x7)]) kiconst_1 dX9_targetOf_61 rfl rfl rfl rfl (fun _ => rfl) (fun x7 => ?_)
        refine p_goto (tgt := 4) dX9_targetOf_64 (by decide) ?_
        exact ih x4 x7
      · refine p_if (fun c8 => ?_) (fun c8 => ?_)
        · refine p_icmp_eq_t (tgt := 61) dX9_targetOf_14 (by decide) c8 ?_
          exact J6 x1
        · refine p_icmp_eq_f (tgt := 61) dX9_targetOf_14 (by decide) rfl c8 ?_
          refine p_aload_n rfl dX9_targetOf_17 rfl ?_
          refine p_getr qg_RX9_34 uM_0 rfl dX9_targetOf_18 rfl ?_
          refine p_bipush (v := (16 : Int32)) kbipush_16 dX9_targetOf_21 rfl ?_
          refine p_iload_n rfl dX9_targetOf_23 rfl ?_
          refine p_iadd dX9_targetOf_24 rfl ?_
          refine p_iald uM_9 dX9_targetOf_25 rfl (fun _ => ?_)
          refine p_if (fun c9 => ?_) (fun c9 => ?_)
          · refine p_if_ne_f (tgt := 61) dX9_targetOf_26 (by decide) rfl c9 ?_
            refine p_iload_n rfl dX9_targetOf_29 rfl ?_
            refine p_iconst (v := (-1 : Int32)) kiconst_m1 dX9_targetOf_30 rfl ?_
            refine p_jn (fun j11 => ∀ (x10 : Int32), PW UM ROM l R9_targetOf cX9_targetOf 4 (some .int) RX9 (qEr h) 60 [some (.ref 0), some (.int p1), some (.int x1), some (.int x2)] [.int x10] h (j11 x10)) (fun x10 => ?_) (fun j11 J12 => ?_)
            · refine p_is_n (ls' := [some (.ref 0), some (.int p1), some (.int x10), some (.int x2)]) dX9_targetOf_60 rfl rfl rfl rfl ?_
              exact J6 x10
            · refine p_if (fun c13 => ?_) (fun c13 => ?_)
              · refine p_icmp_eq_t (tgt := 55) dX9_targetOf_31 (by decide) c13 ?_
                refine p_iload_n rfl dX9_targetOf_55 rfl ?_
                refine p_goto (tgt := 60) dX9_targetOf_56 (by decide) ?_
                exact J12 x2
              · refine p_icmp_eq_f (tgt := 55) dX9_targetOf_31 (by decide) rfl c13 ?_
                refine p_aload_n rfl dX9_targetOf_34 rfl ?_
                refine p_getr qg_RX9_34 uM_0 rfl dX9_targetOf_35 rfl ?_
                refine p_bipush (v := (24 : Int32)) kbipush_24 dX9_targetOf_38 rfl ?_
                refine p_iload_n rfl dX9_targetOf_40 rfl ?_
                refine p_iadd dX9_targetOf_41 rfl ?_
                refine p_iald uM_9 dX9_targetOf_42 rfl (fun _ => ?_)
                refine p_aload_n rfl dX9_targetOf_43 rfl ?_
                refine p_getr qg_RX9_34 uM_0 rfl dX9_targetOf_44 rfl ?_
                refine p_bipush (v := (24 : Int32)) kbipush_24 dX9_targetOf_47 rfl ?_
                refine p_iload_n rfl dX9_targetOf_49 rfl ?_
                refine p_iadd dX9_targetOf_50 rfl ?_
                refine p_iald uM_9 dX9_targetOf_51 rfl (fun _ => ?_)
                refine p_if (fun c14 => ?_) (fun c14 => ?_)
                · refine p_icmp_ge_t (tgt := 59) dX9_targetOf_52 (by decide) c14 ?_
                  refine p_iload_n rfl dX9_targetOf_59 rfl ?_
                  exact J12 x1
                · refine p_icmp_ge_f (tgt := 59) dX9_targetOf_52 (by decide) rfl c14 ?_
                  refine p_iload_n rfl dX9_targetOf_55 rfl ?_
                  refine p_goto (tgt := 60) dX9_targetOf_56 (by decide) ?_
                  exact J12 x2
          · refine p_if_ne_t (tgt := 61) dX9_targetOf_26 (by decide) c9 ?_
            exact J6 x1
noncomputable def f9_targetOf (p1 : Int32) (h : qH) : Option (Int32) :=
  f9_targetOf_L4 p1 h (fun (x15 : Int32) (x16 : Int32) =>
    some x15) qN (-1 : Int32) (0 : Int32)
set_option maxRecDepth 100000 in
set_option maxHeartbeats 4000000 in
theorem m9_targetOf (l : Launch) (p1 : Int32) : qMet UM ROM l yX9_targetOf (qws yX9_targetOf cX9_targetOf 4 (some .int)) R9_targetOf [.ref 0, .int p1] (f9_targetOf p1) qEr := by
  refine q_met (own := RX9) 2 (by decide) rfl (Nat.le_of_ble_eq_true rfl) (ls := [some (.ref 0), some (.int p1), none, none]) rfl fun h => ?_
  unfold f9_targetOf
  refine p_iconst (v := (-1 : Int32)) kiconst_m1 dX9_targetOf_0 rfl ?_
  refine p_is_n (ls' := [some (.ref 0), some (.int p1), some (.int (-1 : Int32)), none]) dX9_targetOf_1 rfl rfl rfl rfl ?_
  refine p_iconst (v := (0 : Int32)) kiconst_0 dX9_targetOf_2 rfl ?_
  refine p_is_n (ls' := [some (.ref 0), some (.int p1), some (.int (-1 : Int32)), some (.int (0 : Int32))]) dX9_targetOf_3 rfl rfl rfl rfl ?_
  refine w9_targetOf_L4 l p1 h (fun x15 x16 => ?_) qN _ _
  refine p_iload_n rfl dX9_targetOf_67 rfl ?_
  exact p_iret rfl rfl dX9_targetOf_68
noncomputable def f9_isWeak (p1 : Int32) (h : qH) : Option (Int32) :=
  qg (qin ((24 : Int32) + p1) 353) <|
  qj (fun (x1 : Int32) =>
    qg (qbo x1) <|
    some x1) fun j2 =>
  if (h.1 9 (ix ((24 : Int32) + p1))) ≤ (h.1 5 6) then (
    j2 (0 : Int32))
  else (
    (f9_filesOn p1 h).bind fun (z5 : Int32) =>
    if z5 ≤ 0 then (
      j2 (0 : Int32))
    else (
      j2 (1 : Int32)))
set_option maxRecDepth 100000 in
set_option maxHeartbeats 4000000 in
theorem m9_isWeak (l : Launch) (p1 : Int32) : qMet UM ROM l yX9_isWeak (qws yX9_isWeak cX9_isWeak 2 (some .boolean)) R9_isWeak [.ref 0, .int p1] (f9_isWeak p1) qEr := by
  refine q_met (own := RX9) 0 (by decide) rfl (Nat.le_of_ble_eq_true rfl) (ls := [some (.ref 0), some (.int p1)]) rfl fun h => ?_
  unfold f9_isWeak
  refine p_aload_n rfl dX9_isWeak_0 rfl ?_
  refine p_getr qg_RX9_34 uM_0 rfl dX9_isWeak_1 rfl ?_
  refine p_bipush (v := (24 : Int32)) kbipush_24 dX9_isWeak_4 rfl ?_
  refine p_iload_n rfl dX9_isWeak_6 rfl ?_
  refine p_iadd dX9_isWeak_7 rfl ?_
  refine p_iald uM_9 dX9_isWeak_8 rfl (fun _ => ?_)
  refine p_aload_n rfl dX9_isWeak_9 rfl ?_
  refine p_getr qg_RX9_22 uM_0 rfl dX9_isWeak_10 rfl ?_
  refine p_bipush (v := (6 : Int32)) kbipush_6 dX9_isWeak_13 rfl ?_
  refine p_ialdK uM_5 kix_6 kqin_6_8 dX9_isWeak_15 rfl ?_
  refine p_jn (fun j2 => ∀ (x1 : Int32), PW UM ROM l R9_isWeak cX9_isWeak 2 (some .boolean) RX9 (qEr h) 32 [some (.ref 0), some (.int p1)] [.int x1] h (j2 x1)) (fun x1 => ?_) (fun j2 J3 => ?_)
  · exact p_zretG rfl rfl dX9_isWeak_32
  · refine p_if (fun c4 => ?_) (fun c4 => ?_)
    · refine p_icmp_le_t (tgt := 31) dX9_isWeak_16 (by decide) c4 ?_
      refine p_iconst (v := (0 : Int32)) kiconst_0 dX9_isWeak_31 rfl ?_
      exact J3 (0 : Int32)
    · refine p_icmp_le_f (tgt := 31) dX9_isWeak_16 (by decide) rfl c4 ?_
      refine p_aload_n rfl dX9_isWeak_19 rfl ?_
      refine p_iload_n rfl dX9_isWeak_20 rfl ?_
      refine p_callVr (f := f9_filesOn p1) (st := []) [.int p1] qRokM (m9_filesOn l p1) cal_RX9_262 uM_0 rfl rfl ⟨rfl, rfl⟩ ⟨Nat.le_of_ble_eq_true rfl, Nat.le_of_ble_eq_true rfl⟩ (Nat.le_of_ble_eq_true rfl) dX9_isWeak_21 rfl (fun z5 => ?_)
      refine p_if (fun c6 => ?_) (fun c6 => ?_)
      · refine p_if_le_t (tgt := 31) dX9_isWeak_24 (by decide) c6 ?_
        refine p_iconst (v := (0 : Int32)) kiconst_0 dX9_isWeak_31 rfl ?_
        exact J3 (0 : Int32)
      · refine p_if_le_f (tgt := 31) dX9_isWeak_24 (by decide) rfl c6 ?_
        refine p_iconst (v := (1 : Int32)) kiconst_1 dX9_isWeak_27 rfl ?_
        refine p_goto (tgt := 32) dX9_isWeak_28 (by decide) ?_
        exact J3 (1 : Int32)
noncomputable def f9_weakOnes_L4 (h : qH) (k : Int32 → Int32 → Option (Int32)) : Nat → Int32 → Int32 → Option (Int32)
  | 0, _, _ => none
  | n + 1, x1, x2 =>
    if (h.1 0 12) ≤ x2 then (
      k x1 x2)
    else (
      (f9_isWeak x2 h).bind fun (z4 : Int32) =>
      qlt (if z4 = 0 then (0 : Int32) else ((1 : Int32) <<< (x2 &&& 31))) fun (x6 : Int32) =>
      qlt (x1 ||| x6) fun (x7 : Int32) =>
      qlt (x2 + (1 : Int32)) fun (x8 : Int32) =>
      f9_weakOnes_L4 h k n x7 x8)
set_option maxRecDepth 100000 in
set_option maxHeartbeats 4000000 in
theorem w9_weakOnes_L4 (l : Launch) (h : qH) {k : Int32 → Int32 → Option (Int32)} (hk : ∀ (x1 : Int32) (x2 : Int32), PW UM ROM l R9_weakOnes cX9_weakOnes 3 (some .int) RX9 (qEr h) 36 [some (.ref 0), some (.int x1), some (.int x2)] [] h (k x1 x2)) : ∀ (n : Nat) (x1 : Int32) (x2 : Int32), PW UM ROM l R9_weakOnes cX9_weakOnes 3 (some .int) RX9 (qEr h) 4 [some (.ref 0), some (.int x1), some (.int x2)] [] h (f9_weakOnes_L4 h k n x1 x2) := by
  intro n
  induction n with
  | zero => intro _ _; exact p_none
  | succ n ih =>
    intro x1 x2
    unfold f9_weakOnes_L4
    refine p_iload_n rfl dX9_weakOnes_4 rfl ?_
    refine p_aload_n rfl dX9_weakOnes_5 rfl ?_
    refine p_geti qg_RX9_153 uM_0 rfl dX9_weakOnes_6 rfl ?_
    refine p_if (fun c3 => ?_) (fun c3 => ?_)
    · refine p_icmp_ge_t (tgt := 36) dX9_weakOnes_9 (by decide) c3 ?_
      exact hk x1 x2
    · refine p_icmp_ge_f (tgt := 36) dX9_weakOnes_9 (by decide) rfl c3 ?_
      refine p_iload_n rfl dX9_weakOnes_12 rfl ?_
      refine p_aload_n rfl dX9_weakOnes_13 rfl ?_
      refine p_iload_n rfl dX9_weakOnes_14 rfl ?_
      refine p_callVr (f := f9_isWeak x2) (st := [.int x1]) [.int x2] qRokM (m9_isWeak l x2) cal_RX9_265 uM_0 rfl rfl ⟨rfl, rfl⟩ ⟨Nat.le_of_ble_eq_true rfl, Nat.le_of_ble_eq_true rfl⟩ (Nat.le_of_ble_eq_true rfl) dX9_weakOnes_15 rfl (fun z4 => ?_)
      refine p_vj 28 [some (.ref 0), some (.int x1), some (.int x2)] [.int x1] (fun x6 => ?_) (fun J => ?_)
      · refine p_ior dX9_weakOnes_28 rfl ?_
        refine p_isN_n (lf := fun x7 => [some (.ref 0), some (.int x7), some (.int x2)]) dX9_weakOnes_29 rfl rfl rfl (fun _ => rfl) (fun x7 => ?_)
        refine p_iiN (v := (1 : Int32)) (lf := fun x8 => [some (.ref 0), some (.int x7), some (.int x8)]) kiconst_1 dX9_weakOnes_30 rfl rfl rfl rfl (fun _ => rfl) (fun x8 => ?_)
        refine p_goto (tgt := 4) dX9_weakOnes_33 (by decide) ?_
        exact ih x7 x8
      · refine p_dia (fun c5 => ?_) (fun c5 => ?_)
        · refine p_if_eq_t (tgt := 27) dX9_weakOnes_18 (by decide) c5 ?_
          refine p_iconst (v := (0 : Int32)) kiconst_0 dX9_weakOnes_27 rfl ?_
          exact J _
        · refine p_if_eq_f (tgt := 27) dX9_weakOnes_18 (by decide) rfl c5 ?_
          refine p_iconst (v := (1 : Int32)) kiconst_1 dX9_weakOnes_21 rfl ?_
          refine p_iload_n rfl dX9_weakOnes_22 rfl ?_
          refine p_ishl dX9_weakOnes_23 rfl ?_
          refine p_goto (tgt := 28) dX9_weakOnes_24 (by decide) ?_
          exact J _
noncomputable def f9_weakOnes (h : qH) : Option (Int32) :=
  f9_weakOnes_L4 h (fun (x9 : Int32) (x10 : Int32) =>
    some x9) qN (0 : Int32) (0 : Int32)
set_option maxRecDepth 100000 in
set_option maxHeartbeats 4000000 in
theorem m9_weakOnes (l : Launch) : qMet UM ROM l yX9_weakOnes (qws yX9_weakOnes cX9_weakOnes 3 (some .int)) R9_weakOnes [.ref 0] f9_weakOnes qEr := by
  refine q_met (own := RX9) 2 (by decide) rfl (Nat.le_of_ble_eq_true rfl) (ls := [some (.ref 0), none, none]) rfl fun h => ?_
  unfold f9_weakOnes
  refine p_iconst (v := (0 : Int32)) kiconst_0 dX9_weakOnes_0 rfl ?_
  refine p_is_n (ls' := [some (.ref 0), some (.int (0 : Int32)), none]) dX9_weakOnes_1 rfl rfl rfl rfl ?_
  refine p_iconst (v := (0 : Int32)) kiconst_0 dX9_weakOnes_2 rfl ?_
  refine p_is_n (ls' := [some (.ref 0), some (.int (0 : Int32)), some (.int (0 : Int32))]) dX9_weakOnes_3 rfl rfl rfl rfl ?_
  refine w9_weakOnes_L4 l h (fun x9 x10 => ?_) qN _ _
  refine p_iload_n rfl dX9_weakOnes_36 rfl ?_
  exact p_iret rfl rfl dX9_weakOnes_37
noncomputable def f9_layMoved_L20 (p1 : Int32) (x2 : Int32) (k : Int32 → Int32 → qH → Option (Int32 × qH)) : Nat → Int32 → Int32 → qH → Option (Int32 × qH)
  | 0, _, _, _ => none
  | n + 1, x5, x6, h7 =>
    if (h7.1 9 168) ≤ x6 then (
      k x5 x6 h7)
    else (
      (f9_isOn x6 p1 h7).bind fun (z9 : Int32) =>
      qj (fun (x10 : Int32) (h11 : qH) =>
        qlt (x6 + (1 : Int32)) fun (x14 : Int32) =>
        f9_layMoved_L20 p1 x2 k n x10 x14 h11) fun j12 =>
      if z9 = 0 then (
        j12 x5 h7)
      else (
        qg (qin ((72 : Int32) + x6) 353) <|
        if (h7.1 9 (ix ((72 : Int32) + x6))) = x2 then (
          qg (qin x5 24) <|
          qlt (qw h7 12 (ix x5) x6) fun (h17 : qH) =>
          qlt (x5 + (1 : Int32)) fun (x18 : Int32) =>
          j12 x18 h17)
        else (
          j12 x5 h7)))
set_option maxRecDepth 100000 in
set_option maxHeartbeats 4000000 in
theorem w9_layMoved_L20 (l : Launch) (h0 : qH) (p1 : Int32) (x2 : Int32) {k : Int32 → Int32 → qH → Option (Int32 × qH)} (hk : ∀ (x5 : Int32) (x6 : Int32) (h7 : qH), PW UM ROM l R9_layMoved cX9_layMoved 5 (some .int) RX9 (qEw h0) 74 [some (.ref 0), some (.int p1), some (.int x5), some (.int x2), some (.int x6)] [] h7 (k x5 x6 h7)) : ∀ (n : Nat) (x5 : Int32) (x6 : Int32) (h7 : qH), PW UM ROM l R9_layMoved cX9_layMoved 5 (some .int) RX9 (qEw h0) 20 [some (.ref 0), some (.int p1), some (.int x5), some (.int x2), some (.int x6)] [] h7 (f9_layMoved_L20 p1 x2 k n x5 x6 h7) := by
  intro n
  induction n with
  | zero => intro _ _ _; exact p_none
  | succ n ih =>
    intro x5 x6 h7
    unfold f9_layMoved_L20
    refine p_iload rfl dX9_layMoved_20 rfl ?_
    refine p_aload_n rfl dX9_layMoved_22 rfl ?_
    refine p_getr qg_RX9_34 uM_0 rfl dX9_layMoved_23 rfl ?_
    refine p_sipush (v := (168 : Int32)) ksipush_168 dX9_layMoved_26 rfl ?_
    refine p_ialdK uM_9 kix_168 kqin_168_353 dX9_layMoved_29 rfl ?_
    refine p_if (fun c8 => ?_) (fun c8 => ?_)
    · refine p_icmp_ge_t (tgt := 74) dX9_layMoved_30 (by decide) c8 ?_
      exact hk x5 x6 h7
    · refine p_icmp_ge_f (tgt := 74) dX9_layMoved_30 (by decide) rfl c8 ?_
      refine p_aload_n rfl dX9_layMoved_33 rfl ?_
      refine p_iload rfl dX9_layMoved_34 rfl ?_
      refine p_iload_n rfl dX9_layMoved_36 rfl ?_
      refine p_callVr (f := f9_isOn x6 p1) (st := []) [.int x6, .int p1] qRokM (m9_isOn l x6 p1) cal_RX9_163 uM_0 rfl rfl ⟨rfl, rfl⟩ ⟨Nat.le_of_ble_eq_true rfl, Nat.le_of_ble_eq_true rfl⟩ (Nat.le_of_ble_eq_true rfl) dX9_layMoved_37 rfl (fun z9 => ?_)
      refine p_jn (fun j12 => ∀ (x10 : Int32) (h11 : qH), PW UM ROM l R9_layMoved cX9_layMoved 5 (some .int) RX9 (qEw h0) 68 [some (.ref 0), some (.int p1), some (.int x10), some (.int x2), some (.int x6)] [] h11 (j12 x10 h11)) (fun x10 h11 => ?_) (fun j12 J13 => ?_)
      · refine p_iiN (v := (1 : Int32)) (lf := fun x14 => [some (.ref 0), some (.int p1), some (.int x10), some (.int x2), some (.int x14)]) kiconst_1 dX9_layMoved_68 rfl rfl rfl rfl (fun _ => rfl) (fun x14 => ?_)
        refine p_goto (tgt := 20) dX9_layMoved_71 (by decide) ?_
        exact ih x10 x14 h11
      · refine p_if (fun c15 => ?_) (fun c15 => ?_)
        · refine p_if_eq_t (tgt := 68) dX9_layMoved_40 (by decide) c15 ?_
          exact J13 x5 h7
        · refine p_if_eq_f (tgt := 68) dX9_layMoved_40 (by decide) rfl c15 ?_
          refine p_aload_n rfl dX9_layMoved_43 rfl ?_
          refine p_getr qg_RX9_34 uM_0 rfl dX9_layMoved_44 rfl ?_
          refine p_bipush (v := (72 : Int32)) kbipush_72 dX9_layMoved_47 rfl ?_
          refine p_iload rfl dX9_layMoved_49 rfl ?_
          refine p_iadd dX9_layMoved_51 rfl ?_
          refine p_iald uM_9 dX9_layMoved_52 rfl (fun _ => ?_)
          refine p_iload_n rfl dX9_layMoved_53 rfl ?_
          refine p_if (fun c16 => ?_) (fun c16 => ?_)
          · refine p_icmp_ne_f (tgt := 68) dX9_layMoved_54 (by decide) rfl c16 ?_
            refine p_aload_n rfl dX9_layMoved_57 rfl ?_
            refine p_getr qg_RX9_43 uM_0 rfl dX9_layMoved_58 rfl ?_
            refine p_iload_n rfl dX9_layMoved_61 rfl ?_
            refine p_iload rfl dX9_layMoved_62 rfl ?_
            refine p_iast qokM uM_12 dX9_layMoved_64 rfl (fun _ => ?_)
            refine p_nmH (fun h17 => ?_)
            refine p_iiN (v := (1 : Int32)) (lf := fun x18 => [some (.ref 0), some (.int p1), some (.int x18), some (.int x2), some (.int x6)]) kiconst_1 dX9_layMoved_65 rfl rfl rfl rfl (fun _ => rfl) (fun x18 => ?_)
            exact J13 x18 h17
          · refine p_icmp_ne_t (tgt := 68) dX9_layMoved_54 (by decide) c16 ?_
            exact J13 x5 h7
noncomputable def f9_layMoved_L4 (p1 : Int32) (k : Int32 → Int32 → qH → Option (Int32 × qH)) : Nat → Int32 → Int32 → qH → Option (Int32 × qH)
  | 0, _, _, _ => none
  | n + 1, x1, x2, h3 =>
    qg (qin ((16 : Int32) + p1) 353) <|
    if (h3.1 9 (ix ((16 : Int32) + p1))) ≤ x2 then (
      k x1 x2 h3)
    else (
      f9_layMoved_L20 p1 x2 (fun (x19 : Int32) (x20 : Int32) (h21 : qH) =>
        qlt (x2 + (1 : Int32)) fun (x22 : Int32) =>
        f9_layMoved_L4 p1 k n x19 x22 h21) qN x1 (0 : Int32) h3)
set_option maxRecDepth 100000 in
set_option maxHeartbeats 4000000 in
theorem w9_layMoved_L4 (l : Launch) (h0 : qH) (p1 : Int32) {k : Int32 → Int32 → qH → Option (Int32 × qH)} (hk : ∀ (x1 : Int32) (x2 : Int32) (h3 : qH), PW UM ROM l R9_layMoved cX9_layMoved 5 (some .int) RX9 (qEw h0) 80 [some (.ref 0), some (.int p1), some (.int x1), some (.int x2), none] [] h3 (k x1 x2 h3)) : ∀ (n : Nat) (x1 : Int32) (x2 : Int32) (h3 : qH), PW UM ROM l R9_layMoved cX9_layMoved 5 (some .int) RX9 (qEw h0) 4 [some (.ref 0), some (.int p1), some (.int x1), some (.int x2), none] [] h3 (f9_layMoved_L4 p1 k n x1 x2 h3) := by
  intro n
  induction n with
  | zero => intro _ _ _; exact p_none
  | succ n ih =>
    intro x1 x2 h3
    unfold f9_layMoved_L4
    refine p_iload_n rfl dX9_layMoved_4 rfl ?_
    refine p_aload_n rfl dX9_layMoved_5 rfl ?_
    refine p_getr qg_RX9_34 uM_0 rfl dX9_layMoved_6 rfl ?_
    refine p_bipush (v := (16 : Int32)) kbipush_16 dX9_layMoved_9 rfl ?_
    refine p_iload_n rfl dX9_layMoved_11 rfl ?_
    refine p_iadd dX9_layMoved_12 rfl ?_
    refine p_iald uM_9 dX9_layMoved_13 rfl (fun _ => ?_)
    refine p_if (fun c4 => ?_) (fun c4 => ?_)
    · refine p_icmp_ge_t (tgt := 80) dX9_layMoved_14 (by decide) c4 ?_
      exact hk x1 x2 h3
    · refine p_icmp_ge_f (tgt := 80) dX9_layMoved_14 (by decide) rfl c4 ?_
      refine p_iconst (v := (0 : Int32)) kiconst_0 dX9_layMoved_17 rfl ?_
      refine p_is (ls' := [some (.ref 0), some (.int p1), some (.int x1), some (.int x2), some (.int (0 : Int32))]) dX9_layMoved_18 rfl rfl rfl rfl ?_
      refine w9_layMoved_L20 l h0 p1 x2 (fun x19 x20 h21 => ?_) qN _ _ _
      refine p_iiN (v := (1 : Int32)) (lf := fun x22 => [some (.ref 0), some (.int p1), some (.int x19), some (.int x22), some (.int x20)]) kiconst_1 dX9_layMoved_74 rfl rfl rfl rfl (fun _ => rfl) (fun x22 => ?_)
      refine p_goto (tgt := 4) dX9_layMoved_77 (by decide) ?_
      exact p_wk (ls' := [some (.ref 0), some (.int p1), some (.int x19), some (.int x22), none]) ⟨rfl, rfl, rfl, rfl, trivial⟩ (ih x19 x22 h21)
noncomputable def f9_layMoved (p1 : Int32) (h : qH) : Option (Int32 × qH) :=
  f9_layMoved_L4 p1 (fun (x23 : Int32) (x24 : Int32) (h25 : qH) =>
    some (x23, h25)) qN (0 : Int32) (0 : Int32) h
set_option maxRecDepth 100000 in
set_option maxHeartbeats 4000000 in
theorem m9_layMoved (l : Launch) (p1 : Int32) : qMet UM ROM l yX9_layMoved (qws yX9_layMoved cX9_layMoved 5 (some .int)) R9_layMoved [.ref 0, .int p1] (f9_layMoved p1) qEw := by
  refine q_met (own := RX9) 3 (by decide) rfl (Nat.le_of_ble_eq_true rfl) (ls := [some (.ref 0), some (.int p1), none, none, none]) rfl fun h => ?_
  unfold f9_layMoved
  show PW UM ROM l R9_layMoved cX9_layMoved 5 (some .int) RX9 (qEw h) 0 [some (.ref 0), some (.int p1), none, none, none] [] h _
  refine p_iconst (v := (0 : Int32)) kiconst_0 dX9_layMoved_0 rfl ?_
  refine p_is_n (ls' := [some (.ref 0), some (.int p1), some (.int (0 : Int32)), none, none]) dX9_layMoved_1 rfl rfl rfl rfl ?_
  refine p_iconst (v := (0 : Int32)) kiconst_0 dX9_layMoved_2 rfl ?_
  refine p_is_n (ls' := [some (.ref 0), some (.int p1), some (.int (0 : Int32)), some (.int (0 : Int32)), none]) dX9_layMoved_3 rfl rfl rfl rfl ?_
  refine w9_layMoved_L4 l h p1 (fun x23 x24 h25 => ?_) qN _ _ _
  refine p_iload_n rfl dX9_layMoved_80 rfl ?_
  exact p_iret rfl rfl dX9_layMoved_81
noncomputable def f9_copiesNow_L14 (p1 : Int32) (p2 : Int32) (z1 : Int32) (k : Int32 → qH → Option (Int32 × qH)) : Nat → Int32 → qH → Option (Int32 × qH)
  | 0, _, _ => none
  | n + 1, x4, h5 =>
    if z1 ≤ x4 then (
      k x4 h5)
    else (
      qg (qin x4 24) <|
      qg (qin ((72 : Int32) + (h5.1 12 (ix x4))) 353) <|
      qg (qin x4 24) <|
      qg (qin ((96 : Int32) + (h5.1 12 (ix x4))) 353) <|
      (f9_reads p1 (h5.1 9 (ix ((72 : Int32) + (h5.1 12 (ix x4))))) (h5.1 9 (ix ((96 : Int32) + (h5.1 12 (ix x4))))) h5).bind fun (h7 : qH) =>
      qlt (x4 + (1 : Int32)) fun (x8 : Int32) =>
      f9_copiesNow_L14 p1 p2 z1 k n x8 h7)
set_option maxRecDepth 100000 in
set_option maxHeartbeats 4000000 in
theorem w9_copiesNow_L14 (l : Launch) (h0 : qH) (p1 : Int32) (p2 : Int32) (z1 : Int32) {k : Int32 → qH → Option (Int32 × qH)} (hk : ∀ (x4 : Int32) (h5 : qH), PW UM ROM l R9_copiesNow cX9_copiesNow 6 (some .int) RX9 (qEw h0) 61 [some (.ref 0), some (.int p1), some (.int p2), some (.int z1), some (.int x4), none] [] h5 (k x4 h5)) : ∀ (n : Nat) (x4 : Int32) (h5 : qH), PW UM ROM l R9_copiesNow cX9_copiesNow 6 (some .int) RX9 (qEw h0) 14 [some (.ref 0), some (.int p1), some (.int p2), some (.int z1), some (.int x4), none] [] h5 (f9_copiesNow_L14 p1 p2 z1 k n x4 h5) := by
  intro n
  induction n with
  | zero => intro _ _; exact p_none
  | succ n ih =>
    intro x4 h5
    unfold f9_copiesNow_L14
    refine p_iload rfl dX9_copiesNow_14 rfl ?_
    refine p_iload_n rfl dX9_copiesNow_16 rfl ?_
    refine p_if (fun c6 => ?_) (fun c6 => ?_)
    · refine p_icmp_ge_t (tgt := 61) dX9_copiesNow_17 (by decide) c6 ?_
      exact hk x4 h5
    · refine p_icmp_ge_f (tgt := 61) dX9_copiesNow_17 (by decide) rfl c6 ?_
      refine p_aload_n rfl dX9_copiesNow_20 rfl ?_
      refine p_iload_n rfl dX9_copiesNow_21 rfl ?_
      refine p_aload_n rfl dX9_copiesNow_22 rfl ?_
      refine p_getr qg_RX9_34 uM_0 rfl dX9_copiesNow_23 rfl ?_
      refine p_bipush (v := (72 : Int32)) kbipush_72 dX9_copiesNow_26 rfl ?_
      refine p_aload_n rfl dX9_copiesNow_28 rfl ?_
      refine p_getr qg_RX9_43 uM_0 rfl dX9_copiesNow_29 rfl ?_
      refine p_iload rfl dX9_copiesNow_32 rfl ?_
      refine p_iald uM_12 dX9_copiesNow_34 rfl (fun _ => ?_)
      refine p_iadd dX9_copiesNow_35 rfl ?_
      refine p_iald uM_9 dX9_copiesNow_36 rfl (fun _ => ?_)
      refine p_aload_n rfl dX9_copiesNow_37 rfl ?_
      refine p_getr qg_RX9_34 uM_0 rfl dX9_copiesNow_38 rfl ?_
      refine p_bipush (v := (96 : Int32)) kbipush_96 dX9_copiesNow_41 rfl ?_
      refine p_aload_n rfl dX9_copiesNow_43 rfl ?_
      refine p_getr qg_RX9_43 uM_0 rfl dX9_copiesNow_44 rfl ?_
      refine p_iload rfl dX9_copiesNow_47 rfl ?_
      refine p_iald uM_12 dX9_copiesNow_49 rfl (fun _ => ?_)
      refine p_iadd dX9_copiesNow_50 rfl ?_
      refine p_iald uM_9 dX9_copiesNow_51 rfl (fun _ => ?_)
      refine p_callVv (f := f9_reads p1 (h5.1 9 (ix ((72 : Int32) + (h5.1 12 (ix x4))))) (h5.1 9 (ix ((96 : Int32) + (h5.1 12 (ix x4)))))) (st := []) [.int p1, .int (h5.1 9 (ix ((72 : Int32) + (h5.1 12 (ix x4))))), .int (h5.1 9 (ix ((96 : Int32) + (h5.1 12 (ix x4)))))] qRokM (m9_reads l p1 (h5.1 9 (ix ((72 : Int32) + (h5.1 12 (ix x4))))) (h5.1 9 (ix ((96 : Int32) + (h5.1 12 (ix x4)))))) cal_RX9_259 uM_0 rfl rfl ⟨rfl, rfl⟩ ⟨Nat.le_of_ble_eq_true rfl, Nat.le_of_ble_eq_true rfl⟩ (Nat.le_of_ble_eq_true rfl) dX9_copiesNow_52 rfl (fun h7 => ?_)
      refine p_iiN (v := (1 : Int32)) (lf := fun x8 => [some (.ref 0), some (.int p1), some (.int p2), some (.int z1), some (.int x8), none]) kiconst_1 dX9_copiesNow_55 rfl rfl rfl rfl (fun _ => rfl) (fun x8 => ?_)
      refine p_goto (tgt := 14) dX9_copiesNow_58 (by decide) ?_
      exact ih x8 h7
noncomputable def f9_copiesNow_L69 (p1 : Int32) (p2 : Int32) (z1 : Int32) (k : Int32 → qH → Option (Int32 × qH)) : Nat → Int32 → qH → Option (Int32 × qH)
  | 0, _, _ => none
  | n + 1, x12, h13 =>
    if z1 ≤ x12 then (
      k x12 h13)
    else (
      qg (qin x12 24) <|
      qlt (h13.1 12 (ix x12)) fun (x15 : Int32) =>
      qg (qin ((16 : Int32) + p2) 353) <|
      qg (qin ((96 : Int32) + x15) 353) <|
      (f9_runs p2 (h13.1 9 (ix ((16 : Int32) + p2))) (h13.1 9 (ix ((96 : Int32) + x15))) h13).bind fun (h16 : qH) =>
      qg (qin ((48 : Int32) + x15) 353) <|
      qlt (qw h16 9 (ix ((48 : Int32) + x15)) p2) fun (h17 : qH) =>
      qg (qin ((16 : Int32) + p2) 353) <|
      qg (qin ((72 : Int32) + x15) 353) <|
      qlt (qw h17 9 (ix ((72 : Int32) + x15)) (h17.1 9 (ix ((16 : Int32) + p2)))) fun (h18 : qH) =>
      qg (qin ((120 : Int32) + x15) 353) <|
      qlt (qw h18 9 (ix ((120 : Int32) + x15)) (1 : Int32)) fun (h19 : qH) =>
      qg (qin ((16 : Int32) + p2) 353) <|
      qg (qin ((96 : Int32) + x15) 353) <|
      qg (qin ((16 : Int32) + p2) 353) <|
      qlt (qw h19 9 (ix ((16 : Int32) + p2)) ((h19.1 9 (ix ((16 : Int32) + p2))) + (h19.1 9 (ix ((96 : Int32) + x15))))) fun (h20 : qH) =>
      qlt (x12 + (1 : Int32)) fun (x21 : Int32) =>
      f9_copiesNow_L69 p1 p2 z1 k n x21 h20)
set_option maxRecDepth 100000 in
set_option maxHeartbeats 4000000 in
theorem w9_copiesNow_L69 (l : Launch) (h0 : qH) (p1 : Int32) (p2 : Int32) (z1 : Int32) {k : Int32 → qH → Option (Int32 × qH)} (hk : ∀ (x12 : Int32) (h13 : qH), PW UM ROM l R9_copiesNow cX9_copiesNow 6 (some .int) RX9 (qEw h0) 177 [some (.ref 0), some (.int p1), some (.int p2), some (.int z1), some (.int x12), none] [] h13 (k x12 h13)) : ∀ (n : Nat) (x12 : Int32) (h13 : qH), PW UM ROM l R9_copiesNow cX9_copiesNow 6 (some .int) RX9 (qEw h0) 69 [some (.ref 0), some (.int p1), some (.int p2), some (.int z1), some (.int x12), none] [] h13 (f9_copiesNow_L69 p1 p2 z1 k n x12 h13) := by
  intro n
  induction n with
  | zero => intro _ _; exact p_none
  | succ n ih =>
    intro x12 h13
    unfold f9_copiesNow_L69
    refine p_iload rfl dX9_copiesNow_69 rfl ?_
    refine p_iload_n rfl dX9_copiesNow_71 rfl ?_
    refine p_if (fun c14 => ?_) (fun c14 => ?_)
    · refine p_icmp_ge_t (tgt := 177) dX9_copiesNow_72 (by decide) c14 ?_
      exact hk x12 h13
    · refine p_icmp_ge_f (tgt := 177) dX9_copiesNow_72 (by decide) rfl c14 ?_
      refine p_aload_n rfl dX9_copiesNow_75 rfl ?_
      refine p_getr qg_RX9_43 uM_0 rfl dX9_copiesNow_76 rfl ?_
      refine p_iload rfl dX9_copiesNow_79 rfl ?_
      refine p_iald uM_12 dX9_copiesNow_81 rfl (fun _ => ?_)
      refine p_isN (lf := fun x15 => [some (.ref 0), some (.int p1), some (.int p2), some (.int z1), some (.int x12), some (.int x15)]) dX9_copiesNow_82 rfl rfl rfl (fun _ => rfl) (fun x15 => ?_)
      refine p_aload_n rfl dX9_copiesNow_84 rfl ?_
      refine p_iload_n rfl dX9_copiesNow_85 rfl ?_
      refine p_aload_n rfl dX9_copiesNow_86 rfl ?_
      refine p_getr qg_RX9_34 uM_0 rfl dX9_copiesNow_87 rfl ?_
      refine p_bipush (v := (16 : Int32)) kbipush_16 dX9_copiesNow_90 rfl ?_
      refine p_iload_n rfl dX9_copiesNow_92 rfl ?_
      refine p_iadd dX9_copiesNow_93 rfl ?_
      refine p_iald uM_9 dX9_copiesNow_94 rfl (fun _ => ?_)
      refine p_aload_n rfl dX9_copiesNow_95 rfl ?_
      refine p_getr qg_RX9_34 uM_0 rfl dX9_copiesNow_96 rfl ?_
      refine p_bipush (v := (96 : Int32)) kbipush_96 dX9_copiesNow_99 rfl ?_
      refine p_iload rfl dX9_copiesNow_101 rfl ?_
      refine p_iadd dX9_copiesNow_103 rfl ?_
      refine p_iald uM_9 dX9_copiesNow_104 rfl (fun _ => ?_)
      refine p_callVv (f := f9_runs p2 (h13.1 9 (ix ((16 : Int32) + p2))) (h13.1 9 (ix ((96 : Int32) + x15)))) (st := []) [.int p2, .int (h13.1 9 (ix ((16 : Int32) + p2))), .int (h13.1 9 (ix ((96 : Int32) + x15)))] qRokM (m9_runs l p2 (h13.1 9 (ix ((16 : Int32) + p2))) (h13.1 9 (ix ((96 : Int32) + x15)))) cal_RX9_232 uM_0 rfl rfl ⟨rfl, rfl⟩ ⟨Nat.le_of_ble_eq_true rfl, Nat.le_of_ble_eq_true rfl⟩ (Nat.le_of_ble_eq_true rfl) dX9_copiesNow_105 rfl (fun h16 => ?_)
      refine p_aload_n rfl dX9_copiesNow_108 rfl ?_
      refine p_getr qg_RX9_34 uM_0 rfl dX9_copiesNow_109 rfl ?_
      refine p_bipush (v := (48 : Int32)) kbipush_48 dX9_copiesNow_112 rfl ?_
      refine p_iload rfl dX9_copiesNow_114 rfl ?_
      refine p_iadd dX9_copiesNow_116 rfl ?_
      refine p_iload_n rfl dX9_copiesNow_117 rfl ?_
      refine p_iast qokM uM_9 dX9_copiesNow_118 rfl (fun _ => ?_)
      refine p_nmH (fun h17 => ?_)
      refine p_aload_n rfl dX9_copiesNow_119 rfl ?_
      refine p_getr qg_RX9_34 uM_0 rfl dX9_copiesNow_120 rfl ?_
      refine p_bipush (v := (72 : Int32)) kbipush_72 dX9_copiesNow_123 rfl ?_
      refine p_iload rfl dX9_copiesNow_125 rfl ?_
      refine p_iadd dX9_copiesNow_127 rfl ?_
      refine p_aload_n rfl dX9_copiesNow_128 rfl ?_
      refine p_getr qg_RX9_34 uM_0 rfl dX9_copiesNow_129 rfl ?_
      refine p_bipush (v := (16 : Int32)) kbipush_16 dX9_copiesNow_132 rfl ?_
      refine p_iload_n rfl dX9_copiesNow_134 rfl ?_
      refine p_iadd dX9_copiesNow_135 rfl ?_
      refine p_iald uM_9 dX9_copiesNow_136 rfl (fun _ => ?_)
      refine p_iast qokM uM_9 dX9_copiesNow_137 rfl (fun _ => ?_)
      refine p_nmH (fun h18 => ?_)
      refine p_aload_n rfl dX9_copiesNow_138 rfl ?_
      refine p_getr qg_RX9_34 uM_0 rfl dX9_copiesNow_139 rfl ?_
      refine p_bipush (v := (120 : Int32)) kbipush_120 dX9_copiesNow_142 rfl ?_
      refine p_iload rfl dX9_copiesNow_144 rfl ?_
      refine p_iadd dX9_copiesNow_146 rfl ?_
      refine p_iconst (v := (1 : Int32)) kiconst_1 dX9_copiesNow_147 rfl ?_
      refine p_iast qokM uM_9 dX9_copiesNow_148 rfl (fun _ => ?_)
      refine p_nmH (fun h19 => ?_)
      refine p_aload_n rfl dX9_copiesNow_149 rfl ?_
      refine p_getr qg_RX9_34 uM_0 rfl dX9_copiesNow_150 rfl ?_
      refine p_bipush (v := (16 : Int32)) kbipush_16 dX9_copiesNow_153 rfl ?_
      refine p_iload_n rfl dX9_copiesNow_155 rfl ?_
      refine p_iadd dX9_copiesNow_156 rfl ?_
      refine p_dup2 rfl rfl dX9_copiesNow_157 rfl ?_
      refine p_iald uM_9 dX9_copiesNow_158 rfl (fun _ => ?_)
      refine p_aload_n rfl dX9_copiesNow_159 rfl ?_
      refine p_getr qg_RX9_34 uM_0 rfl dX9_copiesNow_160 rfl ?_
      refine p_bipush (v := (96 : Int32)) kbipush_96 dX9_copiesNow_163 rfl ?_
      refine p_iload rfl dX9_copiesNow_165 rfl ?_
      refine p_iadd dX9_copiesNow_167 rfl ?_
      refine p_iald uM_9 dX9_copiesNow_168 rfl (fun _ => ?_)
      refine p_iadd dX9_copiesNow_169 rfl ?_
      refine p_iast qokM uM_9 dX9_copiesNow_170 rfl (fun _ => ?_)
      refine p_nmH (fun h20 => ?_)
      refine p_iiN (v := (1 : Int32)) (lf := fun x21 => [some (.ref 0), some (.int p1), some (.int p2), some (.int z1), some (.int x21), some (.int x15)]) kiconst_1 dX9_copiesNow_171 rfl rfl rfl rfl (fun _ => rfl) (fun x21 => ?_)
      refine p_goto (tgt := 69) dX9_copiesNow_174 (by decide) ?_
      exact p_wk (ls' := [some (.ref 0), some (.int p1), some (.int p2), some (.int z1), some (.int x21), none]) ⟨rfl, rfl, rfl, rfl, rfl, trivial⟩ (ih x21 h20)
noncomputable def f9_copiesNow (p1 : Int32) (p2 : Int32) (h : qH) : Option (Int32 × qH) :=
  qb2 (f9_layMoved p1 h) fun (z1 : Int32) (h2 : qH) =>
  (f9_brings p1 h2).bind fun (h3 : qH) =>
  f9_copiesNow_L14 p1 p2 z1 (fun (x9 : Int32) (h10 : qH) =>
    (f9_brings p2 h10).bind fun (h11 : qH) =>
    f9_copiesNow_L69 p1 p2 z1 (fun (x22 : Int32) (h23 : qH) =>
      qg (qin ((16 : Int32) + p1) 353) <|
      qlt (qw h23 9 (ix ((16 : Int32) + p1)) (0 : Int32)) fun (h24 : qH) =>
      qg (qin ((32 : Int32) + p1) 353) <|
      qlt (qw h24 9 (ix ((32 : Int32) + p1)) (0 : Int32)) fun (h25 : qH) =>
      some (z1, h25)) qN (0 : Int32) h11) qN (0 : Int32) h3
set_option maxRecDepth 100000 in
set_option maxHeartbeats 4000000 in
theorem m9_copiesNow (l : Launch) (p1 : Int32) (p2 : Int32) : qMet UM ROM l yX9_copiesNow (qws yX9_copiesNow cX9_copiesNow 6 (some .int)) R9_copiesNow [.ref 0, .int p1, .int p2] (f9_copiesNow p1 p2) qEw := by
  refine q_met (own := RX9) 3 (by decide) rfl (Nat.le_of_ble_eq_true rfl) (ls := [some (.ref 0), some (.int p1), some (.int p2), none, none, none]) rfl fun h => ?_
  unfold f9_copiesNow
  show PW UM ROM l R9_copiesNow cX9_copiesNow 6 (some .int) RX9 (qEw h) 0 [some (.ref 0), some (.int p1), some (.int p2), none, none, none] [] h _
  refine p_aload_n rfl dX9_copiesNow_0 rfl ?_
  refine p_iload_n rfl dX9_copiesNow_1 rfl ?_
  refine p_cVw (f := f9_layMoved p1) (st := []) [.int p1] qRokM (m9_layMoved l p1) cal_RX9_268 uM_0 rfl rfl ⟨rfl, rfl⟩ ⟨Nat.le_of_ble_eq_true rfl, Nat.le_of_ble_eq_true rfl⟩ (Nat.le_of_ble_eq_true rfl) dX9_copiesNow_2 rfl (fun z1 h2 => ?_)
  refine p_is_n (ls' := [some (.ref 0), some (.int p1), some (.int p2), some (.int z1), none, none]) dX9_copiesNow_5 rfl rfl rfl rfl ?_
  refine p_aload_n rfl dX9_copiesNow_6 rfl ?_
  refine p_iload_n rfl dX9_copiesNow_7 rfl ?_
  refine p_callVv (f := f9_brings p1) (st := []) [.int p1] qRokM (m9_brings l p1) cal_RX9_253 uM_0 rfl rfl ⟨rfl, rfl⟩ ⟨Nat.le_of_ble_eq_true rfl, Nat.le_of_ble_eq_true rfl⟩ (Nat.le_of_ble_eq_true rfl) dX9_copiesNow_8 rfl (fun h3 => ?_)
  refine p_iconst (v := (0 : Int32)) kiconst_0 dX9_copiesNow_11 rfl ?_
  refine p_is (ls' := [some (.ref 0), some (.int p1), some (.int p2), some (.int z1), some (.int (0 : Int32)), none]) dX9_copiesNow_12 rfl rfl rfl rfl ?_
  refine w9_copiesNow_L14 l h p1 p2 z1 (fun x9 h10 => ?_) qN _ _
  refine p_aload_n rfl dX9_copiesNow_61 rfl ?_
  refine p_iload_n rfl dX9_copiesNow_62 rfl ?_
  refine p_callVv (f := f9_brings p2) (st := []) [.int p2] qRokM (m9_brings l p2) cal_RX9_253 uM_0 rfl rfl ⟨rfl, rfl⟩ ⟨Nat.le_of_ble_eq_true rfl, Nat.le_of_ble_eq_true rfl⟩ (Nat.le_of_ble_eq_true rfl) dX9_copiesNow_63 rfl (fun h11 => ?_)
  refine p_iconst (v := (0 : Int32)) kiconst_0 dX9_copiesNow_66 rfl ?_
  refine p_is (ls' := [some (.ref 0), some (.int p1), some (.int p2), some (.int z1), some (.int (0 : Int32)), none]) dX9_copiesNow_67 rfl rfl rfl rfl ?_
  refine w9_copiesNow_L69 l h p1 p2 z1 (fun x22 h23 => ?_) qN _ _
  refine p_aload_n rfl dX9_copiesNow_177 rfl ?_
  refine p_getr qg_RX9_34 uM_0 rfl dX9_copiesNow_178 rfl ?_
  refine p_bipush (v := (16 : Int32)) kbipush_16 dX9_copiesNow_181 rfl ?_
  refine p_iload_n rfl dX9_copiesNow_183 rfl ?_
  refine p_iadd dX9_copiesNow_184 rfl ?_
  refine p_iconst (v := (0 : Int32)) kiconst_0 dX9_copiesNow_185 rfl ?_
  refine p_iast qokM uM_9 dX9_copiesNow_186 rfl (fun _ => ?_)
  refine p_nmH (fun h24 => ?_)
  refine p_aload_n rfl dX9_copiesNow_187 rfl ?_
  refine p_getr qg_RX9_34 uM_0 rfl dX9_copiesNow_188 rfl ?_
  refine p_bipush (v := (32 : Int32)) kbipush_32 dX9_copiesNow_191 rfl ?_
  refine p_iload_n rfl dX9_copiesNow_193 rfl ?_
  refine p_iadd dX9_copiesNow_194 rfl ?_
  refine p_iconst (v := (0 : Int32)) kiconst_0 dX9_copiesNow_195 rfl ?_
  refine p_iast qokM uM_9 dX9_copiesNow_196 rfl (fun _ => ?_)
  refine p_nmH (fun h25 => ?_)
  refine p_iload_n rfl dX9_copiesNow_197 rfl ?_
  exact p_iret rfl rfl dX9_copiesNow_198
