noncomputable def f9_in (p1 : Int32) (p2 : Int32) (p3 : Int32) (h : qH) : Option (Int32) :=
  qlt (if p1 < p2 then (0 : Int32) else (if p3 < p1 then (0 : Int32) else (1 : Int32))) fun (x3 : Int32) =>
  qg (qbo x3) <|
  some x3
set_option maxRecDepth 100000 in
set_option maxHeartbeats 4000000 in
theorem m9_in (l : Launch) (p1 : Int32) (p2 : Int32) (p3 : Int32) : qMet UM ROM l yX9_in (qws yX9_in cX9_in 3 (some .boolean)) R9_in [.int p1, .int p2, .int p3] (f9_in p1 p2 p3) qEr := by
  refine q_met (own := RX9) 0 (by decide) rfl (Nat.le_of_ble_eq_true rfl) (ls := [some (.int p1), some (.int p2), some (.int p3)]) rfl fun h => ?_
  unfold f9_in
  refine p_iload_n rfl dX9_in_0 rfl ?_
  refine p_iload_n rfl dX9_in_1 rfl ?_
  refine p_vj 15 [some (.int p1), some (.int p2), some (.int p3)] [] (fun x3 => ?_) (fun J => ?_)
  · exact p_zretG rfl rfl dX9_in_15
  · refine p_dia (fun c1 => ?_) (fun c1 => ?_)
    · refine p_icmp_lt_t (tgt := 14) dX9_in_2 (by decide) c1 ?_
      refine p_iconst (v := (0 : Int32)) kiconst_0 dX9_in_14 rfl ?_
      exact J _
    · refine p_icmp_lt_f (tgt := 14) dX9_in_2 (by decide) rfl c1 ?_
      refine p_iload_n rfl dX9_in_5 rfl ?_
      refine p_iload_n rfl dX9_in_6 rfl ?_
      refine p_dia (fun c2 => ?_) (fun c2 => ?_)
      · refine p_icmp_gt_t (tgt := 14) dX9_in_7 (by decide) c2 ?_
        refine p_iconst (v := (0 : Int32)) kiconst_0 dX9_in_14 rfl ?_
        exact J _
      · refine p_icmp_gt_f (tgt := 14) dX9_in_7 (by decide) rfl c2 ?_
        refine p_iconst (v := (1 : Int32)) kiconst_1 dX9_in_10 rfl ?_
        refine p_goto (tgt := 15) dX9_in_11 (by decide) ?_
        exact J _
noncomputable def f9_has (p1 : Int32) (p2 : Int32) (h : qH) : Option (Int32) :=
  qlt (if ((p1 >>> (p2 &&& 31)) &&& (1 : Int32)) = (1 : Int32) then (1 : Int32) else (0 : Int32)) fun (x2 : Int32) =>
  qg (qbo x2) <|
  some x2
set_option maxRecDepth 100000 in
set_option maxHeartbeats 4000000 in
theorem m9_has (l : Launch) (p1 : Int32) (p2 : Int32) : qMet UM ROM l yX9_has (qws yX9_has cX9_has 2 (some .boolean)) R9_has [.int p1, .int p2] (f9_has p1 p2) qEr := by
  refine q_met (own := RX9) 0 (by decide) rfl (Nat.le_of_ble_eq_true rfl) (ls := [some (.int p1), some (.int p2)]) rfl fun h => ?_
  unfold f9_has
  refine p_iload_n rfl dX9_has_0 rfl ?_
  refine p_iload_n rfl dX9_has_1 rfl ?_
  refine p_ishr dX9_has_2 rfl ?_
  refine p_iconst (v := (1 : Int32)) kiconst_1 dX9_has_3 rfl ?_
  refine p_iand dX9_has_4 rfl ?_
  refine p_iconst (v := (1 : Int32)) kiconst_1 dX9_has_5 rfl ?_
  refine p_vj 14 [some (.int p1), some (.int p2)] [] (fun x2 => ?_) (fun J => ?_)
  · exact p_zretG rfl rfl dX9_has_14
  · refine p_dia (fun c1 => ?_) (fun c1 => ?_)
    · refine p_icmp_ne_f (tgt := 13) dX9_has_6 (by decide) rfl c1 ?_
      refine p_iconst (v := (1 : Int32)) kiconst_1 dX9_has_9 rfl ?_
      refine p_goto (tgt := 14) dX9_has_10 (by decide) ?_
      exact J _
    · refine p_icmp_ne_t (tgt := 13) dX9_has_6 (by decide) c1 ?_
      refine p_iconst (v := (0 : Int32)) kiconst_0 dX9_has_13 rfl ?_
      exact J _
noncomputable def f9_bits_L4 (p1 : Int32) (h : qH) (k : Int32 → Int32 → Option (Int32)) : Nat → Int32 → Int32 → Option (Int32)
  | 0, _, _ => none
  | n + 1, x1, x2 =>
    if (8 : Int32) ≤ x2 then (
      k x1 x2)
    else (
      qlt (x1 + ((p1 >>> (x2 &&& 31)) &&& (1 : Int32))) fun (x4 : Int32) =>
      qlt (x2 + (1 : Int32)) fun (x5 : Int32) =>
      f9_bits_L4 p1 h k n x4 x5)
set_option maxRecDepth 100000 in
set_option maxHeartbeats 4000000 in
theorem w9_bits_L4 (l : Launch) (p1 : Int32) (h : qH) {k : Int32 → Int32 → Option (Int32)} (hk : ∀ (x1 : Int32) (x2 : Int32), PW UM ROM l R9_bits cX9_bits 3 (some .int) RX9 (qEr h) 24 [some (.int p1), some (.int x1), some (.int x2)] [] h (k x1 x2)) : ∀ (n : Nat) (x1 : Int32) (x2 : Int32), PW UM ROM l R9_bits cX9_bits 3 (some .int) RX9 (qEr h) 4 [some (.int p1), some (.int x1), some (.int x2)] [] h (f9_bits_L4 p1 h k n x1 x2) := by
  intro n
  induction n with
  | zero => intro _ _; exact p_none
  | succ n ih =>
    intro x1 x2
    unfold f9_bits_L4
    refine p_iload_n rfl dX9_bits_4 rfl ?_
    refine p_bipush (v := (8 : Int32)) kbipush_8 dX9_bits_5 rfl ?_
    refine p_if (fun c3 => ?_) (fun c3 => ?_)
    · refine p_icmp_ge_t (tgt := 24) dX9_bits_7 (by decide) c3 ?_
      exact hk x1 x2
    · refine p_icmp_ge_f (tgt := 24) dX9_bits_7 (by decide) rfl c3 ?_
      refine p_iload_n rfl dX9_bits_10 rfl ?_
      refine p_iload_n rfl dX9_bits_11 rfl ?_
      refine p_iload_n rfl dX9_bits_12 rfl ?_
      refine p_ishr dX9_bits_13 rfl ?_
      refine p_iconst (v := (1 : Int32)) kiconst_1 dX9_bits_14 rfl ?_
      refine p_iand dX9_bits_15 rfl ?_
      refine p_iadd dX9_bits_16 rfl ?_
      refine p_isN_n (lf := fun x4 => [some (.int p1), some (.int x4), some (.int x2)]) dX9_bits_17 rfl rfl rfl (fun _ => rfl) (fun x4 => ?_)
      refine p_iiN (v := (1 : Int32)) (lf := fun x5 => [some (.int p1), some (.int x4), some (.int x5)]) kiconst_1 dX9_bits_18 rfl rfl rfl rfl (fun _ => rfl) (fun x5 => ?_)
      refine p_goto (tgt := 4) dX9_bits_21 (by decide) ?_
      exact ih x4 x5
noncomputable def f9_bits (p1 : Int32) (h : qH) : Option (Int32) :=
  f9_bits_L4 p1 h (fun (x6 : Int32) (x7 : Int32) =>
    some x6) qN (0 : Int32) (0 : Int32)
set_option maxRecDepth 100000 in
set_option maxHeartbeats 4000000 in
theorem m9_bits (l : Launch) (p1 : Int32) : qMet UM ROM l yX9_bits (qws yX9_bits cX9_bits 3 (some .int)) R9_bits [.int p1] (f9_bits p1) qEr := by
  refine q_met (own := RX9) 2 (by decide) rfl (Nat.le_of_ble_eq_true rfl) (ls := [some (.int p1), none, none]) rfl fun h => ?_
  unfold f9_bits
  refine p_iconst (v := (0 : Int32)) kiconst_0 dX9_bits_0 rfl ?_
  refine p_is_n (ls' := [some (.int p1), some (.int (0 : Int32)), none]) dX9_bits_1 rfl rfl rfl rfl ?_
  refine p_iconst (v := (0 : Int32)) kiconst_0 dX9_bits_2 rfl ?_
  refine p_is_n (ls' := [some (.int p1), some (.int (0 : Int32)), some (.int (0 : Int32))]) dX9_bits_3 rfl rfl rfl rfl ?_
  refine w9_bits_L4 l p1 h (fun x6 x7 => ?_) qN _ _
  refine p_iload_n rfl dX9_bits_24 rfl ?_
  exact p_iret rfl rfl dX9_bits_25
noncomputable def f9_apart (p1 : Int32) (p2 : Int32) (h : qH) : Option (Int32) :=
  qlt (if p1 ≤ p2 then (p2 - p1) else (p1 - p2)) fun (x2 : Int32) =>
  some x2
set_option maxRecDepth 100000 in
set_option maxHeartbeats 4000000 in
theorem m9_apart (l : Launch) (p1 : Int32) (p2 : Int32) : qMet UM ROM l yX9_apart (qws yX9_apart cX9_apart 2 (some .int)) R9_apart [.int p1, .int p2] (f9_apart p1 p2) qEr := by
  refine q_met (own := RX9) 0 (by decide) rfl (Nat.le_of_ble_eq_true rfl) (ls := [some (.int p1), some (.int p2)]) rfl fun h => ?_
  unfold f9_apart
  refine p_iload_n rfl dX9_apart_0 rfl ?_
  refine p_iload_n rfl dX9_apart_1 rfl ?_
  refine p_vj 14 [some (.int p1), some (.int p2)] [] (fun x2 => ?_) (fun J => ?_)
  · exact p_iret rfl rfl dX9_apart_14
  · refine p_dia (fun c1 => ?_) (fun c1 => ?_)
    · refine p_icmp_le_t (tgt := 11) dX9_apart_2 (by decide) c1 ?_
      refine p_iload_n rfl dX9_apart_11 rfl ?_
      refine p_iload_n rfl dX9_apart_12 rfl ?_
      refine p_isub dX9_apart_13 rfl ?_
      exact J _
    · refine p_icmp_le_f (tgt := 11) dX9_apart_2 (by decide) rfl c1 ?_
      refine p_iload_n rfl dX9_apart_5 rfl ?_
      refine p_iload_n rfl dX9_apart_6 rfl ?_
      refine p_isub dX9_apart_7 rfl ?_
      refine p_goto (tgt := 14) dX9_apart_8 (by decide) ?_
      exact J _
noncomputable def f9_thrown (h : qH) : Option (Int32) :=
  some (h.1 0 0)
set_option maxRecDepth 100000 in
set_option maxHeartbeats 4000000 in
theorem m9_thrown (l : Launch) : qMet UM ROM l yX9_thrown (qws yX9_thrown cX9_thrown 1 (some .int)) R9_thrown [.ref 0] f9_thrown qEr := by
  refine q_met (own := RX9) 0 (by decide) rfl (Nat.le_of_ble_eq_true rfl) (ls := [some (.ref 0)]) rfl fun h => ?_
  unfold f9_thrown
  refine p_aload_n rfl dX9_thrown_0 rfl ?_
  refine p_geti qg_RX9_65 uM_0 rfl dX9_thrown_1 rfl ?_
  exact p_iret rfl rfl dX9_thrown_4
noncomputable def f9_byteOf (p1 : Int32) (p2 : Int32) (p3 : Int32) (p4 : Int32) (p5 : Int32) (p6 : Int32) (h : qH) : Option (Int32) :=
  qlt (if (4 : Int32) ≤ p6 then (if (8 : Int32) ≤ p6 then (if (12 : Int32) ≤ p6 then (if (16 : Int32) ≤ p6 then p5 else p4) else p3) else p2) else p1) fun (x5 : Int32) =>
  qg (decide (¬ (4 : Int32) = 0)) <|
  some ((x5 >>> (((24 : Int32) - ((8 : Int32) * (p6 - p6 / (4 : Int32) * (4 : Int32)))) &&& 31)) &&& (255 : Int32))
set_option maxRecDepth 100000 in
set_option maxHeartbeats 4000000 in
theorem m9_byteOf (l : Launch) (p1 : Int32) (p2 : Int32) (p3 : Int32) (p4 : Int32) (p5 : Int32) (p6 : Int32) : qMet UM ROM l yX9_byteOf (qws yX9_byteOf cX9_byteOf 7 (some .int)) R9_byteOf [.int p1, .int p2, .int p3, .int p4, .int p5, .int p6] (f9_byteOf p1 p2 p3 p4 p5 p6) qEr := by
  refine q_met (own := RX9) 1 (by decide) rfl (Nat.le_of_ble_eq_true rfl) (ls := [some (.int p1), some (.int p2), some (.int p3), some (.int p4), some (.int p5), some (.int p6), none]) rfl fun h => ?_
  unfold f9_byteOf
  refine p_iload rfl dX9_byteOf_0 rfl ?_
  refine p_iconst (v := (4 : Int32)) kiconst_4 dX9_byteOf_2 rfl ?_
  refine p_vj 45 [some (.int p1), some (.int p2), some (.int p3), some (.int p4), some (.int p5), some (.int p6), none] [] (fun x5 => ?_) (fun J => ?_)
  · refine p_is (ls' := [some (.int p1), some (.int p2), some (.int p3), some (.int p4), some (.int p5), some (.int p6), some (.int x5)]) dX9_byteOf_45 rfl rfl rfl rfl ?_
    refine p_iload rfl dX9_byteOf_47 rfl ?_
    refine p_bipush (v := (24 : Int32)) kbipush_24 dX9_byteOf_49 rfl ?_
    refine p_bipush (v := (8 : Int32)) kbipush_8 dX9_byteOf_51 rfl ?_
    refine p_iload rfl dX9_byteOf_53 rfl ?_
    refine p_iconst (v := (4 : Int32)) kiconst_4 dX9_byteOf_55 rfl ?_
    refine p_irem dX9_byteOf_56 rfl (fun _ => ?_)
    refine p_imul dX9_byteOf_57 rfl ?_
    refine p_isub dX9_byteOf_58 rfl ?_
    refine p_ishr dX9_byteOf_59 rfl ?_
    refine p_sipush (v := (255 : Int32)) ksipush_255 dX9_byteOf_60 rfl ?_
    refine p_iand dX9_byteOf_63 rfl ?_
    exact p_iret rfl rfl dX9_byteOf_64
  · refine p_dia (fun c1 => ?_) (fun c1 => ?_)
    · refine p_icmp_ge_t (tgt := 10) dX9_byteOf_3 (by decide) c1 ?_
      refine p_iload rfl dX9_byteOf_10 rfl ?_
      refine p_bipush (v := (8 : Int32)) kbipush_8 dX9_byteOf_12 rfl ?_
      refine p_dia (fun c2 => ?_) (fun c2 => ?_)
      · refine p_icmp_ge_t (tgt := 21) dX9_byteOf_14 (by decide) c2 ?_
        refine p_iload rfl dX9_byteOf_21 rfl ?_
        refine p_bipush (v := (12 : Int32)) kbipush_12 dX9_byteOf_23 rfl ?_
        refine p_dia (fun c3 => ?_) (fun c3 => ?_)
        · refine p_icmp_ge_t (tgt := 32) dX9_byteOf_25 (by decide) c3 ?_
          refine p_iload rfl dX9_byteOf_32 rfl ?_
          refine p_bipush (v := (16 : Int32)) kbipush_16 dX9_byteOf_34 rfl ?_
          refine p_dia (fun c4 => ?_) (fun c4 => ?_)
          · refine p_icmp_ge_t (tgt := 43) dX9_byteOf_36 (by decide) c4 ?_
            refine p_iload rfl dX9_byteOf_43 rfl ?_
            exact J _
          · refine p_icmp_ge_f (tgt := 43) dX9_byteOf_36 (by decide) rfl c4 ?_
            refine p_iload_n rfl dX9_byteOf_39 rfl ?_
            refine p_goto (tgt := 45) dX9_byteOf_40 (by decide) ?_
            exact J _
        · refine p_icmp_ge_f (tgt := 32) dX9_byteOf_25 (by decide) rfl c3 ?_
          refine p_iload_n rfl dX9_byteOf_28 rfl ?_
          refine p_goto (tgt := 45) dX9_byteOf_29 (by decide) ?_
          exact J _
      · refine p_icmp_ge_f (tgt := 21) dX9_byteOf_14 (by decide) rfl c2 ?_
        refine p_iload_n rfl dX9_byteOf_17 rfl ?_
        refine p_goto (tgt := 45) dX9_byteOf_18 (by decide) ?_
        exact J _
    · refine p_icmp_ge_f (tgt := 10) dX9_byteOf_3 (by decide) rfl c1 ?_
      refine p_iload_n rfl dX9_byteOf_6 rfl ?_
      refine p_goto (tgt := 45) dX9_byteOf_7 (by decide) ?_
      exact J _
noncomputable def f9_feed_L6 (p1 : Int32) (p2 : Int32) (p3 : Int32) (p4 : Int32) (p5 : Int32) (h : qH) (k : Int32 → Int32 → Option (Int32 × qH)) : Nat → Int32 → Int32 → Option (Int32 × qH)
  | 0, _, _ => none
  | n + 1, x1, x2 =>
    if (20 : Int32) ≤ x2 then (
      k x1 x2)
    else (
      (f9_byteOf p1 p2 p3 p4 p5 x2 h).bind fun (z4 : Int32) =>
      qlt (if z4 = 0 then (0 : Int32) else (1 : Int32)) fun (x6 : Int32) =>
      qlt (x1 + x6) fun (x7 : Int32) =>
      qlt (x2 + (1 : Int32)) fun (x8 : Int32) =>
      f9_feed_L6 p1 p2 p3 p4 p5 h k n x7 x8)
set_option maxRecDepth 100000 in
set_option maxHeartbeats 4000000 in
theorem w9_feed_L6 (l : Launch) (h0 : qH) (p1 : Int32) (p2 : Int32) (p3 : Int32) (p4 : Int32) (p5 : Int32) (h : qH) {k : Int32 → Int32 → Option (Int32 × qH)} (hk : ∀ (x1 : Int32) (x2 : Int32), PW UM ROM l R9_feed cX9_feed 9 (some .int) RX9 (qEw h0) 44 [some (.ref 0), some (.int p1), some (.int p2), some (.int p3), some (.int p4), some (.int p5), some (.int x1), some (.int x2), none] [] h (k x1 x2)) : ∀ (n : Nat) (x1 : Int32) (x2 : Int32), PW UM ROM l R9_feed cX9_feed 9 (some .int) RX9 (qEw h0) 6 [some (.ref 0), some (.int p1), some (.int p2), some (.int p3), some (.int p4), some (.int p5), some (.int x1), some (.int x2), none] [] h (f9_feed_L6 p1 p2 p3 p4 p5 h k n x1 x2) := by
  intro n
  induction n with
  | zero => intro _ _; exact p_none
  | succ n ih =>
    intro x1 x2
    unfold f9_feed_L6
    refine p_iload rfl dX9_feed_6 rfl ?_
    refine p_bipush (v := (20 : Int32)) kbipush_20 dX9_feed_8 rfl ?_
    refine p_if (fun c3 => ?_) (fun c3 => ?_)
    · refine p_icmp_ge_t (tgt := 44) dX9_feed_10 (by decide) c3 ?_
      exact hk x1 x2
    · refine p_icmp_ge_f (tgt := 44) dX9_feed_10 (by decide) rfl c3 ?_
      refine p_iload rfl dX9_feed_13 rfl ?_
      refine p_iload_n rfl dX9_feed_15 rfl ?_
      refine p_iload_n rfl dX9_feed_16 rfl ?_
      refine p_iload_n rfl dX9_feed_17 rfl ?_
      refine p_iload rfl dX9_feed_18 rfl ?_
      refine p_iload rfl dX9_feed_20 rfl ?_
      refine p_iload rfl dX9_feed_22 rfl ?_
      refine p_callSr (f := f9_byteOf p1 p2 p3 p4 p5 x2) (st := [.int x1]) [.int p1, .int p2, .int p3, .int p4, .int p5, .int x2] qRokM (m9_byteOf l p1 p2 p3 p4 p5 x2) cal_RX9_69 rfl ⟨rfl, rfl⟩ ⟨Nat.le_of_ble_eq_true rfl, Nat.le_of_ble_eq_true rfl⟩ (Nat.le_of_ble_eq_true rfl) dX9_feed_24 rfl (fun z4 => ?_)
      refine p_vj 35 [some (.ref 0), some (.int p1), some (.int p2), some (.int p3), some (.int p4), some (.int p5), some (.int x1), some (.int x2), none] [.int x1] (fun x6 => ?_) (fun J => ?_)
      · refine p_iadd dX9_feed_35 rfl ?_
        refine p_isN (lf := fun x7 => [some (.ref 0), some (.int p1), some (.int p2), some (.int p3), some (.int p4), some (.int p5), some (.int x7), some (.int x2), none]) dX9_feed_36 rfl rfl rfl (fun _ => rfl) (fun x7 => ?_)
        refine p_iiN (v := (1 : Int32)) (lf := fun x8 => [some (.ref 0), some (.int p1), some (.int p2), some (.int p3), some (.int p4), some (.int p5), some (.int x7), some (.int x8), none]) kiconst_1 dX9_feed_38 rfl rfl rfl rfl (fun _ => rfl) (fun x8 => ?_)
        refine p_goto (tgt := 6) dX9_feed_41 (by decide) ?_
        exact ih x7 x8
      · refine p_dia (fun c5 => ?_) (fun c5 => ?_)
        · refine p_if_eq_t (tgt := 34) dX9_feed_27 (by decide) c5 ?_
          refine p_iconst (v := (0 : Int32)) kiconst_0 dX9_feed_34 rfl ?_
          exact J _
        · refine p_if_eq_f (tgt := 34) dX9_feed_27 (by decide) rfl c5 ?_
          refine p_iconst (v := (1 : Int32)) kiconst_1 dX9_feed_30 rfl ?_
          refine p_goto (tgt := 35) dX9_feed_31 (by decide) ?_
          exact J _
noncomputable def f9_feed_L62 (p1 : Int32) (p2 : Int32) (p3 : Int32) (p4 : Int32) (p5 : Int32) (k : Int32 → qH → Option (Int32 × qH)) : Nat → Int32 → qH → Option (Int32 × qH)
  | 0, _, _ => none
  | n + 1, x12, h13 =>
    if (20 : Int32) ≤ x12 then (
      k x12 h13)
    else (
      (f9_byteOf p1 p2 p3 p4 p5 x12 h13).bind fun (z15 : Int32) =>
      qj (fun (h16 : qH) =>
        qlt (x12 + (1 : Int32)) fun (x19 : Int32) =>
        f9_feed_L62 p1 p2 p3 p4 p5 k n x19 h16) fun j17 =>
      if z15 = 0 then (
        j17 h13)
      else (
        qg (qin (h13.1 0 2) 240) <|
        qlt (qw h13 1 (ix (h13.1 0 2)) z15) fun (h21 : qH) =>
        qlt (qw h21 0 2 ((h21.1 0 2) + (1 : Int32))) fun (h22 : qH) =>
        j17 h22))
set_option maxRecDepth 100000 in
set_option maxHeartbeats 4000000 in
theorem w9_feed_L62 (l : Launch) (h0 : qH) (p1 : Int32) (p2 : Int32) (p3 : Int32) (p4 : Int32) (p5 : Int32) {k : Int32 → qH → Option (Int32 × qH)} (hk : ∀ (x12 : Int32) (h13 : qH), PW UM ROM l R9_feed cX9_feed 9 (some .int) RX9 (qEw h0) 115 [some (.ref 0), some (.int p1), some (.int p2), some (.int p3), some (.int p4), some (.int p5), none, some (.int x12), none] [] h13 (k x12 h13)) : ∀ (n : Nat) (x12 : Int32) (h13 : qH), PW UM ROM l R9_feed cX9_feed 9 (some .int) RX9 (qEw h0) 62 [some (.ref 0), some (.int p1), some (.int p2), some (.int p3), some (.int p4), some (.int p5), none, some (.int x12), none] [] h13 (f9_feed_L62 p1 p2 p3 p4 p5 k n x12 h13) := by
  intro n
  induction n with
  | zero => intro _ _; exact p_none
  | succ n ih =>
    intro x12 h13
    unfold f9_feed_L62
    refine p_iload rfl dX9_feed_62 rfl ?_
    refine p_bipush (v := (20 : Int32)) kbipush_20 dX9_feed_64 rfl ?_
    refine p_if (fun c14 => ?_) (fun c14 => ?_)
    · refine p_icmp_ge_t (tgt := 115) dX9_feed_66 (by decide) c14 ?_
      exact hk x12 h13
    · refine p_icmp_ge_f (tgt := 115) dX9_feed_66 (by decide) rfl c14 ?_
      refine p_iload_n rfl dX9_feed_69 rfl ?_
      refine p_iload_n rfl dX9_feed_70 rfl ?_
      refine p_iload_n rfl dX9_feed_71 rfl ?_
      refine p_iload rfl dX9_feed_72 rfl ?_
      refine p_iload rfl dX9_feed_74 rfl ?_
      refine p_iload rfl dX9_feed_76 rfl ?_
      refine p_callSr (f := f9_byteOf p1 p2 p3 p4 p5 x12) (st := []) [.int p1, .int p2, .int p3, .int p4, .int p5, .int x12] qRokM (m9_byteOf l p1 p2 p3 p4 p5 x12) cal_RX9_69 rfl ⟨rfl, rfl⟩ ⟨Nat.le_of_ble_eq_true rfl, Nat.le_of_ble_eq_true rfl⟩ (Nat.le_of_ble_eq_true rfl) dX9_feed_78 rfl (fun z15 => ?_)
      refine p_is (ls' := [some (.ref 0), some (.int p1), some (.int p2), some (.int p3), some (.int p4), some (.int p5), none, some (.int x12), some (.int z15)]) dX9_feed_81 rfl rfl rfl rfl ?_
      refine p_iload rfl dX9_feed_83 rfl ?_
      refine p_jn (fun j17 => ∀ (h16 : qH), PW UM ROM l R9_feed cX9_feed 9 (some .int) RX9 (qEw h0) 109 [some (.ref 0), some (.int p1), some (.int p2), some (.int p3), some (.int p4), some (.int p5), none, some (.int x12), some (.int z15)] [] h16 (j17 h16)) (fun h16 => ?_) (fun j17 J18 => ?_)
      · refine p_iiN (v := (1 : Int32)) (lf := fun x19 => [some (.ref 0), some (.int p1), some (.int p2), some (.int p3), some (.int p4), some (.int p5), none, some (.int x19), some (.int z15)]) kiconst_1 dX9_feed_109 rfl rfl rfl rfl (fun _ => rfl) (fun x19 => ?_)
        refine p_goto (tgt := 62) dX9_feed_112 (by decide) ?_
        exact p_wk (ls' := [some (.ref 0), some (.int p1), some (.int p2), some (.int p3), some (.int p4), some (.int p5), none, some (.int x19), none]) ⟨rfl, rfl, rfl, rfl, rfl, rfl, rfl, trivial⟩ (ih x19 h16)
      · refine p_if (fun c20 => ?_) (fun c20 => ?_)
        · refine p_if_eq_t (tgt := 109) dX9_feed_85 (by decide) c20 ?_
          exact J18 h13
        · refine p_if_eq_f (tgt := 109) dX9_feed_85 (by decide) rfl c20 ?_
          refine p_aload_n rfl dX9_feed_88 rfl ?_
          refine p_getr qg_RX9_9 uM_0 rfl dX9_feed_89 rfl ?_
          refine p_aload_n rfl dX9_feed_92 rfl ?_
          refine p_geti qg_RX9_73 uM_0 rfl dX9_feed_93 rfl ?_
          refine p_iload rfl dX9_feed_96 rfl ?_
          refine p_iast qokM uM_1 dX9_feed_98 rfl (fun _ => ?_)
          refine p_nmH (fun h21 => ?_)
          refine p_aload_n rfl dX9_feed_99 rfl ?_
          refine p_dup rfl dX9_feed_100 rfl ?_
          refine p_geti qg_RX9_73 uM_0 rfl dX9_feed_101 rfl ?_
          refine p_iconst (v := (1 : Int32)) kiconst_1 dX9_feed_104 rfl ?_
          refine p_iadd dX9_feed_105 rfl ?_
          refine p_puti qokM qp_RX9_73 uM_0 rfl dX9_feed_106 rfl ?_
          refine p_nmH (fun h22 => ?_)
          exact J18 h22
noncomputable def f9_feed (p1 : Int32) (p2 : Int32) (p3 : Int32) (p4 : Int32) (p5 : Int32) (h : qH) : Option (Int32 × qH) :=
  f9_feed_L6 p1 p2 p3 p4 p5 h (fun (x9 : Int32) (x10 : Int32) =>
    if ((h.1 0 2) + x9) ≤ (240 : Int32) then (
      f9_feed_L62 p1 p2 p3 p4 p5 (fun (x23 : Int32) (h24 : qH) =>
        some ((h24.1 0 2), h24)) qN (0 : Int32) h)
    else (
      some ((-1 : Int32), h))) qN (0 : Int32) (0 : Int32)
set_option maxRecDepth 100000 in
set_option maxHeartbeats 4000000 in
theorem m9_feed (l : Launch) (p1 : Int32) (p2 : Int32) (p3 : Int32) (p4 : Int32) (p5 : Int32) : qMet UM ROM l yX9_feed (qws yX9_feed cX9_feed 9 (some .int)) R9_feed [.ref 0, .int p1, .int p2, .int p3, .int p4, .int p5] (f9_feed p1 p2 p3 p4 p5) qEw := by
  refine q_met (own := RX9) 3 (by decide) rfl (Nat.le_of_ble_eq_true rfl) (ls := [some (.ref 0), some (.int p1), some (.int p2), some (.int p3), some (.int p4), some (.int p5), none, none, none]) rfl fun h => ?_
  unfold f9_feed
  show PW UM ROM l R9_feed cX9_feed 9 (some .int) RX9 (qEw h) 0 [some (.ref 0), some (.int p1), some (.int p2), some (.int p3), some (.int p4), some (.int p5), none, none, none] [] h _
  refine p_iconst (v := (0 : Int32)) kiconst_0 dX9_feed_0 rfl ?_
  refine p_is (ls' := [some (.ref 0), some (.int p1), some (.int p2), some (.int p3), some (.int p4), some (.int p5), some (.int (0 : Int32)), none, none]) dX9_feed_1 rfl rfl rfl rfl ?_
  refine p_iconst (v := (0 : Int32)) kiconst_0 dX9_feed_3 rfl ?_
  refine p_is (ls' := [some (.ref 0), some (.int p1), some (.int p2), some (.int p3), some (.int p4), some (.int p5), some (.int (0 : Int32)), some (.int (0 : Int32)), none]) dX9_feed_4 rfl rfl rfl rfl ?_
  refine w9_feed_L6 l h p1 p2 p3 p4 p5 h (fun x9 x10 => ?_) qN _ _
  refine p_aload_n rfl dX9_feed_44 rfl ?_
  refine p_geti qg_RX9_73 uM_0 rfl dX9_feed_45 rfl ?_
  refine p_iload rfl dX9_feed_48 rfl ?_
  refine p_iadd dX9_feed_50 rfl ?_
  refine p_sipush (v := (240 : Int32)) ksipush_240 dX9_feed_51 rfl ?_
  refine p_if (fun c11 => ?_) (fun c11 => ?_)
  · refine p_icmp_le_t (tgt := 59) dX9_feed_54 (by decide) c11 ?_
    refine p_iconst (v := (0 : Int32)) kiconst_0 dX9_feed_59 rfl ?_
    refine p_is (ls' := [some (.ref 0), some (.int p1), some (.int p2), some (.int p3), some (.int p4), some (.int p5), some (.int x9), some (.int (0 : Int32)), none]) dX9_feed_60 rfl rfl rfl rfl ?_
    refine p_wk (ls' := [some (.ref 0), some (.int p1), some (.int p2), some (.int p3), some (.int p4), some (.int p5), none, some (.int (0 : Int32)), none]) ⟨rfl, rfl, rfl, rfl, rfl, rfl, rfl, trivial⟩ ?_
    refine w9_feed_L62 l h p1 p2 p3 p4 p5 (fun x23 h24 => ?_) qN _ _
    refine p_aload_n rfl dX9_feed_115 rfl ?_
    refine p_geti qg_RX9_73 uM_0 rfl dX9_feed_116 rfl ?_
    exact p_iret rfl rfl dX9_feed_119
  · refine p_icmp_le_f (tgt := 59) dX9_feed_54 (by decide) rfl c11 ?_
    refine p_iconst (v := (-1 : Int32)) kiconst_m1 dX9_feed_57 rfl ?_
    exact p_iret rfl rfl dX9_feed_58
noncomputable def f9_end (p1 : Int32) (h : qH) : Option (Int32 × qH) :=
  (f9_in p1 (0 : Int32) (h.1 0 2) h).bind fun (z1 : Int32) =>
  if z1 = 0 then (
    some ((0 : Int32), h))
  else (
    qlt (qw h 0 2 p1) fun (h3 : qH) =>
    some ((1 : Int32), h3))
set_option maxRecDepth 100000 in
set_option maxHeartbeats 4000000 in
theorem m9_end (l : Launch) (p1 : Int32) : qMet UM ROM l yX9_end (qws yX9_end cX9_end 2 (some .boolean)) R9_end [.ref 0, .int p1] (f9_end p1) qEw := by
  refine q_met (own := RX9) 0 (by decide) rfl (Nat.le_of_ble_eq_true rfl) (ls := [some (.ref 0), some (.int p1)]) rfl fun h => ?_
  unfold f9_end
  show PW UM ROM l R9_end cX9_end 2 (some .boolean) RX9 (qEw h) 0 [some (.ref 0), some (.int p1)] [] h _
  refine p_iload_n rfl dX9_end_0 rfl ?_
  refine p_iconst (v := (0 : Int32)) kiconst_0 dX9_end_1 rfl ?_
  refine p_aload_n rfl dX9_end_2 rfl ?_
  refine p_geti qg_RX9_73 uM_0 rfl dX9_end_3 rfl ?_
  refine p_callSr (f := f9_in p1 (0 : Int32) (h.1 0 2)) (st := []) [.int p1, .int (0 : Int32), .int (h.1 0 2)] qRokM (m9_in l p1 (0 : Int32) (h.1 0 2)) cal_RX9_76 rfl ⟨rfl, rfl⟩ ⟨Nat.le_of_ble_eq_true rfl, Nat.le_of_ble_eq_true rfl⟩ (Nat.le_of_ble_eq_true rfl) dX9_end_6 rfl (fun z1 => ?_)
  refine p_if (fun c2 => ?_) (fun c2 => ?_)
  · refine p_if_ne_f (tgt := 14) dX9_end_9 (by decide) rfl c2 ?_
    refine p_iconst (v := (0 : Int32)) kiconst_0 dX9_end_12 rfl ?_
    exact p_zret rfl kzr_0 rfl dX9_end_13
  · refine p_if_ne_t (tgt := 14) dX9_end_9 (by decide) c2 ?_
    refine p_aload_n rfl dX9_end_14 rfl ?_
    refine p_iload_n rfl dX9_end_15 rfl ?_
    refine p_puti qokM qp_RX9_73 uM_0 rfl dX9_end_16 rfl ?_
    refine p_nmH (fun h3 => ?_)
    refine p_iconst (v := (1 : Int32)) kiconst_1 dX9_end_19 rfl ?_
    exact p_zret rfl kzr_1 rfl dX9_end_20
noncomputable def f9_here (h : qH) : Option (Int32) :=
  qj (fun (x1 : Int32) =>
    some x1) fun j2 =>
  if (h.1 0 2) ≤ (h.1 0 3) then (
    j2 (-1 : Int32))
  else (
    qg (qin (h.1 0 3) 240) <|
    j2 (h.1 1 (ix (h.1 0 3))))
set_option maxRecDepth 100000 in
set_option maxHeartbeats 4000000 in
theorem m9_here (l : Launch) : qMet UM ROM l yX9_here (qws yX9_here cX9_here 1 (some .int)) R9_here [.ref 0] f9_here qEr := by
  refine q_met (own := RX9) 0 (by decide) rfl (Nat.le_of_ble_eq_true rfl) (ls := [some (.ref 0)]) rfl fun h => ?_
  unfold f9_here
  refine p_aload_n rfl dX9_here_0 rfl ?_
  refine p_geti qg_RX9_80 uM_0 rfl dX9_here_1 rfl ?_
  refine p_aload_n rfl dX9_here_4 rfl ?_
  refine p_geti qg_RX9_73 uM_0 rfl dX9_here_5 rfl ?_
  refine p_jn (fun j2 => ∀ (x1 : Int32), PW UM ROM l R9_here cX9_here 1 (some .int) RX9 (qEr h) 24 [some (.ref 0)] [.int x1] h (j2 x1)) (fun x1 => ?_) (fun j2 J3 => ?_)
  · exact p_iret rfl rfl dX9_here_24
  · refine p_if (fun c4 => ?_) (fun c4 => ?_)
    · refine p_icmp_ge_t (tgt := 23) dX9_here_8 (by decide) c4 ?_
      refine p_iconst (v := (-1 : Int32)) kiconst_m1 dX9_here_23 rfl ?_
      exact J3 (-1 : Int32)
    · refine p_icmp_ge_f (tgt := 23) dX9_here_8 (by decide) rfl c4 ?_
      refine p_aload_n rfl dX9_here_11 rfl ?_
      refine p_getr qg_RX9_9 uM_0 rfl dX9_here_12 rfl ?_
      refine p_aload_n rfl dX9_here_15 rfl ?_
      refine p_geti qg_RX9_80 uM_0 rfl dX9_here_16 rfl ?_
      refine p_iald uM_1 dX9_here_19 rfl (fun _ => ?_)
      refine p_goto (tgt := 24) dX9_here_20 (by decide) ?_
      exact J3 (h.1 1 (ix (h.1 0 3)))
noncomputable def f9_ahead_L0 (k : qH → Option (Int32 × qH)) : Nat → qH → Option (Int32 × qH)
  | 0, _ => none
  | n + 1, h1 =>
    (f9_here h1).bind fun (z2 : Int32) =>
    if z2 = (32 : Int32) then (
      qlt (qw h1 0 3 ((h1.1 0 3) + (1 : Int32))) fun (h4 : qH) =>
      f9_ahead_L0 k n h4)
    else (
      k h1)
set_option maxRecDepth 100000 in
set_option maxHeartbeats 4000000 in
theorem w9_ahead_L0 (l : Launch) (h0 : qH) {k : qH → Option (Int32 × qH)} (hk : ∀ (h1 : qH), PW UM ROM l R9_ahead cX9_ahead 1 (some .int) RX9 (qEw h0) 22 [some (.ref 0)] [] h1 (k h1)) : ∀ (n : Nat) (h1 : qH), PW UM ROM l R9_ahead cX9_ahead 1 (some .int) RX9 (qEw h0) 0 [some (.ref 0)] [] h1 (f9_ahead_L0 k n h1) := by
  intro n
  induction n with
  | zero => intro _; exact p_none
  | succ n ih =>
    intro h1
    unfold f9_ahead_L0
    refine p_aload_n rfl dX9_ahead_0 rfl ?_
    refine p_callVr (f := f9_here) (st := []) [] qRokM (m9_here l) cal_RX9_83 uM_0 rfl rfl ⟨rfl, rfl⟩ ⟨Nat.le_of_ble_eq_true rfl, Nat.le_of_ble_eq_true rfl⟩ (Nat.le_of_ble_eq_true rfl) dX9_ahead_1 rfl (fun z2 => ?_)
    refine p_bipush (v := (32 : Int32)) kbipush_32 dX9_ahead_4 rfl ?_
    refine p_if (fun c3 => ?_) (fun c3 => ?_)
    · refine p_icmp_ne_f (tgt := 22) dX9_ahead_6 (by decide) rfl c3 ?_
      refine p_aload_n rfl dX9_ahead_9 rfl ?_
      refine p_dup rfl dX9_ahead_10 rfl ?_
      refine p_geti qg_RX9_80 uM_0 rfl dX9_ahead_11 rfl ?_
      refine p_iconst (v := (1 : Int32)) kiconst_1 dX9_ahead_14 rfl ?_
      refine p_iadd dX9_ahead_15 rfl ?_
      refine p_puti qokM qp_RX9_80 uM_0 rfl dX9_ahead_16 rfl ?_
      refine p_nmH (fun h4 => ?_)
      refine p_goto (tgt := 0) dX9_ahead_19 (by decide) ?_
      exact ih h4
    · refine p_icmp_ne_t (tgt := 22) dX9_ahead_6 (by decide) c3 ?_
      exact hk h1
noncomputable def f9_ahead (h : qH) : Option (Int32 × qH) :=
  f9_ahead_L0 (fun (h5 : qH) =>
    (f9_here h5).bind fun (z6 : Int32) =>
    some (z6, h5)) qN h
set_option maxRecDepth 100000 in
set_option maxHeartbeats 4000000 in
theorem m9_ahead (l : Launch) : qMet UM ROM l yX9_ahead (qws yX9_ahead cX9_ahead 1 (some .int)) R9_ahead [.ref 0] f9_ahead qEw := by
  refine q_met (own := RX9) 0 (by decide) rfl (Nat.le_of_ble_eq_true rfl) (ls := [some (.ref 0)]) rfl fun h => ?_
  unfold f9_ahead
  show PW UM ROM l R9_ahead cX9_ahead 1 (some .int) RX9 (qEw h) 0 [some (.ref 0)] [] h _
  refine w9_ahead_L0 l h (fun h5 => ?_) qN _
  refine p_aload_n rfl dX9_ahead_22 rfl ?_
  refine p_callVr (f := f9_here) (st := []) [] qRokM (m9_here l) cal_RX9_83 uM_0 rfl rfl ⟨rfl, rfl⟩ ⟨Nat.le_of_ble_eq_true rfl, Nat.le_of_ble_eq_true rfl⟩ (Nat.le_of_ble_eq_true rfl) dX9_ahead_23 rfl (fun z6 => ?_)
  exact p_iret rfl rfl dX9_ahead_26
noncomputable def f9_bad (h : qH) : Option (qH) :=
  qlt (if (h.1 0 4) = (-1 : Int32) then (h.1 0 3) else (h.1 0 4)) fun (x2 : Int32) =>
  qlt (qw h 0 4 x2) fun (h3 : qH) =>
  some h3
set_option maxRecDepth 100000 in
set_option maxHeartbeats 4000000 in
theorem m9_bad (l : Launch) : qMet UM ROM l yX9_bad (qws yX9_bad cX9_bad 1 none) R9_bad [.ref 0] f9_bad qEv := by
  refine q_met (own := RX9) 0 (by decide) rfl (Nat.le_of_ble_eq_true rfl) (ls := [some (.ref 0)]) rfl fun h => ?_
  unfold f9_bad
  show PW UM ROM l R9_bad cX9_bad 1 none RX9 (qEv h) 0 [some (.ref 0)] [] h _
  refine p_aload_n rfl dX9_bad_0 rfl ?_
  refine p_aload_n rfl dX9_bad_1 rfl ?_
  refine p_geti qg_RX9_87 uM_0 rfl dX9_bad_2 rfl ?_
  refine p_iconst (v := (-1 : Int32)) kiconst_m1 dX9_bad_5 rfl ?_
  refine p_vj 20 [some (.ref 0)] [.ref 0] (fun x2 => ?_) (fun J => ?_)
  · refine p_puti qokM qp_RX9_87 uM_0 rfl dX9_bad_20 rfl ?_
    refine p_nmH (fun h3 => ?_)
    exact p_vret rfl rfl dX9_bad_23
  · refine p_dia (fun c1 => ?_) (fun c1 => ?_)
    · refine p_icmp_ne_f (tgt := 16) dX9_bad_6 (by decide) rfl c1 ?_
      refine p_aload_n rfl dX9_bad_9 rfl ?_
      refine p_geti qg_RX9_80 uM_0 rfl dX9_bad_10 rfl ?_
      refine p_goto (tgt := 20) dX9_bad_13 (by decide) ?_
      exact J _
    · refine p_icmp_ne_t (tgt := 16) dX9_bad_6 (by decide) c1 ?_
      refine p_aload_n rfl dX9_bad_16 rfl ?_
      refine p_geti qg_RX9_87 uM_0 rfl dX9_bad_17 rfl ?_
      exact J _
noncomputable def f9_isDigit (p1 : Int32) (h : qH) : Option (Int32) :=
  qlt (if p1 < (48 : Int32) then (0 : Int32) else (if (57 : Int32) < p1 then (0 : Int32) else (1 : Int32))) fun (x3 : Int32) =>
  qg (qbo x3) <|
  some x3
set_option maxRecDepth 100000 in
set_option maxHeartbeats 4000000 in
theorem m9_isDigit (l : Launch) (p1 : Int32) : qMet UM ROM l yX9_isDigit (qws yX9_isDigit cX9_isDigit 1 (some .boolean)) R9_isDigit [.int p1] (f9_isDigit p1) qEr := by
  refine q_met (own := RX9) 0 (by decide) rfl (Nat.le_of_ble_eq_true rfl) (ls := [some (.int p1)]) rfl fun h => ?_
  unfold f9_isDigit
  refine p_iload_n rfl dX9_isDigit_0 rfl ?_
  refine p_bipush (v := (48 : Int32)) kbipush_48 dX9_isDigit_1 rfl ?_
  refine p_vj 17 [some (.int p1)] [] (fun x3 => ?_) (fun J => ?_)
  · exact p_zretG rfl rfl dX9_isDigit_17
  · refine p_dia (fun c1 => ?_) (fun c1 => ?_)
    · refine p_icmp_lt_t (tgt := 16) dX9_isDigit_3 (by decide) c1 ?_
      refine p_iconst (v := (0 : Int32)) kiconst_0 dX9_isDigit_16 rfl ?_
      exact J _
    · refine p_icmp_lt_f (tgt := 16) dX9_isDigit_3 (by decide) rfl c1 ?_
      refine p_iload_n rfl dX9_isDigit_6 rfl ?_
      refine p_bipush (v := (57 : Int32)) kbipush_57 dX9_isDigit_7 rfl ?_
      refine p_dia (fun c2 => ?_) (fun c2 => ?_)
      · refine p_icmp_gt_t (tgt := 16) dX9_isDigit_9 (by decide) c2 ?_
        refine p_iconst (v := (0 : Int32)) kiconst_0 dX9_isDigit_16 rfl ?_
        exact J _
      · refine p_icmp_gt_f (tgt := 16) dX9_isDigit_9 (by decide) rfl c2 ?_
        refine p_iconst (v := (1 : Int32)) kiconst_1 dX9_isDigit_12 rfl ?_
        refine p_goto (tgt := 17) dX9_isDigit_13 (by decide) ?_
        exact J _
noncomputable def f9_number_L29 (p1 : Int32) (p2 : Int32) (k : Int32 → Int32 → qH → Option (Int32 × qH)) : Nat → Int32 → Int32 → qH → Option (Int32 × qH)
  | 0, _, _, _ => none
  | n + 1, x7, x8, h9 =>
    if (2 : Int32) ≤ x8 then (
      k x7 x8 h9)
    else (
      (f9_here h9).bind fun (z11 : Int32) =>
      (f9_isDigit z11 h9).bind fun (z12 : Int32) =>
      if z12 = 0 then (
        k x7 x8 h9)
      else (
        (f9_here h9).bind fun (z14 : Int32) =>
        qlt ((((10 : Int32) * x7) + z14) - (48 : Int32)) fun (x15 : Int32) =>
        qlt (qw h9 0 3 ((h9.1 0 3) + (1 : Int32))) fun (h16 : qH) =>
        qlt (x8 + (1 : Int32)) fun (x17 : Int32) =>
        f9_number_L29 p1 p2 k n x15 x17 h16))
set_option maxRecDepth 100000 in
set_option maxHeartbeats 4000000 in
theorem w9_number_L29 (l : Launch) (h0 : qH) (p1 : Int32) (p2 : Int32) {k : Int32 → Int32 → qH → Option (Int32 × qH)} (hk : ∀ (x7 : Int32) (x8 : Int32) (h9 : qH), PW UM ROM l R9_number cX9_number 5 (some .int) RX9 (qEw h0) 74 [some (.ref 0), some (.int p1), some (.int p2), some (.int x7), some (.int x8)] [] h9 (k x7 x8 h9)) : ∀ (n : Nat) (x7 : Int32) (x8 : Int32) (h9 : qH), PW UM ROM l R9_number cX9_number 5 (some .int) RX9 (qEw h0) 29 [some (.ref 0), some (.int p1), some (.int p2), some (.int x7), some (.int x8)] [] h9 (f9_number_L29 p1 p2 k n x7 x8 h9) := by
  intro n
  induction n with
  | zero => intro _ _ _; exact p_none
  | succ n ih =>
    intro x7 x8 h9
    unfold f9_number_L29
    refine p_iload rfl dX9_number_29 rfl ?_
    refine p_iconst (v := (2 : Int32)) kiconst_2 dX9_number_31 rfl ?_
    refine p_if (fun c10 => ?_) (fun c10 => ?_)
    · refine p_icmp_ge_t (tgt := 74) dX9_number_32 (by decide) c10 ?_
      exact hk x7 x8 h9
    · refine p_icmp_ge_f (tgt := 74) dX9_number_32 (by decide) rfl c10 ?_
      refine p_aload_n rfl dX9_number_35 rfl ?_
      refine p_callVr (f := f9_here) (st := []) [] qRokM (m9_here l) cal_RX9_83 uM_0 rfl rfl ⟨rfl, rfl⟩ ⟨Nat.le_of_ble_eq_true rfl, Nat.le_of_ble_eq_true rfl⟩ (Nat.le_of_ble_eq_true rfl) dX9_number_36 rfl (fun z11 => ?_)
      refine p_callSr (f := f9_isDigit z11) (st := []) [.int z11] qRokM (m9_isDigit l z11) cal_RX9_93 rfl ⟨rfl, rfl⟩ ⟨Nat.le_of_ble_eq_true rfl, Nat.le_of_ble_eq_true rfl⟩ (Nat.le_of_ble_eq_true rfl) dX9_number_39 rfl (fun z12 => ?_)
      refine p_if (fun c13 => ?_) (fun c13 => ?_)
      · refine p_if_eq_t (tgt := 74) dX9_number_42 (by decide) c13 ?_
        exact hk x7 x8 h9
      · refine p_if_eq_f (tgt := 74) dX9_number_42 (by decide) rfl c13 ?_
        refine p_bipush (v := (10 : Int32)) kbipush_10 dX9_number_45 rfl ?_
        refine p_iload_n rfl dX9_number_47 rfl ?_
        refine p_imul dX9_number_48 rfl ?_
        refine p_aload_n rfl dX9_number_49 rfl ?_
        refine p_callVr (f := f9_here) (st := [.int ((10 : Int32) * x7)]) [] qRokM (m9_here l) cal_RX9_83 uM_0 rfl rfl ⟨rfl, rfl⟩ ⟨Nat.le_of_ble_eq_true rfl, Nat.le_of_ble_eq_true rfl⟩ (Nat.le_of_ble_eq_true rfl) dX9_number_50 rfl (fun z14 => ?_)
        refine p_iadd dX9_number_53 rfl ?_
        refine p_bipush (v := (48 : Int32)) kbipush_48 dX9_number_54 rfl ?_
        refine p_isub dX9_number_56 rfl ?_
        refine p_isN_n (lf := fun x15 => [some (.ref 0), some (.int p1), some (.int p2), some (.int x15), some (.int x8)]) dX9_number_57 rfl rfl rfl (fun _ => rfl) (fun x15 => ?_)
        refine p_aload_n rfl dX9_number_58 rfl ?_
        refine p_dup rfl dX9_number_59 rfl ?_
        refine p_geti qg_RX9_80 uM_0 rfl dX9_number_60 rfl ?_
        refine p_iconst (v := (1 : Int32)) kiconst_1 dX9_number_63 rfl ?_
        refine p_iadd dX9_number_64 rfl ?_
        refine p_puti qokM qp_RX9_80 uM_0 rfl dX9_number_65 rfl ?_
        refine p_nmH (fun h16 => ?_)
        refine p_iiN (v := (1 : Int32)) (lf := fun x17 => [some (.ref 0), some (.int p1), some (.int p2), some (.int x15), some (.int x17)]) kiconst_1 dX9_number_68 rfl rfl rfl rfl (fun _ => rfl) (fun x17 => ?_)
        refine p_goto (tgt := 29) dX9_number_71 (by decide) ?_
        exact ih x15 x17 h16
noncomputable def f9_number (p1 : Int32) (p2 : Int32) (h : qH) : Option (Int32 × qH) :=
  if (h.1 0 4) = (-1 : Int32) then (
    qb2 (f9_ahead h) fun (z2 : Int32) (h3 : qH) =>
    (f9_isDigit z2 h3).bind fun (z4 : Int32) =>
    if z4 = 0 then (
      (f9_bad h3).bind fun (h6 : qH) =>
      some (p1, h6))
    else (
      f9_number_L29 p1 p2 (fun (x18 : Int32) (x19 : Int32) (h20 : qH) =>
        (f9_here h20).bind fun (z21 : Int32) =>
        (f9_isDigit z21 h20).bind fun (z22 : Int32) =>
        qj (fun (h23 : qH) =>
          some (x18, h23)) fun j24 =>
        if z22 = 0 then (
          (f9_in x18 p1 p2 h20).bind fun (z27 : Int32) =>
          if z27 = 0 then (
            qlt (qw h20 0 3 ((h20.1 0 3) - (1 : Int32))) fun (h29 : qH) =>
            (f9_bad h29).bind fun (h30 : qH) =>
            j24 h30)
          else (
            j24 h20))
        else (
          (f9_bad h20).bind fun (h31 : qH) =>
          j24 h31)) qN (0 : Int32) (0 : Int32) h3))
  else (
    (f9_bad h).bind fun (h32 : qH) =>
    some (p1, h32))
set_option maxRecDepth 100000 in
set_option maxHeartbeats 4000000 in
theorem m9_number (l : Launch) (p1 : Int32) (p2 : Int32) : qMet UM ROM l yX9_number (qws yX9_number cX9_number 5 (some .int)) R9_number [.ref 0, .int p1, .int p2] (f9_number p1 p2) qEw := by
  refine q_met (own := RX9) 2 (by decide) rfl (Nat.le_of_ble_eq_true rfl) (ls := [some (.ref 0), some (.int p1), some (.int p2), none, none]) rfl fun h => ?_
  unfold f9_number
  show PW UM ROM l R9_number cX9_number 5 (some .int) RX9 (qEw h) 0 [some (.ref 0), some (.int p1), some (.int p2), none, none] [] h _
  refine p_aload_n rfl dX9_number_0 rfl ?_
  refine p_geti qg_RX9_87 uM_0 rfl dX9_number_1 rfl ?_
  refine p_iconst (v := (-1 : Int32)) kiconst_m1 dX9_number_4 rfl ?_
  refine p_if (fun c1 => ?_) (fun c1 => ?_)
  · refine p_icmp_ne_f (tgt := 18) dX9_number_5 (by decide) rfl c1 ?_
    refine p_aload_n rfl dX9_number_8 rfl ?_
    refine p_cVw (f := f9_ahead) (st := []) [] qRokM (m9_ahead l) cal_RX9_90 uM_0 rfl rfl ⟨rfl, rfl⟩ ⟨Nat.le_of_ble_eq_true rfl, Nat.le_of_ble_eq_true rfl⟩ (Nat.le_of_ble_eq_true rfl) dX9_number_9 rfl (fun z2 h3 => ?_)
    refine p_callSr (f := f9_isDigit z2) (st := []) [.int z2] qRokM (m9_isDigit l z2) cal_RX9_93 rfl ⟨rfl, rfl⟩ ⟨Nat.le_of_ble_eq_true rfl, Nat.le_of_ble_eq_true rfl⟩ (Nat.le_of_ble_eq_true rfl) dX9_number_12 rfl (fun z4 => ?_)
    refine p_if (fun c5 => ?_) (fun c5 => ?_)
    · refine p_if_ne_f (tgt := 24) dX9_number_15 (by decide) rfl c5 ?_
      refine p_aload_n rfl dX9_number_18 rfl ?_
      refine p_callVv (f := f9_bad) (st := []) [] qRokM (m9_bad l) cal_RX9_97 uM_0 rfl rfl ⟨rfl, rfl⟩ ⟨Nat.le_of_ble_eq_true rfl, Nat.le_of_ble_eq_true rfl⟩ (Nat.le_of_ble_eq_true rfl) dX9_number_19 rfl (fun h6 => ?_)
      refine p_iload_n rfl dX9_number_22 rfl ?_
      exact p_iret rfl rfl dX9_number_23
    · refine p_if_ne_t (tgt := 24) dX9_number_15 (by decide) c5 ?_
      refine p_iconst (v := (0 : Int32)) kiconst_0 dX9_number_24 rfl ?_
      refine p_is_n (ls' := [some (.ref 0), some (.int p1), some (.int p2), some (.int (0 : Int32)), none]) dX9_number_25 rfl rfl rfl rfl ?_
      refine p_iconst (v := (0 : Int32)) kiconst_0 dX9_number_26 rfl ?_
      refine p_is (ls' := [some (.ref 0), some (.int p1), some (.int p2), some (.int (0 : Int32)), some (.int (0 : Int32))]) dX9_number_27 rfl rfl rfl rfl ?_
      refine w9_number_L29 l h p1 p2 (fun x18 x19 h20 => ?_) qN _ _ _
      refine p_aload_n rfl dX9_number_74 rfl ?_
      refine p_callVr (f := f9_here) (st := []) [] qRokM (m9_here l) cal_RX9_83 uM_0 rfl rfl ⟨rfl, rfl⟩ ⟨Nat.le_of_ble_eq_true rfl, Nat.le_of_ble_eq_true rfl⟩ (Nat.le_of_ble_eq_true rfl) dX9_number_75 rfl (fun z21 => ?_)
      refine p_callSr (f := f9_isDigit z21) (st := []) [.int z21] qRokM (m9_isDigit l z21) cal_RX9_93 rfl ⟨rfl, rfl⟩ ⟨Nat.le_of_ble_eq_true rfl, Nat.le_of_ble_eq_true rfl⟩ (Nat.le_of_ble_eq_true rfl) dX9_number_78 rfl (fun z22 => ?_)
      refine p_jn (fun j24 => ∀ (h23 : qH), PW UM ROM l R9_number cX9_number 5 (some .int) RX9 (qEw h) 114 [some (.ref 0), some (.int p1), some (.int p2), some (.int x18), some (.int x19)] [] h23 (j24 h23)) (fun h23 => ?_) (fun j24 J25 => ?_)
      · refine p_iload_n rfl dX9_number_114 rfl ?_
        exact p_iret rfl rfl dX9_number_115
      · refine p_if (fun c26 => ?_) (fun c26 => ?_)
        · refine p_if_eq_t (tgt := 91) dX9_number_81 (by decide) c26 ?_
          refine p_iload_n rfl dX9_number_91 rfl ?_
          refine p_iload_n rfl dX9_number_92 rfl ?_
          refine p_iload_n rfl dX9_number_93 rfl ?_
          refine p_callSr (f := f9_in x18 p1 p2) (st := []) [.int x18, .int p1, .int p2] qRokM (m9_in l x18 p1 p2) cal_RX9_76 rfl ⟨rfl, rfl⟩ ⟨Nat.le_of_ble_eq_true rfl, Nat.le_of_ble_eq_true rfl⟩ (Nat.le_of_ble_eq_true rfl) dX9_number_94 rfl (fun z27 => ?_)
          refine p_if (fun c28 => ?_) (fun c28 => ?_)
          · refine p_if_ne_f (tgt := 114) dX9_number_97 (by decide) rfl c28 ?_
            refine p_aload_n rfl dX9_number_100 rfl ?_
            refine p_dup rfl dX9_number_101 rfl ?_
            refine p_geti qg_RX9_80 uM_0 rfl dX9_number_102 rfl ?_
            refine p_iconst (v := (1 : Int32)) kiconst_1 dX9_number_105 rfl ?_
            refine p_isub dX9_number_106 rfl ?_
            refine p_puti qokM qp_RX9_80 uM_0 rfl dX9_number_107 rfl ?_
            refine p_nmH (fun h29 => ?_)
            refine p_aload_n rfl dX9_number_110 rfl ?_
            refine p_callVv (f := f9_bad) (st := []) [] qRokM (m9_bad l) cal_RX9_97 uM_0 rfl rfl ⟨rfl, rfl⟩ ⟨Nat.le_of_ble_eq_true rfl, Nat.le_of_ble_eq_true rfl⟩ (Nat.le_of_ble_eq_true rfl) dX9_number_111 rfl (fun h30 => ?_)
            exact J25 h30
          · refine p_if_ne_t (tgt := 114) dX9_number_97 (by decide) c28 ?_
            exact J25 h20
        · refine p_if_eq_f (tgt := 91) dX9_number_81 (by decide) rfl c26 ?_
          refine p_aload_n rfl dX9_number_84 rfl ?_
          refine p_callVv (f := f9_bad) (st := []) [] qRokM (m9_bad l) cal_RX9_97 uM_0 rfl rfl ⟨rfl, rfl⟩ ⟨Nat.le_of_ble_eq_true rfl, Nat.le_of_ble_eq_true rfl⟩ (Nat.le_of_ble_eq_true rfl) dX9_number_85 rfl (fun h31 => ?_)
          refine p_goto (tgt := 114) dX9_number_88 (by decide) ?_
          exact J25 h31
  · refine p_icmp_ne_t (tgt := 18) dX9_number_5 (by decide) c1 ?_
    refine p_aload_n rfl dX9_number_18 rfl ?_
    refine p_callVv (f := f9_bad) (st := []) [] qRokM (m9_bad l) cal_RX9_97 uM_0 rfl rfl ⟨rfl, rfl⟩ ⟨Nat.le_of_ble_eq_true rfl, Nat.le_of_ble_eq_true rfl⟩ (Nat.le_of_ble_eq_true rfl) dX9_number_19 rfl (fun h32 => ?_)
    refine p_iload_n rfl dX9_number_22 rfl ?_
    exact p_iret rfl rfl dX9_number_23
noncomputable def f9_ruleOf (p1 : Int32) (h : qH) : Option (Int32) :=
  if p1 = (97 : Int32) then (
    some (5 : Int32))
  else (
    if p1 = (100 : Int32) then (
    some (1 : Int32))
  else (
    if p1 = (103 : Int32) then (
    some (6 : Int32))
  else (
    if p1 = (105 : Int32) then (
    some (7 : Int32))
  else (
    if p1 = (108 : Int32) then (
    some (2 : Int32))
  else (
    if p1 = (109 : Int32) then (
    some (4 : Int32))
  else (
    if p1 = (110 : Int32) then (
    some (0 : Int32))
  else (
    if p1 = (119 : Int32) then (
    some (3 : Int32))
  else (
    some (-1 : Int32)))))))))
set_option maxRecDepth 100000 in
set_option maxHeartbeats 4000000 in
theorem m9_ruleOf (l : Launch) (p1 : Int32) : qMet UM ROM l yX9_ruleOf (qws yX9_ruleOf cX9_ruleOf 1 (some .int)) R9_ruleOf [.int p1] (f9_ruleOf p1) qEr := by
  refine q_met (own := RX9) 0 (by decide) rfl (Nat.le_of_ble_eq_true rfl) (ls := [some (.int p1)]) rfl fun h => ?_
  unfold f9_ruleOf
  refine p_iload_n rfl dX9_ruleOf_0 rfl ?_
  refine p_if (fun c1 => ?_) (fun c1 => ?_)
  · refine p_swI (v := (97 : Int32)) (tgt := 118) dX9_ruleOf_1 c1 (by decide) (by decide) rfl (by decide) ?_
    refine p_iconst (v := (5 : Int32)) kiconst_5 dX9_ruleOf_118 rfl ?_
    exact p_iret rfl rfl dX9_ruleOf_119
  · refine p_if (fun c2 => ?_) (fun c2 => ?_)
    · refine p_swI (v := (100 : Int32)) (tgt := 110) dX9_ruleOf_1 c2 (by decide) (by decide) rfl (by decide) ?_
      refine p_iconst (v := (1 : Int32)) kiconst_1 dX9_ruleOf_110 rfl ?_
      exact p_iret rfl rfl dX9_ruleOf_111
    · refine p_if (fun c3 => ?_) (fun c3 => ?_)
      · refine p_swI (v := (103 : Int32)) (tgt := 120) dX9_ruleOf_1 c3 (by decide) (by decide) rfl (by decide) ?_
        refine p_bipush (v := (6 : Int32)) kbipush_6 dX9_ruleOf_120 rfl ?_
        exact p_iret rfl rfl dX9_ruleOf_122
      · refine p_if (fun c4 => ?_) (fun c4 => ?_)
        · refine p_swI (v := (105 : Int32)) (tgt := 123) dX9_ruleOf_1 c4 (by decide) (by decide) rfl (by decide) ?_
          refine p_bipush (v := (7 : Int32)) kbipush_7 dX9_ruleOf_123 rfl ?_
          exact p_iret rfl rfl dX9_ruleOf_125
        · refine p_if (fun c5 => ?_) (fun c5 => ?_)
          · refine p_swI (v := (108 : Int32)) (tgt := 112) dX9_ruleOf_1 c5 (by decide) (by decide) rfl (by decide) ?_
            refine p_iconst (v := (2 : Int32)) kiconst_2 dX9_ruleOf_112 rfl ?_
            exact p_iret rfl rfl dX9_ruleOf_113
          · refine p_if (fun c6 => ?_) (fun c6 => ?_)
            · refine p_swI (v := (109 : Int32)) (tgt := 116) dX9_ruleOf_1 c6 (by decide) (by decide) rfl (by decide) ?_
              refine p_iconst (v := (4 : Int32)) kiconst_4 dX9_ruleOf_116 rfl ?_
              exact p_iret rfl rfl dX9_ruleOf_117
            · refine p_if (fun c7 => ?_) (fun c7 => ?_)
              · refine p_swI (v := (110 : Int32)) (tgt := 108) dX9_ruleOf_1 c7 (by decide) (by decide) rfl (by decide) ?_
                refine p_iconst (v := (0 : Int32)) kiconst_0 dX9_ruleOf_108 rfl ?_
                exact p_iret rfl rfl dX9_ruleOf_109
              · refine p_if (fun c8 => ?_) (fun c8 => ?_)
                · refine p_swI (v := (119 : Int32)) (tgt := 114) dX9_ruleOf_1 c8 (by decide) (by decide) rfl (by decide) ?_
                  refine p_iconst (v := (3 : Int32)) kiconst_3 dX9_ruleOf_114 rfl ?_
                  exact p_iret rfl rfl dX9_ruleOf_115
                · refine p_sv (pcJ := 126) (stJ := []) ?_ (fun D9 => ?_)
                  · refine p_iconst (v := (-1 : Int32)) kiconst_m1 dX9_ruleOf_126 rfl ?_
                    exact p_iret rfl rfl dX9_ruleOf_127
                  · by_cases e10 : p1 = (98 : Int32)
                    · exact p_swI (v := (98 : Int32)) (tgt := 126) dX9_ruleOf_1 e10 (by decide) (by decide) rfl (by decide) D9
                    by_cases e11 : p1 = (99 : Int32)
                    · exact p_swI (v := (99 : Int32)) (tgt := 126) dX9_ruleOf_1 e11 (by decide) (by decide) rfl (by decide) D9
                    by_cases e12 : p1 = (101 : Int32)
                    · exact p_swI (v := (101 : Int32)) (tgt := 126) dX9_ruleOf_1 e12 (by decide) (by decide) rfl (by decide) D9
                    by_cases e13 : p1 = (102 : Int32)
                    · exact p_swI (v := (102 : Int32)) (tgt := 126) dX9_ruleOf_1 e13 (by decide) (by decide) rfl (by decide) D9
                    by_cases e14 : p1 = (104 : Int32)
                    · exact p_swI (v := (104 : Int32)) (tgt := 126) dX9_ruleOf_1 e14 (by decide) (by decide) rfl (by decide) D9
                    by_cases e15 : p1 = (106 : Int32)
                    · exact p_swI (v := (106 : Int32)) (tgt := 126) dX9_ruleOf_1 e15 (by decide) (by decide) rfl (by decide) D9
                    by_cases e16 : p1 = (107 : Int32)
                    · exact p_swI (v := (107 : Int32)) (tgt := 126) dX9_ruleOf_1 e16 (by decide) (by decide) rfl (by decide) D9
                    by_cases e17 : p1 = (111 : Int32)
                    · exact p_swI (v := (111 : Int32)) (tgt := 126) dX9_ruleOf_1 e17 (by decide) (by decide) rfl (by decide) D9
                    by_cases e18 : p1 = (112 : Int32)
                    · exact p_swI (v := (112 : Int32)) (tgt := 126) dX9_ruleOf_1 e18 (by decide) (by decide) rfl (by decide) D9
                    by_cases e19 : p1 = (113 : Int32)
                    · exact p_swI (v := (113 : Int32)) (tgt := 126) dX9_ruleOf_1 e19 (by decide) (by decide) rfl (by decide) D9
                    by_cases e20 : p1 = (114 : Int32)
                    · exact p_swI (v := (114 : Int32)) (tgt := 126) dX9_ruleOf_1 e20 (by decide) (by decide) rfl (by decide) D9
                    by_cases e21 : p1 = (115 : Int32)
                    · exact p_swI (v := (115 : Int32)) (tgt := 126) dX9_ruleOf_1 e21 (by decide) (by decide) rfl (by decide) D9
                    by_cases e22 : p1 = (116 : Int32)
                    · exact p_swI (v := (116 : Int32)) (tgt := 126) dX9_ruleOf_1 e22 (by decide) (by decide) rfl (by decide) D9
                    by_cases e23 : p1 = (117 : Int32)
                    · exact p_swI (v := (117 : Int32)) (tgt := 126) dX9_ruleOf_1 e23 (by decide) (by decide) rfl (by decide) D9
                    by_cases e24 : p1 = (118 : Int32)
                    · exact p_swI (v := (118 : Int32)) (tgt := 126) dX9_ruleOf_1 e24 (by decide) (by decide) rfl (by decide) D9
                    exact p_swO (tgt := 126) dX9_ruleOf_1 (by
                        have c1' := lv_neT c1 (a := 97) (by decide)
                        have c2' := lv_neT c2 (a := 100) (by decide)
                        have c3' := lv_neT c3 (a := 103) (by decide)
                        have c4' := lv_neT c4 (a := 105) (by decide)
                        have c5' := lv_neT c5 (a := 108) (by decide)
                        have c6' := lv_neT c6 (a := 109) (by decide)
                        have c7' := lv_neT c7 (a := 110) (by decide)
                        have c8' := lv_neT c8 (a := 119) (by decide)
                        have e10' := lv_neT e10 (a := 98) (by decide)
                        have e11' := lv_neT e11 (a := 99) (by decide)
                        have e12' := lv_neT e12 (a := 101) (by decide)
                        have e13' := lv_neT e13 (a := 102) (by decide)
                        have e14' := lv_neT e14 (a := 104) (by decide)
                        have e15' := lv_neT e15 (a := 106) (by decide)
                        have e16' := lv_neT e16 (a := 107) (by decide)
                        have e17' := lv_neT e17 (a := 111) (by decide)
                        have e18' := lv_neT e18 (a := 112) (by decide)
                        have e19' := lv_neT e19 (a := 113) (by decide)
                        have e20' := lv_neT e20 (a := 114) (by decide)
                        have e21' := lv_neT e21 (a := 115) (by decide)
                        have e22' := lv_neT e22 (a := 116) (by decide)
                        have e23' := lv_neT e23 (a := 117) (by decide)
                        have e24' := lv_neT e24 (a := 118) (by decide)
                        omega) (by decide) D9
noncomputable def f9_itemOf (p1 : Int32) (p2 : Int32) (h : qH) : Option (Int32) :=
  if p1 = (115 : Int32) then (
    (f9_ruleOf p2 h).bind fun (z2 : Int32) =>
    some z2)
  else (
    if p1 = (116 : Int32) then (
      qlt (if p2 = (107 : Int32) then (0 : Int32) else (if p2 = (117 : Int32) then (1 : Int32) else (-1 : Int32))) fun (x6 : Int32) =>
      some x6)
    else (
      qlt (if p2 = (116 : Int32) then (0 : Int32) else (if p2 = (98 : Int32) then (1 : Int32) else (-1 : Int32))) fun (x9 : Int32) =>
      some x9))
set_option maxRecDepth 100000 in
set_option maxHeartbeats 4000000 in
theorem m9_itemOf (l : Launch) (p1 : Int32) (p2 : Int32) : qMet UM ROM l yX9_itemOf (qws yX9_itemOf cX9_itemOf 2 (some .int)) R9_itemOf [.int p1, .int p2] (f9_itemOf p1 p2) qEr := by
  refine q_met (own := RX9) 0 (by decide) rfl (Nat.le_of_ble_eq_true rfl) (ls := [some (.int p1), some (.int p2)]) rfl fun h => ?_
  unfold f9_itemOf
  refine p_iload_n rfl dX9_itemOf_0 rfl ?_
  refine p_bipush (v := (115 : Int32)) kbipush_115 dX9_itemOf_1 rfl ?_
  refine p_if (fun c1 => ?_) (fun c1 => ?_)
  · refine p_icmp_ne_f (tgt := 11) dX9_itemOf_3 (by decide) rfl c1 ?_
    refine p_iload_n rfl dX9_itemOf_6 rfl ?_
    refine p_callSr (f := f9_ruleOf p2) (st := []) [.int p2] qRokM (m9_ruleOf l p2) cal_RX9_100 rfl ⟨rfl, rfl⟩ ⟨Nat.le_of_ble_eq_true rfl, Nat.le_of_ble_eq_true rfl⟩ (Nat.le_of_ble_eq_true rfl) dX9_itemOf_7 rfl (fun z2 => ?_)
    exact p_iret rfl rfl dX9_itemOf_10
  · refine p_icmp_ne_t (tgt := 11) dX9_itemOf_3 (by decide) c1 ?_
    refine p_iload_n rfl dX9_itemOf_11 rfl ?_
    refine p_bipush (v := (116 : Int32)) kbipush_116 dX9_itemOf_12 rfl ?_
    refine p_if (fun c3 => ?_) (fun c3 => ?_)
    · refine p_icmp_ne_f (tgt := 39) dX9_itemOf_14 (by decide) rfl c3 ?_
      refine p_iload_n rfl dX9_itemOf_17 rfl ?_
      refine p_bipush (v := (107 : Int32)) kbipush_107 dX9_itemOf_18 rfl ?_
      refine p_vj 38 [some (.int p1), some (.int p2)] [] (fun x6 => ?_) (fun J => ?_)
      · exact p_iret rfl rfl dX9_itemOf_38
      · refine p_dia (fun c4 => ?_) (fun c4 => ?_)
        · refine p_icmp_ne_f (tgt := 27) dX9_itemOf_20 (by decide) rfl c4 ?_
          refine p_iconst (v := (0 : Int32)) kiconst_0 dX9_itemOf_23 rfl ?_
          refine p_goto (tgt := 38) dX9_itemOf_24 (by decide) ?_
          exact J _
        · refine p_icmp_ne_t (tgt := 27) dX9_itemOf_20 (by decide) c4 ?_
          refine p_iload_n rfl dX9_itemOf_27 rfl ?_
          refine p_bipush (v := (117 : Int32)) kbipush_117 dX9_itemOf_28 rfl ?_
          refine p_dia (fun c5 => ?_) (fun c5 => ?_)
          · refine p_icmp_ne_f (tgt := 37) dX9_itemOf_30 (by decide) rfl c5 ?_
            refine p_iconst (v := (1 : Int32)) kiconst_1 dX9_itemOf_33 rfl ?_
            refine p_goto (tgt := 38) dX9_itemOf_34 (by decide) ?_
            exact J _
          · refine p_icmp_ne_t (tgt := 37) dX9_itemOf_30 (by decide) c5 ?_
            refine p_iconst (v := (-1 : Int32)) kiconst_m1 dX9_itemOf_37 rfl ?_
            exact J _
    · refine p_icmp_ne_t (tgt := 39) dX9_itemOf_14 (by decide) c3 ?_
      refine p_iload_n rfl dX9_itemOf_39 rfl ?_
      refine p_bipush (v := (116 : Int32)) kbipush_116 dX9_itemOf_40 rfl ?_
      refine p_vj 60 [some (.int p1), some (.int p2)] [] (fun x9 => ?_) (fun J => ?_)
      · exact p_iret rfl rfl dX9_itemOf_60
      · refine p_dia (fun c7 => ?_) (fun c7 => ?_)
        · refine p_icmp_ne_f (tgt := 49) dX9_itemOf_42 (by decide) rfl c7 ?_
          refine p_iconst (v := (0 : Int32)) kiconst_0 dX9_itemOf_45 rfl ?_
          refine p_goto (tgt := 60) dX9_itemOf_46 (by decide) ?_
          exact J _
        · refine p_icmp_ne_t (tgt := 49) dX9_itemOf_42 (by decide) c7 ?_
          refine p_iload_n rfl dX9_itemOf_49 rfl ?_
          refine p_bipush (v := (98 : Int32)) kbipush_98 dX9_itemOf_50 rfl ?_
          refine p_dia (fun c8 => ?_) (fun c8 => ?_)
          · refine p_icmp_ne_f (tgt := 59) dX9_itemOf_52 (by decide) rfl c8 ?_
            refine p_iconst (v := (1 : Int32)) kiconst_1 dX9_itemOf_55 rfl ?_
            refine p_goto (tgt := 60) dX9_itemOf_56 (by decide) ?_
            exact J _
          · refine p_icmp_ne_t (tgt := 59) dX9_itemOf_52 (by decide) c8 ?_
            refine p_iconst (v := (-1 : Int32)) kiconst_m1 dX9_itemOf_59 rfl ?_
            exact J _
noncomputable def f9_lowest (p1 : Int32) (p2 : Int32) (h : qH) : Option (Int32) :=
  if p1 = (115 : Int32) then (
    qlt (if p2 = 0 then (4 : Int32) else (if p2 = (2 : Int32) then (4 : Int32) else (1 : Int32))) fun (x4 : Int32) =>
    some x4)
  else (
    qlt (if p1 = (102 : Int32) then p2 else (0 : Int32)) fun (x6 : Int32) =>
    some x6)
set_option maxRecDepth 100000 in
set_option maxHeartbeats 4000000 in
theorem m9_lowest (l : Launch) (p1 : Int32) (p2 : Int32) : qMet UM ROM l yX9_lowest (qws yX9_lowest cX9_lowest 2 (some .int)) R9_lowest [.int p1, .int p2] (f9_lowest p1 p2) qEr := by
  refine q_met (own := RX9) 0 (by decide) rfl (Nat.le_of_ble_eq_true rfl) (ls := [some (.int p1), some (.int p2)]) rfl fun h => ?_
  unfold f9_lowest
  refine p_iload_n rfl dX9_lowest_0 rfl ?_
  refine p_bipush (v := (115 : Int32)) kbipush_115 dX9_lowest_1 rfl ?_
  refine p_if (fun c1 => ?_) (fun c1 => ?_)
  · refine p_icmp_ne_f (tgt := 21) dX9_lowest_3 (by decide) rfl c1 ?_
    refine p_iload_n rfl dX9_lowest_6 rfl ?_
    refine p_vj 20 [some (.int p1), some (.int p2)] [] (fun x4 => ?_) (fun J => ?_)
    · exact p_iret rfl rfl dX9_lowest_20
    · refine p_dia (fun c2 => ?_) (fun c2 => ?_)
      · refine p_if_eq_t (tgt := 15) dX9_lowest_7 (by decide) c2 ?_
        refine p_iconst (v := (4 : Int32)) kiconst_4 dX9_lowest_15 rfl ?_
        refine p_goto (tgt := 20) dX9_lowest_16 (by decide) ?_
        exact J _
      · refine p_if_eq_f (tgt := 15) dX9_lowest_7 (by decide) rfl c2 ?_
        refine p_iload_n rfl dX9_lowest_10 rfl ?_
        refine p_iconst (v := (2 : Int32)) kiconst_2 dX9_lowest_11 rfl ?_
        refine p_dia (fun c3 => ?_) (fun c3 => ?_)
        · refine p_icmp_ne_f (tgt := 19) dX9_lowest_12 (by decide) rfl c3 ?_
          refine p_iconst (v := (4 : Int32)) kiconst_4 dX9_lowest_15 rfl ?_
          refine p_goto (tgt := 20) dX9_lowest_16 (by decide) ?_
          exact J _
        · refine p_icmp_ne_t (tgt := 19) dX9_lowest_12 (by decide) c3 ?_
          refine p_iconst (v := (1 : Int32)) kiconst_1 dX9_lowest_19 rfl ?_
          exact J _
  · refine p_icmp_ne_t (tgt := 21) dX9_lowest_3 (by decide) c1 ?_
    refine p_iload_n rfl dX9_lowest_21 rfl ?_
    refine p_bipush (v := (102 : Int32)) kbipush_102 dX9_lowest_22 rfl ?_
    refine p_vj 32 [some (.int p1), some (.int p2)] [] (fun x6 => ?_) (fun J => ?_)
    · exact p_iret rfl rfl dX9_lowest_32
    · refine p_dia (fun c5 => ?_) (fun c5 => ?_)
      · refine p_icmp_ne_f (tgt := 31) dX9_lowest_24 (by decide) rfl c5 ?_
        refine p_iload_n rfl dX9_lowest_27 rfl ?_
        refine p_goto (tgt := 32) dX9_lowest_28 (by decide) ?_
        exact J _
      · refine p_icmp_ne_t (tgt := 31) dX9_lowest_24 (by decide) c5 ?_
        refine p_iconst (v := (0 : Int32)) kiconst_0 dX9_lowest_31 rfl ?_
        exact J _
