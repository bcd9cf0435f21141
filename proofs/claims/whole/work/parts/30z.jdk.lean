noncomputable def f0_isLatin1_aae02 (p0 : Nat) (h : qH) : Option (Int32) :=
  qlt (if (1 : Int32) = 0 then (0 : Int32) else (if (0 : Int32) = 0 then (1 : Int32) else (0 : Int32))) fun (x3 : Int32) =>
  qg (qbo x3) <|
  some x3
set_option maxRecDepth 100000 in
set_option maxHeartbeats 4000000 in
theorem m0_isLatin1_aae02 (l : Launch) {p0 : Nat} (hp0 : kStr p0) : qMet UX ROX l yJ0_isLatin1_aae02 (qws yJ0_isLatin1_aae02 cJ0_isLatin1_aae02 1 (some .boolean)) R0_isLatin1_aae02 [.ref p0] (f0_isLatin1_aae02 p0) qEr := by
  refine q_met (own := RJ0) 0 (by decide) rfl (Nat.le_of_ble_eq_true rfl) (ls := [some (.ref p0)]) rfl fun h => ?_
  unfold f0_isLatin1_aae02
  refine p_cmpct sf_RJ0_38 dJ0_isLatin1_aae02_0 rfl ?_
  refine p_vj 18 [some (.ref p0)] [] (fun x3 => ?_) (fun J => ?_)
  · exact p_zretG rfl rfl dJ0_isLatin1_aae02_18
  · refine p_dia (fun c1 => ?_) (fun c1 => ?_)
    · refine p_if_eq_t (tgt := 17) dJ0_isLatin1_aae02_3 (by decide) c1 ?_
      refine p_iconst (v := (0 : Int32)) kiconst_0 dJ0_isLatin1_aae02_17 rfl ?_
      exact J _
    · refine p_if_eq_f (tgt := 17) dJ0_isLatin1_aae02_3 (by decide) rfl c1 ?_
      refine p_aload_n rfl dJ0_isLatin1_aae02_6 rfl ?_
      refine p_strC hp0 sf_RJ0_15 dJ0_isLatin1_aae02_7 rfl ?_
      refine p_dia (fun c2 => ?_) (fun c2 => ?_)
      · refine p_if_ne_f (tgt := 17) dJ0_isLatin1_aae02_10 (by decide) rfl c2 ?_
        refine p_iconst (v := (1 : Int32)) kiconst_1 dJ0_isLatin1_aae02_13 rfl ?_
        refine p_goto (tgt := 18) dJ0_isLatin1_aae02_14 (by decide) ?_
        exact J _
      · refine p_if_ne_t (tgt := 17) dJ0_isLatin1_aae02_10 (by decide) c2 ?_
        refine p_iconst (v := (0 : Int32)) kiconst_0 dJ0_isLatin1_aae02_17 rfl ?_
        exact J _
noncomputable def f0_coder_7d493 (p0 : Nat) (h : qH) : Option (Int32) :=
  qlt (if (1 : Int32) = 0 then (1 : Int32) else (0 : Int32)) fun (x2 : Int32) =>
  qg (qbo x2) <|
  some x2
set_option maxRecDepth 100000 in
set_option maxHeartbeats 4000000 in
theorem m0_coder_7d493 (l : Launch) {p0 : Nat} (hp0 : kStr p0) : qMet UX ROX l yJ0_coder_7d493 (qws yJ0_coder_7d493 cJ0_coder_7d493 1 (some .byte)) R0_coder_7d493 [.ref p0] (f0_coder_7d493 p0) qEr := by
  refine q_met (own := RJ0) 0 (by decide) rfl (Nat.le_of_ble_eq_true rfl) (ls := [some (.ref p0)]) rfl fun h => ?_
  unfold f0_coder_7d493
  refine p_cmpct sf_RJ0_38 dJ0_coder_7d493_0 rfl ?_
  refine p_vj 14 [some (.ref p0)] [] (fun x2 => ?_) (fun J => ?_)
  · exact p_bretG rfl rfl dJ0_coder_7d493_14
  · refine p_dia (fun c1 => ?_) (fun c1 => ?_)
    · refine p_if_eq_t (tgt := 13) dJ0_coder_7d493_3 (by decide) c1 ?_
      refine p_iconst (v := (1 : Int32)) kiconst_1 dJ0_coder_7d493_13 rfl ?_
      exact J _
    · refine p_if_eq_f (tgt := 13) dJ0_coder_7d493_3 (by decide) rfl c1 ?_
      refine p_aload_n rfl dJ0_coder_7d493_6 rfl ?_
      refine p_strC hp0 sf_RJ0_15 dJ0_coder_7d493_7 rfl ?_
      refine p_goto (tgt := 14) dJ0_coder_7d493_10 (by decide) ?_
      exact J _
noncomputable def f0_length_8abf5 (p0 : Nat) (h : qH) : Option (Int32) :=
  (f0_coder_7d493 p0 h).bind fun (z1 : Int32) =>
  some ((nI (slen p0)) >>> (z1 &&& 31))
set_option maxRecDepth 100000 in
set_option maxHeartbeats 4000000 in
theorem m0_length_8abf5 (l : Launch) {p0 : Nat} (hp0 : kStr p0) : qMet UX ROX l yJ0_length_8abf5 (qws yJ0_length_8abf5 cJ0_length_8abf5 1 (some .int)) R0_length_8abf5 [.ref p0] (f0_length_8abf5 p0) qEr := by
  refine q_met (own := RJ0) 0 (by decide) rfl (Nat.le_of_ble_eq_true rfl) (ls := [some (.ref p0)]) rfl fun h => ?_
  unfold f0_length_8abf5
  refine p_aload_n rfl dJ0_length_8abf5_0 rfl ?_
  refine p_strF hp0 sf_RJ0_9 dJ0_length_8abf5_1 rfl ?_
  refine p_slen hp0 dJ0_length_8abf5_4 rfl ?_
  refine p_aload_n rfl dJ0_length_8abf5_5 rfl ?_
  refine p_callVO (f := f0_coder_7d493 p0) (st := [.int (nI (slen p0))]) [] hp0 (m0_coder_7d493 l hp0) cal_RJ0_335 rfl rfl ⟨rfl, rfl⟩ ⟨Nat.le_of_ble_eq_true rfl, Nat.le_of_ble_eq_true rfl⟩ (Nat.le_of_ble_eq_true rfl) dJ0_length_8abf5_6 rfl (fun z1 => ?_)
  refine p_ishr dJ0_length_8abf5_9 rfl ?_
  exact p_iret rfl rfl dJ0_length_8abf5_10
noncomputable def f1_canEncode_9a6ad (p1 : Int32) (h : qH) : Option (Int32) :=
  qlt (if p1 < 0 then (0 : Int32) else (if (255 : Int32) < p1 then (0 : Int32) else (1 : Int32))) fun (x3 : Int32) =>
  qg (qbo x3) <|
  some x3
set_option maxRecDepth 100000 in
set_option maxHeartbeats 4000000 in
theorem m1_canEncode_9a6ad (l : Launch) (p1 : Int32) : qMet UX ROX l yJ1_canEncode_9a6ad (qws yJ1_canEncode_9a6ad cJ1_canEncode_9a6ad 1 (some .boolean)) R1_canEncode_9a6ad [.int p1] (f1_canEncode_9a6ad p1) qEr := by
  refine q_met (own := RJ1) 0 (by decide) rfl (Nat.le_of_ble_eq_true rfl) (ls := [some (.int p1)]) rfl fun h => ?_
  unfold f1_canEncode_9a6ad
  refine p_iload_n rfl dJ1_canEncode_9a6ad_0 rfl ?_
  refine p_vj 16 [some (.int p1)] [] (fun x3 => ?_) (fun J => ?_)
  · exact p_zretG rfl rfl dJ1_canEncode_9a6ad_16
  · refine p_dia (fun c1 => ?_) (fun c1 => ?_)
    · refine p_if_lt_t (tgt := 15) dJ1_canEncode_9a6ad_1 (by decide) c1 ?_
      refine p_iconst (v := (0 : Int32)) kiconst_0 dJ1_canEncode_9a6ad_15 rfl ?_
      exact J _
    · refine p_if_lt_f (tgt := 15) dJ1_canEncode_9a6ad_1 (by decide) rfl c1 ?_
      refine p_iload_n rfl dJ1_canEncode_9a6ad_4 rfl ?_
      refine p_sipush (v := (255 : Int32)) ksipush_255 dJ1_canEncode_9a6ad_5 rfl ?_
      refine p_dia (fun c2 => ?_) (fun c2 => ?_)
      · refine p_icmp_gt_t (tgt := 15) dJ1_canEncode_9a6ad_8 (by decide) c2 ?_
        refine p_iconst (v := (0 : Int32)) kiconst_0 dJ1_canEncode_9a6ad_15 rfl ?_
        exact J _
      · refine p_icmp_gt_f (tgt := 15) dJ1_canEncode_9a6ad_8 (by decide) rfl c2 ?_
        refine p_iconst (v := (1 : Int32)) kiconst_1 dJ1_canEncode_9a6ad_11 rfl ?_
        refine p_goto (tgt := 16) dJ1_canEncode_9a6ad_12 (by decide) ?_
        exact J _
noncomputable def f1_indexOfChar_4cfef_L7 (p1 : Nat) (p4 : Int32) (x1 : Int32) (h : qH) (k : Int32 → Option (Int32)) : Nat → Int32 → Option (Int32)
  | 0, _ => none
  | n + 1, x2 =>
    if p4 ≤ x2 then (
      k x2)
    else (
      qg (qin x2 (slen p1)) <|
      if (sby p1 (ix x2)) = x1 then (
        some x2)
      else (
        qlt (x2 + (1 : Int32)) fun (x5 : Int32) =>
        f1_indexOfChar_4cfef_L7 p1 p4 x1 h k n x5))
set_option maxRecDepth 100000 in
set_option maxHeartbeats 4000000 in
theorem w1_indexOfChar_4cfef_L7 (l : Launch) (p1 : Nat) (p4 : Int32) (x1 : Int32) (h : qH) (hp1 : kStr p1) {k : Int32 → Option (Int32)} (hk : ∀ (x2 : Int32), PW UX ROX l R1_indexOfChar_4cfef cJ1_indexOfChar_4cfef 6 (some .int) RJ1 (qEr h) 31 [some (.ref (p1 + 10)), none, none, some (.int p4), some (.int x1), some (.int x2)] [] h (k x2)) : ∀ (n : Nat) (x2 : Int32), PW UX ROX l R1_indexOfChar_4cfef cJ1_indexOfChar_4cfef 6 (some .int) RJ1 (qEr h) 7 [some (.ref (p1 + 10)), none, none, some (.int p4), some (.int x1), some (.int x2)] [] h (f1_indexOfChar_4cfef_L7 p1 p4 x1 h k n x2) := by
  intro n
  induction n with
  | zero => intro _; exact p_none
  | succ n ih =>
    intro x2
    unfold f1_indexOfChar_4cfef_L7
    refine p_iload rfl dJ1_indexOfChar_4cfef_7 rfl ?_
    refine p_iload_n rfl dJ1_indexOfChar_4cfef_9 rfl ?_
    refine p_if (fun c3 => ?_) (fun c3 => ?_)
    · refine p_icmp_ge_t (tgt := 31) dJ1_indexOfChar_4cfef_10 (by decide) c3 ?_
      exact hk x2
    · refine p_icmp_ge_f (tgt := 31) dJ1_indexOfChar_4cfef_10 (by decide) rfl c3 ?_
      refine p_aload_n rfl dJ1_indexOfChar_4cfef_13 rfl ?_
      refine p_iload rfl dJ1_indexOfChar_4cfef_14 rfl ?_
      refine p_sbald hp1 dJ1_indexOfChar_4cfef_16 rfl (fun _ => ?_)
      refine p_iload rfl dJ1_indexOfChar_4cfef_17 rfl ?_
      refine p_if (fun c4 => ?_) (fun c4 => ?_)
      · refine p_icmp_ne_f (tgt := 25) dJ1_indexOfChar_4cfef_19 (by decide) rfl c4 ?_
        refine p_iload rfl dJ1_indexOfChar_4cfef_22 rfl ?_
        exact p_iret rfl rfl dJ1_indexOfChar_4cfef_24
      · refine p_icmp_ne_t (tgt := 25) dJ1_indexOfChar_4cfef_19 (by decide) c4 ?_
        refine p_iiN (v := (1 : Int32)) (lf := fun x5 => [some (.ref (p1 + 10)), none, none, some (.int p4), some (.int x1), some (.int x5)]) kiconst_1 dJ1_indexOfChar_4cfef_25 rfl rfl rfl rfl (fun _ => rfl) (fun x5 => ?_)
        refine p_goto (tgt := 7) dJ1_indexOfChar_4cfef_28 (by decide) ?_
        exact ih x5
noncomputable def f1_indexOfChar_4cfef (p1 : Nat) (p2 : Int32) (p3 : Int32) (p4 : Int32) (h : qH) : Option (Int32) :=
  qlt p2.toInt8.toInt32 fun (x1 : Int32) =>
  f1_indexOfChar_4cfef_L7 p1 p4 x1 h (fun (x6 : Int32) =>
    some (-1 : Int32)) qN p3
set_option maxRecDepth 100000 in
set_option maxHeartbeats 4000000 in
theorem m1_indexOfChar_4cfef (l : Launch) {p1 : Nat} (hp1 : kStr p1) (p2 : Int32) (p3 : Int32) (p4 : Int32) : qMet UX ROX l yJ1_indexOfChar_4cfef (qws yJ1_indexOfChar_4cfef cJ1_indexOfChar_4cfef 6 (some .int)) R1_indexOfChar_4cfef [.ref (p1 + 10), .int p2, .int p3, .int p4] (f1_indexOfChar_4cfef p1 p2 p3 p4) qEr := by
  refine q_met (own := RJ1) 2 (by decide) rfl (Nat.le_of_ble_eq_true rfl) (ls := [some (.ref (p1 + 10)), some (.int p2), some (.int p3), some (.int p4), none, none]) rfl fun h => ?_
  unfold f1_indexOfChar_4cfef
  refine p_iload_n rfl dJ1_indexOfChar_4cfef_0 rfl ?_
  refine p_i2b dJ1_indexOfChar_4cfef_1 rfl ?_
  refine p_isN (lf := fun x1 => [some (.ref (p1 + 10)), some (.int p2), some (.int p3), some (.int p4), some (.int x1), none]) dJ1_indexOfChar_4cfef_2 rfl rfl rfl (fun _ => rfl) (fun x1 => ?_)
  refine p_iload_n rfl dJ1_indexOfChar_4cfef_4 rfl ?_
  refine p_is (ls' := [some (.ref (p1 + 10)), some (.int p2), some (.int p3), some (.int p4), some (.int x1), some (.int p3)]) dJ1_indexOfChar_4cfef_5 rfl rfl rfl rfl ?_
  refine p_wk (ls' := [some (.ref (p1 + 10)), none, none, some (.int p4), some (.int x1), some (.int p3)]) ⟨rfl, rfl, rfl, rfl, trivial⟩ ?_
  refine w1_indexOfChar_4cfef_L7 l p1 p4 x1 h hp1 (fun x6 => ?_) qN _
  refine p_iconst (v := (-1 : Int32)) kiconst_m1 dJ1_indexOfChar_4cfef_31 rfl ?_
  exact p_iret rfl rfl dJ1_indexOfChar_4cfef_32
noncomputable def f1_indexOf_4cfef (p1 : Nat) (p2 : Int32) (p3 : Int32) (p4 : Int32) (h : qH) : Option (Int32) :=
  (f1_canEncode_9a6ad p2 h).bind fun (z1 : Int32) =>
  if z1 = 0 then (
    some (-1 : Int32))
  else (
    qlt (if p3 < (0 : Int32) then (0 : Int32) else p3) fun (x3 : Int32) =>
    qlt (if (nI (slen p1)) < p4 then (nI (slen p1)) else p4) fun (x4 : Int32) =>
    if x3 < x4 then (
      (f1_indexOfChar_4cfef p1 p2 x3 x4 h).bind fun (z6 : Int32) =>
      some z6)
    else (
      some (-1 : Int32)))
set_option maxRecDepth 100000 in
set_option maxHeartbeats 4000000 in
theorem m1_indexOf_4cfef (l : Launch) {p1 : Nat} (hp1 : kStr p1) (p2 : Int32) (p3 : Int32) (p4 : Int32) : qMet UX ROX l yJ1_indexOf_4cfef (qws yJ1_indexOf_4cfef cJ1_indexOf_4cfef 4 (some .int)) R1_indexOf_4cfef [.ref (p1 + 10), .int p2, .int p3, .int p4] (f1_indexOf_4cfef p1 p2 p3 p4) qEr := by
  refine q_met (own := RJ1) 0 (by decide) rfl (Nat.le_of_ble_eq_true rfl) (ls := [some (.ref (p1 + 10)), some (.int p2), some (.int p3), some (.int p4)]) rfl fun h => ?_
  unfold f1_indexOf_4cfef
  refine p_iload_n rfl dJ1_indexOf_4cfef_0 rfl ?_
  refine p_callSr (f := f1_canEncode_9a6ad p2) (st := []) [.int p2] qRokX (m1_canEncode_9a6ad l p2) cal_RJ1_88 rfl ⟨rfl, rfl⟩ ⟨Nat.le_of_ble_eq_true rfl, Nat.le_of_ble_eq_true rfl⟩ (Nat.le_of_ble_eq_true rfl) dJ1_indexOf_4cfef_1 rfl (fun z1 => ?_)
  refine p_if (fun c2 => ?_) (fun c2 => ?_)
  · refine p_if_ne_f (tgt := 9) dJ1_indexOf_4cfef_4 (by decide) rfl c2 ?_
    refine p_iconst (v := (-1 : Int32)) kiconst_m1 dJ1_indexOf_4cfef_7 rfl ?_
    exact p_iret rfl rfl dJ1_indexOf_4cfef_8
  · refine p_if_ne_t (tgt := 9) dJ1_indexOf_4cfef_4 (by decide) c2 ?_
    refine p_iload_n rfl dJ1_indexOf_4cfef_9 rfl ?_
    refine p_iconst (v := (0 : Int32)) kiconst_0 dJ1_indexOf_4cfef_10 rfl ?_
    refine p_max qmax_RJ1_92 ⟨Nat.le_of_ble_eq_true rfl, Nat.le_of_ble_eq_true rfl⟩ dJ1_indexOf_4cfef_11 rfl ?_
    refine p_isN_n (lf := fun x3 => [some (.ref (p1 + 10)), some (.int p2), some (.int x3), some (.int p4)]) dJ1_indexOf_4cfef_14 rfl rfl rfl (fun _ => rfl) (fun x3 => ?_)
    refine p_iload_n rfl dJ1_indexOf_4cfef_15 rfl ?_
    refine p_aload_n rfl dJ1_indexOf_4cfef_16 rfl ?_
    refine p_slen hp1 dJ1_indexOf_4cfef_17 rfl ?_
    refine p_min qmin_RJ1_38 ⟨Nat.le_of_ble_eq_true rfl, Nat.le_of_ble_eq_true rfl⟩ dJ1_indexOf_4cfef_18 rfl ?_
    refine p_isN_n (lf := fun x4 => [some (.ref (p1 + 10)), some (.int p2), some (.int x3), some (.int x4)]) dJ1_indexOf_4cfef_21 rfl rfl rfl (fun _ => rfl) (fun x4 => ?_)
    refine p_iload_n rfl dJ1_indexOf_4cfef_22 rfl ?_
    refine p_iload_n rfl dJ1_indexOf_4cfef_23 rfl ?_
    refine p_if (fun c5 => ?_) (fun c5 => ?_)
    · refine p_icmp_lt_t (tgt := 29) dJ1_indexOf_4cfef_24 (by decide) c5 ?_
      refine p_aload_n rfl dJ1_indexOf_4cfef_29 rfl ?_
      refine p_iload_n rfl dJ1_indexOf_4cfef_30 rfl ?_
      refine p_iload_n rfl dJ1_indexOf_4cfef_31 rfl ?_
      refine p_iload_n rfl dJ1_indexOf_4cfef_32 rfl ?_
      refine p_callSr (f := f1_indexOfChar_4cfef p1 p2 x3 x4) (st := []) [.ref (p1 + 10), .int p2, .int x3, .int x4] qRokX (m1_indexOfChar_4cfef l hp1 p2 x3 x4) cal_RJ1_95 rfl ⟨rfl, rfl⟩ ⟨Nat.le_of_ble_eq_true rfl, Nat.le_of_ble_eq_true rfl⟩ (Nat.le_of_ble_eq_true rfl) dJ1_indexOf_4cfef_33 rfl (fun z6 => ?_)
      exact p_iret rfl rfl dJ1_indexOf_4cfef_36
    · refine p_icmp_lt_f (tgt := 29) dJ1_indexOf_4cfef_24 (by decide) rfl c5 ?_
      refine p_iconst (v := (-1 : Int32)) kiconst_m1 dJ1_indexOf_4cfef_27 rfl ?_
      exact p_iret rfl rfl dJ1_indexOf_4cfef_28
noncomputable def f0_indexOf_7cf53 (p0 : Nat) (p1 : Int32) (p2 : Int32) (h : qH) : Option (Int32) :=
  (f0_isLatin1_aae02 p0 h).bind fun (z1 : Int32) =>
  qj (fun (x2 : Int32) =>
    some x2) fun j3 =>
  if z1 = 0 then (
    (f0_length_8abf5 p0 h).bind fun (z6 : Int32) =>
    none)
  else (
    (f0_length_8abf5 p0 h).bind fun (z7 : Int32) =>
    (f1_indexOf_4cfef p0 p1 p2 z7 h).bind fun (z8 : Int32) =>
    j3 z8)
set_option maxRecDepth 100000 in
set_option maxHeartbeats 4000000 in
theorem m0_indexOf_7cf53 (l : Launch) {p0 : Nat} (hp0 : kStr p0) (p1 : Int32) (p2 : Int32) : qMet UX ROX l yJ0_indexOf_7cf53 (qws yJ0_indexOf_7cf53 cJ0_indexOf_7cf53 3 (some .int)) R0_indexOf_7cf53 [.ref p0, .int p1, .int p2] (f0_indexOf_7cf53 p0 p1 p2) qEr := by
  refine q_met (own := RJ0) 0 (by decide) rfl (Nat.le_of_ble_eq_true rfl) (ls := [some (.ref p0), some (.int p1), some (.int p2)]) rfl fun h => ?_
  unfold f0_indexOf_7cf53
  refine p_aload_n rfl dJ0_indexOf_7cf53_0 rfl ?_
  refine p_callVO (f := f0_isLatin1_aae02 p0) (st := []) [] hp0 (m0_isLatin1_aae02 l hp0) cal_RJ0_492 rfl rfl ⟨rfl, rfl⟩ ⟨Nat.le_of_ble_eq_true rfl, Nat.le_of_ble_eq_true rfl⟩ (Nat.le_of_ble_eq_true rfl) dJ0_indexOf_7cf53_1 rfl (fun z1 => ?_)
  refine p_jn (fun j3 => ∀ (x2 : Int32), PW UX ROX l R0_indexOf_7cf53 cJ0_indexOf_7cf53 3 (some .int) RJ0 (qEr h) 36 [some (.ref p0), some (.int p1), some (.int p2)] [.int x2] h (j3 x2)) (fun x2 => ?_) (fun j3 J4 => ?_)
  · exact p_iret rfl rfl dJ0_indexOf_7cf53_36
  · refine p_if (fun c5 => ?_) (fun c5 => ?_)
    · refine p_if_eq_t (tgt := 23) dJ0_indexOf_7cf53_4 (by decide) c5 ?_
      refine p_aload_n rfl dJ0_indexOf_7cf53_23 rfl ?_
      refine p_strF hp0 sf_RJ0_9 dJ0_indexOf_7cf53_24 rfl ?_
      refine p_iload_n rfl dJ0_indexOf_7cf53_27 rfl ?_
      refine p_iload_n rfl dJ0_indexOf_7cf53_28 rfl ?_
      refine p_aload_n rfl dJ0_indexOf_7cf53_29 rfl ?_
      refine p_callVO (f := f0_length_8abf5 p0) (st := [.int p2, .int p1, .ref (p0 + 10)]) [] hp0 (m0_length_8abf5 l hp0) cal_RJ0_505 rfl rfl ⟨rfl, rfl⟩ ⟨Nat.le_of_ble_eq_true rfl, Nat.le_of_ble_eq_true rfl⟩ (Nat.le_of_ble_eq_true rfl) dJ0_indexOf_7cf53_30 rfl (fun z6 => ?_)
      exact p_none
    · refine p_if_eq_f (tgt := 23) dJ0_indexOf_7cf53_4 (by decide) rfl c5 ?_
      refine p_aload_n rfl dJ0_indexOf_7cf53_7 rfl ?_
      refine p_strF hp0 sf_RJ0_9 dJ0_indexOf_7cf53_8 rfl ?_
      refine p_iload_n rfl dJ0_indexOf_7cf53_11 rfl ?_
      refine p_iload_n rfl dJ0_indexOf_7cf53_12 rfl ?_
      refine p_aload_n rfl dJ0_indexOf_7cf53_13 rfl ?_
      refine p_callVO (f := f0_length_8abf5 p0) (st := [.int p2, .int p1, .ref (p0 + 10)]) [] hp0 (m0_length_8abf5 l hp0) cal_RJ0_505 rfl rfl ⟨rfl, rfl⟩ ⟨Nat.le_of_ble_eq_true rfl, Nat.le_of_ble_eq_true rfl⟩ (Nat.le_of_ble_eq_true rfl) dJ0_indexOf_7cf53_14 rfl (fun z7 => ?_)
      refine p_callSr (f := f1_indexOf_4cfef p0 p1 p2 z7) (st := []) [.ref (p0 + 10), .int p1, .int p2, .int z7] qRokX (m1_indexOf_4cfef l hp0 p1 p2 z7) cal_RJ0_637 rfl ⟨rfl, rfl⟩ ⟨Nat.le_of_ble_eq_true rfl, Nat.le_of_ble_eq_true rfl⟩ (Nat.le_of_ble_eq_true rfl) dJ0_indexOf_7cf53_17 rfl (fun z8 => ?_)
      refine p_goto (tgt := 36) dJ0_indexOf_7cf53_20 (by decide) ?_
      exact J4 z8
noncomputable def f0_indexOf_0f7a4 (p0 : Nat) (p1 : Int32) (h : qH) : Option (Int32) :=
  (f0_indexOf_7cf53 p0 p1 (0 : Int32) h).bind fun (z1 : Int32) =>
  some z1
set_option maxRecDepth 100000 in
set_option maxHeartbeats 4000000 in
theorem m0_indexOf_0f7a4 (l : Launch) {p0 : Nat} (hp0 : kStr p0) (p1 : Int32) : qMet UX ROX l yJ0_indexOf_0f7a4 (qws yJ0_indexOf_0f7a4 cJ0_indexOf_0f7a4 2 (some .int)) R0_indexOf_0f7a4 [.ref p0, .int p1] (f0_indexOf_0f7a4 p0 p1) qEr := by
  refine q_met (own := RJ0) 0 (by decide) rfl (Nat.le_of_ble_eq_true rfl) (ls := [some (.ref p0), some (.int p1)]) rfl fun h => ?_
  unfold f0_indexOf_0f7a4
  refine p_aload_n rfl dJ0_indexOf_0f7a4_0 rfl ?_
  refine p_iload_n rfl dJ0_indexOf_0f7a4_1 rfl ?_
  refine p_iconst (v := (0 : Int32)) kiconst_0 dJ0_indexOf_0f7a4_2 rfl ?_
  refine p_callVO (f := f0_indexOf_7cf53 p0 p1 (0 : Int32)) (st := []) [.int p1, .int (0 : Int32)] hp0 (m0_indexOf_7cf53 l hp0 p1 (0 : Int32)) cal_RJ0_633 rfl rfl ⟨rfl, rfl⟩ ⟨Nat.le_of_ble_eq_true rfl, Nat.le_of_ble_eq_true rfl⟩ (Nat.le_of_ble_eq_true rfl) dJ0_indexOf_0f7a4_3 rfl (fun z1 => ?_)
  exact p_iret rfl rfl dJ0_indexOf_0f7a4_6
noncomputable def f5_indexIn (p1 : Nat) (p2 : Int32) (h : qH) : Option (Int32) :=
  qj (fun (x1 : Int32) =>
    some x1) fun j2 =>
  if p2 = (-1 : Int32) then (
    j2 (-1 : Int32))
  else (
    (f0_indexOf_0f7a4 p1 ((p2.toUInt32 % 65536).toInt32) h).bind fun (z5 : Int32) =>
    j2 z5)
set_option maxRecDepth 100000 in
set_option maxHeartbeats 4000000 in
theorem m5_indexIn (l : Launch) {p1 : Nat} (hp1 : kStr p1) (p2 : Int32) : qMet UX ROX l yX5_indexIn (qws yX5_indexIn cX5_indexIn 2 (some .int)) R5_indexIn [.ref p1, .int p2] (f5_indexIn p1 p2) qEr := by
  refine q_met (own := RX5) 0 (by decide) rfl (Nat.le_of_ble_eq_true rfl) (ls := [some (.ref p1), some (.int p2)]) rfl fun h => ?_
  unfold f5_indexIn
  refine p_iload_n rfl dX5_indexIn_0 rfl ?_
  refine p_iconst (v := (-1 : Int32)) kiconst_m1 dX5_indexIn_1 rfl ?_
  refine p_jn (fun j2 => ∀ (x1 : Int32), PW UX ROX l R5_indexIn cX5_indexIn 2 (some .int) RX5 (qEr h) 15 [some (.ref p1), some (.int p2)] [.int x1] h (j2 x1)) (fun x1 => ?_) (fun j2 J3 => ?_)
  · exact p_iret rfl rfl dX5_indexIn_15
  · refine p_if (fun c4 => ?_) (fun c4 => ?_)
    · refine p_icmp_ne_f (tgt := 9) dX5_indexIn_2 (by decide) rfl c4 ?_
      refine p_iconst (v := (-1 : Int32)) kiconst_m1 dX5_indexIn_5 rfl ?_
      refine p_goto (tgt := 15) dX5_indexIn_6 (by decide) ?_
      exact J3 (-1 : Int32)
    · refine p_icmp_ne_t (tgt := 9) dX5_indexIn_2 (by decide) c4 ?_
      refine p_aload_n rfl dX5_indexIn_9 rfl ?_
      refine p_iload_n rfl dX5_indexIn_10 rfl ?_
      refine p_i2c dX5_indexIn_11 rfl ?_
      refine p_callVO (f := f0_indexOf_0f7a4 p1 ((p2.toUInt32 % 65536).toInt32)) (st := []) [.int ((p2.toUInt32 % 65536).toInt32)] hp1 (m0_indexOf_0f7a4 l hp1 ((p2.toUInt32 % 65536).toInt32)) cal_RX5_135 rfl rfl ⟨rfl, rfl⟩ ⟨Nat.le_of_ble_eq_true rfl, Nat.le_of_ble_eq_true rfl⟩ (Nat.le_of_ble_eq_true rfl) dX5_indexIn_12 rfl (fun z5 => ?_)
      exact J3 z5
