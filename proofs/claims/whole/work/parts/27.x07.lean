noncomputable def f7_placeOf (p0 : Nat) (p1 : Int32) (h : qH) : Option (Int32) :=
  qg (qin p1 8) <|
  qj (fun (x1 : Int32) =>
    some x1) fun j2 =>
  if (h.1 (p0 + 1) (ix p1)) = (-1 : Int32) then (
    j2 p1)
  else (
    qg (qin p1 8) <|
    j2 ((h.1 7 0) + (h.1 (p0 + 1) (ix p1))))
set_option maxRecDepth 100000 in
set_option maxHeartbeats 4000000 in
theorem m7_placeOf (l : Launch) {p0 : Nat} (hp0 : kStage p0) (p1 : Int32) : qMet UX ROX l yX7_placeOf (qws yX7_placeOf cX7_placeOf 2 (some .int)) R7_placeOf [.ref p0, .int p1] (f7_placeOf p0 p1) qEr := by
  refine q_met (own := RX7) 0 (by decide) rfl (Nat.le_of_ble_eq_true rfl) (ls := [some (.ref p0), some (.int p1)]) rfl fun h => ?_
  unfold f7_placeOf
  refine p_aload_n rfl dX7_placeOf_0 rfl ?_
  refine p_getr qg_RX7_9 (uX_Stage hp0) rfl dX7_placeOf_1 rfl ?_
  refine p_iload_n rfl dX7_placeOf_4 rfl ?_
  refine p_iald (uX_Stage_1 hp0) dX7_placeOf_5 rfl (fun _ => ?_)
  refine p_iconst (v := (-1 : Int32)) kiconst_m1 dX7_placeOf_6 rfl ?_
  refine p_jn (fun j2 => ∀ (x1 : Int32), PW UX ROX l R7_placeOf cX7_placeOf 2 (some .int) RX7 (qEr h) 30 [some (.ref p0), some (.int p1)] [.int x1] h (j2 x1)) (fun x1 => ?_) (fun j2 J3 => ?_)
  · exact p_iret rfl rfl dX7_placeOf_30
  · refine p_if (fun c4 => ?_) (fun c4 => ?_)
    · refine p_icmp_ne_f (tgt := 14) dX7_placeOf_7 (by decide) rfl c4 ?_
      refine p_iload_n rfl dX7_placeOf_10 rfl ?_
      refine p_goto (tgt := 30) dX7_placeOf_11 (by decide) ?_
      exact J3 p1
    · refine p_icmp_ne_t (tgt := 14) dX7_placeOf_7 (by decide) c4 ?_
      refine p_aload_n rfl dX7_placeOf_14 rfl ?_
      refine p_getr qg_RX7_45 (uX_Stage hp0) rfl dX7_placeOf_15 rfl ?_
      refine p_getr qg_RX7_206 uX_6 rfl dX7_placeOf_18 rfl ?_
      refine p_iconst (v := (0 : Int32)) kiconst_0 dX7_placeOf_21 rfl ?_
      refine p_ialdK uX_7 kix_0 kqin_0_8 dX7_placeOf_22 rfl ?_
      refine p_aload_n rfl dX7_placeOf_23 rfl ?_
      refine p_getr qg_RX7_9 (uX_Stage hp0) rfl dX7_placeOf_24 rfl ?_
      refine p_iload_n rfl dX7_placeOf_27 rfl ?_
      refine p_iald (uX_Stage_1 hp0) dX7_placeOf_28 rfl (fun _ => ?_)
      refine p_iadd dX7_placeOf_29 rfl ?_
      exact J3 ((h.1 7 0) + (h.1 (p0 + 1) (ix p1)))
noncomputable def f7_blocksOn_L4 (p0 : Nat) (p1 : Int32) (h : qH) (k : Int32 → Int32 → Option (Int32)) : Nat → Int32 → Int32 → Option (Int32)
  | 0, _, _ => none
  | n + 1, x1, x2 =>
    if (h.1 p0 5) ≤ x2 then (
      k x1 x2)
    else (
      qg (qin x2 24) <|
      qj (fun (x4 : Int32) =>
        qlt (x1 + x4) fun (x7 : Int32) =>
        qlt (x2 + (1 : Int32)) fun (x8 : Int32) =>
        f7_blocksOn_L4 p0 p1 h k n x7 x8) fun j5 =>
      if (h.1 (p0 + 7) (ix x2)) = p1 then (
        qg (qin x2 24) <|
        j5 (h.1 (p0 + 9) (ix x2)))
      else (
        j5 (0 : Int32)))
set_option maxRecDepth 100000 in
set_option maxHeartbeats 4000000 in
theorem w7_blocksOn_L4 (l : Launch) (p0 : Nat) (p1 : Int32) (h : qH) (hp0 : kStage p0) {k : Int32 → Int32 → Option (Int32)} (hk : ∀ (x1 : Int32) (x2 : Int32), PW UX ROX l R7_blocksOn cX7_blocksOn 4 (some .int) RX7 (qEr h) 41 [some (.ref p0), some (.int p1), some (.int x1), some (.int x2)] [] h (k x1 x2)) : ∀ (n : Nat) (x1 : Int32) (x2 : Int32), PW UX ROX l R7_blocksOn cX7_blocksOn 4 (some .int) RX7 (qEr h) 4 [some (.ref p0), some (.int p1), some (.int x1), some (.int x2)] [] h (f7_blocksOn_L4 p0 p1 h k n x1 x2) := by
  intro n
  induction n with
  | zero => intro _ _; exact p_none
  | succ n ih =>
    intro x1 x2
    unfold f7_blocksOn_L4
    refine p_iload_n rfl dX7_blocksOn_4 rfl ?_
    refine p_aload_n rfl dX7_blocksOn_5 rfl ?_
    refine p_geti qg_RX7_63 (uX_Stage hp0) rfl dX7_blocksOn_6 rfl ?_
    refine p_if (fun c3 => ?_) (fun c3 => ?_)
    · refine p_icmp_ge_t (tgt := 41) dX7_blocksOn_9 (by decide) c3 ?_
      exact hk x1 x2
    · refine p_icmp_ge_f (tgt := 41) dX7_blocksOn_9 (by decide) rfl c3 ?_
      refine p_iload_n rfl dX7_blocksOn_12 rfl ?_
      refine p_aload_n rfl dX7_blocksOn_13 rfl ?_
      refine p_getr qg_RX7_30 (uX_Stage hp0) rfl dX7_blocksOn_14 rfl ?_
      refine p_iload_n rfl dX7_blocksOn_17 rfl ?_
      refine p_iald (uX_Stage_7 hp0) dX7_blocksOn_18 rfl (fun _ => ?_)
      refine p_iload_n rfl dX7_blocksOn_19 rfl ?_
      refine p_jn (fun j5 => ∀ (x4 : Int32), PW UX ROX l R7_blocksOn cX7_blocksOn 4 (some .int) RX7 (qEr h) 33 [some (.ref p0), some (.int p1), some (.int x1), some (.int x2)] [.int x4, .int x1] h (j5 x4)) (fun x4 => ?_) (fun j5 J6 => ?_)
      · refine p_iadd dX7_blocksOn_33 rfl ?_
        refine p_isN_n (lf := fun x7 => [some (.ref p0), some (.int p1), some (.int x7), some (.int x2)]) dX7_blocksOn_34 rfl rfl rfl (fun _ => rfl) (fun x7 => ?_)
        refine p_iiN (v := (1 : Int32)) (lf := fun x8 => [some (.ref p0), some (.int p1), some (.int x7), some (.int x8)]) kiconst_1 dX7_blocksOn_35 rfl rfl rfl rfl (fun _ => rfl) (fun x8 => ?_)
        refine p_goto (tgt := 4) dX7_blocksOn_38 (by decide) ?_
        exact ih x7 x8
      · refine p_if (fun c9 => ?_) (fun c9 => ?_)
        · refine p_icmp_ne_f (tgt := 32) dX7_blocksOn_20 (by decide) rfl c9 ?_
          refine p_aload_n rfl dX7_blocksOn_23 rfl ?_
          refine p_getr qg_RX7_36 (uX_Stage hp0) rfl dX7_blocksOn_24 rfl ?_
          refine p_iload_n rfl dX7_blocksOn_27 rfl ?_
          refine p_iald (uX_Stage_9 hp0) dX7_blocksOn_28 rfl (fun _ => ?_)
          refine p_goto (tgt := 33) dX7_blocksOn_29 (by decide) ?_
          exact J6 (h.1 (p0 + 9) (ix x2))
        · refine p_icmp_ne_t (tgt := 32) dX7_blocksOn_20 (by decide) c9 ?_
          refine p_iconst (v := (0 : Int32)) kiconst_0 dX7_blocksOn_32 rfl ?_
          exact J6 (0 : Int32)
noncomputable def f7_blocksOn (p0 : Nat) (p1 : Int32) (h : qH) : Option (Int32) :=
  f7_blocksOn_L4 p0 p1 h (fun (x10 : Int32) (x11 : Int32) =>
    some x10) qN (0 : Int32) (0 : Int32)
set_option maxRecDepth 100000 in
set_option maxHeartbeats 4000000 in
theorem m7_blocksOn (l : Launch) {p0 : Nat} (hp0 : kStage p0) (p1 : Int32) : qMet UX ROX l yX7_blocksOn (qws yX7_blocksOn cX7_blocksOn 4 (some .int)) R7_blocksOn [.ref p0, .int p1] (f7_blocksOn p0 p1) qEr := by
  refine q_met (own := RX7) 2 (by decide) rfl (Nat.le_of_ble_eq_true rfl) (ls := [some (.ref p0), some (.int p1), none, none]) rfl fun h => ?_
  unfold f7_blocksOn
  refine p_iconst (v := (0 : Int32)) kiconst_0 dX7_blocksOn_0 rfl ?_
  refine p_is_n (ls' := [some (.ref p0), some (.int p1), some (.int (0 : Int32)), none]) dX7_blocksOn_1 rfl rfl rfl rfl ?_
  refine p_iconst (v := (0 : Int32)) kiconst_0 dX7_blocksOn_2 rfl ?_
  refine p_is_n (ls' := [some (.ref p0), some (.int p1), some (.int (0 : Int32)), some (.int (0 : Int32))]) dX7_blocksOn_3 rfl rfl rfl rfl ?_
  refine w7_blocksOn_L4 l p0 p1 h hp0 (fun x10 x11 => ?_) qN _ _
  refine p_iload_n rfl dX7_blocksOn_41 rfl ?_
  exact p_iret rfl rfl dX7_blocksOn_42
noncomputable def f7_filesThere (p0 : Nat) (h : qH) : Option (Int32) :=
  (f7_filesOn p0 (-1 : Int32) h).bind fun (z1 : Int32) =>
  some ((h.1 p0 5) - z1)
set_option maxRecDepth 100000 in
set_option maxHeartbeats 4000000 in
theorem m7_filesThere (l : Launch) {p0 : Nat} (hp0 : kStage p0) : qMet UX ROX l yX7_filesThere (qws yX7_filesThere cX7_filesThere 1 (some .int)) R7_filesThere [.ref p0] (f7_filesThere p0) qEr := by
  refine q_met (own := RX7) 0 (by decide) rfl (Nat.le_of_ble_eq_true rfl) (ls := [some (.ref p0)]) rfl fun h => ?_
  unfold f7_filesThere
  refine p_aload_n rfl dX7_filesThere_0 rfl ?_
  refine p_geti qg_RX7_63 (uX_Stage hp0) rfl dX7_filesThere_1 rfl ?_
  refine p_aload_n rfl dX7_filesThere_4 rfl ?_
  refine p_iconst (v := (-1 : Int32)) kiconst_m1 dX7_filesThere_5 rfl ?_
  refine p_callVr (f := f7_filesOn p0 (-1 : Int32)) (st := [.int (h.1 p0 5)]) [.int (-1 : Int32)] qRokX (m7_filesOn l hp0 (-1 : Int32)) cal_RX7_121 (uX_Stage hp0) rfl rfl ⟨rfl, rfl⟩ ⟨Nat.le_of_ble_eq_true rfl, Nat.le_of_ble_eq_true rfl⟩ (Nat.le_of_ble_eq_true rfl) dX7_filesThere_6 rfl (fun z1 => ?_)
  refine p_isub dX7_filesThere_9 rfl ?_
  exact p_iret rfl rfl dX7_filesThere_10
noncomputable def f7_mendedBlocks_L4 (p0 : Nat) (h : qH) (k : Int32 → Int32 → Option (Int32)) : Nat → Int32 → Int32 → Option (Int32)
  | 0, _, _ => none
  | n + 1, x1, x2 =>
    if (h.1 6 1) ≤ x2 then (
      k x1 x2)
    else (
      qg (qin x2 8) <|
      qlt (x1 + (h.1 (p0 + 5) (ix x2))) fun (x4 : Int32) =>
      qlt (x2 + (1 : Int32)) fun (x5 : Int32) =>
      f7_mendedBlocks_L4 p0 h k n x4 x5)
set_option maxRecDepth 100000 in
set_option maxHeartbeats 4000000 in
theorem w7_mendedBlocks_L4 (l : Launch) (p0 : Nat) (h : qH) (hp0 : kStage p0) {k : Int32 → Int32 → Option (Int32)} (hk : ∀ (x1 : Int32) (x2 : Int32), PW UX ROX l R7_mendedBlocks cX7_mendedBlocks 3 (some .int) RX7 (qEr h) 30 [some (.ref p0), some (.int x1), some (.int x2)] [] h (k x1 x2)) : ∀ (n : Nat) (x1 : Int32) (x2 : Int32), PW UX ROX l R7_mendedBlocks cX7_mendedBlocks 3 (some .int) RX7 (qEr h) 4 [some (.ref p0), some (.int x1), some (.int x2)] [] h (f7_mendedBlocks_L4 p0 h k n x1 x2) := by
  intro n
  induction n with
  | zero => intro _ _; exact p_none
  | succ n ih =>
    intro x1 x2
    unfold f7_mendedBlocks_L4
    refine p_iload_n rfl dX7_mendedBlocks_4 rfl ?_
    refine p_aload_n rfl dX7_mendedBlocks_5 rfl ?_
    refine p_getr qg_RX7_45 (uX_Stage hp0) rfl dX7_mendedBlocks_6 rfl ?_
    refine p_geti qg_RX7_133 uX_6 rfl dX7_mendedBlocks_9 rfl ?_
    refine p_if (fun c3 => ?_) (fun c3 => ?_)
    · refine p_icmp_ge_t (tgt := 30) dX7_mendedBlocks_12 (by decide) c3 ?_
      exact hk x1 x2
    · refine p_icmp_ge_f (tgt := 30) dX7_mendedBlocks_12 (by decide) rfl c3 ?_
      refine p_iload_n rfl dX7_mendedBlocks_15 rfl ?_
      refine p_aload_n rfl dX7_mendedBlocks_16 rfl ?_
      refine p_getr qg_RX7_24 (uX_Stage hp0) rfl dX7_mendedBlocks_17 rfl ?_
      refine p_iload_n rfl dX7_mendedBlocks_20 rfl ?_
      refine p_iald (uX_Stage_5 hp0) dX7_mendedBlocks_21 rfl (fun _ => ?_)
      refine p_iadd dX7_mendedBlocks_22 rfl ?_
      refine p_isN_n (lf := fun x4 => [some (.ref p0), some (.int x4), some (.int x2)]) dX7_mendedBlocks_23 rfl rfl rfl (fun _ => rfl) (fun x4 => ?_)
      refine p_iiN (v := (1 : Int32)) (lf := fun x5 => [some (.ref p0), some (.int x4), some (.int x5)]) kiconst_1 dX7_mendedBlocks_24 rfl rfl rfl rfl (fun _ => rfl) (fun x5 => ?_)
      refine p_goto (tgt := 4) dX7_mendedBlocks_27 (by decide) ?_
      exact ih x4 x5
noncomputable def f7_mendedBlocks (p0 : Nat) (h : qH) : Option (Int32) :=
  f7_mendedBlocks_L4 p0 h (fun (x6 : Int32) (x7 : Int32) =>
    some x6) qN (0 : Int32) (0 : Int32)
set_option maxRecDepth 100000 in
set_option maxHeartbeats 4000000 in
theorem m7_mendedBlocks (l : Launch) {p0 : Nat} (hp0 : kStage p0) : qMet UX ROX l yX7_mendedBlocks (qws yX7_mendedBlocks cX7_mendedBlocks 3 (some .int)) R7_mendedBlocks [.ref p0] (f7_mendedBlocks p0) qEr := by
  refine q_met (own := RX7) 2 (by decide) rfl (Nat.le_of_ble_eq_true rfl) (ls := [some (.ref p0), none, none]) rfl fun h => ?_
  unfold f7_mendedBlocks
  refine p_iconst (v := (0 : Int32)) kiconst_0 dX7_mendedBlocks_0 rfl ?_
  refine p_is_n (ls' := [some (.ref p0), some (.int (0 : Int32)), none]) dX7_mendedBlocks_1 rfl rfl rfl rfl ?_
  refine p_iconst (v := (0 : Int32)) kiconst_0 dX7_mendedBlocks_2 rfl ?_
  refine p_is_n (ls' := [some (.ref p0), some (.int (0 : Int32)), some (.int (0 : Int32))]) dX7_mendedBlocks_3 rfl rfl rfl rfl ?_
  refine w7_mendedBlocks_L4 l p0 h hp0 (fun x6 x7 => ?_) qN _ _
  refine p_iload_n rfl dX7_mendedBlocks_30 rfl ?_
  exact p_iret rfl rfl dX7_mendedBlocks_31
noncomputable def f7_roomiest_L4 (p0 : Nat) (h : qH) (k : Int32 → Int32 → Option (Int32)) : Nat → Int32 → Int32 → Option (Int32)
  | 0, _, _ => none
  | n + 1, x1, x2 =>
    if (h.1 6 1) ≤ x2 then (
      k x1 x2)
    else (
      qg (qin x2 8) <|
      qg (qin x1 8) <|
      qlt (if (h.1 (p0 + 3) (ix x1)) ≤ (h.1 (p0 + 3) (ix x2)) then x1 else x2) fun (x5 : Int32) =>
      qlt (x2 + (1 : Int32)) fun (x6 : Int32) =>
      f7_roomiest_L4 p0 h k n x5 x6)
set_option maxRecDepth 100000 in
set_option maxHeartbeats 4000000 in
theorem w7_roomiest_L4 (l : Launch) (p0 : Nat) (h : qH) (hp0 : kStage p0) {k : Int32 → Int32 → Option (Int32)} (hk : ∀ (x1 : Int32) (x2 : Int32), PW UX ROX l R7_roomiest cX7_roomiest 3 (some .int) RX7 (qEr h) 42 [some (.ref p0), some (.int x1), some (.int x2)] [] h (k x1 x2)) : ∀ (n : Nat) (x1 : Int32) (x2 : Int32), PW UX ROX l R7_roomiest cX7_roomiest 3 (some .int) RX7 (qEr h) 4 [some (.ref p0), some (.int x1), some (.int x2)] [] h (f7_roomiest_L4 p0 h k n x1 x2) := by
  intro n
  induction n with
  | zero => intro _ _; exact p_none
  | succ n ih =>
    intro x1 x2
    unfold f7_roomiest_L4
    refine p_iload_n rfl dX7_roomiest_4 rfl ?_
    refine p_aload_n rfl dX7_roomiest_5 rfl ?_
    refine p_getr qg_RX7_45 (uX_Stage hp0) rfl dX7_roomiest_6 rfl ?_
    refine p_geti qg_RX7_133 uX_6 rfl dX7_roomiest_9 rfl ?_
    refine p_if (fun c3 => ?_) (fun c3 => ?_)
    · refine p_icmp_ge_t (tgt := 42) dX7_roomiest_12 (by decide) c3 ?_
      exact hk x1 x2
    · refine p_icmp_ge_f (tgt := 42) dX7_roomiest_12 (by decide) rfl c3 ?_
      refine p_aload_n rfl dX7_roomiest_15 rfl ?_
      refine p_getr qg_RX7_18 (uX_Stage hp0) rfl dX7_roomiest_16 rfl ?_
      refine p_iload_n rfl dX7_roomiest_19 rfl ?_
      refine p_iald (uX_Stage_3 hp0) dX7_roomiest_20 rfl (fun _ => ?_)
      refine p_aload_n rfl dX7_roomiest_21 rfl ?_
      refine p_getr qg_RX7_18 (uX_Stage hp0) rfl dX7_roomiest_22 rfl ?_
      refine p_iload_n rfl dX7_roomiest_25 rfl ?_
      refine p_iald (uX_Stage_3 hp0) dX7_roomiest_26 rfl (fun _ => ?_)
      refine p_vj 35 [some (.ref p0), some (.int x1), some (.int x2)] [] (fun x5 => ?_) (fun J => ?_)
      · refine p_is_n (ls' := [some (.ref p0), some (.int x5), some (.int x2)]) dX7_roomiest_35 rfl rfl rfl rfl ?_
        refine p_iiN (v := (1 : Int32)) (lf := fun x6 => [some (.ref p0), some (.int x5), some (.int x6)]) kiconst_1 dX7_roomiest_36 rfl rfl rfl rfl (fun _ => rfl) (fun x6 => ?_)
        refine p_goto (tgt := 4) dX7_roomiest_39 (by decide) ?_
        exact ih x5 x6
      · refine p_dia (fun c4 => ?_) (fun c4 => ?_)
        · refine p_icmp_ge_t (tgt := 34) dX7_roomiest_27 (by decide) c4 ?_
          refine p_iload_n rfl dX7_roomiest_34 rfl ?_
          exact J _
        · refine p_icmp_ge_f (tgt := 34) dX7_roomiest_27 (by decide) rfl c4 ?_
          refine p_iload_n rfl dX7_roomiest_30 rfl ?_
          refine p_goto (tgt := 35) dX7_roomiest_31 (by decide) ?_
          exact J _
noncomputable def f7_roomiest (p0 : Nat) (h : qH) : Option (Int32) :=
  f7_roomiest_L4 p0 h (fun (x7 : Int32) (x8 : Int32) =>
    some x7) qN (0 : Int32) (1 : Int32)
set_option maxRecDepth 100000 in
set_option maxHeartbeats 4000000 in
theorem m7_roomiest (l : Launch) {p0 : Nat} (hp0 : kStage p0) : qMet UX ROX l yX7_roomiest (qws yX7_roomiest cX7_roomiest 3 (some .int)) R7_roomiest [.ref p0] (f7_roomiest p0) qEr := by
  refine q_met (own := RX7) 2 (by decide) rfl (Nat.le_of_ble_eq_true rfl) (ls := [some (.ref p0), none, none]) rfl fun h => ?_
  unfold f7_roomiest
  refine p_iconst (v := (0 : Int32)) kiconst_0 dX7_roomiest_0 rfl ?_
  refine p_is_n (ls' := [some (.ref p0), some (.int (0 : Int32)), none]) dX7_roomiest_1 rfl rfl rfl rfl ?_
  refine p_iconst (v := (1 : Int32)) kiconst_1 dX7_roomiest_2 rfl ?_
  refine p_is_n (ls' := [some (.ref p0), some (.int (0 : Int32)), some (.int (1 : Int32))]) dX7_roomiest_3 rfl rfl rfl rfl ?_
  refine w7_roomiest_L4 l p0 h hp0 (fun x7 x8 => ?_) qN _ _
  refine p_iload_n rfl dX7_roomiest_42 rfl ?_
  exact p_iret rfl rfl dX7_roomiest_43
noncomputable def f7_tapesInDrives_L4 (p0 : Nat) (h : qH) (k : Int32 → Int32 → Option (Int32)) : Nat → Int32 → Int32 → Option (Int32)
  | 0, _, _ => none
  | n + 1, x1, x2 =>
    if (h.1 6 1) ≤ x2 then (
      k x1 x2)
    else (
      qg (qin x2 8) <|
      qlt (if (h.1 (p0 + 1) (ix x2)) = (-1 : Int32) then (0 : Int32) else ((1 : Int32) <<< (x2 &&& 31))) fun (x5 : Int32) =>
      qlt (x1 ||| x5) fun (x6 : Int32) =>
      qlt (x2 + (1 : Int32)) fun (x7 : Int32) =>
      f7_tapesInDrives_L4 p0 h k n x6 x7)
set_option maxRecDepth 100000 in
set_option maxHeartbeats 4000000 in
theorem w7_tapesInDrives_L4 (l : Launch) (p0 : Nat) (h : qH) (hp0 : kStage p0) {k : Int32 → Int32 → Option (Int32)} (hk : ∀ (x1 : Int32) (x2 : Int32), PW UX ROX l R7_tapesInDrives cX7_tapesInDrives 3 (some .int) RX7 (qEr h) 41 [some (.ref p0), some (.int x1), some (.int x2)] [] h (k x1 x2)) : ∀ (n : Nat) (x1 : Int32) (x2 : Int32), PW UX ROX l R7_tapesInDrives cX7_tapesInDrives 3 (some .int) RX7 (qEr h) 4 [some (.ref p0), some (.int x1), some (.int x2)] [] h (f7_tapesInDrives_L4 p0 h k n x1 x2) := by
  intro n
  induction n with
  | zero => intro _ _; exact p_none
  | succ n ih =>
    intro x1 x2
    unfold f7_tapesInDrives_L4
    refine p_iload_n rfl dX7_tapesInDrives_4 rfl ?_
    refine p_aload_n rfl dX7_tapesInDrives_5 rfl ?_
    refine p_getr qg_RX7_45 (uX_Stage hp0) rfl dX7_tapesInDrives_6 rfl ?_
    refine p_geti qg_RX7_133 uX_6 rfl dX7_tapesInDrives_9 rfl ?_
    refine p_if (fun c3 => ?_) (fun c3 => ?_)
    · refine p_icmp_ge_t (tgt := 41) dX7_tapesInDrives_12 (by decide) c3 ?_
      exact hk x1 x2
    · refine p_icmp_ge_f (tgt := 41) dX7_tapesInDrives_12 (by decide) rfl c3 ?_
      refine p_iload_n rfl dX7_tapesInDrives_15 rfl ?_
      refine p_aload_n rfl dX7_tapesInDrives_16 rfl ?_
      refine p_getr qg_RX7_9 (uX_Stage hp0) rfl dX7_tapesInDrives_17 rfl ?_
      refine p_iload_n rfl dX7_tapesInDrives_20 rfl ?_
      refine p_iald (uX_Stage_1 hp0) dX7_tapesInDrives_21 rfl (fun _ => ?_)
      refine p_iconst (v := (-1 : Int32)) kiconst_m1 dX7_tapesInDrives_22 rfl ?_
      refine p_vj 33 [some (.ref p0), some (.int x1), some (.int x2)] [.int x1] (fun x5 => ?_) (fun J => ?_)
      · refine p_ior dX7_tapesInDrives_33 rfl ?_
        refine p_isN_n (lf := fun x6 => [some (.ref p0), some (.int x6), some (.int x2)]) dX7_tapesInDrives_34 rfl rfl rfl (fun _ => rfl) (fun x6 => ?_)
        refine p_iiN (v := (1 : Int32)) (lf := fun x7 => [some (.ref p0), some (.int x6), some (.int x7)]) kiconst_1 dX7_tapesInDrives_35 rfl rfl rfl rfl (fun _ => rfl) (fun x7 => ?_)
        refine p_goto (tgt := 4) dX7_tapesInDrives_38 (by decide) ?_
        exact ih x6 x7
      · refine p_dia (fun c4 => ?_) (fun c4 => ?_)
        · refine p_icmp_eq_t (tgt := 32) dX7_tapesInDrives_23 (by decide) c4 ?_
          refine p_iconst (v := (0 : Int32)) kiconst_0 dX7_tapesInDrives_32 rfl ?_
          exact J _
        · refine p_icmp_eq_f (tgt := 32) dX7_tapesInDrives_23 (by decide) rfl c4 ?_
          refine p_iconst (v := (1 : Int32)) kiconst_1 dX7_tapesInDrives_26 rfl ?_
          refine p_iload_n rfl dX7_tapesInDrives_27 rfl ?_
          refine p_ishl dX7_tapesInDrives_28 rfl ?_
          refine p_goto (tgt := 33) dX7_tapesInDrives_29 (by decide) ?_
          exact J _
noncomputable def f7_tapesInDrives (p0 : Nat) (h : qH) : Option (Int32) :=
  f7_tapesInDrives_L4 p0 h (fun (x8 : Int32) (x9 : Int32) =>
    some x8) qN (0 : Int32) (0 : Int32)
set_option maxRecDepth 100000 in
set_option maxHeartbeats 4000000 in
theorem m7_tapesInDrives (l : Launch) {p0 : Nat} (hp0 : kStage p0) : qMet UX ROX l yX7_tapesInDrives (qws yX7_tapesInDrives cX7_tapesInDrives 3 (some .int)) R7_tapesInDrives [.ref p0] (f7_tapesInDrives p0) qEr := by
  refine q_met (own := RX7) 2 (by decide) rfl (Nat.le_of_ble_eq_true rfl) (ls := [some (.ref p0), none, none]) rfl fun h => ?_
  unfold f7_tapesInDrives
  refine p_iconst (v := (0 : Int32)) kiconst_0 dX7_tapesInDrives_0 rfl ?_
  refine p_is_n (ls' := [some (.ref p0), some (.int (0 : Int32)), none]) dX7_tapesInDrives_1 rfl rfl rfl rfl ?_
  refine p_iconst (v := (0 : Int32)) kiconst_0 dX7_tapesInDrives_2 rfl ?_
  refine p_is_n (ls' := [some (.ref p0), some (.int (0 : Int32)), some (.int (0 : Int32))]) dX7_tapesInDrives_3 rfl rfl rfl rfl ?_
  refine w7_tapesInDrives_L4 l p0 h hp0 (fun x8 x9 => ?_) qN _ _
  refine p_iload_n rfl dX7_tapesInDrives_41 rfl ?_
  exact p_iret rfl rfl dX7_tapesInDrives_42
noncomputable def f7_emptyTapes_L4 (p0 : Nat) (h : qH) (k : Int32 → Int32 → Option (Int32)) : Nat → Int32 → Int32 → Option (Int32)
  | 0, _, _ => none
  | n + 1, x1, x2 =>
    if (h.1 6 1) ≤ x2 then (
      k x1 x2)
    else (
      qg (qin x2 8) <|
      qlt (if (h.1 (p0 + 3) (ix x2)) = 0 then ((1 : Int32) <<< (x2 &&& 31)) else (0 : Int32)) fun (x5 : Int32) =>
      qlt (x1 ||| x5) fun (x6 : Int32) =>
      qlt (x2 + (1 : Int32)) fun (x7 : Int32) =>
      f7_emptyTapes_L4 p0 h k n x6 x7)
set_option maxRecDepth 100000 in
set_option maxHeartbeats 4000000 in
theorem w7_emptyTapes_L4 (l : Launch) (p0 : Nat) (h : qH) (hp0 : kStage p0) {k : Int32 → Int32 → Option (Int32)} (hk : ∀ (x1 : Int32) (x2 : Int32), PW UX ROX l R7_emptyTapes cX7_emptyTapes 3 (some .int) RX7 (qEr h) 40 [some (.ref p0), some (.int x1), some (.int x2)] [] h (k x1 x2)) : ∀ (n : Nat) (x1 : Int32) (x2 : Int32), PW UX ROX l R7_emptyTapes cX7_emptyTapes 3 (some .int) RX7 (qEr h) 4 [some (.ref p0), some (.int x1), some (.int x2)] [] h (f7_emptyTapes_L4 p0 h k n x1 x2) := by
  intro n
  induction n with
  | zero => intro _ _; exact p_none
  | succ n ih =>
    intro x1 x2
    unfold f7_emptyTapes_L4
    refine p_iload_n rfl dX7_emptyTapes_4 rfl ?_
    refine p_aload_n rfl dX7_emptyTapes_5 rfl ?_
    refine p_getr qg_RX7_45 (uX_Stage hp0) rfl dX7_emptyTapes_6 rfl ?_
    refine p_geti qg_RX7_133 uX_6 rfl dX7_emptyTapes_9 rfl ?_
    refine p_if (fun c3 => ?_) (fun c3 => ?_)
    · refine p_icmp_ge_t (tgt := 40) dX7_emptyTapes_12 (by decide) c3 ?_
      exact hk x1 x2
    · refine p_icmp_ge_f (tgt := 40) dX7_emptyTapes_12 (by decide) rfl c3 ?_
      refine p_iload_n rfl dX7_emptyTapes_15 rfl ?_
      refine p_aload_n rfl dX7_emptyTapes_16 rfl ?_
      refine p_getr qg_RX7_18 (uX_Stage hp0) rfl dX7_emptyTapes_17 rfl ?_
      refine p_iload_n rfl dX7_emptyTapes_20 rfl ?_
      refine p_iald (uX_Stage_3 hp0) dX7_emptyTapes_21 rfl (fun _ => ?_)
      refine p_vj 32 [some (.ref p0), some (.int x1), some (.int x2)] [.int x1] (fun x5 => ?_) (fun J => ?_)
      · refine p_ior dX7_emptyTapes_32 rfl ?_
        refine p_isN_n (lf := fun x6 => [some (.ref p0), some (.int x6), some (.int x2)]) dX7_emptyTapes_33 rfl rfl rfl (fun _ => rfl) (fun x6 => ?_)
        refine p_iiN (v := (1 : Int32)) (lf := fun x7 => [some (.ref p0), some (.int x6), some (.int x7)]) kiconst_1 dX7_emptyTapes_34 rfl rfl rfl rfl (fun _ => rfl) (fun x7 => ?_)
        refine p_goto (tgt := 4) dX7_emptyTapes_37 (by decide) ?_
        exact ih x6 x7
      · refine p_dia (fun c4 => ?_) (fun c4 => ?_)
        · refine p_if_ne_f (tgt := 31) dX7_emptyTapes_22 (by decide) rfl c4 ?_
          refine p_iconst (v := (1 : Int32)) kiconst_1 dX7_emptyTapes_25 rfl ?_
          refine p_iload_n rfl dX7_emptyTapes_26 rfl ?_
          refine p_ishl dX7_emptyTapes_27 rfl ?_
          refine p_goto (tgt := 32) dX7_emptyTapes_28 (by decide) ?_
          exact J _
        · refine p_if_ne_t (tgt := 31) dX7_emptyTapes_22 (by decide) c4 ?_
          refine p_iconst (v := (0 : Int32)) kiconst_0 dX7_emptyTapes_31 rfl ?_
          exact J _
noncomputable def f7_emptyTapes (p0 : Nat) (h : qH) : Option (Int32) :=
  f7_emptyTapes_L4 p0 h (fun (x8 : Int32) (x9 : Int32) =>
    some x8) qN (0 : Int32) (0 : Int32)
set_option maxRecDepth 100000 in
set_option maxHeartbeats 4000000 in
theorem m7_emptyTapes (l : Launch) {p0 : Nat} (hp0 : kStage p0) : qMet UX ROX l yX7_emptyTapes (qws yX7_emptyTapes cX7_emptyTapes 3 (some .int)) R7_emptyTapes [.ref p0] (f7_emptyTapes p0) qEr := by
  refine q_met (own := RX7) 2 (by decide) rfl (Nat.le_of_ble_eq_true rfl) (ls := [some (.ref p0), none, none]) rfl fun h => ?_
  unfold f7_emptyTapes
  refine p_iconst (v := (0 : Int32)) kiconst_0 dX7_emptyTapes_0 rfl ?_
  refine p_is_n (ls' := [some (.ref p0), some (.int (0 : Int32)), none]) dX7_emptyTapes_1 rfl rfl rfl rfl ?_
  refine p_iconst (v := (0 : Int32)) kiconst_0 dX7_emptyTapes_2 rfl ?_
  refine p_is_n (ls' := [some (.ref p0), some (.int (0 : Int32)), some (.int (0 : Int32))]) dX7_emptyTapes_3 rfl rfl rfl rfl ?_
  refine w7_emptyTapes_L4 l p0 h hp0 (fun x8 x9 => ?_) qN _ _
  refine p_iload_n rfl dX7_emptyTapes_40 rfl ?_
  exact p_iret rfl rfl dX7_emptyTapes_41
noncomputable def f8_feed (p1 : Int32) (p2 : Int32) (p3 : Int32) (p4 : Int32) (p5 : Int32) (h : qH) : Option (Int32 × qH) :=
  (f0_signsIn p1 h).bind fun (z1 : Int32) =>
  (f0_signsIn p2 h).bind fun (z2 : Int32) =>
  (f0_signsIn p3 h).bind fun (z3 : Int32) =>
  (f0_signsIn p4 h).bind fun (z4 : Int32) =>
  (f0_signsIn p5 h).bind fun (z5 : Int32) =>
  qlt ((((z1 + z2) + z3) + z4) + z5) fun (x6 : Int32) =>
  if ((h.1 1 1) + x6) ≤ (240 : Int32) then (
    (f0_add p1 h).bind fun (h8 : qH) =>
    (f0_add p2 h8).bind fun (h9 : qH) =>
    (f0_add p3 h9).bind fun (h10 : qH) =>
    (f0_add p4 h10).bind fun (h11 : qH) =>
    (f0_add p5 h11).bind fun (h12 : qH) =>
    some ((h12.1 1 1), h12))
  else (
    some ((-1 : Int32), h))
set_option maxRecDepth 100000 in
set_option maxHeartbeats 4000000 in
theorem m8_feed (l : Launch) (p1 : Int32) (p2 : Int32) (p3 : Int32) (p4 : Int32) (p5 : Int32) : qMet UX ROX l yX8_feed (qws yX8_feed cX8_feed 7 (some .int)) R8_feed [.ref 0, .int p1, .int p2, .int p3, .int p4, .int p5] (f8_feed p1 p2 p3 p4 p5) qEw := by
  refine q_met (own := RX8) 1 (by decide) rfl (Nat.le_of_ble_eq_true rfl) (ls := [some (.ref 0), some (.int p1), some (.int p2), some (.int p3), some (.int p4), some (.int p5), none]) rfl fun h => ?_
  unfold f8_feed
  show PW UX ROX l R8_feed cX8_feed 7 (some .int) RX8 (qEw h) 0 [some (.ref 0), some (.int p1), some (.int p2), some (.int p3), some (.int p4), some (.int p5), none] [] h _
  refine p_iload_n rfl dX8_feed_0 rfl ?_
  refine p_callSr (f := f0_signsIn p1) (st := []) [.int p1] qRokX (m0_signsIn l p1) cal_RX8_97 rfl ⟨rfl, rfl⟩ ⟨Nat.le_of_ble_eq_true rfl, Nat.le_of_ble_eq_true rfl⟩ (Nat.le_of_ble_eq_true rfl) dX8_feed_1 rfl (fun z1 => ?_)
  refine p_iload_n rfl dX8_feed_4 rfl ?_
  refine p_callSr (f := f0_signsIn p2) (st := [.int z1]) [.int p2] qRokX (m0_signsIn l p2) cal_RX8_97 rfl ⟨rfl, rfl⟩ ⟨Nat.le_of_ble_eq_true rfl, Nat.le_of_ble_eq_true rfl⟩ (Nat.le_of_ble_eq_true rfl) dX8_feed_5 rfl (fun z2 => ?_)
  refine p_iadd dX8_feed_8 rfl ?_
  refine p_iload_n rfl dX8_feed_9 rfl ?_
  refine p_callSr (f := f0_signsIn p3) (st := [.int (z1 + z2)]) [.int p3] qRokX (m0_signsIn l p3) cal_RX8_97 rfl ⟨rfl, rfl⟩ ⟨Nat.le_of_ble_eq_true rfl, Nat.le_of_ble_eq_true rfl⟩ (Nat.le_of_ble_eq_true rfl) dX8_feed_10 rfl (fun z3 => ?_)
  refine p_iadd dX8_feed_13 rfl ?_
  refine p_iload rfl dX8_feed_14 rfl ?_
  refine p_callSr (f := f0_signsIn p4) (st := [.int ((z1 + z2) + z3)]) [.int p4] qRokX (m0_signsIn l p4) cal_RX8_97 rfl ⟨rfl, rfl⟩ ⟨Nat.le_of_ble_eq_true rfl, Nat.le_of_ble_eq_true rfl⟩ (Nat.le_of_ble_eq_true rfl) dX8_feed_16 rfl (fun z4 => ?_)
  refine p_iadd dX8_feed_19 rfl ?_
  refine p_iload rfl dX8_feed_20 rfl ?_
  refine p_callSr (f := f0_signsIn p5) (st := [.int (((z1 + z2) + z3) + z4)]) [.int p5] qRokX (m0_signsIn l p5) cal_RX8_97 rfl ⟨rfl, rfl⟩ ⟨Nat.le_of_ble_eq_true rfl, Nat.le_of_ble_eq_true rfl⟩ (Nat.le_of_ble_eq_true rfl) dX8_feed_22 rfl (fun z5 => ?_)
  refine p_iadd dX8_feed_25 rfl ?_
  refine p_isN (lf := fun x6 => [some (.ref 0), some (.int p1), some (.int p2), some (.int p3), some (.int p4), some (.int p5), some (.int x6)]) dX8_feed_26 rfl rfl rfl (fun _ => rfl) (fun x6 => ?_)
  refine p_aload_n rfl dX8_feed_28 rfl ?_
  refine p_getr qg_RX8_10 uX_0 rfl dX8_feed_29 rfl ?_
  refine p_geti qg_RX8_101 uX_1 rfl dX8_feed_32 rfl ?_
  refine p_iload rfl dX8_feed_35 rfl ?_
  refine p_iadd dX8_feed_37 rfl ?_
  refine p_sipush (v := (240 : Int32)) ksipush_240 dX8_feed_38 rfl ?_
  refine p_if (fun c7 => ?_) (fun c7 => ?_)
  · refine p_icmp_le_t (tgt := 46) dX8_feed_41 (by decide) c7 ?_
    refine p_aload_n rfl dX8_feed_46 rfl ?_
    refine p_getr qg_RX8_10 uX_0 rfl dX8_feed_47 rfl ?_
    refine p_iload_n rfl dX8_feed_50 rfl ?_
    refine p_callVv (f := f0_add p1) (st := []) [.int p1] qRokX (m0_add l p1) cal_RX8_105 uX_1 rfl rfl ⟨rfl, rfl⟩ ⟨Nat.le_of_ble_eq_true rfl, Nat.le_of_ble_eq_true rfl⟩ (Nat.le_of_ble_eq_true rfl) dX8_feed_51 rfl (fun h8 => ?_)
    refine p_aload_n rfl dX8_feed_54 rfl ?_
    refine p_getr qg_RX8_10 uX_0 rfl dX8_feed_55 rfl ?_
    refine p_iload_n rfl dX8_feed_58 rfl ?_
    refine p_callVv (f := f0_add p2) (st := []) [.int p2] qRokX (m0_add l p2) cal_RX8_105 uX_1 rfl rfl ⟨rfl, rfl⟩ ⟨Nat.le_of_ble_eq_true rfl, Nat.le_of_ble_eq_true rfl⟩ (Nat.le_of_ble_eq_true rfl) dX8_feed_59 rfl (fun h9 => ?_)
    refine p_aload_n rfl dX8_feed_62 rfl ?_
    refine p_getr qg_RX8_10 uX_0 rfl dX8_feed_63 rfl ?_
    refine p_iload_n rfl dX8_feed_66 rfl ?_
    refine p_callVv (f := f0_add p3) (st := []) [.int p3] qRokX (m0_add l p3) cal_RX8_105 uX_1 rfl rfl ⟨rfl, rfl⟩ ⟨Nat.le_of_ble_eq_true rfl, Nat.le_of_ble_eq_true rfl⟩ (Nat.le_of_ble_eq_true rfl) dX8_feed_67 rfl (fun h10 => ?_)
    refine p_aload_n rfl dX8_feed_70 rfl ?_
    refine p_getr qg_RX8_10 uX_0 rfl dX8_feed_71 rfl ?_
    refine p_iload rfl dX8_feed_74 rfl ?_
    refine p_callVv (f := f0_add p4) (st := []) [.int p4] qRokX (m0_add l p4) cal_RX8_105 uX_1 rfl rfl ⟨rfl, rfl⟩ ⟨Nat.le_of_ble_eq_true rfl, Nat.le_of_ble_eq_true rfl⟩ (Nat.le_of_ble_eq_true rfl) dX8_feed_76 rfl (fun h11 => ?_)
    refine p_aload_n rfl dX8_feed_79 rfl ?_
    refine p_getr qg_RX8_10 uX_0 rfl dX8_feed_80 rfl ?_
    refine p_iload rfl dX8_feed_83 rfl ?_
    refine p_callVv (f := f0_add p5) (st := []) [.int p5] qRokX (m0_add l p5) cal_RX8_105 uX_1 rfl rfl ⟨rfl, rfl⟩ ⟨Nat.le_of_ble_eq_true rfl, Nat.le_of_ble_eq_true rfl⟩ (Nat.le_of_ble_eq_true rfl) dX8_feed_85 rfl (fun h12 => ?_)
    refine p_aload_n rfl dX8_feed_88 rfl ?_
    refine p_getr qg_RX8_10 uX_0 rfl dX8_feed_89 rfl ?_
    refine p_geti qg_RX8_101 uX_1 rfl dX8_feed_92 rfl ?_
    exact p_iret rfl rfl dX8_feed_95
  · refine p_icmp_le_f (tgt := 46) dX8_feed_41 (by decide) rfl c7 ?_
    refine p_iconst (v := (-1 : Int32)) kiconst_m1 dX8_feed_44 rfl ?_
    exact p_iret rfl rfl dX8_feed_45
noncomputable def f8_end (p1 : Int32) (h : qH) : Option (Int32 × qH) :=
  if p1 < 0 then (
    some ((0 : Int32), h))
  else (
    if p1 ≤ (h.1 1 1) then (
      qlt (qw h 1 1 p1) fun (h3 : qH) =>
      some ((1 : Int32), h3))
    else (
      some ((0 : Int32), h)))
set_option maxRecDepth 100000 in
set_option maxHeartbeats 4000000 in
theorem m8_end (l : Launch) (p1 : Int32) : qMet UX ROX l yX8_end (qws yX8_end cX8_end 2 (some .boolean)) R8_end [.ref 0, .int p1] (f8_end p1) qEw := by
  refine q_met (own := RX8) 0 (by decide) rfl (Nat.le_of_ble_eq_true rfl) (ls := [some (.ref 0), some (.int p1)]) rfl fun h => ?_
  unfold f8_end
  show PW UX ROX l R8_end cX8_end 2 (some .boolean) RX8 (qEw h) 0 [some (.ref 0), some (.int p1)] [] h _
  refine p_iload_n rfl dX8_end_0 rfl ?_
  refine p_if (fun c1 => ?_) (fun c1 => ?_)
  · refine p_if_lt_t (tgt := 15) dX8_end_1 (by decide) c1 ?_
    refine p_iconst (v := (0 : Int32)) kiconst_0 dX8_end_15 rfl ?_
    exact p_zret rfl kzr_0 rfl dX8_end_16
  · refine p_if_lt_f (tgt := 15) dX8_end_1 (by decide) rfl c1 ?_
    refine p_iload_n rfl dX8_end_4 rfl ?_
    refine p_aload_n rfl dX8_end_5 rfl ?_
    refine p_getr qg_RX8_10 uX_0 rfl dX8_end_6 rfl ?_
    refine p_geti qg_RX8_101 uX_1 rfl dX8_end_9 rfl ?_
    refine p_if (fun c2 => ?_) (fun c2 => ?_)
    · refine p_icmp_le_t (tgt := 17) dX8_end_12 (by decide) c2 ?_
      refine p_aload_n rfl dX8_end_17 rfl ?_
      refine p_getr qg_RX8_10 uX_0 rfl dX8_end_18 rfl ?_
      refine p_iload_n rfl dX8_end_21 rfl ?_
      refine p_puti qokX qp_RX8_101 uX_1 rfl dX8_end_22 rfl ?_
      refine p_nmH (fun h3 => ?_)
      refine p_iconst (v := (1 : Int32)) kiconst_1 dX8_end_25 rfl ?_
      exact p_zret rfl kzr_1 rfl dX8_end_26
    · refine p_icmp_le_f (tgt := 17) dX8_end_12 (by decide) rfl c2 ?_
      refine p_iconst (v := (0 : Int32)) kiconst_0 dX8_end_15 rfl ?_
      exact p_zret rfl kzr_0 rfl dX8_end_16
noncomputable def f8_keepScript (h : qH) : Option (Int32 × qH) :=
  qg (qin (h.1 0 6) 4) <|
  (f6_become ([23, 27, 31, 35].getD (ix (h.1 0 6)) 0) 39 h).bind fun (h2 : qH) =>
  qlt (qw h2 0 6 ((h2.1 0 6) + (1 : Int32))) fun (h3 : qH) =>
  qlt (qw h3 1 1 (0 : Int32)) fun (h4 : qH) =>
  some (((h4.1 0 6) - (1 : Int32)), h4)
set_option maxRecDepth 100000 in
set_option maxHeartbeats 4000000 in
theorem m8_keepScript (l : Launch) : qMet UX ROX l yX8_keepScript (qws yX8_keepScript cX8_keepScript 1 (some .int)) R8_keepScript [.ref 0] f8_keepScript qEw := by
  refine q_met (own := RX8) 0 (by decide) rfl (Nat.le_of_ble_eq_true rfl) (ls := [some (.ref 0)]) rfl fun h => ?_
  unfold f8_keepScript
  show PW UX ROX l R8_keepScript cX8_keepScript 1 (some .int) RX8 (qEw h) 0 [some (.ref 0)] [] h _
  refine p_aload_n rfl dX8_keepScript_0 rfl ?_
  refine p_getr qg_RX8_37 uX_0 rfl dX8_keepScript_1 rfl ?_
  refine p_aload_n rfl dX8_keepScript_4 rfl ?_
  refine p_geti qg_RX8_121 uX_0 rfl dX8_keepScript_5 rfl ?_
  refine p_aald uX_22 rfl dX8_keepScript_8 rfl (fun hq1 => ?_)
  refine p_aload_n rfl dX8_keepScript_9 rfl ?_
  refine p_getr qg_RX8_42 uX_0 rfl dX8_keepScript_10 rfl ?_
  refine p_callVv (f := f6_become ([23, 27, 31, 35].getD (ix (h.1 0 6)) 0) 39) (st := []) [.ref 39] qRokX (m6_become l (kScript_at hq1) (kScript_39)) cal_RX8_144 (uX_Script (kScript_at hq1)) rfl rfl ⟨rfl, rfl⟩ ⟨Nat.le_of_ble_eq_true rfl, Nat.le_of_ble_eq_true rfl⟩ (Nat.le_of_ble_eq_true rfl) dX8_keepScript_13 rfl (fun h2 => ?_)
  refine p_aload_n rfl dX8_keepScript_16 rfl ?_
  refine p_dup rfl dX8_keepScript_17 rfl ?_
  refine p_geti qg_RX8_121 uX_0 rfl dX8_keepScript_18 rfl ?_
  refine p_iconst (v := (1 : Int32)) kiconst_1 dX8_keepScript_21 rfl ?_
  refine p_iadd dX8_keepScript_22 rfl ?_
  refine p_puti qokX qp_RX8_121 uX_0 rfl dX8_keepScript_23 rfl ?_
  refine p_nmH (fun h3 => ?_)
  refine p_aload_n rfl dX8_keepScript_26 rfl ?_
  refine p_getr qg_RX8_10 uX_0 rfl dX8_keepScript_27 rfl ?_
  refine p_iconst (v := (0 : Int32)) kiconst_0 dX8_keepScript_30 rfl ?_
  refine p_puti qokX qp_RX8_101 uX_1 rfl dX8_keepScript_31 rfl ?_
  refine p_nmH (fun h4 => ?_)
  refine p_aload_n rfl dX8_keepScript_34 rfl ?_
  refine p_geti qg_RX8_121 uX_0 rfl dX8_keepScript_35 rfl ?_
  refine p_iconst (v := (1 : Int32)) kiconst_1 dX8_keepScript_38 rfl ?_
  refine p_isub dX8_keepScript_39 rfl ?_
  exact p_iret rfl rfl dX8_keepScript_40
noncomputable def f8_openHall (h : qH) : Option (Int32 × qH) :=
  (f4_become 6 14 h).bind fun (h1 : qH) =>
  (f7_begin 51 h1).bind fun (h2 : qH) =>
  (f3_clear h2).bind fun (h3 : qH) =>
  (f1_clear 79 h3).bind fun (h4 : qH) =>
  qlt (qw h4 0 17 (0 : Int32)) fun (h5 : qH) =>
  qlt (qw h5 1 1 (0 : Int32)) fun (h6 : qH) =>
  some ((h6.1 6 1), h6)
set_option maxRecDepth 100000 in
set_option maxHeartbeats 4000000 in
theorem m8_openHall (l : Launch) : qMet UX ROX l yX8_openHall (qws yX8_openHall cX8_openHall 1 (some .int)) R8_openHall [.ref 0] f8_openHall qEw := by
  refine q_met (own := RX8) 0 (by decide) rfl (Nat.le_of_ble_eq_true rfl) (ls := [some (.ref 0)]) rfl fun h => ?_
  unfold f8_openHall
  show PW UX ROX l R8_openHall cX8_openHall 1 (some .int) RX8 (qEw h) 0 [some (.ref 0)] [] h _
  refine p_aload_n rfl dX8_openHall_0 rfl ?_
  refine p_getr qg_RX8_28 uX_0 rfl dX8_openHall_1 rfl ?_
  refine p_aload_n rfl dX8_openHall_4 rfl ?_
  refine p_getr qg_RX8_32 uX_0 rfl dX8_openHall_5 rfl ?_
  refine p_callVv (f := f4_become 6 14) (st := []) [.ref 14] qRokX (m4_become l (kPlan_6) (kPlan_14)) cal_RX8_127 uX_6 rfl rfl ⟨rfl, rfl⟩ ⟨Nat.le_of_ble_eq_true rfl, Nat.le_of_ble_eq_true rfl⟩ (Nat.le_of_ble_eq_true rfl) dX8_openHall_8 rfl (fun h1 => ?_)
  refine p_aload_n rfl dX8_openHall_11 rfl ?_
  refine p_getr qg_RX8_60 uX_0 rfl dX8_openHall_12 rfl ?_
  refine p_callVv (f := f7_begin 51) (st := []) [] qRokX (m7_begin l (kStage_51)) cal_RX8_130 uX_51 rfl rfl ⟨rfl, rfl⟩ ⟨Nat.le_of_ble_eq_true rfl, Nat.le_of_ble_eq_true rfl⟩ (Nat.le_of_ble_eq_true rfl) dX8_openHall_15 rfl (fun h2 => ?_)
  refine p_aload_n rfl dX8_openHall_18 rfl ?_
  refine p_getr qg_RX8_77 uX_0 rfl dX8_openHall_19 rfl ?_
  refine p_callVv (f := f3_clear) (st := []) [] qRokX (m3_clear l) cal_RX8_133 uX_77 rfl rfl ⟨rfl, rfl⟩ ⟨Nat.le_of_ble_eq_true rfl, Nat.le_of_ble_eq_true rfl⟩ (Nat.le_of_ble_eq_true rfl) dX8_openHall_22 rfl (fun h3 => ?_)
  refine p_aload_n rfl dX8_openHall_25 rfl ?_
  refine p_getr qg_RX8_84 uX_0 rfl dX8_openHall_26 rfl ?_
  refine p_callVv (f := f1_clear 79) (st := []) [] qRokX (m1_clear l (kLog_79)) cal_RX8_136 uX_79 rfl rfl ⟨rfl, rfl⟩ ⟨Nat.le_of_ble_eq_true rfl, Nat.le_of_ble_eq_true rfl⟩ (Nat.le_of_ble_eq_true rfl) dX8_openHall_29 rfl (fun h4 => ?_)
  refine p_aload_n rfl dX8_openHall_32 rfl ?_
  refine p_iconst (v := (0 : Int32)) kiconst_0 dX8_openHall_33 rfl ?_
  refine p_putz qokX kz_0 qp_RX8_137 uX_0 rfl dX8_openHall_34 rfl ?_
  refine p_nmH (fun h5 => ?_)
  refine p_aload_n rfl dX8_openHall_37 rfl ?_
  refine p_getr qg_RX8_10 uX_0 rfl dX8_openHall_38 rfl ?_
  refine p_iconst (v := (0 : Int32)) kiconst_0 dX8_openHall_41 rfl ?_
  refine p_puti qokX qp_RX8_101 uX_1 rfl dX8_openHall_42 rfl ?_
  refine p_nmH (fun h6 => ?_)
  refine p_aload_n rfl dX8_openHall_45 rfl ?_
  refine p_getr qg_RX8_28 uX_0 rfl dX8_openHall_46 rfl ?_
  refine p_geti qg_RX8_141 uX_6 rfl dX8_openHall_49 rfl ?_
  exact p_iret rfl rfl dX8_openHall_52
noncomputable def f8_rule (p1 : Int32) (h : qH) : Option (Int32) :=
  (f4_isTold 6 h).bind fun (z1 : Int32) =>
  if z1 = 0 then (
    some (-1 : Int32))
  else (
    if p1 < 0 then (
      some (-1 : Int32))
    else (
      if p1 ≤ (8 : Int32) then (
        qj (fun (x5 : Int32) =>
          some x5) fun j6 =>
        if p1 = (8 : Int32) then (
          j6 (h.1 6 7))
        else (
          qg (qin p1 8) <|
          j6 (h.1 7 (ix p1))))
      else (
        some (-1 : Int32))))
set_option maxRecDepth 100000 in
set_option maxHeartbeats 4000000 in
theorem m8_rule (l : Launch) (p1 : Int32) : qMet UX ROX l yX8_rule (qws yX8_rule cX8_rule 2 (some .int)) R8_rule [.ref 0, .int p1] (f8_rule p1) qEr := by
  refine q_met (own := RX8) 0 (by decide) rfl (Nat.le_of_ble_eq_true rfl) (ls := [some (.ref 0), some (.int p1)]) rfl fun h => ?_
  unfold f8_rule
  refine p_aload_n rfl dX8_rule_0 rfl ?_
  refine p_getr qg_RX8_28 uX_0 rfl dX8_rule_1 rfl ?_
  refine p_callVr (f := f4_isTold 6) (st := []) [] qRokX (m4_isTold l (kPlan_6)) cal_RX8_147 uX_6 rfl rfl ⟨rfl, rfl⟩ ⟨Nat.le_of_ble_eq_true rfl, Nat.le_of_ble_eq_true rfl⟩ (Nat.le_of_ble_eq_true rfl) dX8_rule_4 rfl (fun z1 => ?_)
  refine p_if (fun c2 => ?_) (fun c2 => ?_)
  · refine p_if_eq_t (tgt := 20) dX8_rule_7 (by decide) c2 ?_
    refine p_iconst (v := (-1 : Int32)) kiconst_m1 dX8_rule_20 rfl ?_
    exact p_iret rfl rfl dX8_rule_21
  · refine p_if_eq_f (tgt := 20) dX8_rule_7 (by decide) rfl c2 ?_
    refine p_iload_n rfl dX8_rule_10 rfl ?_
    refine p_if (fun c3 => ?_) (fun c3 => ?_)
    · refine p_if_lt_t (tgt := 20) dX8_rule_11 (by decide) c3 ?_
      refine p_iconst (v := (-1 : Int32)) kiconst_m1 dX8_rule_20 rfl ?_
      exact p_iret rfl rfl dX8_rule_21
    · refine p_if_lt_f (tgt := 20) dX8_rule_11 (by decide) rfl c3 ?_
      refine p_iload_n rfl dX8_rule_14 rfl ?_
      refine p_bipush (v := (8 : Int32)) kbipush_8 dX8_rule_15 rfl ?_
      refine p_if (fun c4 => ?_) (fun c4 => ?_)
      · refine p_icmp_le_t (tgt := 22) dX8_rule_17 (by decide) c4 ?_
        refine p_iload_n rfl dX8_rule_22 rfl ?_
        refine p_bipush (v := (8 : Int32)) kbipush_8 dX8_rule_23 rfl ?_
        refine p_jn (fun j6 => ∀ (x5 : Int32), PW UX ROX l R8_rule cX8_rule 2 (some .int) RX8 (qEr h) 47 [some (.ref 0), some (.int p1)] [.int x5] h (j6 x5)) (fun x5 => ?_) (fun j6 J7 => ?_)
        · exact p_iret rfl rfl dX8_rule_47
        · refine p_if (fun c8 => ?_) (fun c8 => ?_)
          · refine p_icmp_ne_f (tgt := 38) dX8_rule_25 (by decide) rfl c8 ?_
            refine p_aload_n rfl dX8_rule_28 rfl ?_
            refine p_getr qg_RX8_28 uX_0 rfl dX8_rule_29 rfl ?_
            refine p_geti qg_RX8_151 uX_6 rfl dX8_rule_32 rfl ?_
            refine p_goto (tgt := 47) dX8_rule_35 (by decide) ?_
            exact J7 (h.1 6 7)
          · refine p_icmp_ne_t (tgt := 38) dX8_rule_25 (by decide) c8 ?_
            refine p_aload_n rfl dX8_rule_38 rfl ?_
            refine p_getr qg_RX8_28 uX_0 rfl dX8_rule_39 rfl ?_
            refine p_getr qg_RX8_154 uX_6 rfl dX8_rule_42 rfl ?_
            refine p_iload_n rfl dX8_rule_45 rfl ?_
            refine p_iald uX_7 dX8_rule_46 rfl (fun _ => ?_)
            exact J7 (h.1 7 (ix p1))
      · refine p_icmp_le_f (tgt := 22) dX8_rule_17 (by decide) rfl c4 ?_
        refine p_iconst (v := (-1 : Int32)) kiconst_m1 dX8_rule_20 rfl ?_
        exact p_iret rfl rfl dX8_rule_21
noncomputable def f8_file (p1 : Int32) (p2 : Int32) (h : qH) : Option (Int32) :=
  (f7_isFile 51 p1 h).bind fun (z1 : Int32) =>
  if z1 = 0 then (
    some (-1000000 : Int32))
  else (
    qg (qin p1 24) <|
    qlt (if (h.1 58 (ix p1)) = (-1 : Int32) then (1 : Int32) else (0 : Int32)) fun (x4 : Int32) =>
    if p2 = (0 : Int32) then (
      qg (qin p1 24) <|
      some (h.1 58 (ix p1)))
    else (
      if p2 = (1 : Int32) then (
      qj (fun (x7 : Int32) =>
        some x7) fun j8 =>
      if x4 = 0 then (
        qg (qin p1 24) <|
        j8 (h.1 59 (ix p1)))
      else (
        j8 (-1000000 : Int32)))
    else (
      if p2 = (2 : Int32) then (
      qj (fun (x12 : Int32) =>
        some x12) fun j13 =>
      if x4 = 0 then (
        qg (qin p1 24) <|
        j13 (h.1 60 (ix p1)))
      else (
        j13 (-1000000 : Int32)))
    else (
      if p2 = (3 : Int32) then (
      qg (qin p1 24) <|
      some (h.1 61 (ix p1)))
    else (
      if p2 = (4 : Int32) then (
      qg (qin p1 24) <|
      some (h.1 62 (ix p1)))
    else (
      some (-1000000 : Int32)))))))
set_option maxRecDepth 100000 in
set_option maxHeartbeats 4000000 in
theorem m8_file (l : Launch) (p1 : Int32) (p2 : Int32) : qMet UX ROX l yX8_file (qws yX8_file cX8_file 4 (some .int)) R8_file [.ref 0, .int p1, .int p2] (f8_file p1 p2) qEr := by
  refine q_met (own := RX8) 1 (by decide) rfl (Nat.le_of_ble_eq_true rfl) (ls := [some (.ref 0), some (.int p1), some (.int p2), none]) rfl fun h => ?_
  unfold f8_file
  refine p_aload_n rfl dX8_file_0 rfl ?_
  refine p_getr qg_RX8_60 uX_0 rfl dX8_file_1 rfl ?_
  refine p_iload_n rfl dX8_file_4 rfl ?_
  refine p_callVr (f := f7_isFile 51 p1) (st := []) [.int p1] qRokX (m7_isFile l (kStage_51) p1) cal_RX8_204 uX_51 rfl rfl ⟨rfl, rfl⟩ ⟨Nat.le_of_ble_eq_true rfl, Nat.le_of_ble_eq_true rfl⟩ (Nat.le_of_ble_eq_true rfl) dX8_file_5 rfl (fun z1 => ?_)
  refine p_if (fun c2 => ?_) (fun c2 => ?_)
  · refine p_if_ne_f (tgt := 14) dX8_file_8 (by decide) rfl c2 ?_
    refine p_ldc (v := (-1000000 : Int32)) kcRX8_207 dX8_file_11 rfl ?_
    exact p_iret rfl rfl dX8_file_13
  · refine p_if_ne_t (tgt := 14) dX8_file_8 (by decide) c2 ?_
    refine p_aload_n rfl dX8_file_14 rfl ?_
    refine p_getr qg_RX8_60 uX_0 rfl dX8_file_15 rfl ?_
    refine p_getr qg_RX8_208 uX_51 rfl dX8_file_18 rfl ?_
    refine p_iload_n rfl dX8_file_21 rfl ?_
    refine p_iald uX_58 dX8_file_22 rfl (fun _ => ?_)
    refine p_iconst (v := (-1 : Int32)) kiconst_m1 dX8_file_23 rfl ?_
    refine p_vj 32 [some (.ref 0), some (.int p1), some (.int p2), none] [] (fun x4 => ?_) (fun J => ?_)
    · refine p_is_n (ls' := [some (.ref 0), some (.int p1), some (.int p2), some (.int x4)]) dX8_file_32 rfl rfl rfl rfl ?_
      refine p_iload_n rfl dX8_file_33 rfl ?_
      refine p_if (fun c5 => ?_) (fun c5 => ?_)
      · refine p_swI (v := (0 : Int32)) (tgt := 68) dX8_file_34 c5 (by decide) (by decide) rfl (by decide) ?_
        refine p_aload_n rfl dX8_file_68 rfl ?_
        refine p_getr qg_RX8_60 uX_0 rfl dX8_file_69 rfl ?_
        refine p_getr qg_RX8_208 uX_51 rfl dX8_file_72 rfl ?_
        refine p_iload_n rfl dX8_file_75 rfl ?_
        refine p_iald uX_58 dX8_file_76 rfl (fun _ => ?_)
        exact p_iret rfl rfl dX8_file_77
      · refine p_if (fun c6 => ?_) (fun c6 => ?_)
        · refine p_swI (v := (1 : Int32)) (tgt := 78) dX8_file_34 c6 (by decide) (by decide) rfl (by decide) ?_
          refine p_iload_n rfl dX8_file_78 rfl ?_
          refine p_jn (fun j8 => ∀ (x7 : Int32), PW UX ROX l R8_file cX8_file 4 (some .int) RX8 (qEr h) 96 [some (.ref 0), some (.int p1), some (.int p2), some (.int x4)] [.int x7] h (j8 x7)) (fun x7 => ?_) (fun j8 J9 => ?_)
          · exact p_iret rfl rfl dX8_file_96
          · refine p_if (fun c10 => ?_) (fun c10 => ?_)
            · refine p_if_eq_t (tgt := 87) dX8_file_79 (by decide) c10 ?_
              refine p_aload_n rfl dX8_file_87 rfl ?_
              refine p_getr qg_RX8_60 uX_0 rfl dX8_file_88 rfl ?_
              refine p_getr qg_RX8_211 uX_51 rfl dX8_file_91 rfl ?_
              refine p_iload_n rfl dX8_file_94 rfl ?_
              refine p_iald uX_59 dX8_file_95 rfl (fun _ => ?_)
              exact J9 (h.1 59 (ix p1))
            · refine p_if_eq_f (tgt := 87) dX8_file_79 (by decide) rfl c10 ?_
              refine p_ldc (v := (-1000000 : Int32)) kcRX8_207 dX8_file_82 rfl ?_
              refine p_goto (tgt := 96) dX8_file_84 (by decide) ?_
              exact J9 (-1000000 : Int32)
        · refine p_if (fun c11 => ?_) (fun c11 => ?_)
          · refine p_swI (v := (2 : Int32)) (tgt := 97) dX8_file_34 c11 (by decide) (by decide) rfl (by decide) ?_
            refine p_iload_n rfl dX8_file_97 rfl ?_
            refine p_jn (fun j13 => ∀ (x12 : Int32), PW UX ROX l R8_file cX8_file 4 (some .int) RX8 (qEr h) 115 [some (.ref 0), some (.int p1), some (.int p2), some (.int x4)] [.int x12] h (j13 x12)) (fun x12 => ?_) (fun j13 J14 => ?_)
            · exact p_iret rfl rfl dX8_file_115
            · refine p_if (fun c15 => ?_) (fun c15 => ?_)
              · refine p_if_eq_t (tgt := 106) dX8_file_98 (by decide) c15 ?_
                refine p_aload_n rfl dX8_file_106 rfl ?_
                refine p_getr qg_RX8_60 uX_0 rfl dX8_file_107 rfl ?_
                refine p_getr qg_RX8_214 uX_51 rfl dX8_file_110 rfl ?_
                refine p_iload_n rfl dX8_file_113 rfl ?_
                refine p_iald uX_60 dX8_file_114 rfl (fun _ => ?_)
                exact J14 (h.1 60 (ix p1))
              · refine p_if_eq_f (tgt := 106) dX8_file_98 (by decide) rfl c15 ?_
                refine p_ldc (v := (-1000000 : Int32)) kcRX8_207 dX8_file_101 rfl ?_
                refine p_goto (tgt := 115) dX8_file_103 (by decide) ?_
                exact J14 (-1000000 : Int32)
          · refine p_if (fun c16 => ?_) (fun c16 => ?_)
            · refine p_swI (v := (3 : Int32)) (tgt := 116) dX8_file_34 c16 (by decide) (by decide) rfl (by decide) ?_
              refine p_aload_n rfl dX8_file_116 rfl ?_
              refine p_getr qg_RX8_60 uX_0 rfl dX8_file_117 rfl ?_
              refine p_getr qg_RX8_217 uX_51 rfl dX8_file_120 rfl ?_
              refine p_iload_n rfl dX8_file_123 rfl ?_
              refine p_iald uX_61 dX8_file_124 rfl (fun _ => ?_)
              exact p_iret rfl rfl dX8_file_125
            · refine p_if (fun c17 => ?_) (fun c17 => ?_)
              · refine p_swI (v := (4 : Int32)) (tgt := 126) dX8_file_34 c17 (by decide) (by decide) rfl (by decide) ?_
                refine p_aload_n rfl dX8_file_126 rfl ?_
                refine p_getr qg_RX8_60 uX_0 rfl dX8_file_127 rfl ?_
                refine p_getr qg_RX8_220 uX_51 rfl dX8_file_130 rfl ?_
                refine p_iload_n rfl dX8_file_133 rfl ?_
                refine p_iald uX_62 dX8_file_134 rfl (fun _ => ?_)
                exact p_iret rfl rfl dX8_file_135
              · refine p_swO (tgt := 136) dX8_file_34 (by
                    have c5' := lv_neT c5 (a := 0) (by decide)
                    have c6' := lv_neT c6 (a := 1) (by decide)
                    have c11' := lv_neT c11 (a := 2) (by decide)
                    have c16' := lv_neT c16 (a := 3) (by decide)
                    have c17' := lv_neT c17 (a := 4) (by decide)
                    omega) (by decide) ?_
                refine p_ldc (v := (-1000000 : Int32)) kcRX8_207 dX8_file_136 rfl ?_
                exact p_iret rfl rfl dX8_file_138
    · refine p_dia (fun c3 => ?_) (fun c3 => ?_)
      · refine p_icmp_ne_f (tgt := 31) dX8_file_24 (by decide) rfl c3 ?_
        refine p_iconst (v := (1 : Int32)) kiconst_1 dX8_file_27 rfl ?_
        refine p_goto (tgt := 32) dX8_file_28 (by decide) ?_
        exact J _
      · refine p_icmp_ne_t (tgt := 31) dX8_file_24 (by decide) c3 ?_
        refine p_iconst (v := (0 : Int32)) kiconst_0 dX8_file_31 rfl ?_
        exact J _
noncomputable def f8_drive (p1 : Int32) (h : qH) : Option (Int32) :=
  qj (fun (x1 : Int32) =>
    some x1) fun j2 =>
  if 0 ≤ p1 then (
    (f7_tapeIn 51 p1 h).bind fun (z5 : Int32) =>
    j2 z5)
  else (
    j2 (-1 : Int32))
set_option maxRecDepth 100000 in
set_option maxHeartbeats 4000000 in
theorem m8_drive (l : Launch) (p1 : Int32) : qMet UX ROX l yX8_drive (qws yX8_drive cX8_drive 2 (some .int)) R8_drive [.ref 0, .int p1] (f8_drive p1) qEr := by
  refine q_met (own := RX8) 0 (by decide) rfl (Nat.le_of_ble_eq_true rfl) (ls := [some (.ref 0), some (.int p1)]) rfl fun h => ?_
  unfold f8_drive
  refine p_iload_n rfl dX8_drive_0 rfl ?_
  refine p_jn (fun j2 => ∀ (x1 : Int32), PW UX ROX l R8_drive cX8_drive 2 (some .int) RX8 (qEr h) 16 [some (.ref 0), some (.int p1)] [.int x1] h (j2 x1)) (fun x1 => ?_) (fun j2 J3 => ?_)
  · exact p_iret rfl rfl dX8_drive_16
  · refine p_if (fun c4 => ?_) (fun c4 => ?_)
    · refine p_if_ge_t (tgt := 8) dX8_drive_1 (by decide) c4 ?_
      refine p_aload_n rfl dX8_drive_8 rfl ?_
      refine p_getr qg_RX8_60 uX_0 rfl dX8_drive_9 rfl ?_
      refine p_iload_n rfl dX8_drive_12 rfl ?_
      refine p_callVr (f := f7_tapeIn 51 p1) (st := []) [.int p1] qRokX (m7_tapeIn l (kStage_51) p1) cal_RX8_223 uX_51 rfl rfl ⟨rfl, rfl⟩ ⟨Nat.le_of_ble_eq_true rfl, Nat.le_of_ble_eq_true rfl⟩ (Nat.le_of_ble_eq_true rfl) dX8_drive_13 rfl (fun z5 => ?_)
      exact J3 z5
    · refine p_if_ge_f (tgt := 8) dX8_drive_1 (by decide) rfl c4 ?_
      refine p_iconst (v := (-1 : Int32)) kiconst_m1 dX8_drive_4 rfl ?_
      refine p_goto (tgt := 16) dX8_drive_5 (by decide) ?_
      exact J3 (-1 : Int32)
noncomputable def f8_labelled_L2 (p1 : Int32) (h : qH) (k : Int32 → Option (Int32)) : Nat → Int32 → Option (Int32)
  | 0, _ => none
  | n + 1, x1 =>
    if (h.1 6 1) ≤ x1 then (
      k x1)
    else (
      qg (qin x1 8) <|
      if (h.1 8 (ix x1)) = p1 then (
        some x1)
      else (
        qlt (x1 + (1 : Int32)) fun (x4 : Int32) =>
        f8_labelled_L2 p1 h k n x4))
set_option maxRecDepth 100000 in
set_option maxHeartbeats 4000000 in
theorem w8_labelled_L2 (l : Launch) (p1 : Int32) (h : qH) {k : Int32 → Option (Int32)} (hk : ∀ (x1 : Int32), PW UX ROX l R8_labelled cX8_labelled 3 (some .int) RX8 (qEr h) 34 [some (.ref 0), some (.int p1), some (.int x1)] [] h (k x1)) : ∀ (n : Nat) (x1 : Int32), PW UX ROX l R8_labelled cX8_labelled 3 (some .int) RX8 (qEr h) 2 [some (.ref 0), some (.int p1), some (.int x1)] [] h (f8_labelled_L2 p1 h k n x1) := by
  intro n
  induction n with
  | zero => intro _; exact p_none
  | succ n ih =>
    intro x1
    unfold f8_labelled_L2
    refine p_iload_n rfl dX8_labelled_2 rfl ?_
    refine p_aload_n rfl dX8_labelled_3 rfl ?_
    refine p_getr qg_RX8_28 uX_0 rfl dX8_labelled_4 rfl ?_
    refine p_geti qg_RX8_141 uX_6 rfl dX8_labelled_7 rfl ?_
    refine p_if (fun c2 => ?_) (fun c2 => ?_)
    · refine p_icmp_ge_t (tgt := 34) dX8_labelled_10 (by decide) c2 ?_
      exact hk x1
    · refine p_icmp_ge_f (tgt := 34) dX8_labelled_10 (by decide) rfl c2 ?_
      refine p_aload_n rfl dX8_labelled_13 rfl ?_
      refine p_getr qg_RX8_28 uX_0 rfl dX8_labelled_14 rfl ?_
      refine p_getr qg_RX8_171 uX_6 rfl dX8_labelled_17 rfl ?_
      refine p_iload_n rfl dX8_labelled_20 rfl ?_
      refine p_iald uX_8 dX8_labelled_21 rfl (fun _ => ?_)
      refine p_iload_n rfl dX8_labelled_22 rfl ?_
      refine p_if (fun c3 => ?_) (fun c3 => ?_)
      · refine p_icmp_ne_f (tgt := 28) dX8_labelled_23 (by decide) rfl c3 ?_
        refine p_iload_n rfl dX8_labelled_26 rfl ?_
        exact p_iret rfl rfl dX8_labelled_27
      · refine p_icmp_ne_t (tgt := 28) dX8_labelled_23 (by decide) c3 ?_
        refine p_iiN (v := (1 : Int32)) (lf := fun x4 => [some (.ref 0), some (.int p1), some (.int x4)]) kiconst_1 dX8_labelled_28 rfl rfl rfl rfl (fun _ => rfl) (fun x4 => ?_)
        refine p_goto (tgt := 2) dX8_labelled_31 (by decide) ?_
        exact ih x4
noncomputable def f8_labelled (p1 : Int32) (h : qH) : Option (Int32) :=
  f8_labelled_L2 p1 h (fun (x5 : Int32) =>
    some (-1 : Int32)) qN (0 : Int32)
set_option maxRecDepth 100000 in
set_option maxHeartbeats 4000000 in
theorem m8_labelled (l : Launch) (p1 : Int32) : qMet UX ROX l yX8_labelled (qws yX8_labelled cX8_labelled 3 (some .int)) R8_labelled [.ref 0, .int p1] (f8_labelled p1) qEr := by
  refine q_met (own := RX8) 1 (by decide) rfl (Nat.le_of_ble_eq_true rfl) (ls := [some (.ref 0), some (.int p1), none]) rfl fun h => ?_
  unfold f8_labelled
  refine p_iconst (v := (0 : Int32)) kiconst_0 dX8_labelled_0 rfl ?_
  refine p_is_n (ls' := [some (.ref 0), some (.int p1), some (.int (0 : Int32))]) dX8_labelled_1 rfl rfl rfl rfl ?_
  refine w8_labelled_L2 l p1 h (fun x5 => ?_) qN _
  refine p_iconst (v := (-1 : Int32)) kiconst_m1 dX8_labelled_34 rfl ?_
  exact p_iret rfl rfl dX8_labelled_35
noncomputable def f8_way (p1 : Int32) (p2 : Int32) (h : qH) : Option (Int32) :=
  (f4_isPlace 6 p1 h).bind fun (z1 : Int32) =>
  qj (fun (x2 : Int32) =>
    some x2) fun j3 =>
  if z1 = 0 then (
    j3 (-1 : Int32))
  else (
    (f4_isPlace 6 p2 h).bind fun (z6 : Int32) =>
    if z6 = 0 then (
      j3 (-1 : Int32))
    else (
      (f4_armTime 6 p1 p2 h).bind fun (z8 : Int32) =>
      j3 z8))
set_option maxRecDepth 100000 in
set_option maxHeartbeats 4000000 in
theorem m8_way (l : Launch) (p1 : Int32) (p2 : Int32) : qMet UX ROX l yX8_way (qws yX8_way cX8_way 3 (some .int)) R8_way [.ref 0, .int p1, .int p2] (f8_way p1 p2) qEr := by
  refine q_met (own := RX8) 0 (by decide) rfl (Nat.le_of_ble_eq_true rfl) (ls := [some (.ref 0), some (.int p1), some (.int p2)]) rfl fun h => ?_
  unfold f8_way
  refine p_aload_n rfl dX8_way_0 rfl ?_
  refine p_getr qg_RX8_28 uX_0 rfl dX8_way_1 rfl ?_
  refine p_iload_n rfl dX8_way_4 rfl ?_
  refine p_callVr (f := f4_isPlace 6 p1) (st := []) [.int p1] qRokX (m4_isPlace l (kPlan_6) p1) cal_RX8_226 uX_6 rfl rfl ⟨rfl, rfl⟩ ⟨Nat.le_of_ble_eq_true rfl, Nat.le_of_ble_eq_true rfl⟩ (Nat.le_of_ble_eq_true rfl) dX8_way_5 rfl (fun z1 => ?_)
  refine p_jn (fun j3 => ∀ (x2 : Int32), PW UX ROX l R8_way cX8_way 3 (some .int) RX8 (qEr h) 35 [some (.ref 0), some (.int p1), some (.int p2)] [.int x2] h (j3 x2)) (fun x2 => ?_) (fun j3 J4 => ?_)
  · exact p_iret rfl rfl dX8_way_35
  · refine p_if (fun c5 => ?_) (fun c5 => ?_)
    · refine p_if_eq_t (tgt := 34) dX8_way_8 (by decide) c5 ?_
      refine p_iconst (v := (-1 : Int32)) kiconst_m1 dX8_way_34 rfl ?_
      exact J4 (-1 : Int32)
    · refine p_if_eq_f (tgt := 34) dX8_way_8 (by decide) rfl c5 ?_
      refine p_aload_n rfl dX8_way_11 rfl ?_
      refine p_getr qg_RX8_28 uX_0 rfl dX8_way_12 rfl ?_
      refine p_iload_n rfl dX8_way_15 rfl ?_
      refine p_callVr (f := f4_isPlace 6 p2) (st := []) [.int p2] qRokX (m4_isPlace l (kPlan_6) p2) cal_RX8_226 uX_6 rfl rfl ⟨rfl, rfl⟩ ⟨Nat.le_of_ble_eq_true rfl, Nat.le_of_ble_eq_true rfl⟩ (Nat.le_of_ble_eq_true rfl) dX8_way_16 rfl (fun z6 => ?_)
      refine p_if (fun c7 => ?_) (fun c7 => ?_)
      · refine p_if_eq_t (tgt := 34) dX8_way_19 (by decide) c7 ?_
        refine p_iconst (v := (-1 : Int32)) kiconst_m1 dX8_way_34 rfl ?_
        exact J4 (-1 : Int32)
      · refine p_if_eq_f (tgt := 34) dX8_way_19 (by decide) rfl c7 ?_
        refine p_aload_n rfl dX8_way_22 rfl ?_
        refine p_getr qg_RX8_28 uX_0 rfl dX8_way_23 rfl ?_
        refine p_iload_n rfl dX8_way_26 rfl ?_
        refine p_iload_n rfl dX8_way_27 rfl ?_
        refine p_callVr (f := f4_armTime 6 p1 p2) (st := []) [.int p1, .int p2] qRokX (m4_armTime l (kPlan_6) p1 p2) cal_RX8_229 uX_6 rfl rfl ⟨rfl, rfl⟩ ⟨Nat.le_of_ble_eq_true rfl, Nat.le_of_ble_eq_true rfl⟩ (Nat.le_of_ble_eq_true rfl) dX8_way_28 rfl (fun z8 => ?_)
        refine p_goto (tgt := 35) dX8_way_31 (by decide) ?_
        exact J4 z8
