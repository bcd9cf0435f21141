noncomputable def f2_timeOf_L2 (p1 : Int32) (k : Int32 → qH → Option (Int32 × qH)) : Nat → Int32 → qH → Option (Int32 × qH)
  | 0, _, _ => none
  | n + 1, x1, h2 =>
    if (h2.1 43 1) ≤ x1 then (
      k x1 h2)
    else (
      qg (qin x1 12) <|
      qlt (qw h2 48 (ix x1) x1) fun (h4 : qH) =>
      qlt (x1 + (1 : Int32)) fun (x5 : Int32) =>
      f2_timeOf_L2 p1 k n x5 h4)
set_option maxRecDepth 100000 in
set_option maxHeartbeats 4000000 in
theorem w2_timeOf_L2 (l : Launch) (h0 : qH) (p1 : Int32) {k : Int32 → qH → Option (Int32 × qH)} (hk : ∀ (x1 : Int32) (h2 : qH), PW UX ROX l R2_timeOf cX2_timeOf 7 (some .int) RX2 (qEw h0) 23 [some (.ref 43), some (.int p1), some (.int x1), none, none, none, none] [] h2 (k x1 h2)) : ∀ (n : Nat) (x1 : Int32) (h2 : qH), PW UX ROX l R2_timeOf cX2_timeOf 7 (some .int) RX2 (qEw h0) 2 [some (.ref 43), some (.int p1), some (.int x1), none, none, none, none] [] h2 (f2_timeOf_L2 p1 k n x1 h2) := by
  intro n
  induction n with
  | zero => intro _ _; exact p_none
  | succ n ih =>
    intro x1 h2
    unfold f2_timeOf_L2
    refine p_iload_n rfl dX2_timeOf_2 rfl ?_
    refine p_aload_n rfl dX2_timeOf_3 rfl ?_
    refine p_geti qg_RX2_37 uX_43 rfl dX2_timeOf_4 rfl ?_
    refine p_if (fun c3 => ?_) (fun c3 => ?_)
    · refine p_icmp_ge_t (tgt := 23) dX2_timeOf_7 (by decide) c3 ?_
      exact hk x1 h2
    · refine p_icmp_ge_f (tgt := 23) dX2_timeOf_7 (by decide) rfl c3 ?_
      refine p_aload_n rfl dX2_timeOf_10 rfl ?_
      refine p_getr qg_RX2_24 uX_43 rfl dX2_timeOf_11 rfl ?_
      refine p_iload_n rfl dX2_timeOf_14 rfl ?_
      refine p_iload_n rfl dX2_timeOf_15 rfl ?_
      refine p_iast qokX uX_48 dX2_timeOf_16 rfl (fun _ => ?_)
      refine p_nmH (fun h4 => ?_)
      refine p_iiN (v := (1 : Int32)) (lf := fun x5 => [some (.ref 43), some (.int p1), some (.int x5), none, none, none, none]) kiconst_1 dX2_timeOf_17 rfl rfl rfl rfl (fun _ => rfl) (fun x5 => ?_)
      refine p_goto (tgt := 2) dX2_timeOf_20 (by decide) ?_
      exact ih x5 h4
noncomputable def f2_timeOf_L52 (p1 : Int32) (x9 : Int32) (x10 : Int32) (x11 : Int32) (h : qH) (k : Int32 → Int32 → Option (Int32 × qH)) : Nat → Int32 → Int32 → Option (Int32 × qH)
  | 0, _, _ => none
  | n + 1, x15, x16 =>
    if (h.1 43 1) ≤ x16 then (
      k x15 x16)
    else (
      qg (qin x16 12) <|
      qg (qin x15 12) <|
      (f2_isAhead p1 (h.1 48 (ix x16)) (h.1 48 (ix x15)) x9 h).bind fun (z18 : Int32) =>
      qlt (if z18 = 0 then x15 else x16) fun (x20 : Int32) =>
      qlt (x16 + (1 : Int32)) fun (x21 : Int32) =>
      f2_timeOf_L52 p1 x9 x10 x11 h k n x20 x21)
set_option maxRecDepth 100000 in
set_option maxHeartbeats 4000000 in
theorem w2_timeOf_L52 (l : Launch) (h0 : qH) (p1 : Int32) (x9 : Int32) (x10 : Int32) (x11 : Int32) (h : qH) {k : Int32 → Int32 → Option (Int32 × qH)} (hk : ∀ (x15 : Int32) (x16 : Int32), PW UX ROX l R2_timeOf cX2_timeOf 7 (some .int) RX2 (qEw h0) 99 [some (.ref 43), some (.int p1), some (.int x9), some (.int x10), some (.int x11), some (.int x15), some (.int x16)] [] h (k x15 x16)) : ∀ (n : Nat) (x15 : Int32) (x16 : Int32), PW UX ROX l R2_timeOf cX2_timeOf 7 (some .int) RX2 (qEw h0) 52 [some (.ref 43), some (.int p1), some (.int x9), some (.int x10), some (.int x11), some (.int x15), some (.int x16)] [] h (f2_timeOf_L52 p1 x9 x10 x11 h k n x15 x16) := by
  intro n
  induction n with
  | zero => intro _ _; exact p_none
  | succ n ih =>
    intro x15 x16
    unfold f2_timeOf_L52
    refine p_iload rfl dX2_timeOf_52 rfl ?_
    refine p_aload_n rfl dX2_timeOf_54 rfl ?_
    refine p_geti qg_RX2_37 uX_43 rfl dX2_timeOf_55 rfl ?_
    refine p_if (fun c17 => ?_) (fun c17 => ?_)
    · refine p_icmp_ge_t (tgt := 99) dX2_timeOf_58 (by decide) c17 ?_
      exact hk x15 x16
    · refine p_icmp_ge_f (tgt := 99) dX2_timeOf_58 (by decide) rfl c17 ?_
      refine p_aload_n rfl dX2_timeOf_61 rfl ?_
      refine p_iload_n rfl dX2_timeOf_62 rfl ?_
      refine p_aload_n rfl dX2_timeOf_63 rfl ?_
      refine p_getr qg_RX2_24 uX_43 rfl dX2_timeOf_64 rfl ?_
      refine p_iload rfl dX2_timeOf_67 rfl ?_
      refine p_iald uX_48 dX2_timeOf_69 rfl (fun _ => ?_)
      refine p_aload_n rfl dX2_timeOf_70 rfl ?_
      refine p_getr qg_RX2_24 uX_43 rfl dX2_timeOf_71 rfl ?_
      refine p_iload rfl dX2_timeOf_74 rfl ?_
      refine p_iald uX_48 dX2_timeOf_76 rfl (fun _ => ?_)
      refine p_iload_n rfl dX2_timeOf_77 rfl ?_
      refine p_callVr (f := f2_isAhead p1 (h.1 48 (ix x16)) (h.1 48 (ix x15)) x9) (st := []) [.int p1, .int (h.1 48 (ix x16)), .int (h.1 48 (ix x15)), .int x9] qRokX (m2_isAhead l p1 (h.1 48 (ix x16)) (h.1 48 (ix x15)) x9) cal_RX2_61 uX_43 rfl rfl ⟨rfl, rfl⟩ ⟨Nat.le_of_ble_eq_true rfl, Nat.le_of_ble_eq_true rfl⟩ (Nat.le_of_ble_eq_true rfl) dX2_timeOf_78 rfl (fun z18 => ?_)
      refine p_vj 91 [some (.ref 43), some (.int p1), some (.int x9), some (.int x10), some (.int x11), some (.int x15), some (.int x16)] [] (fun x20 => ?_) (fun J => ?_)
      · refine p_is (ls' := [some (.ref 43), some (.int p1), some (.int x9), some (.int x10), some (.int x11), some (.int x20), some (.int x16)]) dX2_timeOf_91 rfl rfl rfl rfl ?_
        refine p_iiN (v := (1 : Int32)) (lf := fun x21 => [some (.ref 43), some (.int p1), some (.int x9), some (.int x10), some (.int x11), some (.int x20), some (.int x21)]) kiconst_1 dX2_timeOf_93 rfl rfl rfl rfl (fun _ => rfl) (fun x21 => ?_)
        refine p_goto (tgt := 52) dX2_timeOf_96 (by decide) ?_
        exact ih x20 x21
      · refine p_dia (fun c19 => ?_) (fun c19 => ?_)
        · refine p_if_eq_t (tgt := 89) dX2_timeOf_81 (by decide) c19 ?_
          refine p_iload rfl dX2_timeOf_89 rfl ?_
          exact J _
        · refine p_if_eq_f (tgt := 89) dX2_timeOf_81 (by decide) rfl c19 ?_
          refine p_iload rfl dX2_timeOf_84 rfl ?_
          refine p_goto (tgt := 91) dX2_timeOf_86 (by decide) ?_
          exact J _
noncomputable def f2_timeOf_L33 (p1 : Int32) (k : Int32 → Int32 → Int32 → qH → Option (Int32 × qH)) : Nat → Int32 → Int32 → Int32 → qH → Option (Int32 × qH)
  | 0, _, _, _, _ => none
  | n + 1, x9, x10, x11, h12 =>
    if (h12.1 43 1) ≤ x11 then (
      k x9 x10 x11 h12)
    else (
      qlt (x11 + (1 : Int32)) fun (x14 : Int32) =>
      f2_timeOf_L52 p1 x9 x10 x11 h12 (fun (x22 : Int32) (x23 : Int32) =>
        qg (qin x22 12) <|
        qlt (h12.1 48 (ix x22)) fun (x24 : Int32) =>
        qg (qin x11 12) <|
        qg (qin x22 12) <|
        qlt (qw h12 48 (ix x22) (h12.1 48 (ix x11))) fun (h25 : qH) =>
        qg (qin x11 12) <|
        qlt (qw h25 48 (ix x11) x24) fun (h26 : qH) =>
        qg (qin x24 12) <|
        (f4_seekTime 6 x9 (h26.1 45 (ix x24)) h26).bind fun (z27 : Int32) =>
        qg (qin x24 12) <|
        qlt (x10 + (z27 + (h26.1 46 (ix x24)))) fun (x28 : Int32) =>
        qg (qin x24 12) <|
        qg (qin x24 12) <|
        qlt (((h26.1 45 (ix x24)) + (h26.1 46 (ix x24))) - (1 : Int32)) fun (x29 : Int32) =>
        qlt (x11 + (1 : Int32)) fun (x30 : Int32) =>
        f2_timeOf_L33 p1 k n x29 x28 x30 h26) qN x11 x14)
set_option maxRecDepth 100000 in
set_option maxHeartbeats 4000000 in
theorem w2_timeOf_L33 (l : Launch) (h0 : qH) (p1 : Int32) {k : Int32 → Int32 → Int32 → qH → Option (Int32 × qH)} (hk : ∀ (x9 : Int32) (x10 : Int32) (x11 : Int32) (h12 : qH), PW UX ROX l R2_timeOf cX2_timeOf 7 (some .int) RX2 (qEw h0) 181 [some (.ref 43), some (.int p1), some (.int x9), some (.int x10), some (.int x11), none, none] [] h12 (k x9 x10 x11 h12)) : ∀ (n : Nat) (x9 : Int32) (x10 : Int32) (x11 : Int32) (h12 : qH), PW UX ROX l R2_timeOf cX2_timeOf 7 (some .int) RX2 (qEw h0) 33 [some (.ref 43), some (.int p1), some (.int x9), some (.int x10), some (.int x11), none, none] [] h12 (f2_timeOf_L33 p1 k n x9 x10 x11 h12) := by
  intro n
  induction n with
  | zero => intro _ _ _ _; exact p_none
  | succ n ih =>
    intro x9 x10 x11 h12
    unfold f2_timeOf_L33
    refine p_iload rfl dX2_timeOf_33 rfl ?_
    refine p_aload_n rfl dX2_timeOf_35 rfl ?_
    refine p_geti qg_RX2_37 uX_43 rfl dX2_timeOf_36 rfl ?_
    refine p_if (fun c13 => ?_) (fun c13 => ?_)
    · refine p_icmp_ge_t (tgt := 181) dX2_timeOf_39 (by decide) c13 ?_
      exact hk x9 x10 x11 h12
    · refine p_icmp_ge_f (tgt := 181) dX2_timeOf_39 (by decide) rfl c13 ?_
      refine p_iload rfl dX2_timeOf_42 rfl ?_
      refine p_is (ls' := [some (.ref 43), some (.int p1), some (.int x9), some (.int x10), some (.int x11), some (.int x11), none]) dX2_timeOf_44 rfl rfl rfl rfl ?_
      refine p_iload rfl dX2_timeOf_46 rfl ?_
      refine p_iconst (v := (1 : Int32)) kiconst_1 dX2_timeOf_48 rfl ?_
      refine p_iadd dX2_timeOf_49 rfl ?_
      refine p_isN (lf := fun x14 => [some (.ref 43), some (.int p1), some (.int x9), some (.int x10), some (.int x11), some (.int x11), some (.int x14)]) dX2_timeOf_50 rfl rfl rfl (fun _ => rfl) (fun x14 => ?_)
      refine w2_timeOf_L52 l h0 p1 x9 x10 x11 h12 (fun x22 x23 => ?_) qN _ _
      refine p_aload_n rfl dX2_timeOf_99 rfl ?_
      refine p_getr qg_RX2_24 uX_43 rfl dX2_timeOf_100 rfl ?_
      refine p_iload rfl dX2_timeOf_103 rfl ?_
      refine p_iald uX_48 dX2_timeOf_105 rfl (fun _ => ?_)
      refine p_isN (lf := fun x24 => [some (.ref 43), some (.int p1), some (.int x9), some (.int x10), some (.int x11), some (.int x22), some (.int x24)]) dX2_timeOf_106 rfl rfl rfl (fun _ => rfl) (fun x24 => ?_)
      refine p_aload_n rfl dX2_timeOf_108 rfl ?_
      refine p_getr qg_RX2_24 uX_43 rfl dX2_timeOf_109 rfl ?_
      refine p_iload rfl dX2_timeOf_112 rfl ?_
      refine p_aload_n rfl dX2_timeOf_114 rfl ?_
      refine p_getr qg_RX2_24 uX_43 rfl dX2_timeOf_115 rfl ?_
      refine p_iload rfl dX2_timeOf_118 rfl ?_
      refine p_iald uX_48 dX2_timeOf_120 rfl (fun _ => ?_)
      refine p_iast qokX uX_48 dX2_timeOf_121 rfl (fun _ => ?_)
      refine p_nmH (fun h25 => ?_)
      refine p_aload_n rfl dX2_timeOf_122 rfl ?_
      refine p_getr qg_RX2_24 uX_43 rfl dX2_timeOf_123 rfl ?_
      refine p_iload rfl dX2_timeOf_126 rfl ?_
      refine p_iload rfl dX2_timeOf_128 rfl ?_
      refine p_iast qokX uX_48 dX2_timeOf_130 rfl (fun _ => ?_)
      refine p_nmH (fun h26 => ?_)
      refine p_iload_n rfl dX2_timeOf_131 rfl ?_
      refine p_aload_n rfl dX2_timeOf_132 rfl ?_
      refine p_getr qg_RX2_33 uX_43 rfl dX2_timeOf_133 rfl ?_
      refine p_iload_n rfl dX2_timeOf_136 rfl ?_
      refine p_aload_n rfl dX2_timeOf_137 rfl ?_
      refine p_getr qg_RX2_15 uX_43 rfl dX2_timeOf_138 rfl ?_
      refine p_iload rfl dX2_timeOf_141 rfl ?_
      refine p_iald uX_45 dX2_timeOf_143 rfl (fun _ => ?_)
      refine p_callVr (f := f4_seekTime 6 x9 (h26.1 45 (ix x24))) (st := [.int x10]) [.int x9, .int (h26.1 45 (ix x24))] qRokX (m4_seekTime l (kPlan_6) x9 (h26.1 45 (ix x24))) cal_RX2_65 uX_6 rfl rfl ⟨rfl, rfl⟩ ⟨Nat.le_of_ble_eq_true rfl, Nat.le_of_ble_eq_true rfl⟩ (Nat.le_of_ble_eq_true rfl) dX2_timeOf_144 rfl (fun z27 => ?_)
      refine p_aload_n rfl dX2_timeOf_147 rfl ?_
      refine p_getr qg_RX2_18 uX_43 rfl dX2_timeOf_148 rfl ?_
      refine p_iload rfl dX2_timeOf_151 rfl ?_
      refine p_iald uX_46 dX2_timeOf_153 rfl (fun _ => ?_)
      refine p_iadd dX2_timeOf_154 rfl ?_
      refine p_iadd dX2_timeOf_155 rfl ?_
      refine p_isN_n (lf := fun x28 => [some (.ref 43), some (.int p1), some (.int x9), some (.int x28), some (.int x11), some (.int x22), some (.int x24)]) dX2_timeOf_156 rfl rfl rfl (fun _ => rfl) (fun x28 => ?_)
      refine p_aload_n rfl dX2_timeOf_157 rfl ?_
      refine p_getr qg_RX2_15 uX_43 rfl dX2_timeOf_158 rfl ?_
      refine p_iload rfl dX2_timeOf_161 rfl ?_
      refine p_iald uX_45 dX2_timeOf_163 rfl (fun _ => ?_)
      refine p_aload_n rfl dX2_timeOf_164 rfl ?_
      refine p_getr qg_RX2_18 uX_43 rfl dX2_timeOf_165 rfl ?_
      refine p_iload rfl dX2_timeOf_168 rfl ?_
      refine p_iald uX_46 dX2_timeOf_170 rfl (fun _ => ?_)
      refine p_iadd dX2_timeOf_171 rfl ?_
      refine p_iconst (v := (1 : Int32)) kiconst_1 dX2_timeOf_172 rfl ?_
      refine p_isub dX2_timeOf_173 rfl ?_
      refine p_isN_n (lf := fun x29 => [some (.ref 43), some (.int p1), some (.int x29), some (.int x28), some (.int x11), some (.int x22), some (.int x24)]) dX2_timeOf_174 rfl rfl rfl (fun _ => rfl) (fun x29 => ?_)
      refine p_iiN (v := (1 : Int32)) (lf := fun x30 => [some (.ref 43), some (.int p1), some (.int x29), some (.int x28), some (.int x30), some (.int x22), some (.int x24)]) kiconst_1 dX2_timeOf_175 rfl rfl rfl rfl (fun _ => rfl) (fun x30 => ?_)
      refine p_goto (tgt := 33) dX2_timeOf_178 (by decide) ?_
      exact p_wk (ls' := [some (.ref 43), some (.int p1), some (.int x29), some (.int x28), some (.int x30), none, none]) ⟨rfl, rfl, rfl, rfl, rfl, trivial⟩ (ih x29 x28 x30 h26)
noncomputable def f2_timeOf (p1 : Int32) (h : qH) : Option (Int32 × qH) :=
  f2_timeOf_L2 p1 (fun (x6 : Int32) (h7 : qH) =>
    qlt (h7.1 43 2) fun (x8 : Int32) =>
    f2_timeOf_L33 p1 (fun (x31 : Int32) (x32 : Int32) (x33 : Int32) (h34 : qH) =>
      some (x32, h34)) qN x8 (0 : Int32) (0 : Int32) h7) qN (0 : Int32) h
set_option maxRecDepth 100000 in
set_option maxHeartbeats 4000000 in
theorem m2_timeOf (l : Launch) (p1 : Int32) : qMet UX ROX l yX2_timeOf (qws yX2_timeOf cX2_timeOf 7 (some .int)) R2_timeOf [.ref 43, .int p1] (f2_timeOf p1) qEw := by
  refine q_met (own := RX2) 5 (by decide) rfl (Nat.le_of_ble_eq_true rfl) (ls := [some (.ref 43), some (.int p1), none, none, none, none, none]) rfl fun h => ?_
  unfold f2_timeOf
  show PW UX ROX l R2_timeOf cX2_timeOf 7 (some .int) RX2 (qEw h) 0 [some (.ref 43), some (.int p1), none, none, none, none, none] [] h _
  refine p_iconst (v := (0 : Int32)) kiconst_0 dX2_timeOf_0 rfl ?_
  refine p_is_n (ls' := [some (.ref 43), some (.int p1), some (.int (0 : Int32)), none, none, none, none]) dX2_timeOf_1 rfl rfl rfl rfl ?_
  refine w2_timeOf_L2 l h p1 (fun x6 h7 => ?_) qN _ _
  refine p_aload_n rfl dX2_timeOf_23 rfl ?_
  refine p_geti qg_RX2_46 uX_43 rfl dX2_timeOf_24 rfl ?_
  refine p_isN_n (lf := fun x8 => [some (.ref 43), some (.int p1), some (.int x8), none, none, none, none]) dX2_timeOf_27 rfl rfl rfl (fun _ => rfl) (fun x8 => ?_)
  refine p_iconst (v := (0 : Int32)) kiconst_0 dX2_timeOf_28 rfl ?_
  refine p_is_n (ls' := [some (.ref 43), some (.int p1), some (.int x8), some (.int (0 : Int32)), none, none, none]) dX2_timeOf_29 rfl rfl rfl rfl ?_
  refine p_iconst (v := (0 : Int32)) kiconst_0 dX2_timeOf_30 rfl ?_
  refine p_is (ls' := [some (.ref 43), some (.int p1), some (.int x8), some (.int (0 : Int32)), some (.int (0 : Int32)), none, none]) dX2_timeOf_31 rfl rfl rfl rfl ?_
  refine w2_timeOf_L33 l h p1 (fun x31 x32 x33 h34 => ?_) qN _ _ _ _
  refine p_iload_n rfl dX2_timeOf_181 rfl ?_
  exact p_iret rfl rfl dX2_timeOf_182
noncomputable def f2_arrangeBest_L10 (k : Int32 → Int32 → Int32 → qH → Option (qH)) : Nat → Int32 → Int32 → Int32 → qH → Option (qH)
  | 0, _, _, _, _ => none
  | n + 1, x3, x4, x5, h6 =>
    if (3 : Int32) ≤ x5 then (
      k x3 x4 x5 h6)
    else (
      qb2 (f2_timeOf x5 h6) fun (z8 : Int32) (h9 : qH) =>
      qj (fun (x10 : Int32) (x11 : Int32) =>
        qlt (x5 + (1 : Int32)) fun (x14 : Int32) =>
        f2_arrangeBest_L10 k n x10 x11 x14 h9) fun j12 =>
      if x4 ≤ z8 then (
        j12 x3 x4)
      else (
        j12 x5 z8))
set_option maxRecDepth 100000 in
set_option maxHeartbeats 4000000 in
theorem w2_arrangeBest_L10 (l : Launch) (h0 : qH) {k : Int32 → Int32 → Int32 → qH → Option (qH)} (hk : ∀ (x3 : Int32) (x4 : Int32) (x5 : Int32) (h6 : qH), PW UX ROX l R2_arrangeBest cX2_arrangeBest 5 none RX2 (qEv h0) 39 [some (.ref 43), some (.int x3), some (.int x4), some (.int x5), none] [] h6 (k x3 x4 x5 h6)) : ∀ (n : Nat) (x3 : Int32) (x4 : Int32) (x5 : Int32) (h6 : qH), PW UX ROX l R2_arrangeBest cX2_arrangeBest 5 none RX2 (qEv h0) 10 [some (.ref 43), some (.int x3), some (.int x4), some (.int x5), none] [] h6 (f2_arrangeBest_L10 k n x3 x4 x5 h6) := by
  intro n
  induction n with
  | zero => intro _ _ _ _; exact p_none
  | succ n ih =>
    intro x3 x4 x5 h6
    unfold f2_arrangeBest_L10
    refine p_iload_n rfl dX2_arrangeBest_10 rfl ?_
    refine p_iconst (v := (3 : Int32)) kiconst_3 dX2_arrangeBest_11 rfl ?_
    refine p_if (fun c7 => ?_) (fun c7 => ?_)
    · refine p_icmp_ge_t (tgt := 39) dX2_arrangeBest_12 (by decide) c7 ?_
      exact hk x3 x4 x5 h6
    · refine p_icmp_ge_f (tgt := 39) dX2_arrangeBest_12 (by decide) rfl c7 ?_
      refine p_aload_n rfl dX2_arrangeBest_15 rfl ?_
      refine p_iload_n rfl dX2_arrangeBest_16 rfl ?_
      refine p_cVw (f := f2_timeOf x5) (st := []) [.int x5] qRokX (m2_timeOf l x5) cal_RX2_57 uX_43 rfl rfl ⟨rfl, rfl⟩ ⟨Nat.le_of_ble_eq_true rfl, Nat.le_of_ble_eq_true rfl⟩ (Nat.le_of_ble_eq_true rfl) dX2_arrangeBest_17 rfl (fun z8 h9 => ?_)
      refine p_is (ls' := [some (.ref 43), some (.int x3), some (.int x4), some (.int x5), some (.int z8)]) dX2_arrangeBest_20 rfl rfl rfl rfl ?_
      refine p_iload rfl dX2_arrangeBest_22 rfl ?_
      refine p_iload_n rfl dX2_arrangeBest_24 rfl ?_
      refine p_jn (fun j12 => ∀ (x10 : Int32) (x11 : Int32), PW UX ROX l R2_arrangeBest cX2_arrangeBest 5 none RX2 (qEv h0) 33 [some (.ref 43), some (.int x10), some (.int x11), some (.int x5), some (.int z8)] [] h9 (j12 x10 x11)) (fun x10 x11 => ?_) (fun j12 J13 => ?_)
      · refine p_iiN (v := (1 : Int32)) (lf := fun x14 => [some (.ref 43), some (.int x10), some (.int x11), some (.int x14), some (.int z8)]) kiconst_1 dX2_arrangeBest_33 rfl rfl rfl rfl (fun _ => rfl) (fun x14 => ?_)
        refine p_goto (tgt := 10) dX2_arrangeBest_36 (by decide) ?_
        exact p_wk (ls' := [some (.ref 43), some (.int x10), some (.int x11), some (.int x14), none]) ⟨rfl, rfl, rfl, rfl, trivial⟩ (ih x10 x11 x14 h9)
      · refine p_if (fun c15 => ?_) (fun c15 => ?_)
        · refine p_icmp_ge_t (tgt := 33) dX2_arrangeBest_25 (by decide) c15 ?_
          exact J13 x3 x4
        · refine p_icmp_ge_f (tgt := 33) dX2_arrangeBest_25 (by decide) rfl c15 ?_
          refine p_iload_n rfl dX2_arrangeBest_28 rfl ?_
          refine p_is_n (ls' := [some (.ref 43), some (.int x5), some (.int x4), some (.int x5), some (.int z8)]) dX2_arrangeBest_29 rfl rfl rfl rfl ?_
          refine p_iload rfl dX2_arrangeBest_30 rfl ?_
          refine p_is_n (ls' := [some (.ref 43), some (.int x5), some (.int z8), some (.int x5), some (.int z8)]) dX2_arrangeBest_32 rfl rfl rfl rfl ?_
          exact J13 x5 z8
noncomputable def f2_arrangeBest (h : qH) : Option (qH) :=
  qb2 (f2_timeOf (0 : Int32) h) fun (z1 : Int32) (h2 : qH) =>
  f2_arrangeBest_L10 (fun (x16 : Int32) (x17 : Int32) (x18 : Int32) (h19 : qH) =>
    qb2 (f2_timeOf x16 h19) fun (z20 : Int32) (h21 : qH) =>
    some h21) qN (0 : Int32) z1 (1 : Int32) h2
set_option maxRecDepth 100000 in
set_option maxHeartbeats 4000000 in
theorem m2_arrangeBest (l : Launch) : qMet UX ROX l yX2_arrangeBest (qws yX2_arrangeBest cX2_arrangeBest 5 none) R2_arrangeBest [.ref 43] f2_arrangeBest qEv := by
  refine q_met (own := RX2) 4 (by decide) rfl (Nat.le_of_ble_eq_true rfl) (ls := [some (.ref 43), none, none, none, none]) rfl fun h => ?_
  unfold f2_arrangeBest
  show PW UX ROX l R2_arrangeBest cX2_arrangeBest 5 none RX2 (qEv h) 0 [some (.ref 43), none, none, none, none] [] h _
  refine p_iconst (v := (0 : Int32)) kiconst_0 dX2_arrangeBest_0 rfl ?_
  refine p_is_n (ls' := [some (.ref 43), some (.int (0 : Int32)), none, none, none]) dX2_arrangeBest_1 rfl rfl rfl rfl ?_
  refine p_aload_n rfl dX2_arrangeBest_2 rfl ?_
  refine p_iconst (v := (0 : Int32)) kiconst_0 dX2_arrangeBest_3 rfl ?_
  refine p_cVw (f := f2_timeOf (0 : Int32)) (st := []) [.int (0 : Int32)] qRokX (m2_timeOf l (0 : Int32)) cal_RX2_57 uX_43 rfl rfl ⟨rfl, rfl⟩ ⟨Nat.le_of_ble_eq_true rfl, Nat.le_of_ble_eq_true rfl⟩ (Nat.le_of_ble_eq_true rfl) dX2_arrangeBest_4 rfl (fun z1 h2 => ?_)
  refine p_is_n (ls' := [some (.ref 43), some (.int (0 : Int32)), some (.int z1), none, none]) dX2_arrangeBest_7 rfl rfl rfl rfl ?_
  refine p_iconst (v := (1 : Int32)) kiconst_1 dX2_arrangeBest_8 rfl ?_
  refine p_is_n (ls' := [some (.ref 43), some (.int (0 : Int32)), some (.int z1), some (.int (1 : Int32)), none]) dX2_arrangeBest_9 rfl rfl rfl rfl ?_
  refine w2_arrangeBest_L10 l h (fun x16 x17 x18 h19 => ?_) qN _ _ _ _
  refine p_aload_n rfl dX2_arrangeBest_39 rfl ?_
  refine p_iload_n rfl dX2_arrangeBest_40 rfl ?_
  refine p_cVw (f := f2_timeOf x16) (st := []) [.int x16] qRokX (m2_timeOf l x16) cal_RX2_57 uX_43 rfl rfl ⟨rfl, rfl⟩ ⟨Nat.le_of_ble_eq_true rfl, Nat.le_of_ble_eq_true rfl⟩ (Nat.le_of_ble_eq_true rfl) dX2_arrangeBest_41 rfl (fun z20 h21 => ?_)
  refine p_pop rfl dX2_arrangeBest_44 rfl ?_
  exact p_vret rfl rfl dX2_arrangeBest_45
noncomputable def f2_leastBehind_L6 (p1 : Int32) (p2 : Int32) (h : qH) (k : Int32 → Int32 → Option (Int32)) : Nat → Int32 → Int32 → Option (Int32)
  | 0, _, _ => none
  | n + 1, x1, x2 =>
    if (h.1 43 1) ≤ x2 then (
      k x1 x2)
    else (
      qj (fun (x4 : Int32) =>
        qlt (x2 + (1 : Int32)) fun (x7 : Int32) =>
        f2_leastBehind_L6 p1 p2 h k n x4 x7) fun j5 =>
      if ((p1 >>> (x2 &&& 31)) &&& (1 : Int32)) = (1 : Int32) then (
        qg (qin ((p1 * (h.1 43 1)) + x2) (ix (h.1 100 0))) <|
        qg (qin ((x2 * (h.1 43 1)) + p2) 144) <|
        qlt (if ((h.1 50 (ix ((p1 * (h.1 43 1)) + x2))) + (h.1 49 (ix ((x2 * (h.1 43 1)) + p2)))) < x1 then ((h.1 50 (ix ((p1 * (h.1 43 1)) + x2))) + (h.1 49 (ix ((x2 * (h.1 43 1)) + p2)))) else x1) fun (x9 : Int32) =>
        j5 x9)
      else (
        j5 x1))
set_option maxRecDepth 100000 in
set_option maxHeartbeats 4000000 in
theorem w2_leastBehind_L6 (l : Launch) (p1 : Int32) (p2 : Int32) (h : qH) {k : Int32 → Int32 → Option (Int32)} (hk : ∀ (x1 : Int32) (x2 : Int32), PW UX ROX l R2_leastBehind cX2_leastBehind 5 (some .int) RX2 (qEr h) 65 [some (.ref 43), some (.int p1), some (.int p2), some (.int x1), some (.int x2)] [] h (k x1 x2)) : ∀ (n : Nat) (x1 : Int32) (x2 : Int32), PW UX ROX l R2_leastBehind cX2_leastBehind 5 (some .int) RX2 (qEr h) 6 [some (.ref 43), some (.int p1), some (.int p2), some (.int x1), some (.int x2)] [] h (f2_leastBehind_L6 p1 p2 h k n x1 x2) := by
  intro n
  induction n with
  | zero => intro _ _; exact p_none
  | succ n ih =>
    intro x1 x2
    unfold f2_leastBehind_L6
    refine p_iload rfl dX2_leastBehind_6 rfl ?_
    refine p_aload_n rfl dX2_leastBehind_8 rfl ?_
    refine p_geti qg_RX2_37 uX_43 rfl dX2_leastBehind_9 rfl ?_
    refine p_if (fun c3 => ?_) (fun c3 => ?_)
    · refine p_icmp_ge_t (tgt := 65) dX2_leastBehind_12 (by decide) c3 ?_
      exact hk x1 x2
    · refine p_icmp_ge_f (tgt := 65) dX2_leastBehind_12 (by decide) rfl c3 ?_
      refine p_iload_n rfl dX2_leastBehind_15 rfl ?_
      refine p_iload rfl dX2_leastBehind_16 rfl ?_
      refine p_ishr dX2_leastBehind_18 rfl ?_
      refine p_iconst (v := (1 : Int32)) kiconst_1 dX2_leastBehind_19 rfl ?_
      refine p_iand dX2_leastBehind_20 rfl ?_
      refine p_iconst (v := (1 : Int32)) kiconst_1 dX2_leastBehind_21 rfl ?_
      refine p_jn (fun j5 => ∀ (x4 : Int32), PW UX ROX l R2_leastBehind cX2_leastBehind 5 (some .int) RX2 (qEr h) 59 [some (.ref 43), some (.int p1), some (.int p2), some (.int x4), some (.int x2)] [] h (j5 x4)) (fun x4 => ?_) (fun j5 J6 => ?_)
      · refine p_iiN (v := (1 : Int32)) (lf := fun x7 => [some (.ref 43), some (.int p1), some (.int p2), some (.int x4), some (.int x7)]) kiconst_1 dX2_leastBehind_59 rfl rfl rfl rfl (fun _ => rfl) (fun x7 => ?_)
        refine p_goto (tgt := 6) dX2_leastBehind_62 (by decide) ?_
        exact ih x4 x7
      · refine p_if (fun c8 => ?_) (fun c8 => ?_)
        · refine p_icmp_ne_f (tgt := 59) dX2_leastBehind_22 (by decide) rfl c8 ?_
          refine p_iload_n rfl dX2_leastBehind_25 rfl ?_
          refine p_aload_n rfl dX2_leastBehind_26 rfl ?_
          refine p_getr qg_RX2_30 uX_43 rfl dX2_leastBehind_27 rfl ?_
          refine p_iload_n rfl dX2_leastBehind_30 rfl ?_
          refine p_aload_n rfl dX2_leastBehind_31 rfl ?_
          refine p_geti qg_RX2_37 uX_43 rfl dX2_leastBehind_32 rfl ?_
          refine p_imul dX2_leastBehind_35 rfl ?_
          refine p_iload rfl dX2_leastBehind_36 rfl ?_
          refine p_iadd dX2_leastBehind_38 rfl ?_
          refine p_iald uX_50 dX2_leastBehind_39 rfl (fun _ => ?_)
          refine p_aload_n rfl dX2_leastBehind_40 rfl ?_
          refine p_getr qg_RX2_27 uX_43 rfl dX2_leastBehind_41 rfl ?_
          refine p_iload rfl dX2_leastBehind_44 rfl ?_
          refine p_aload_n rfl dX2_leastBehind_46 rfl ?_
          refine p_geti qg_RX2_37 uX_43 rfl dX2_leastBehind_47 rfl ?_
          refine p_imul dX2_leastBehind_50 rfl ?_
          refine p_iload_n rfl dX2_leastBehind_51 rfl ?_
          refine p_iadd dX2_leastBehind_52 rfl ?_
          refine p_iald uX_49 dX2_leastBehind_53 rfl (fun _ => ?_)
          refine p_iadd dX2_leastBehind_54 rfl ?_
          refine p_min qmin_RX2_76 ⟨Nat.le_of_ble_eq_true rfl, Nat.le_of_ble_eq_true rfl⟩ dX2_leastBehind_55 rfl ?_
          refine p_isN_n (lf := fun x9 => [some (.ref 43), some (.int p1), some (.int p2), some (.int x9), some (.int x2)]) dX2_leastBehind_58 rfl rfl rfl (fun _ => rfl) (fun x9 => ?_)
          exact J6 x9
        · refine p_icmp_ne_t (tgt := 59) dX2_leastBehind_22 (by decide) c8 ?_
          exact J6 x1
noncomputable def f2_leastBehind (p1 : Int32) (p2 : Int32) (h : qH) : Option (Int32) :=
  f2_leastBehind_L6 p1 p2 h (fun (x10 : Int32) (x11 : Int32) =>
    some x10) qN (1000000 : Int32) (0 : Int32)
set_option maxRecDepth 100000 in
set_option maxHeartbeats 4000000 in
theorem m2_leastBehind (l : Launch) (p1 : Int32) (p2 : Int32) : qMet UX ROX l yX2_leastBehind (qws yX2_leastBehind cX2_leastBehind 5 (some .int)) R2_leastBehind [.ref 43, .int p1, .int p2] (f2_leastBehind p1 p2) qEr := by
  refine q_met (own := RX2) 2 (by decide) rfl (Nat.le_of_ble_eq_true rfl) (ls := [some (.ref 43), some (.int p1), some (.int p2), none, none]) rfl fun h => ?_
  unfold f2_leastBehind
  refine p_ldc (v := (1000000 : Int32)) kcRX2_75 dX2_leastBehind_0 rfl ?_
  refine p_is_n (ls' := [some (.ref 43), some (.int p1), some (.int p2), some (.int (1000000 : Int32)), none]) dX2_leastBehind_2 rfl rfl rfl rfl ?_
  refine p_iconst (v := (0 : Int32)) kiconst_0 dX2_leastBehind_3 rfl ?_
  refine p_is (ls' := [some (.ref 43), some (.int p1), some (.int p2), some (.int (1000000 : Int32)), some (.int (0 : Int32))]) dX2_leastBehind_4 rfl rfl rfl rfl ?_
  refine w2_leastBehind_L6 l p1 p2 h (fun x10 x11 => ?_) qN _ _
  refine p_iload_n rfl dX2_leastBehind_65 rfl ?_
  exact p_iret rfl rfl dX2_leastBehind_66
noncomputable def f2_fillTable_L2 (p1 : Int32) (k : Int32 → qH → Option (qH)) : Nat → Int32 → qH → Option (qH)
  | 0, _, _ => none
  | n + 1, x1, h2 =>
    if (h2.1 43 1) ≤ x1 then (
      k x1 h2)
    else (
      qj (fun (h4 : qH) =>
        qlt (x1 + (1 : Int32)) fun (x7 : Int32) =>
        f2_fillTable_L2 p1 k n x7 h4) fun j5 =>
      if ((p1 >>> (x1 &&& 31)) &&& (1 : Int32)) = (1 : Int32) then (
        qlt (p1 ^^^ ((1 : Int32) <<< (x1 &&& 31))) fun (x9 : Int32) =>
        qj (fun (x10 : Int32) =>
          qg (qin ((p1 * (h2.1 43 1)) + x1) (ix (h2.1 100 0))) <|
          qlt (qw h2 50 (ix ((p1 * (h2.1 43 1)) + x1)) x10) fun (h13 : qH) =>
          j5 h13) fun j11 =>
        if x9 = 0 then (
          qg (qin x1 12) <|
          (f4_seekTime 6 (h2.1 43 2) (h2.1 45 (ix x1)) h2).bind fun (z15 : Int32) =>
          j11 z15)
        else (
          (f2_leastBehind x9 x1 h2).bind fun (z16 : Int32) =>
          j11 z16))
      else (
        j5 h2))
set_option maxRecDepth 100000 in
set_option maxHeartbeats 4000000 in
theorem w2_fillTable_L2 (l : Launch) (h0 : qH) (p1 : Int32) {k : Int32 → qH → Option (qH)} (hk : ∀ (x1 : Int32) (h2 : qH), PW UX ROX l R2_fillTable cX2_fillTable 4 none RX2 (qEv h0) 74 [some (.ref 43), some (.int p1), some (.int x1), none] [] h2 (k x1 h2)) : ∀ (n : Nat) (x1 : Int32) (h2 : qH), PW UX ROX l R2_fillTable cX2_fillTable 4 none RX2 (qEv h0) 2 [some (.ref 43), some (.int p1), some (.int x1), none] [] h2 (f2_fillTable_L2 p1 k n x1 h2) := by
  intro n
  induction n with
  | zero => intro _ _; exact p_none
  | succ n ih =>
    intro x1 h2
    unfold f2_fillTable_L2
    refine p_iload_n rfl dX2_fillTable_2 rfl ?_
    refine p_aload_n rfl dX2_fillTable_3 rfl ?_
    refine p_geti qg_RX2_37 uX_43 rfl dX2_fillTable_4 rfl ?_
    refine p_if (fun c3 => ?_) (fun c3 => ?_)
    · refine p_icmp_ge_t (tgt := 74) dX2_fillTable_7 (by decide) c3 ?_
      exact hk x1 h2
    · refine p_icmp_ge_f (tgt := 74) dX2_fillTable_7 (by decide) rfl c3 ?_
      refine p_iload_n rfl dX2_fillTable_10 rfl ?_
      refine p_iload_n rfl dX2_fillTable_11 rfl ?_
      refine p_ishr dX2_fillTable_12 rfl ?_
      refine p_iconst (v := (1 : Int32)) kiconst_1 dX2_fillTable_13 rfl ?_
      refine p_iand dX2_fillTable_14 rfl ?_
      refine p_iconst (v := (1 : Int32)) kiconst_1 dX2_fillTable_15 rfl ?_
      refine p_jn (fun j5 => ∀ (h4 : qH), PW UX ROX l R2_fillTable cX2_fillTable 4 none RX2 (qEv h0) 68 [some (.ref 43), some (.int p1), some (.int x1), none] [] h4 (j5 h4)) (fun h4 => ?_) (fun j5 J6 => ?_)
      · refine p_iiN (v := (1 : Int32)) (lf := fun x7 => [some (.ref 43), some (.int p1), some (.int x7), none]) kiconst_1 dX2_fillTable_68 rfl rfl rfl rfl (fun _ => rfl) (fun x7 => ?_)
        refine p_goto (tgt := 2) dX2_fillTable_71 (by decide) ?_
        exact ih x7 h4
      · refine p_if (fun c8 => ?_) (fun c8 => ?_)
        · refine p_icmp_ne_f (tgt := 68) dX2_fillTable_16 (by decide) rfl c8 ?_
          refine p_iload_n rfl dX2_fillTable_19 rfl ?_
          refine p_iconst (v := (1 : Int32)) kiconst_1 dX2_fillTable_20 rfl ?_
          refine p_iload_n rfl dX2_fillTable_21 rfl ?_
          refine p_ishl dX2_fillTable_22 rfl ?_
          refine p_ixor dX2_fillTable_23 rfl ?_
          refine p_isN_n (lf := fun x9 => [some (.ref 43), some (.int p1), some (.int x1), some (.int x9)]) dX2_fillTable_24 rfl rfl rfl (fun _ => rfl) (fun x9 => ?_)
          refine p_aload_n rfl dX2_fillTable_25 rfl ?_
          refine p_getr qg_RX2_30 uX_43 rfl dX2_fillTable_26 rfl ?_
          refine p_iload_n rfl dX2_fillTable_29 rfl ?_
          refine p_aload_n rfl dX2_fillTable_30 rfl ?_
          refine p_geti qg_RX2_37 uX_43 rfl dX2_fillTable_31 rfl ?_
          refine p_imul dX2_fillTable_34 rfl ?_
          refine p_iload_n rfl dX2_fillTable_35 rfl ?_
          refine p_iadd dX2_fillTable_36 rfl ?_
          refine p_iload_n rfl dX2_fillTable_37 rfl ?_
          refine p_jn (fun j11 => ∀ (x10 : Int32), PW UX ROX l R2_fillTable cX2_fillTable 4 none RX2 (qEv h0) 67 [some (.ref 43), some (.int p1), some (.int x1), some (.int x9)] [.int x10, .int ((p1 * (h2.1 43 1)) + x1), .ref 50] h2 (j11 x10)) (fun x10 => ?_) (fun j11 J12 => ?_)
          · refine p_iast qokX uX_50 dX2_fillTable_67 rfl (fun _ => ?_)
            refine p_nmH (fun h13 => ?_)
            exact p_wk (ls' := [some (.ref 43), some (.int p1), some (.int x1), none]) ⟨rfl, rfl, rfl, trivial⟩ (J6 h13)
          · refine p_if (fun c14 => ?_) (fun c14 => ?_)
            · refine p_if_ne_f (tgt := 61) dX2_fillTable_38 (by decide) rfl c14 ?_
              refine p_aload_n rfl dX2_fillTable_41 rfl ?_
              refine p_getr qg_RX2_33 uX_43 rfl dX2_fillTable_42 rfl ?_
              refine p_aload_n rfl dX2_fillTable_45 rfl ?_
              refine p_geti qg_RX2_46 uX_43 rfl dX2_fillTable_46 rfl ?_
              refine p_aload_n rfl dX2_fillTable_49 rfl ?_
              refine p_getr qg_RX2_15 uX_43 rfl dX2_fillTable_50 rfl ?_
              refine p_iload_n rfl dX2_fillTable_53 rfl ?_
              refine p_iald uX_45 dX2_fillTable_54 rfl (fun _ => ?_)
              refine p_callVr (f := f4_seekTime 6 (h2.1 43 2) (h2.1 45 (ix x1))) (st := [.int ((p1 * (h2.1 43 1)) + x1), .ref 50]) [.int (h2.1 43 2), .int (h2.1 45 (ix x1))] qRokX (m4_seekTime l (kPlan_6) (h2.1 43 2) (h2.1 45 (ix x1))) cal_RX2_65 uX_6 rfl rfl ⟨rfl, rfl⟩ ⟨Nat.le_of_ble_eq_true rfl, Nat.le_of_ble_eq_true rfl⟩ (Nat.le_of_ble_eq_true rfl) dX2_fillTable_55 rfl (fun z15 => ?_)
              refine p_goto (tgt := 67) dX2_fillTable_58 (by decide) ?_
              exact J12 z15
            · refine p_if_ne_t (tgt := 61) dX2_fillTable_38 (by decide) c14 ?_
              refine p_aload_n rfl dX2_fillTable_61 rfl ?_
              refine p_iload_n rfl dX2_fillTable_62 rfl ?_
              refine p_iload_n rfl dX2_fillTable_63 rfl ?_
              refine p_callVr (f := f2_leastBehind x9 x1) (st := [.int ((p1 * (h2.1 43 1)) + x1), .ref 50]) [.int x9, .int x1] qRokX (m2_leastBehind l x9 x1) cal_RX2_81 uX_43 rfl rfl ⟨rfl, rfl⟩ ⟨Nat.le_of_ble_eq_true rfl, Nat.le_of_ble_eq_true rfl⟩ (Nat.le_of_ble_eq_true rfl) dX2_fillTable_64 rfl (fun z16 => ?_)
              exact J12 z16
        · refine p_icmp_ne_t (tgt := 68) dX2_fillTable_16 (by decide) c8 ?_
          exact J6 h2
noncomputable def f2_fillTable (p1 : Int32) (h : qH) : Option (qH) :=
  f2_fillTable_L2 p1 (fun (x17 : Int32) (h18 : qH) =>
    some h18) qN (0 : Int32) h
set_option maxRecDepth 100000 in
set_option maxHeartbeats 4000000 in
theorem m2_fillTable (l : Launch) (p1 : Int32) : qMet UX ROX l yX2_fillTable (qws yX2_fillTable cX2_fillTable 4 none) R2_fillTable [.ref 43, .int p1] (f2_fillTable p1) qEv := by
  refine q_met (own := RX2) 2 (by decide) rfl (Nat.le_of_ble_eq_true rfl) (ls := [some (.ref 43), some (.int p1), none, none]) rfl fun h => ?_
  unfold f2_fillTable
  show PW UX ROX l R2_fillTable cX2_fillTable 4 none RX2 (qEv h) 0 [some (.ref 43), some (.int p1), none, none] [] h _
  refine p_iconst (v := (0 : Int32)) kiconst_0 dX2_fillTable_0 rfl ?_
  refine p_is_n (ls' := [some (.ref 43), some (.int p1), some (.int (0 : Int32)), none]) dX2_fillTable_1 rfl rfl rfl rfl ?_
  refine w2_fillTable_L2 l h p1 (fun x17 h18 => ?_) qN _ _
  exact p_vret rfl rfl dX2_fillTable_74
noncomputable def f3_clear (h : qH) : Option (qH) :=
  qlt (qw h 77 1 (0 : Int32)) fun (h1 : qH) =>
  qlt (qw h1 77 2 (0 : Int32)) fun (h2 : qH) =>
  some h2
set_option maxRecDepth 100000 in
set_option maxHeartbeats 4000000 in
theorem m3_clear (l : Launch) : qMet UX ROX l yX3_clear (qws yX3_clear cX3_clear 1 none) R3_clear [.ref 77] f3_clear qEv := by
  refine q_met (own := RX3) 0 (by decide) rfl (Nat.le_of_ble_eq_true rfl) (ls := [some (.ref 77)]) rfl fun h => ?_
  unfold f3_clear
  show PW UX ROX l R3_clear cX3_clear 1 none RX3 (qEv h) 0 [some (.ref 77)] [] h _
  refine p_aload_n rfl dX3_clear_0 rfl ?_
  refine p_iconst (v := (0 : Int32)) kiconst_0 dX3_clear_1 rfl ?_
  refine p_puti qokX qp_RX3_17 uX_77 rfl dX3_clear_2 rfl ?_
  refine p_nmH (fun h1 => ?_)
  refine p_aload_n rfl dX3_clear_5 rfl ?_
  refine p_iconst (v := (0 : Int32)) kiconst_0 dX3_clear_6 rfl ?_
  refine p_puti qokX qp_RX3_21 uX_77 rfl dX3_clear_7 rfl ?_
  refine p_nmH (fun h2 => ?_)
  exact p_vret rfl rfl dX3_clear_10
noncomputable def f7_store (p0 : Nat) (p1 : Nat) (np1 : Nat) (p2 : Int32) (h : qH) : Option (qH) :=
  qg (qin p2 np1) <|
  qlt (qw h p1 (ix p2) (h.1 p0 2)) fun (h1 : qH) =>
  qg (qin (p2 + (1 : Int32)) np1) <|
  qlt (qw h1 p1 (ix (p2 + (1 : Int32))) (h1.1 p0 3)) fun (h2 : qH) =>
  qg (qin (p2 + (2 : Int32)) np1) <|
  qlt (qw h2 p1 (ix (p2 + (2 : Int32))) (h2.1 p0 4)) fun (h3 : qH) =>
  qg (qin (p2 + (3 : Int32)) np1) <|
  qlt (qw h3 p1 (ix (p2 + (3 : Int32))) (h3.1 p0 5)) fun (h4 : qH) =>
  qlt (p2 + (4 : Int32)) fun (x5 : Int32) =>
  qg (qcp (0 : Int32) x5 (8 : Int32) 8 np1) <|
  qlt (qrow h4 p1 (va_cpy (h4.1 (p0 + 1)) (h4.1 p1) (ix (0 : Int32)) (ix x5) (ix (8 : Int32)))) fun (h6 : qH) =>
  qg (qcp (0 : Int32) (x5 + (8 : Int32)) (8 : Int32) 8 np1) <|
  qlt (qrow h6 p1 (va_cpy (h6.1 (p0 + 2)) (h6.1 p1) (ix (0 : Int32)) (ix (x5 + (8 : Int32))) (ix (8 : Int32)))) fun (h7 : qH) =>
  qg (qcp (0 : Int32) (x5 + (16 : Int32)) (8 : Int32) 8 np1) <|
  qlt (qrow h7 p1 (va_cpy (h7.1 (p0 + 3)) (h7.1 p1) (ix (0 : Int32)) (ix (x5 + (16 : Int32))) (ix (8 : Int32)))) fun (h8 : qH) =>
  qg (qcp (0 : Int32) (x5 + (24 : Int32)) (8 : Int32) 8 np1) <|
  qlt (qrow h8 p1 (va_cpy (h8.1 (p0 + 4)) (h8.1 p1) (ix (0 : Int32)) (ix (x5 + (24 : Int32))) (ix (8 : Int32)))) fun (h9 : qH) =>
  qg (qcp (0 : Int32) (x5 + (32 : Int32)) (8 : Int32) 8 np1) <|
  qlt (qrow h9 p1 (va_cpy (h9.1 (p0 + 5)) (h9.1 p1) (ix (0 : Int32)) (ix (x5 + (32 : Int32))) (ix (8 : Int32)))) fun (h10 : qH) =>
  qg (qcp (0 : Int32) (x5 + (40 : Int32)) (8 : Int32) 8 np1) <|
  qlt (qrow h10 p1 (va_cpy (h10.1 (p0 + 6)) (h10.1 p1) (ix (0 : Int32)) (ix (x5 + (40 : Int32))) (ix (8 : Int32)))) fun (h11 : qH) =>
  qlt (x5 + (48 : Int32)) fun (x12 : Int32) =>
  qg (qcp (0 : Int32) x12 (24 : Int32) 24 np1) <|
  qlt (qrow h11 p1 (va_cpy (h11.1 (p0 + 7)) (h11.1 p1) (ix (0 : Int32)) (ix x12) (ix (24 : Int32)))) fun (h13 : qH) =>
  qg (qcp (0 : Int32) (x12 + (24 : Int32)) (24 : Int32) 24 np1) <|
  qlt (qrow h13 p1 (va_cpy (h13.1 (p0 + 8)) (h13.1 p1) (ix (0 : Int32)) (ix (x12 + (24 : Int32))) (ix (24 : Int32)))) fun (h14 : qH) =>
  qg (qcp (0 : Int32) (x12 + (48 : Int32)) (24 : Int32) 24 np1) <|
  qlt (qrow h14 p1 (va_cpy (h14.1 (p0 + 9)) (h14.1 p1) (ix (0 : Int32)) (ix (x12 + (48 : Int32))) (ix (24 : Int32)))) fun (h15 : qH) =>
  qg (qcp (0 : Int32) (x12 + (72 : Int32)) (24 : Int32) 24 np1) <|
  qlt (qrow h15 p1 (va_cpy (h15.1 (p0 + 10)) (h15.1 p1) (ix (0 : Int32)) (ix (x12 + (72 : Int32))) (ix (24 : Int32)))) fun (h16 : qH) =>
  qg (qcp (0 : Int32) (x12 + (96 : Int32)) (24 : Int32) 24 np1) <|
  qlt (qrow h16 p1 (va_cpy (h16.1 (p0 + 11)) (h16.1 p1) (ix (0 : Int32)) (ix (x12 + (96 : Int32))) (ix (24 : Int32)))) fun (h17 : qH) =>
  some h17
set_option maxRecDepth 100000 in
set_option maxHeartbeats 4000000 in
theorem m7_store (l : Launch) {p0 : Nat} (hp0 : kStage p0) {p1 : Nat} {np1 : Nat} (hp1 : UX[p1]? = some (.inr (0, .inl np1, []))) (p2 : Int32) : qMet UX ROX l yX7_store (qws yX7_store cX7_store 5 none) R7_store [.ref p0, .ref p1, .int p2] (f7_store p0 p1 np1 p2) qEv := by
  refine q_met (own := RX7) 2 (by decide) rfl (Nat.le_of_ble_eq_true rfl) (ls := [some (.ref p0), some (.ref p1), some (.int p2), none, none]) rfl fun h => ?_
  unfold f7_store
  show PW UX ROX l R7_store cX7_store 5 none RX7 (qEv h) 0 [some (.ref p0), some (.ref p1), some (.int p2), none, none] [] h _
  refine p_aload_n rfl dX7_store_0 rfl ?_
  refine p_iload_n rfl dX7_store_1 rfl ?_
  refine p_aload_n rfl dX7_store_2 rfl ?_
  refine p_geti qg_RX7_53 (uX_Stage hp0) rfl dX7_store_3 rfl ?_
  refine p_iast qokX hp1 dX7_store_6 rfl (fun _ => ?_)
  refine p_nmH (fun h1 => ?_)
  refine p_aload_n rfl dX7_store_7 rfl ?_
  refine p_iload_n rfl dX7_store_8 rfl ?_
  refine p_iconst (v := (1 : Int32)) kiconst_1 dX7_store_9 rfl ?_
  refine p_iadd dX7_store_10 rfl ?_
  refine p_aload_n rfl dX7_store_11 rfl ?_
  refine p_geti qg_RX7_57 (uX_Stage hp0) rfl dX7_store_12 rfl ?_
  refine p_iast qokX hp1 dX7_store_15 rfl (fun _ => ?_)
  refine p_nmH (fun h2 => ?_)
  refine p_aload_n rfl dX7_store_16 rfl ?_
  refine p_iload_n rfl dX7_store_17 rfl ?_
  refine p_iconst (v := (2 : Int32)) kiconst_2 dX7_store_18 rfl ?_
  refine p_iadd dX7_store_19 rfl ?_
  refine p_aload_n rfl dX7_store_20 rfl ?_
  refine p_geti qg_RX7_60 (uX_Stage hp0) rfl dX7_store_21 rfl ?_
  refine p_iast qokX hp1 dX7_store_24 rfl (fun _ => ?_)
  refine p_nmH (fun h3 => ?_)
  refine p_aload_n rfl dX7_store_25 rfl ?_
  refine p_iload_n rfl dX7_store_26 rfl ?_
  refine p_iconst (v := (3 : Int32)) kiconst_3 dX7_store_27 rfl ?_
  refine p_iadd dX7_store_28 rfl ?_
  refine p_aload_n rfl dX7_store_29 rfl ?_
  refine p_geti qg_RX7_63 (uX_Stage hp0) rfl dX7_store_30 rfl ?_
  refine p_iast qokX hp1 dX7_store_33 rfl (fun _ => ?_)
  refine p_nmH (fun h4 => ?_)
  refine p_iload_n rfl dX7_store_34 rfl ?_
  refine p_iconst (v := (4 : Int32)) kiconst_4 dX7_store_35 rfl ?_
  refine p_iadd dX7_store_36 rfl ?_
  refine p_isN_n (lf := fun x5 => [some (.ref p0), some (.ref p1), some (.int p2), some (.int x5), none]) dX7_store_37 rfl rfl rfl (fun _ => rfl) (fun x5 => ?_)
  refine p_aload_n rfl dX7_store_38 rfl ?_
  refine p_getr qg_RX7_9 (uX_Stage hp0) rfl dX7_store_39 rfl ?_
  refine p_iconst (v := (0 : Int32)) kiconst_0 dX7_store_42 rfl ?_
  refine p_aload_n rfl dX7_store_43 rfl ?_
  refine p_iload_n rfl dX7_store_44 rfl ?_
  refine p_bipush (v := (8 : Int32)) kbipush_8 dX7_store_45 rfl ?_
  refine p_copy qokX cpy_RX7_90 (uX_Stage_1 hp0) hp1 ⟨Nat.le_of_ble_eq_true rfl, Nat.le_of_ble_eq_true rfl⟩ dX7_store_47 rfl ?_
  refine p_nmH (fun h6 => ?_)
  refine p_aload_n rfl dX7_store_50 rfl ?_
  refine p_getr qg_RX7_15 (uX_Stage hp0) rfl dX7_store_51 rfl ?_
  refine p_iconst (v := (0 : Int32)) kiconst_0 dX7_store_54 rfl ?_
  refine p_aload_n rfl dX7_store_55 rfl ?_
  refine p_iload_n rfl dX7_store_56 rfl ?_
  refine p_bipush (v := (8 : Int32)) kbipush_8 dX7_store_57 rfl ?_
  refine p_iadd dX7_store_59 rfl ?_
  refine p_bipush (v := (8 : Int32)) kbipush_8 dX7_store_60 rfl ?_
  refine p_copy qokX cpy_RX7_90 (uX_Stage_2 hp0) hp1 ⟨Nat.le_of_ble_eq_true rfl, Nat.le_of_ble_eq_true rfl⟩ dX7_store_62 rfl ?_
  refine p_nmH (fun h7 => ?_)
  refine p_aload_n rfl dX7_store_65 rfl ?_
  refine p_getr qg_RX7_18 (uX_Stage hp0) rfl dX7_store_66 rfl ?_
  refine p_iconst (v := (0 : Int32)) kiconst_0 dX7_store_69 rfl ?_
  refine p_aload_n rfl dX7_store_70 rfl ?_
  refine p_iload_n rfl dX7_store_71 rfl ?_
  refine p_bipush (v := (16 : Int32)) kbipush_16 dX7_store_72 rfl ?_
  refine p_iadd dX7_store_74 rfl ?_
  refine p_bipush (v := (8 : Int32)) kbipush_8 dX7_store_75 rfl ?_
  refine p_copy qokX cpy_RX7_90 (uX_Stage_3 hp0) hp1 ⟨Nat.le_of_ble_eq_true rfl, Nat.le_of_ble_eq_true rfl⟩ dX7_store_77 rfl ?_
  refine p_nmH (fun h8 => ?_)
  refine p_aload_n rfl dX7_store_80 rfl ?_
  refine p_getr qg_RX7_21 (uX_Stage hp0) rfl dX7_store_81 rfl ?_
  refine p_iconst (v := (0 : Int32)) kiconst_0 dX7_store_84 rfl ?_
  refine p_aload_n rfl dX7_store_85 rfl ?_
  refine p_iload_n rfl dX7_store_86 rfl ?_
  refine p_bipush (v := (24 : Int32)) kbipush_24 dX7_store_87 rfl ?_
  refine p_iadd dX7_store_89 rfl ?_
  refine p_bipush (v := (8 : Int32)) kbipush_8 dX7_store_90 rfl ?_
  refine p_copy qokX cpy_RX7_90 (uX_Stage_4 hp0) hp1 ⟨Nat.le_of_ble_eq_true rfl, Nat.le_of_ble_eq_true rfl⟩ dX7_store_92 rfl ?_
  refine p_nmH (fun h9 => ?_)
  refine p_aload_n rfl dX7_store_95 rfl ?_
  refine p_getr qg_RX7_24 (uX_Stage hp0) rfl dX7_store_96 rfl ?_
  refine p_iconst (v := (0 : Int32)) kiconst_0 dX7_store_99 rfl ?_
  refine p_aload_n rfl dX7_store_100 rfl ?_
  refine p_iload_n rfl dX7_store_101 rfl ?_
  refine p_bipush (v := (32 : Int32)) kbipush_32 dX7_store_102 rfl ?_
  refine p_iadd dX7_store_104 rfl ?_
  refine p_bipush (v := (8 : Int32)) kbipush_8 dX7_store_105 rfl ?_
  refine p_copy qokX cpy_RX7_90 (uX_Stage_5 hp0) hp1 ⟨Nat.le_of_ble_eq_true rfl, Nat.le_of_ble_eq_true rfl⟩ dX7_store_107 rfl ?_
  refine p_nmH (fun h10 => ?_)
  refine p_aload_n rfl dX7_store_110 rfl ?_
  refine p_getr qg_RX7_27 (uX_Stage hp0) rfl dX7_store_111 rfl ?_
  refine p_iconst (v := (0 : Int32)) kiconst_0 dX7_store_114 rfl ?_
  refine p_aload_n rfl dX7_store_115 rfl ?_
  refine p_iload_n rfl dX7_store_116 rfl ?_
  refine p_bipush (v := (40 : Int32)) kbipush_40 dX7_store_117 rfl ?_
  refine p_iadd dX7_store_119 rfl ?_
  refine p_bipush (v := (8 : Int32)) kbipush_8 dX7_store_120 rfl ?_
  refine p_copy qokX cpy_RX7_90 (uX_Stage_6 hp0) hp1 ⟨Nat.le_of_ble_eq_true rfl, Nat.le_of_ble_eq_true rfl⟩ dX7_store_122 rfl ?_
  refine p_nmH (fun h11 => ?_)
  refine p_iload_n rfl dX7_store_125 rfl ?_
  refine p_bipush (v := (48 : Int32)) kbipush_48 dX7_store_126 rfl ?_
  refine p_iadd dX7_store_128 rfl ?_
  refine p_isN (lf := fun x12 => [some (.ref p0), some (.ref p1), some (.int p2), some (.int x5), some (.int x12)]) dX7_store_129 rfl rfl rfl (fun _ => rfl) (fun x12 => ?_)
  refine p_aload_n rfl dX7_store_131 rfl ?_
  refine p_getr qg_RX7_30 (uX_Stage hp0) rfl dX7_store_132 rfl ?_
  refine p_iconst (v := (0 : Int32)) kiconst_0 dX7_store_135 rfl ?_
  refine p_aload_n rfl dX7_store_136 rfl ?_
  refine p_iload rfl dX7_store_137 rfl ?_
  refine p_bipush (v := (24 : Int32)) kbipush_24 dX7_store_139 rfl ?_
  refine p_copy qokX cpy_RX7_90 (uX_Stage_7 hp0) hp1 ⟨Nat.le_of_ble_eq_true rfl, Nat.le_of_ble_eq_true rfl⟩ dX7_store_141 rfl ?_
  refine p_nmH (fun h13 => ?_)
  refine p_aload_n rfl dX7_store_144 rfl ?_
  refine p_getr qg_RX7_33 (uX_Stage hp0) rfl dX7_store_145 rfl ?_
  refine p_iconst (v := (0 : Int32)) kiconst_0 dX7_store_148 rfl ?_
  refine p_aload_n rfl dX7_store_149 rfl ?_
  refine p_iload rfl dX7_store_150 rfl ?_
  refine p_bipush (v := (24 : Int32)) kbipush_24 dX7_store_152 rfl ?_
  refine p_iadd dX7_store_154 rfl ?_
  refine p_bipush (v := (24 : Int32)) kbipush_24 dX7_store_155 rfl ?_
  refine p_copy qokX cpy_RX7_90 (uX_Stage_8 hp0) hp1 ⟨Nat.le_of_ble_eq_true rfl, Nat.le_of_ble_eq_true rfl⟩ dX7_store_157 rfl ?_
  refine p_nmH (fun h14 => ?_)
  refine p_aload_n rfl dX7_store_160 rfl ?_
  refine p_getr qg_RX7_36 (uX_Stage hp0) rfl dX7_store_161 rfl ?_
  refine p_iconst (v := (0 : Int32)) kiconst_0 dX7_store_164 rfl ?_
  refine p_aload_n rfl dX7_store_165 rfl ?_
  refine p_iload rfl dX7_store_166 rfl ?_
  refine p_bipush (v := (48 : Int32)) kbipush_48 dX7_store_168 rfl ?_
  refine p_iadd dX7_store_170 rfl ?_
  refine p_bipush (v := (24 : Int32)) kbipush_24 dX7_store_171 rfl ?_
  refine p_copy qokX cpy_RX7_90 (uX_Stage_9 hp0) hp1 ⟨Nat.le_of_ble_eq_true rfl, Nat.le_of_ble_eq_true rfl⟩ dX7_store_173 rfl ?_
  refine p_nmH (fun h15 => ?_)
  refine p_aload_n rfl dX7_store_176 rfl ?_
  refine p_getr qg_RX7_39 (uX_Stage hp0) rfl dX7_store_177 rfl ?_
  refine p_iconst (v := (0 : Int32)) kiconst_0 dX7_store_180 rfl ?_
  refine p_aload_n rfl dX7_store_181 rfl ?_
  refine p_iload rfl dX7_store_182 rfl ?_
  refine p_bipush (v := (72 : Int32)) kbipush_72 dX7_store_184 rfl ?_
  refine p_iadd dX7_store_186 rfl ?_
  refine p_bipush (v := (24 : Int32)) kbipush_24 dX7_store_187 rfl ?_
  refine p_copy qokX cpy_RX7_90 (uX_Stage_10 hp0) hp1 ⟨Nat.le_of_ble_eq_true rfl, Nat.le_of_ble_eq_true rfl⟩ dX7_store_189 rfl ?_
  refine p_nmH (fun h16 => ?_)
  refine p_aload_n rfl dX7_store_192 rfl ?_
  refine p_getr qg_RX7_42 (uX_Stage hp0) rfl dX7_store_193 rfl ?_
  refine p_iconst (v := (0 : Int32)) kiconst_0 dX7_store_196 rfl ?_
  refine p_aload_n rfl dX7_store_197 rfl ?_
  refine p_iload rfl dX7_store_198 rfl ?_
  refine p_bipush (v := (96 : Int32)) kbipush_96 dX7_store_200 rfl ?_
  refine p_iadd dX7_store_202 rfl ?_
  refine p_bipush (v := (24 : Int32)) kbipush_24 dX7_store_203 rfl ?_
  refine p_copy qokX cpy_RX7_90 (uX_Stage_11 hp0) hp1 ⟨Nat.le_of_ble_eq_true rfl, Nat.le_of_ble_eq_true rfl⟩ dX7_store_205 rfl ?_
  refine p_nmH (fun h17 => ?_)
  exact p_vret rfl rfl dX7_store_208
noncomputable def f3_keep (p1 : Nat) (h : qH) : Option (qH) :=
  (f7_store p1 78 6880 ((h.1 77 2) * (172 : Int32)) h).bind fun (h1 : qH) =>
  qg (decide (¬ (40 : Int32) = 0)) <|
  qlt (qw h1 77 2 (((h1.1 77 2) + (1 : Int32)) - ((h1.1 77 2) + (1 : Int32)) / (40 : Int32) * (40 : Int32))) fun (h2 : qH) =>
  qlt (qw h2 77 1 (if (40 : Int32) < ((h2.1 77 1) + (1 : Int32)) then (40 : Int32) else ((h2.1 77 1) + (1 : Int32)))) fun (h3 : qH) =>
  some h3
set_option maxRecDepth 100000 in
set_option maxHeartbeats 4000000 in
theorem m3_keep (l : Launch) {p1 : Nat} (hp1 : kStage p1) : qMet UX ROX l yX3_keep (qws yX3_keep cX3_keep 2 none) R3_keep [.ref 77, .ref p1] (f3_keep p1) qEv := by
  refine q_met (own := RX3) 0 (by decide) rfl (Nat.le_of_ble_eq_true rfl) (ls := [some (.ref 77), some (.ref p1)]) rfl fun h => ?_
  unfold f3_keep
  show PW UX ROX l R3_keep cX3_keep 2 none RX3 (qEv h) 0 [some (.ref 77), some (.ref p1)] [] h _
  refine p_aload_n rfl dX3_keep_0 rfl ?_
  refine p_aload_n rfl dX3_keep_1 rfl ?_
  refine p_getr qg_RX3_11 uX_77 rfl dX3_keep_2 rfl ?_
  refine p_aload_n rfl dX3_keep_5 rfl ?_
  refine p_geti qg_RX3_21 uX_77 rfl dX3_keep_6 rfl ?_
  refine p_sipush (v := (172 : Int32)) ksipush_172 dX3_keep_9 rfl ?_
  refine p_imul dX3_keep_12 rfl ?_
  refine p_callVv (f := f7_store p1 78 6880 ((h.1 77 2) * (172 : Int32))) (st := []) [.ref 78, .int ((h.1 77 2) * (172 : Int32))] qRokX (m7_store l hp1 uX_78 ((h.1 77 2) * (172 : Int32))) cal_RX3_24 (uX_Stage hp1) rfl rfl ⟨rfl, rfl⟩ ⟨Nat.le_of_ble_eq_true rfl, Nat.le_of_ble_eq_true rfl⟩ (Nat.le_of_ble_eq_true rfl) dX3_keep_13 rfl (fun h1 => ?_)
  refine p_aload_n rfl dX3_keep_16 rfl ?_
  refine p_aload_n rfl dX3_keep_17 rfl ?_
  refine p_geti qg_RX3_21 uX_77 rfl dX3_keep_18 rfl ?_
  refine p_iconst (v := (1 : Int32)) kiconst_1 dX3_keep_21 rfl ?_
  refine p_iadd dX3_keep_22 rfl ?_
  refine p_bipush (v := (40 : Int32)) kbipush_40 dX3_keep_23 rfl ?_
  refine p_irem dX3_keep_25 rfl (fun _ => ?_)
  refine p_puti qokX qp_RX3_21 uX_77 rfl dX3_keep_26 rfl ?_
  refine p_nmH (fun h2 => ?_)
  refine p_aload_n rfl dX3_keep_29 rfl ?_
  refine p_aload_n rfl dX3_keep_30 rfl ?_
  refine p_geti qg_RX3_17 uX_77 rfl dX3_keep_31 rfl ?_
  refine p_iconst (v := (1 : Int32)) kiconst_1 dX3_keep_34 rfl ?_
  refine p_iadd dX3_keep_35 rfl ?_
  refine p_bipush (v := (40 : Int32)) kbipush_40 dX3_keep_36 rfl ?_
  refine p_min qmin_RX3_28 ⟨Nat.le_of_ble_eq_true rfl, Nat.le_of_ble_eq_true rfl⟩ dX3_keep_38 rfl ?_
  refine p_puti qokX qp_RX3_17 uX_77 rfl dX3_keep_41 rfl ?_
  refine p_nmH (fun h3 => ?_)
  exact p_vret rfl rfl dX3_keep_44
noncomputable def f7_load (p0 : Nat) (p1 : Nat) (np1 : Nat) (p2 : Int32) (h : qH) : Option (qH) :=
  qg (qin p2 np1) <|
  qlt (qw h p0 2 (h.1 p1 (ix p2))) fun (h1 : qH) =>
  qg (qin (p2 + (1 : Int32)) np1) <|
  qlt (qw h1 p0 3 (h1.1 p1 (ix (p2 + (1 : Int32))))) fun (h2 : qH) =>
  qg (qin (p2 + (2 : Int32)) np1) <|
  qlt (qw h2 p0 4 (h2.1 p1 (ix (p2 + (2 : Int32))))) fun (h3 : qH) =>
  qg (qin (p2 + (3 : Int32)) np1) <|
  qlt (qw h3 p0 5 (h3.1 p1 (ix (p2 + (3 : Int32))))) fun (h4 : qH) =>
  qlt (p2 + (4 : Int32)) fun (x5 : Int32) =>
  qg (qcp x5 (0 : Int32) (8 : Int32) np1 8) <|
  qlt (qrow h4 (p0 + 1) (va_cpy (h4.1 p1) (h4.1 (p0 + 1)) (ix x5) (ix (0 : Int32)) (ix (8 : Int32)))) fun (h6 : qH) =>
  qg (qcp (x5 + (8 : Int32)) (0 : Int32) (8 : Int32) np1 8) <|
  qlt (qrow h6 (p0 + 2) (va_cpy (h6.1 p1) (h6.1 (p0 + 2)) (ix (x5 + (8 : Int32))) (ix (0 : Int32)) (ix (8 : Int32)))) fun (h7 : qH) =>
  qg (qcp (x5 + (16 : Int32)) (0 : Int32) (8 : Int32) np1 8) <|
  qlt (qrow h7 (p0 + 3) (va_cpy (h7.1 p1) (h7.1 (p0 + 3)) (ix (x5 + (16 : Int32))) (ix (0 : Int32)) (ix (8 : Int32)))) fun (h8 : qH) =>
  qg (qcp (x5 + (24 : Int32)) (0 : Int32) (8 : Int32) np1 8) <|
  qlt (qrow h8 (p0 + 4) (va_cpy (h8.1 p1) (h8.1 (p0 + 4)) (ix (x5 + (24 : Int32))) (ix (0 : Int32)) (ix (8 : Int32)))) fun (h9 : qH) =>
  qg (qcp (x5 + (32 : Int32)) (0 : Int32) (8 : Int32) np1 8) <|
  qlt (qrow h9 (p0 + 5) (va_cpy (h9.1 p1) (h9.1 (p0 + 5)) (ix (x5 + (32 : Int32))) (ix (0 : Int32)) (ix (8 : Int32)))) fun (h10 : qH) =>
  qg (qcp (x5 + (40 : Int32)) (0 : Int32) (8 : Int32) np1 8) <|
  qlt (qrow h10 (p0 + 6) (va_cpy (h10.1 p1) (h10.1 (p0 + 6)) (ix (x5 + (40 : Int32))) (ix (0 : Int32)) (ix (8 : Int32)))) fun (h11 : qH) =>
  qlt (x5 + (48 : Int32)) fun (x12 : Int32) =>
  qg (qcp x12 (0 : Int32) (24 : Int32) np1 24) <|
  qlt (qrow h11 (p0 + 7) (va_cpy (h11.1 p1) (h11.1 (p0 + 7)) (ix x12) (ix (0 : Int32)) (ix (24 : Int32)))) fun (h13 : qH) =>
  qg (qcp (x12 + (24 : Int32)) (0 : Int32) (24 : Int32) np1 24) <|
  qlt (qrow h13 (p0 + 8) (va_cpy (h13.1 p1) (h13.1 (p0 + 8)) (ix (x12 + (24 : Int32))) (ix (0 : Int32)) (ix (24 : Int32)))) fun (h14 : qH) =>
  qg (qcp (x12 + (48 : Int32)) (0 : Int32) (24 : Int32) np1 24) <|
  qlt (qrow h14 (p0 + 9) (va_cpy (h14.1 p1) (h14.1 (p0 + 9)) (ix (x12 + (48 : Int32))) (ix (0 : Int32)) (ix (24 : Int32)))) fun (h15 : qH) =>
  qg (qcp (x12 + (72 : Int32)) (0 : Int32) (24 : Int32) np1 24) <|
  qlt (qrow h15 (p0 + 10) (va_cpy (h15.1 p1) (h15.1 (p0 + 10)) (ix (x12 + (72 : Int32))) (ix (0 : Int32)) (ix (24 : Int32)))) fun (h16 : qH) =>
  qg (qcp (x12 + (96 : Int32)) (0 : Int32) (24 : Int32) np1 24) <|
  qlt (qrow h16 (p0 + 11) (va_cpy (h16.1 p1) (h16.1 (p0 + 11)) (ix (x12 + (96 : Int32))) (ix (0 : Int32)) (ix (24 : Int32)))) fun (h17 : qH) =>
  some h17
set_option maxRecDepth 100000 in
set_option maxHeartbeats 4000000 in
theorem m7_load (l : Launch) {p0 : Nat} (hp0 : kStage p0) {p1 : Nat} {np1 : Nat} (hp1 : UX[p1]? = some (.inr (0, .inl np1, []))) (p2 : Int32) : qMet UX ROX l yX7_load (qws yX7_load cX7_load 5 none) R7_load [.ref p0, .ref p1, .int p2] (f7_load p0 p1 np1 p2) qEv := by
  refine q_met (own := RX7) 2 (by decide) rfl (Nat.le_of_ble_eq_true rfl) (ls := [some (.ref p0), some (.ref p1), some (.int p2), none, none]) rfl fun h => ?_
  unfold f7_load
  show PW UX ROX l R7_load cX7_load 5 none RX7 (qEv h) 0 [some (.ref p0), some (.ref p1), some (.int p2), none, none] [] h _
  refine p_aload_n rfl dX7_load_0 rfl ?_
  refine p_aload_n rfl dX7_load_1 rfl ?_
  refine p_iload_n rfl dX7_load_2 rfl ?_
  refine p_iald hp1 dX7_load_3 rfl (fun _ => ?_)
  refine p_puti qokX qp_RX7_53 (uX_Stage hp0) rfl dX7_load_4 rfl ?_
  refine p_nmH (fun h1 => ?_)
  refine p_aload_n rfl dX7_load_7 rfl ?_
  refine p_aload_n rfl dX7_load_8 rfl ?_
  refine p_iload_n rfl dX7_load_9 rfl ?_
  refine p_iconst (v := (1 : Int32)) kiconst_1 dX7_load_10 rfl ?_
  refine p_iadd dX7_load_11 rfl ?_
  refine p_iald hp1 dX7_load_12 rfl (fun _ => ?_)
  refine p_puti qokX qp_RX7_57 (uX_Stage hp0) rfl dX7_load_13 rfl ?_
  refine p_nmH (fun h2 => ?_)
  refine p_aload_n rfl dX7_load_16 rfl ?_
  refine p_aload_n rfl dX7_load_17 rfl ?_
  refine p_iload_n rfl dX7_load_18 rfl ?_
  refine p_iconst (v := (2 : Int32)) kiconst_2 dX7_load_19 rfl ?_
  refine p_iadd dX7_load_20 rfl ?_
  refine p_iald hp1 dX7_load_21 rfl (fun _ => ?_)
  refine p_puti qokX qp_RX7_60 (uX_Stage hp0) rfl dX7_load_22 rfl ?_
  refine p_nmH (fun h3 => ?_)
  refine p_aload_n rfl dX7_load_25 rfl ?_
  refine p_aload_n rfl dX7_load_26 rfl ?_
  refine p_iload_n rfl dX7_load_27 rfl ?_
  refine p_iconst (v := (3 : Int32)) kiconst_3 dX7_load_28 rfl ?_
  refine p_iadd dX7_load_29 rfl ?_
  refine p_iald hp1 dX7_load_30 rfl (fun _ => ?_)
  refine p_puti qokX qp_RX7_63 (uX_Stage hp0) rfl dX7_load_31 rfl ?_
  refine p_nmH (fun h4 => ?_)
  refine p_iload_n rfl dX7_load_34 rfl ?_
  refine p_iconst (v := (4 : Int32)) kiconst_4 dX7_load_35 rfl ?_
  refine p_iadd dX7_load_36 rfl ?_
  refine p_isN_n (lf := fun x5 => [some (.ref p0), some (.ref p1), some (.int p2), some (.int x5), none]) dX7_load_37 rfl rfl rfl (fun _ => rfl) (fun x5 => ?_)
  refine p_aload_n rfl dX7_load_38 rfl ?_
  refine p_iload_n rfl dX7_load_39 rfl ?_
  refine p_aload_n rfl dX7_load_40 rfl ?_
  refine p_getr qg_RX7_9 (uX_Stage hp0) rfl dX7_load_41 rfl ?_
  refine p_iconst (v := (0 : Int32)) kiconst_0 dX7_load_44 rfl ?_
  refine p_bipush (v := (8 : Int32)) kbipush_8 dX7_load_45 rfl ?_
  refine p_copy qokX cpy_RX7_90 hp1 (uX_Stage_1 hp0) ⟨Nat.le_of_ble_eq_true rfl, Nat.le_of_ble_eq_true rfl⟩ dX7_load_47 rfl ?_
  refine p_nmH (fun h6 => ?_)
  refine p_aload_n rfl dX7_load_50 rfl ?_
  refine p_iload_n rfl dX7_load_51 rfl ?_
  refine p_bipush (v := (8 : Int32)) kbipush_8 dX7_load_52 rfl ?_
  refine p_iadd dX7_load_54 rfl ?_
  refine p_aload_n rfl dX7_load_55 rfl ?_
  refine p_getr qg_RX7_15 (uX_Stage hp0) rfl dX7_load_56 rfl ?_
  refine p_iconst (v := (0 : Int32)) kiconst_0 dX7_load_59 rfl ?_
  refine p_bipush (v := (8 : Int32)) kbipush_8 dX7_load_60 rfl ?_
  refine p_copy qokX cpy_RX7_90 hp1 (uX_Stage_2 hp0) ⟨Nat.le_of_ble_eq_true rfl, Nat.le_of_ble_eq_true rfl⟩ dX7_load_62 rfl ?_
  refine p_nmH (fun h7 => ?_)
  refine p_aload_n rfl dX7_load_65 rfl ?_
  refine p_iload_n rfl dX7_load_66 rfl ?_
  refine p_bipush (v := (16 : Int32)) kbipush_16 dX7_load_67 rfl ?_
  refine p_iadd dX7_load_69 rfl ?_
  refine p_aload_n rfl dX7_load_70 rfl ?_
  refine p_getr qg_RX7_18 (uX_Stage hp0) rfl dX7_load_71 rfl ?_
  refine p_iconst (v := (0 : Int32)) kiconst_0 dX7_load_74 rfl ?_
  refine p_bipush (v := (8 : Int32)) kbipush_8 dX7_load_75 rfl ?_
  refine p_copy qokX cpy_RX7_90 hp1 (uX_Stage_3 hp0) ⟨Nat.le_of_ble_eq_true rfl, Nat.le_of_ble_eq_true rfl⟩ dX7_load_77 rfl ?_
  refine p_nmH (fun h8 => ?_)
  refine p_aload_n rfl dX7_load_80 rfl ?_
  refine p_iload_n rfl dX7_load_81 rfl ?_
  refine p_bipush (v := (24 : Int32)) kbipush_24 dX7_load_82 rfl ?_
  refine p_iadd dX7_load_84 rfl ?_
  refine p_aload_n rfl dX7_load_85 rfl ?_
  refine p_getr qg_RX7_21 (uX_Stage hp0) rfl dX7_load_86 rfl ?_
  refine p_iconst (v := (0 : Int32)) kiconst_0 dX7_load_89 rfl ?_
  refine p_bipush (v := (8 : Int32)) kbipush_8 dX7_load_90 rfl ?_
  refine p_copy qokX cpy_RX7_90 hp1 (uX_Stage_4 hp0) ⟨Nat.le_of_ble_eq_true rfl, Nat.le_of_ble_eq_true rfl⟩ dX7_load_92 rfl ?_
  refine p_nmH (fun h9 => ?_)
  refine p_aload_n rfl dX7_load_95 rfl ?_
  refine p_iload_n rfl dX7_load_96 rfl ?_
  refine p_bipush (v := (32 : Int32)) kbipush_32 dX7_load_97 rfl ?_
  refine p_iadd dX7_load_99 rfl ?_
  refine p_aload_n rfl dX7_load_100 rfl ?_
  refine p_getr qg_RX7_24 (uX_Stage hp0) rfl dX7_load_101 rfl ?_
  refine p_iconst (v := (0 : Int32)) kiconst_0 dX7_load_104 rfl ?_
  refine p_bipush (v := (8 : Int32)) kbipush_8 dX7_load_105 rfl ?_
  refine p_copy qokX cpy_RX7_90 hp1 (uX_Stage_5 hp0) ⟨Nat.le_of_ble_eq_true rfl, Nat.le_of_ble_eq_true rfl⟩ dX7_load_107 rfl ?_
  refine p_nmH (fun h10 => ?_)
  refine p_aload_n rfl dX7_load_110 rfl ?_
  refine p_iload_n rfl dX7_load_111 rfl ?_
  refine p_bipush (v := (40 : Int32)) kbipush_40 dX7_load_112 rfl ?_
  refine p_iadd dX7_load_114 rfl ?_
  refine p_aload_n rfl dX7_load_115 rfl ?_
  refine p_getr qg_RX7_27 (uX_Stage hp0) rfl dX7_load_116 rfl ?_
  refine p_iconst (v := (0 : Int32)) kiconst_0 dX7_load_119 rfl ?_
  refine p_bipush (v := (8 : Int32)) kbipush_8 dX7_load_120 rfl ?_
  refine p_copy qokX cpy_RX7_90 hp1 (uX_Stage_6 hp0) ⟨Nat.le_of_ble_eq_true rfl, Nat.le_of_ble_eq_true rfl⟩ dX7_load_122 rfl ?_
  refine p_nmH (fun h11 => ?_)
  refine p_iload_n rfl dX7_load_125 rfl ?_
  refine p_bipush (v := (48 : Int32)) kbipush_48 dX7_load_126 rfl ?_
  refine p_iadd dX7_load_128 rfl ?_
  refine p_isN (lf := fun x12 => [some (.ref p0), some (.ref p1), some (.int p2), some (.int x5), some (.int x12)]) dX7_load_129 rfl rfl rfl (fun _ => rfl) (fun x12 => ?_)
  refine p_aload_n rfl dX7_load_131 rfl ?_
  refine p_iload rfl dX7_load_132 rfl ?_
  refine p_aload_n rfl dX7_load_134 rfl ?_
  refine p_getr qg_RX7_30 (uX_Stage hp0) rfl dX7_load_135 rfl ?_
  refine p_iconst (v := (0 : Int32)) kiconst_0 dX7_load_138 rfl ?_
  refine p_bipush (v := (24 : Int32)) kbipush_24 dX7_load_139 rfl ?_
  refine p_copy qokX cpy_RX7_90 hp1 (uX_Stage_7 hp0) ⟨Nat.le_of_ble_eq_true rfl, Nat.le_of_ble_eq_true rfl⟩ dX7_load_141 rfl ?_
  refine p_nmH (fun h13 => ?_)
  refine p_aload_n rfl dX7_load_144 rfl ?_
  refine p_iload rfl dX7_load_145 rfl ?_
  refine p_bipush (v := (24 : Int32)) kbipush_24 dX7_load_147 rfl ?_
  refine p_iadd dX7_load_149 rfl ?_
  refine p_aload_n rfl dX7_load_150 rfl ?_
  refine p_getr qg_RX7_33 (uX_Stage hp0) rfl dX7_load_151 rfl ?_
  refine p_iconst (v := (0 : Int32)) kiconst_0 dX7_load_154 rfl ?_
  refine p_bipush (v := (24 : Int32)) kbipush_24 dX7_load_155 rfl ?_
  refine p_copy qokX cpy_RX7_90 hp1 (uX_Stage_8 hp0) ⟨Nat.le_of_ble_eq_true rfl, Nat.le_of_ble_eq_true rfl⟩ dX7_load_157 rfl ?_
  refine p_nmH (fun h14 => ?_)
  refine p_aload_n rfl dX7_load_160 rfl ?_
  refine p_iload rfl dX7_load_161 rfl ?_
  refine p_bipush (v := (48 : Int32)) kbipush_48 dX7_load_163 rfl ?_
  refine p_iadd dX7_load_165 rfl ?_
  refine p_aload_n rfl dX7_load_166 rfl ?_
  refine p_getr qg_RX7_36 (uX_Stage hp0) rfl dX7_load_167 rfl ?_
  refine p_iconst (v := (0 : Int32)) kiconst_0 dX7_load_170 rfl ?_
  refine p_bipush (v := (24 : Int32)) kbipush_24 dX7_load_171 rfl ?_
  refine p_copy qokX cpy_RX7_90 hp1 (uX_Stage_9 hp0) ⟨Nat.le_of_ble_eq_true rfl, Nat.le_of_ble_eq_true rfl⟩ dX7_load_173 rfl ?_
  refine p_nmH (fun h15 => ?_)
  refine p_aload_n rfl dX7_load_176 rfl ?_
  refine p_iload rfl dX7_load_177 rfl ?_
  refine p_bipush (v := (72 : Int32)) kbipush_72 dX7_load_179 rfl ?_
  refine p_iadd dX7_load_181 rfl ?_
  refine p_aload_n rfl dX7_load_182 rfl ?_
  refine p_getr qg_RX7_39 (uX_Stage hp0) rfl dX7_load_183 rfl ?_
  refine p_iconst (v := (0 : Int32)) kiconst_0 dX7_load_186 rfl ?_
  refine p_bipush (v := (24 : Int32)) kbipush_24 dX7_load_187 rfl ?_
  refine p_copy qokX cpy_RX7_90 hp1 (uX_Stage_10 hp0) ⟨Nat.le_of_ble_eq_true rfl, Nat.le_of_ble_eq_true rfl⟩ dX7_load_189 rfl ?_
  refine p_nmH (fun h16 => ?_)
  refine p_aload_n rfl dX7_load_192 rfl ?_
  refine p_iload rfl dX7_load_193 rfl ?_
  refine p_bipush (v := (96 : Int32)) kbipush_96 dX7_load_195 rfl ?_
  refine p_iadd dX7_load_197 rfl ?_
  refine p_aload_n rfl dX7_load_198 rfl ?_
  refine p_getr qg_RX7_42 (uX_Stage hp0) rfl dX7_load_199 rfl ?_
  refine p_iconst (v := (0 : Int32)) kiconst_0 dX7_load_202 rfl ?_
  refine p_bipush (v := (24 : Int32)) kbipush_24 dX7_load_203 rfl ?_
  refine p_copy qokX cpy_RX7_90 hp1 (uX_Stage_11 hp0) ⟨Nat.le_of_ble_eq_true rfl, Nat.le_of_ble_eq_true rfl⟩ dX7_load_205 rfl ?_
  refine p_nmH (fun h17 => ?_)
  exact p_vret rfl rfl dX7_load_208
