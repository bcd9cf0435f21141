theorem cal_RX2_71 : qCalV RX2 71 yX2_fillTable cX2_fillTable 4 none 1 := ⟨⟨qTT_in 1086 (by decide +kernel) rfl, qTT_in 133 (by decide +kernel) rfl, ⟨by decide, by decide, by decide +kernel⟩, Or.inl (qTT_in 1083 (by decide +kernel) rfl)⟩, qTT_in 1085 (by decide +kernel) rfl, qTT_in 36 (by decide +kernel) rfl⟩
theorem cal_RX8_304 : qCalV RX8 304 yX2_leastTime cX2_leastTime 6 (some .int) 0 := ⟨⟨qTT_in 1082 (by decide +kernel) rfl, qTT_in 133 (by decide +kernel) rfl, ⟨by decide, by decide, by decide +kernel⟩, Or.inl (qTT_in 1079 (by decide +kernel) rfl)⟩, qTT_in 1080 (by decide +kernel) rfl, qTT_in 1081 (by decide +kernel) rfl⟩
theorem qp_RX2_30 : qPut RX2 30 2 9 (.array .int) := ⟨RX2, TX2, 10, tyX2, rfl, by decide, inq2, tyX2_ok, nmX2, rfl, tyX2_ok 9 (by decide), Or.inl (qTT_in 294 (by decide +kernel) rfl)⟩
section QLT
variable {c0 n0 : Nat}
abbrev R2_lt (c n : Nat) : Room := { frames := 3, cells := c, slots := n, locals := 68 }
noncomputable def f2_lt42_L83 (p1 : Int32) (x5 : Int32) (x2 : Int32) (x6 : Int32) (k : Int32 → qH → Option (Int32 × qH)) : Nat → Int32 → qH → Option (Int32 × qH)
  | 0, _, _ => none
  | n + 1, x7, h8 =>
    if (h8.1 43 1) ≤ x7 then (
      k x7 h8)
    else (
      qg (qin x7 12) <|
      (f4_seekTime 6 x6 (h8.1 45 (ix x7)) h8).bind fun (z10 : Int32) =>
      qg (qin ((x2 * (h8.1 43 1)) + x7) 144) <|
      qlt (qw h8 49 (ix ((x2 * (h8.1 43 1)) + x7)) z10) fun (h11 : qH) =>
      qlt (x7 + (1 : Int32)) fun (x12 : Int32) =>
      f2_lt42_L83 p1 x5 x2 x6 k n x12 h11)
set_option maxRecDepth 100000 in
set_option maxHeartbeats 4000000 in
theorem w2_lt42_L83 (l : Launch) (h0 : qH) (p1 : Int32) (x5 : Int32) (x2 : Int32) (x6 : Int32) {k : Int32 → qH → Option (Int32 × qH)} (hk : ∀ (x7 : Int32) (h8 : qH), PW UX ROX l (R2_lt c0 n0) cX2_leastTime 6 (some .int) RX2 (qEw h0) 128 [some (.ref 43), some (.int p1), some (.int x5), some (.int x2), some (.int x6), some (.int x7)] [] h8 (k x7 h8)) : ∀ (n : Nat) (x7 : Int32) (h8 : qH), PW UX ROX l (R2_lt c0 n0) cX2_leastTime 6 (some .int) RX2 (qEw h0) 83 [some (.ref 43), some (.int p1), some (.int x5), some (.int x2), some (.int x6), some (.int x7)] [] h8 (f2_lt42_L83 p1 x5 x2 x6 k n x7 h8) := by
  intro n
  induction n with
  | zero => intro _ _; exact p_none
  | succ n ih =>
    intro x7 h8
    unfold f2_lt42_L83
    refine p_iload rfl dX2_leastTime_83 rfl ?_
    refine p_aload_n rfl dX2_leastTime_85 rfl ?_
    refine p_geti qg_RX2_37 uX_43 rfl dX2_leastTime_86 rfl ?_
    refine p_if (fun c9 => ?_) (fun c9 => ?_)
    · refine p_icmp_ge_t (tgt := 128) dX2_leastTime_89 (by decide) c9 ?_
      exact hk x7 h8
    · refine p_icmp_ge_f (tgt := 128) dX2_leastTime_89 (by decide) rfl c9 ?_
      refine p_aload_n rfl dX2_leastTime_92 rfl ?_
      refine p_getr qg_RX2_27 uX_43 rfl dX2_leastTime_93 rfl ?_
      refine p_iload_n rfl dX2_leastTime_96 rfl ?_
      refine p_aload_n rfl dX2_leastTime_97 rfl ?_
      refine p_geti qg_RX2_37 uX_43 rfl dX2_leastTime_98 rfl ?_
      refine p_imul dX2_leastTime_101 rfl ?_
      refine p_iload rfl dX2_leastTime_102 rfl ?_
      refine p_iadd dX2_leastTime_104 rfl ?_
      refine p_aload_n rfl dX2_leastTime_105 rfl ?_
      refine p_getr qg_RX2_33 uX_43 rfl dX2_leastTime_106 rfl ?_
      refine p_iload rfl dX2_leastTime_109 rfl ?_
      refine p_aload_n rfl dX2_leastTime_111 rfl ?_
      refine p_getr qg_RX2_15 uX_43 rfl dX2_leastTime_112 rfl ?_
      refine p_iload rfl dX2_leastTime_115 rfl ?_
      refine p_iald uX_45 dX2_leastTime_117 rfl (fun _ => ?_)
      refine p_callVr (f := f4_seekTime 6 x6 (h8.1 45 (ix x7))) (st := [.int ((x2 * (h8.1 43 1)) + x7), .ref 49]) [.int x6, .int (h8.1 45 (ix x7))] qRokX (m4_seekTime l (kPlan_6) x6 (h8.1 45 (ix x7))) cal_RX2_65 uX_6 rfl rfl ⟨rfl, rfl⟩ ⟨Nat.le_of_ble_eq_true rfl, Nat.le_of_ble_eq_true rfl⟩ (Nat.le_of_ble_eq_true rfl) dX2_leastTime_118 rfl (fun z10 => ?_)
      refine p_iast qokX uX_49 dX2_leastTime_121 rfl (fun _ => ?_)
      refine p_nmH (fun h11 => ?_)
      refine p_iiN (v := (1 : Int32)) (lf := fun x12 => [some (.ref 43), some (.int p1), some (.int x5), some (.int x2), some (.int x6), some (.int x12)]) kiconst_1 dX2_leastTime_122 rfl rfl rfl rfl (fun _ => rfl) (fun x12 => ?_)
      refine p_goto (tgt := 83) dX2_leastTime_125 (by decide) ?_
      exact ih x12 h11
noncomputable def f2_lt42_L46 (p1 : Int32) (k : Int32 → Int32 → qH → Option (Int32 × qH)) : Nat → Int32 → Int32 → qH → Option (Int32 × qH)
  | 0, _, _, _ => none
  | n + 1, x1, x2, h3 =>
    if (h3.1 43 1) ≤ x2 then (
      k x1 x2 h3)
    else (
      qg (qin x2 12) <|
      qlt (x1 + (h3.1 46 (ix x2))) fun (x5 : Int32) =>
      qg (qin x2 12) <|
      qg (qin x2 12) <|
      qlt (((h3.1 45 (ix x2)) + (h3.1 46 (ix x2))) - (1 : Int32)) fun (x6 : Int32) =>
      f2_lt42_L83 p1 x5 x2 x6 (fun (x13 : Int32) (h14 : qH) =>
        qlt (x2 + (1 : Int32)) fun (x15 : Int32) =>
        f2_lt42_L46 p1 k n x5 x15 h14) qN (0 : Int32) h3)
set_option maxRecDepth 100000 in
set_option maxHeartbeats 4000000 in
theorem w2_lt42_L46 (l : Launch) (h0 : qH) (p1 : Int32) {k : Int32 → Int32 → qH → Option (Int32 × qH)} (hk : ∀ (x1 : Int32) (x2 : Int32) (h3 : qH), PW UX ROX l (R2_lt c0 n0) cX2_leastTime 6 (some .int) RX2 (qEw h0) 134 [some (.ref 43), some (.int p1), some (.int x1), some (.int x2), none, none] [] h3 (k x1 x2 h3)) : ∀ (n : Nat) (x1 : Int32) (x2 : Int32) (h3 : qH), PW UX ROX l (R2_lt c0 n0) cX2_leastTime 6 (some .int) RX2 (qEw h0) 46 [some (.ref 43), some (.int p1), some (.int x1), some (.int x2), none, none] [] h3 (f2_lt42_L46 p1 k n x1 x2 h3) := by
  intro n
  induction n with
  | zero => intro _ _ _; exact p_none
  | succ n ih =>
    intro x1 x2 h3
    unfold f2_lt42_L46
    refine p_iload_n rfl dX2_leastTime_46 rfl ?_
    refine p_aload_n rfl dX2_leastTime_47 rfl ?_
    refine p_geti qg_RX2_37 uX_43 rfl dX2_leastTime_48 rfl ?_
    refine p_if (fun c4 => ?_) (fun c4 => ?_)
    · refine p_icmp_ge_t (tgt := 134) dX2_leastTime_51 (by decide) c4 ?_
      exact hk x1 x2 h3
    · refine p_icmp_ge_f (tgt := 134) dX2_leastTime_51 (by decide) rfl c4 ?_
      refine p_iload_n rfl dX2_leastTime_54 rfl ?_
      refine p_aload_n rfl dX2_leastTime_55 rfl ?_
      refine p_getr qg_RX2_18 uX_43 rfl dX2_leastTime_56 rfl ?_
      refine p_iload_n rfl dX2_leastTime_59 rfl ?_
      refine p_iald uX_46 dX2_leastTime_60 rfl (fun _ => ?_)
      refine p_iadd dX2_leastTime_61 rfl ?_
      refine p_isN_n (lf := fun x5 => [some (.ref 43), some (.int p1), some (.int x5), some (.int x2), none, none]) dX2_leastTime_62 rfl rfl rfl (fun _ => rfl) (fun x5 => ?_)
      refine p_aload_n rfl dX2_leastTime_63 rfl ?_
      refine p_getr qg_RX2_15 uX_43 rfl dX2_leastTime_64 rfl ?_
      refine p_iload_n rfl dX2_leastTime_67 rfl ?_
      refine p_iald uX_45 dX2_leastTime_68 rfl (fun _ => ?_)
      refine p_aload_n rfl dX2_leastTime_69 rfl ?_
      refine p_getr qg_RX2_18 uX_43 rfl dX2_leastTime_70 rfl ?_
      refine p_iload_n rfl dX2_leastTime_73 rfl ?_
      refine p_iald uX_46 dX2_leastTime_74 rfl (fun _ => ?_)
      refine p_iadd dX2_leastTime_75 rfl ?_
      refine p_iconst (v := (1 : Int32)) kiconst_1 dX2_leastTime_76 rfl ?_
      refine p_isub dX2_leastTime_77 rfl ?_
      refine p_isN (lf := fun x6 => [some (.ref 43), some (.int p1), some (.int x5), some (.int x2), some (.int x6), none]) dX2_leastTime_78 rfl rfl rfl (fun _ => rfl) (fun x6 => ?_)
      refine p_iconst (v := (0 : Int32)) kiconst_0 dX2_leastTime_80 rfl ?_
      refine p_is (ls' := [some (.ref 43), some (.int p1), some (.int x5), some (.int x2), some (.int x6), some (.int (0 : Int32))]) dX2_leastTime_81 rfl rfl rfl rfl ?_
      refine w2_lt42_L83 l h0 p1 x5 x2 x6 (fun x13 h14 => ?_) qN _ _
      refine p_iiN (v := (1 : Int32)) (lf := fun x15 => [some (.ref 43), some (.int p1), some (.int x5), some (.int x15), some (.int x6), some (.int x13)]) kiconst_1 dX2_leastTime_128 rfl rfl rfl rfl (fun _ => rfl) (fun x15 => ?_)
      refine p_goto (tgt := 46) dX2_leastTime_131 (by decide) ?_
      exact p_wk (ls' := [some (.ref 43), some (.int p1), some (.int x5), some (.int x15), none, none]) ⟨rfl, rfl, rfl, rfl, trivial⟩ (ih x5 x15 h14)
noncomputable def f2_lt42_L136 (p1 : Int32) (x16 : Int32) (k : Int32 → qH → Option (Int32 × qH)) : Nat → Int32 → qH → Option (Int32 × qH)
  | 0, _, _ => none
  | n + 1, x19, h20 =>
    if p1 ≤ x19 then (
      k x19 h20)
    else (
      (f2_fillTable x19 h20).bind fun (h22 : qH) =>
      qlt (x19 + (1 : Int32)) fun (x23 : Int32) =>
      f2_lt42_L136 p1 x16 k n x23 h22)
set_option maxRecDepth 100000 in
set_option maxHeartbeats 4000000 in
theorem w2_lt42_L136 (l : Launch) (h0 : qH) (p1 : Int32) (x16 : Int32) {k : Int32 → qH → Option (Int32 × qH)} (hk : ∀ (x19 : Int32) (h20 : qH), PW UX ROX l (R2_lt c0 n0) cX2_leastTime 6 (some .int) RX2 (qEw h0) 152 [some (.ref 43), some (.int p1), some (.int x16), some (.int x19), none, none] [] h20 (k x19 h20)) : ∀ (n : Nat) (x19 : Int32) (h20 : qH), PW UX ROX l (R2_lt c0 n0) cX2_leastTime 6 (some .int) RX2 (qEw h0) 136 [some (.ref 43), some (.int p1), some (.int x16), some (.int x19), none, none] [] h20 (f2_lt42_L136 p1 x16 k n x19 h20) := by
  intro n
  induction n with
  | zero => intro _ _; exact p_none
  | succ n ih =>
    intro x19 h20
    unfold f2_lt42_L136
    refine p_iload_n rfl dX2_leastTime_136 rfl ?_
    refine p_iload_n rfl dX2_leastTime_137 rfl ?_
    refine p_if (fun c21 => ?_) (fun c21 => ?_)
    · refine p_icmp_ge_t (tgt := 152) dX2_leastTime_138 (by decide) c21 ?_
      exact hk x19 h20
    · refine p_icmp_ge_f (tgt := 152) dX2_leastTime_138 (by decide) rfl c21 ?_
      refine p_aload_n rfl dX2_leastTime_141 rfl ?_
      refine p_iload_n rfl dX2_leastTime_142 rfl ?_
      refine p_callVv (f := f2_fillTable x19) (st := []) [.int x19] qRokX (m2_fillTable l x19) cal_RX2_71 uX_43 rfl rfl ⟨rfl, rfl⟩ ⟨Nat.le_of_ble_eq_true rfl, Nat.le_of_ble_eq_true rfl⟩ (Nat.le_of_ble_eq_true rfl) dX2_leastTime_143 rfl (fun h22 => ?_)
      refine p_iiN (v := (1 : Int32)) (lf := fun x23 => [some (.ref 43), some (.int p1), some (.int x16), some (.int x23), none, none]) kiconst_1 dX2_leastTime_146 rfl rfl rfl rfl (fun _ => rfl) (fun x23 => ?_)
      refine p_goto (tgt := 136) dX2_leastTime_149 (by decide) ?_
      exact ih x23 h22
noncomputable def f2_lt42_L158 (p1 : Int32) (x16 : Int32) (h : qH) (k : Int32 → Int32 → Option (Int32 × qH)) : Nat → Int32 → Int32 → Option (Int32 × qH)
  | 0, _, _ => none
  | n + 1, x26, x27 =>
    if (h.1 43 1) ≤ x27 then (
      k x26 x27)
    else (
      qg (qin (((p1 - (1 : Int32)) * (h.1 43 1)) + x27) (ix (h.1 100 0))) <|
      qlt (if (h.1 50 (ix (((p1 - (1 : Int32)) * (h.1 43 1)) + x27))) < x26 then (h.1 50 (ix (((p1 - (1 : Int32)) * (h.1 43 1)) + x27))) else x26) fun (x29 : Int32) =>
      qlt (x27 + (1 : Int32)) fun (x30 : Int32) =>
      f2_lt42_L158 p1 x16 h k n x29 x30)
set_option maxRecDepth 100000 in
set_option maxHeartbeats 4000000 in
theorem w2_lt42_L158 (l : Launch) (h0 : qH) (p1 : Int32) (x16 : Int32) (h : qH) {k : Int32 → Int32 → Option (Int32 × qH)} (hk : ∀ (x26 : Int32) (x27 : Int32), PW UX ROX l (R2_lt c0 n0) cX2_leastTime 6 (some .int) RX2 (qEw h0) 194 [some (.ref 43), some (.int p1), some (.int x16), some (.int x26), some (.int x27), none] [] h (k x26 x27)) : ∀ (n : Nat) (x26 : Int32) (x27 : Int32), PW UX ROX l (R2_lt c0 n0) cX2_leastTime 6 (some .int) RX2 (qEw h0) 158 [some (.ref 43), some (.int p1), some (.int x16), some (.int x26), some (.int x27), none] [] h (f2_lt42_L158 p1 x16 h k n x26 x27) := by
  intro n
  induction n with
  | zero => intro _ _; exact p_none
  | succ n ih =>
    intro x26 x27
    unfold f2_lt42_L158
    refine p_iload rfl dX2_leastTime_158 rfl ?_
    refine p_aload_n rfl dX2_leastTime_160 rfl ?_
    refine p_geti qg_RX2_37 uX_43 rfl dX2_leastTime_161 rfl ?_
    refine p_if (fun c28 => ?_) (fun c28 => ?_)
    · refine p_icmp_ge_t (tgt := 194) dX2_leastTime_164 (by decide) c28 ?_
      exact hk x26 x27
    · refine p_icmp_ge_f (tgt := 194) dX2_leastTime_164 (by decide) rfl c28 ?_
      refine p_iload_n rfl dX2_leastTime_167 rfl ?_
      refine p_aload_n rfl dX2_leastTime_168 rfl ?_
      refine p_getr qg_RX2_30 uX_43 rfl dX2_leastTime_169 rfl ?_
      refine p_iload_n rfl dX2_leastTime_172 rfl ?_
      refine p_iconst (v := (1 : Int32)) kiconst_1 dX2_leastTime_173 rfl ?_
      refine p_isub dX2_leastTime_174 rfl ?_
      refine p_aload_n rfl dX2_leastTime_175 rfl ?_
      refine p_geti qg_RX2_37 uX_43 rfl dX2_leastTime_176 rfl ?_
      refine p_imul dX2_leastTime_179 rfl ?_
      refine p_iload rfl dX2_leastTime_180 rfl ?_
      refine p_iadd dX2_leastTime_182 rfl ?_
      refine p_iald uX_50 dX2_leastTime_183 rfl (fun _ => ?_)
      refine p_min qmin_RX2_76 ⟨Nat.le_of_ble_eq_true rfl, Nat.le_of_ble_eq_true rfl⟩ dX2_leastTime_184 rfl ?_
      refine p_isN_n (lf := fun x29 => [some (.ref 43), some (.int p1), some (.int x16), some (.int x29), some (.int x27), none]) dX2_leastTime_187 rfl rfl rfl (fun _ => rfl) (fun x29 => ?_)
      refine p_iiN (v := (1 : Int32)) (lf := fun x30 => [some (.ref 43), some (.int p1), some (.int x16), some (.int x29), some (.int x30), none]) kiconst_1 dX2_leastTime_188 rfl rfl rfl rfl (fun _ => rfl) (fun x30 => ?_)
      refine p_goto (tgt := 158) dX2_leastTime_191 (by decide) ?_
      exact ih x29 x30
noncomputable def f2_lt42 (p1 : Int32) (h : qH) : Option (Int32 × qH) :=
  f2_lt42_L46 p1 (fun (x16 : Int32) (x17 : Int32) (h18 : qH) =>
    f2_lt42_L136 p1 x16 (fun (x24 : Int32) (h25 : qH) =>
      f2_lt42_L158 p1 x16 h25 (fun (x31 : Int32) (x32 : Int32) =>
        some ((x31 + x16), h25)) qN (1000000 : Int32) (0 : Int32)) qN (1 : Int32) h18) qN (0 : Int32) (0 : Int32) h
set_option maxRecDepth 100000 in
set_option maxHeartbeats 4000000 in
theorem w2_lt42 (l : Launch) (h0 : qH) (p1 : Int32) (h : qH) : PW UX ROX l (R2_lt c0 n0) cX2_leastTime 6 (some .int) RX2 (qEw h0) 42 [some (.ref 43), some (.int p1), none, none, none, none] [] h (f2_lt42 p1 h) := by
  refine p_iconst (v := (0 : Int32)) kiconst_0 dX2_leastTime_42 rfl ?_
  refine p_is_n (ls' := [some (.ref 43), some (.int p1), some (.int (0 : Int32)), none, none, none]) dX2_leastTime_43 rfl rfl rfl rfl ?_
  refine p_iconst (v := (0 : Int32)) kiconst_0 dX2_leastTime_44 rfl ?_
  refine p_is_n (ls' := [some (.ref 43), some (.int p1), some (.int (0 : Int32)), some (.int (0 : Int32)), none, none]) dX2_leastTime_45 rfl rfl rfl rfl ?_
  refine w2_lt42_L46 l h0 p1 (fun x16 x17 h18 => ?_) qN _ _ _
  refine p_iconst (v := (1 : Int32)) kiconst_1 dX2_leastTime_134 rfl ?_
  refine p_is_n (ls' := [some (.ref 43), some (.int p1), some (.int x16), some (.int (1 : Int32)), none, none]) dX2_leastTime_135 rfl rfl rfl rfl ?_
  refine w2_lt42_L136 l h0 p1 x16 (fun x24 h25 => ?_) qN _ _
  refine p_ldc (v := (1000000 : Int32)) kcRX2_75 dX2_leastTime_152 rfl ?_
  refine p_is_n (ls' := [some (.ref 43), some (.int p1), some (.int x16), some (.int (1000000 : Int32)), none, none]) dX2_leastTime_154 rfl rfl rfl rfl ?_
  refine p_iconst (v := (0 : Int32)) kiconst_0 dX2_leastTime_155 rfl ?_
  refine p_is (ls' := [some (.ref 43), some (.int p1), some (.int x16), some (.int (1000000 : Int32)), some (.int (0 : Int32)), none]) dX2_leastTime_156 rfl rfl rfl rfl ?_
  refine w2_lt42_L158 l h0 p1 x16 h25 (fun x31 x32 => ?_) qN _ _
  refine p_iload_n rfl dX2_leastTime_194 rfl ?_
  refine p_iload_n rfl dX2_leastTime_195 rfl ?_
  refine p_iadd dX2_leastTime_196 rfl ?_
  exact p_iret rfl rfl dX2_leastTime_197
noncomputable def f2_leastTime (h : qH) : Option (Int32 × qH) :=
  if (h.1 43 1) = 0 then (
    some ((0 : Int32), h))
  else (
    qlt ((1 : Int32) <<< ((h.1 43 1) &&& 31)) fun (x2 : Int32) =>
    if (x2 * (h.1 43 1)) ≤ (nI (ix (h.1 100 0))) then (
      f2_lt42 x2 h)
    else (
      none))
set_option maxRecDepth 100000 in
set_option maxHeartbeats 4000000 in
theorem m2_leastTime (l : Launch) : qMet UX ROX l yX2_leastTime (qws yX2_leastTime cX2_leastTime 6 (some .int)) (R2_lt 0 0) [.ref 43] f2_leastTime qEw := by
  refine q_met (own := RX2) 5 (by decide) rfl (Nat.le_of_ble_eq_true rfl) (ls := [some (.ref 43), none, none, none, none, none]) rfl fun h => ?_
  show PW UX ROX l (R2_lt 0 0) cX2_leastTime 6 (some .int) RX2 (qEw h) 0 [some (.ref 43), none, none, none, none, none] [] h _
  refine p_aload_n rfl dX2_leastTime_0 rfl ?_
  refine p_geti qg_RX2_37 uX_43 rfl dX2_leastTime_1 rfl ?_
  refine p_if (fun c1 => ?_) (fun c1 => ?_)
  · refine p_if_ne_f (tgt := 9) dX2_leastTime_4 (by decide) rfl c1 ?_
    refine p_iconst (v := (0 : Int32)) kiconst_0 dX2_leastTime_7 rfl ?_
    exact p_iret rfl rfl dX2_leastTime_8
  · refine p_if_ne_t (tgt := 9) dX2_leastTime_4 (by decide) c1 ?_
    refine p_iconst (v := (1 : Int32)) kiconst_1 dX2_leastTime_9 rfl ?_
    refine p_aload_n rfl dX2_leastTime_10 rfl ?_
    refine p_geti qg_RX2_37 uX_43 rfl dX2_leastTime_11 rfl ?_
    refine p_ishl dX2_leastTime_14 rfl ?_
    refine p_isN_n (lf := fun x2 => [some (.ref 43), some (.int x2), none, none, none, none]) dX2_leastTime_15 rfl rfl rfl (fun _ => rfl) (fun x2 => ?_)
    refine p_aload_n rfl dX2_leastTime_16 rfl ?_
    refine p_getr qg_RX2_30 uX_43 rfl dX2_leastTime_17 rfl ?_
    refine p_alen uX_50 (by decide) dX2_leastTime_20 rfl ?_
    refine p_iload_n rfl dX2_leastTime_21 rfl ?_
    refine p_aload_n rfl dX2_leastTime_22 rfl ?_
    refine p_geti qg_RX2_37 uX_43 rfl dX2_leastTime_23 rfl ?_
    refine p_imul dX2_leastTime_26 rfl ?_
    refine p_if (fun c3 => ?_) (fun c3 => ?_)
    · refine p_icmp_ge_t (tgt := 42) dX2_leastTime_27 (by decide) c3 ?_
      exact w2_lt42 l h x2 h
    · refine p_icmp_ge_f (tgt := 42) dX2_leastTime_27 (by decide) rfl c3 ?_
      exact p_none
noncomputable def f2_ltn (N : Nat) (h : qH) : Option (Int32 × qH) :=
  if (h.1 43 1) = 0 then (
    some ((0 : Int32), h))
  else (
    qlt ((1 : Int32) <<< ((h.1 43 1) &&& 31)) fun (x2 : Int32) =>
    if (x2 * (h.1 43 1)) ≤ (nI (ix (h.1 100 0))) then (
      none)
    else (
      qg (qnw (x2 * (h.1 43 1)) N) (f2_lt42 x2 (q50 N h))))
set_option maxRecDepth 100000 in
set_option maxHeartbeats 4000000 in
theorem m2_ltn (l : Launch) (N : Nat) (hN : N ≤ 49152) : qMetN l yX2_leastTime (qws yX2_leastTime cX2_leastTime 6 (some .int)) (R2_lt 1 N) [.ref 43] (f2_ltn N) qEw 1 N := by
  refine n_met (own := RX2) 5 (by decide) rfl (Nat.le_of_ble_eq_true rfl) (ls := [some (.ref 43), none, none, none, none, none]) rfl fun h => ?_
  refine n_aload_n rfl dX2_leastTime_0 rfl ?_
  refine n_geti qg_RX2_37 uX_43 rfl dX2_leastTime_1 rfl ?_
  refine n_if (fun c1 => ?_) (fun c1 => ?_)
  · refine n_if_ne_f (tgt := 9) dX2_leastTime_4 (by decide) rfl c1 ?_
    refine n_iconst (v := (0 : Int32)) kiconst_0 dX2_leastTime_7 rfl ?_
    exact n_iret rfl rfl dX2_leastTime_8
  · refine n_if_ne_t (tgt := 9) dX2_leastTime_4 (by decide) c1 ?_
    refine n_iconst (v := (1 : Int32)) kiconst_1 dX2_leastTime_9 rfl ?_
    refine n_aload_n rfl dX2_leastTime_10 rfl ?_
    refine n_geti qg_RX2_37 uX_43 rfl dX2_leastTime_11 rfl ?_
    refine n_ishl dX2_leastTime_14 rfl ?_
    refine n_isN_n (lf := fun x2 => [some (.ref 43), some (.int x2), none, none, none, none]) dX2_leastTime_15 rfl rfl rfl (fun _ => rfl) (fun x2 => ?_)
    refine n_aload_n rfl dX2_leastTime_16 rfl ?_
    refine n_getr qg_RX2_30 uX_43 rfl dX2_leastTime_17 rfl ?_
    refine n_alen uX_50 (by decide) dX2_leastTime_20 rfl ?_
    refine n_iload_n rfl dX2_leastTime_21 rfl ?_
    refine n_aload_n rfl dX2_leastTime_22 rfl ?_
    refine n_geti qg_RX2_37 uX_43 rfl dX2_leastTime_23 rfl ?_
    refine n_imul dX2_leastTime_26 rfl ?_
    refine n_if (fun c3 => ?_) (fun c3 => ?_)
    · refine n_icmp_ge_t (tgt := 42) dX2_leastTime_27 (by decide) c3 ?_
      exact n_none
    · refine n_icmp_ge_f (tgt := 42) dX2_leastTime_27 (by decide) rfl c3 ?_
      refine n_aload_n rfl dX2_leastTime_30 rfl ?_
      refine n_iload_n rfl dX2_leastTime_31 rfl ?_
      refine n_aload_n rfl dX2_leastTime_32 rfl ?_
      refine n_geti qg_RX2_37 uX_43 rfl dX2_leastTime_33 rfl ?_
      refine n_imul dX2_leastTime_36 rfl ?_
      exact n_newt arrI qp_RX2_30 (by omega) ⟨Nat.le_refl _, Nat.le_refl _⟩ rfl rfl (fun _ => rfl) dX2_leastTime_37 dX2_leastTime_39 rfl (w2_lt42 l h x2 (q50 N h))
end QLT
abbrev R8_ls (c n : Nat) : Room := { frames := 4, cells := c, slots := n, locals := 93 }
noncomputable def f8_least (p1 : Int32) (h : qH) : Option (Int32 × qH) :=
  (f4_isTape 6 p1 h).bind fun (z1 : Int32) =>
  if z1 = 0 then (
    some ((-1 : Int32), h))
  else (
    (f2_gather 51 p1 h).bind fun (h3 : qH) =>
    qb2 (f2_leastTime h3) fun (z4 : Int32) (h5 : qH) =>
    some (z4, h5))
set_option maxRecDepth 100000 in
set_option maxHeartbeats 4000000 in
theorem m8_least (l : Launch) (p1 : Int32) : qMet UX ROX l yX8_least (qws yX8_least cX8_least 2 (some .int)) (R8_ls 0 0) [.ref 0, .int p1] (f8_least p1) qEw := by
  refine q_met (own := RX8) 0 (by decide) rfl (Nat.le_of_ble_eq_true rfl) (ls := [some (.ref 0), some (.int p1)]) rfl fun h => ?_
  unfold f8_least
  show PW UX ROX l (R8_ls 0 0) cX8_least 2 (some .int) RX8 (qEw h) 0 [some (.ref 0), some (.int p1)] [] h _
  refine p_aload_n rfl dX8_least_0 rfl ?_
  refine p_getr qg_RX8_28 uX_0 rfl dX8_least_1 rfl ?_
  refine p_iload_n rfl dX8_least_4 rfl ?_
  refine p_callVr (f := f4_isTape 6 p1) (st := []) [.int p1] qRokX (m4_isTape l (kPlan_6) p1) cal_RX8_157 uX_6 rfl rfl ⟨rfl, rfl⟩ ⟨Nat.le_of_ble_eq_true rfl, Nat.le_of_ble_eq_true rfl⟩ (Nat.le_of_ble_eq_true rfl) dX8_least_5 rfl (fun z1 => ?_)
  refine p_if (fun c2 => ?_) (fun c2 => ?_)
  · refine p_if_ne_f (tgt := 13) dX8_least_8 (by decide) rfl c2 ?_
    refine p_iconst (v := (-1 : Int32)) kiconst_m1 dX8_least_11 rfl ?_
    exact p_iret rfl rfl dX8_least_12
  · refine p_if_ne_t (tgt := 13) dX8_least_8 (by decide) c2 ?_
    refine p_aload_n rfl dX8_least_13 rfl ?_
    refine p_getr qg_RX8_51 uX_0 rfl dX8_least_14 rfl ?_
    refine p_aload_n rfl dX8_least_17 rfl ?_
    refine p_getr qg_RX8_60 uX_0 rfl dX8_least_18 rfl ?_
    refine p_iload_n rfl dX8_least_21 rfl ?_
    refine p_callVv (f := f2_gather 51 p1) (st := []) [.ref 51, .int p1] qRokX (m2_gather l (kStage_51) p1) cal_RX8_297 uX_43 rfl rfl ⟨rfl, rfl⟩ ⟨Nat.le_of_ble_eq_true rfl, Nat.le_of_ble_eq_true rfl⟩ (Nat.le_of_ble_eq_true rfl) dX8_least_22 rfl (fun h3 => ?_)
    refine p_aload_n rfl dX8_least_25 rfl ?_
    refine p_getr qg_RX8_51 uX_0 rfl dX8_least_26 rfl ?_
    refine p_cVw (f := f2_leastTime) (st := []) [] qRokX (m2_leastTime l) cal_RX8_304 uX_43 rfl rfl ⟨rfl, rfl⟩ ⟨Nat.le_of_ble_eq_true rfl, Nat.le_of_ble_eq_true rfl⟩ (Nat.le_of_ble_eq_true rfl) dX8_least_29 rfl (fun z4 h5 => ?_)
    exact p_iret rfl rfl dX8_least_32
noncomputable def f8_lsn (N : Nat) (p1 : Int32) (h : qH) : Option (Int32 × qH) :=
  (f4_isTape 6 p1 h).bind fun (z1 : Int32) =>
  if z1 = 0 then (
    none)
  else (
    (f2_gather 51 p1 h).bind fun (h3 : qH) =>
    (f2_ltn N h3).bind fun z => some (z.1, z.2))
set_option maxRecDepth 100000 in
set_option maxHeartbeats 4000000 in
theorem m8_lsn (l : Launch) (N : Nat) (hN : N ≤ 49152) (p1 : Int32) : qMetN l yX8_least (qws yX8_least cX8_least 2 (some .int)) (R8_ls 1 N) [.ref 0, .int p1] (f8_lsn N p1) qEw 1 N := by
  refine n_met (own := RX8) 0 (by decide) rfl (Nat.le_of_ble_eq_true rfl) (ls := [some (.ref 0), some (.int p1)]) rfl fun h => ?_
  refine n_aload_n rfl dX8_least_0 rfl ?_
  refine n_getr qg_RX8_28 uX_0 rfl dX8_least_1 rfl ?_
  refine n_iload_n rfl dX8_least_4 rfl ?_
  refine n_callVr (f := f4_isTape 6 p1) (st := []) [.int p1] qRokX (m4_isTape l (kPlan_6) p1) cal_RX8_157 uX_6 rfl rfl ⟨rfl, rfl⟩ ⟨Nat.le_of_ble_eq_true rfl, Nat.le_of_ble_eq_true rfl⟩ (Nat.le_of_ble_eq_true rfl) dX8_least_5 rfl (fun z1 => ?_)
  refine n_if (fun c2 => ?_) (fun c2 => ?_)
  · refine n_if_ne_f (tgt := 13) dX8_least_8 (by decide) rfl c2 ?_
    exact n_none
  · refine n_if_ne_t (tgt := 13) dX8_least_8 (by decide) c2 ?_
    refine n_aload_n rfl dX8_least_13 rfl ?_
    refine n_getr qg_RX8_51 uX_0 rfl dX8_least_14 rfl ?_
    refine n_aload_n rfl dX8_least_17 rfl ?_
    refine n_getr qg_RX8_60 uX_0 rfl dX8_least_18 rfl ?_
    refine n_iload_n rfl dX8_least_21 rfl ?_
    refine n_callVv (f := f2_gather 51 p1) (st := []) [.ref 51, .int p1] qRokX (m2_gather l (kStage_51) p1) cal_RX8_297 uX_43 rfl rfl ⟨rfl, rfl⟩ ⟨Nat.le_of_ble_eq_true rfl, Nat.le_of_ble_eq_true rfl⟩ (Nat.le_of_ble_eq_true rfl) dX8_least_22 rfl (fun h3 => ?_)
    refine n_aload_n rfl dX8_least_25 rfl ?_
    refine n_getr qg_RX8_51 uX_0 rfl dX8_least_26 rfl ?_
    exact n_callN [] (m2_ltn l N hN) cal_RX8_304 uX_43 rfl rfl ⟨rfl, rfl⟩ ⟨Nat.le_of_ble_eq_true rfl, Nat.le_of_ble_eq_true rfl⟩ ⟨Nat.le_refl _, Nat.le_refl _⟩ (by decide) rfl rfl (fun _ => rfl) (fun _ => rfl) dX8_least_29 rfl (fun z => p_iret (z := (z.1, z.2)) rfl rfl dX8_least_32)
