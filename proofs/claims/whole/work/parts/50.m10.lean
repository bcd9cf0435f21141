noncomputable def f9_leastOf_L87 (p1 : Int32) (x8 : Int32) (x5 : Int32) (x9 : Int32) (x19 : Int32) (h : qH) (k : Int32 → Int32 → Option (Int32 × qH)) : Nat → Int32 → Int32 → Option (Int32 × qH)
  | 0, _, _ => none
  | n + 1, x23, x24 =>
    if (h.1 0 20) ≤ x24 then (
      k x23 x24)
    else (
      (f9_has x19 x24 h).bind fun (z26 : Int32) =>
      qj (fun (x27 : Int32) =>
        qlt (if x27 = (-1 : Int32) then x23 else (if x23 = (-1 : Int32) then x27 else (if x23 ≤ x27 then x23 else x27))) fun (x33 : Int32) =>
        qlt (x24 + (1 : Int32)) fun (x34 : Int32) =>
        f9_leastOf_L87 p1 x8 x5 x9 x19 h k n x33 x34) fun j28 =>
      if z26 = 0 then (
        j28 (-1 : Int32))
      else (
        qg (qin (((12 : Int32) * x19) + x24) 49152) <|
        qg (qin x24 24) <|
        (f9_lastBlock (h.1 11 (ix x24)) h).bind fun (z36 : Int32) =>
        qg (qin x9 24) <|
        (f9_seekTo z36 (h.1 11 (ix x9)) h).bind fun (z37 : Int32) =>
        j28 ((h.1 15 (ix (((12 : Int32) * x19) + x24))) + z37)))
set_option maxRecDepth 100000 in
set_option maxHeartbeats 4000000 in
theorem w9_leastOf_L87 (l : Launch) (h0 : qH) (p1 : Int32) (x8 : Int32) (x5 : Int32) (x9 : Int32) (x19 : Int32) (h : qH) {k : Int32 → Int32 → Option (Int32 × qH)} (hk : ∀ (x23 : Int32) (x24 : Int32), PW UM ROM l R9_leastOf cX9_leastOf 9 (some .int) RX9 (qEw h0) 182 [some (.ref 0), some (.int p1), some (.int x8), some (.int x5), some (.int x9), some (.int x19), some (.int x23), some (.int x24), none] [] h (k x23 x24)) : ∀ (n : Nat) (x23 : Int32) (x24 : Int32), PW UM ROM l R9_leastOf cX9_leastOf 9 (some .int) RX9 (qEw h0) 87 [some (.ref 0), some (.int p1), some (.int x8), some (.int x5), some (.int x9), some (.int x19), some (.int x23), some (.int x24), none] [] h (f9_leastOf_L87 p1 x8 x5 x9 x19 h k n x23 x24) := by
  intro n
  induction n with
  | zero => intro _ _; exact p_none
  | succ n ih =>
    intro x23 x24
    unfold f9_leastOf_L87
    refine p_iload rfl dX9_leastOf_87 rfl ?_
    refine p_aload_n rfl dX9_leastOf_89 rfl ?_
    refine p_geti qg_RX9_236 uM_0 rfl dX9_leastOf_90 rfl ?_
    refine p_if (fun c25 => ?_) (fun c25 => ?_)
    · refine p_icmp_ge_t (tgt := 182) dX9_leastOf_93 (by decide) c25 ?_
      exact hk x23 x24
    · refine p_icmp_ge_f (tgt := 182) dX9_leastOf_93 (by decide) rfl c25 ?_
      refine p_iload rfl dX9_leastOf_96 rfl ?_
      refine p_iload rfl dX9_leastOf_98 rfl ?_
      refine p_callSr (f := f9_has x19 x24) (st := []) [.int x19, .int x24] qRokM (m9_has l x19 x24) cal_RX9_111 rfl ⟨rfl, rfl⟩ ⟨Nat.le_of_ble_eq_true rfl, Nat.le_of_ble_eq_true rfl⟩ (Nat.le_of_ble_eq_true rfl) dX9_leastOf_100 rfl (fun z26 => ?_)
      refine p_jn (fun j28 => ∀ (x27 : Int32), PW UM ROM l R9_leastOf cX9_leastOf 9 (some .int) RX9 (qEw h0) 146 [some (.ref 0), some (.int p1), some (.int x8), some (.int x5), some (.int x9), some (.int x19), some (.int x23), some (.int x24), none] [.int x27] h (j28 x27)) (fun x27 => ?_) (fun j28 J29 => ?_)
      · refine p_is (ls' := [some (.ref 0), some (.int p1), some (.int x8), some (.int x5), some (.int x9), some (.int x19), some (.int x23), some (.int x24), some (.int x27)]) dX9_leastOf_146 rfl rfl rfl rfl ?_
        refine p_iload rfl dX9_leastOf_148 rfl ?_
        refine p_iconst (v := (-1 : Int32)) kiconst_m1 dX9_leastOf_150 rfl ?_
        refine p_vj 174 [some (.ref 0), some (.int p1), some (.int x8), some (.int x5), some (.int x9), some (.int x19), some (.int x23), some (.int x24), some (.int x27)] [] (fun x33 => ?_) (fun J => ?_)
        · refine p_is (ls' := [some (.ref 0), some (.int p1), some (.int x8), some (.int x5), some (.int x9), some (.int x19), some (.int x33), some (.int x24), some (.int x27)]) dX9_leastOf_174 rfl rfl rfl rfl ?_
          refine p_iiN (v := (1 : Int32)) (lf := fun x34 => [some (.ref 0), some (.int p1), some (.int x8), some (.int x5), some (.int x9), some (.int x19), some (.int x33), some (.int x34), some (.int x27)]) kiconst_1 dX9_leastOf_176 rfl rfl rfl rfl (fun _ => rfl) (fun x34 => ?_)
          refine p_goto (tgt := 87) dX9_leastOf_179 (by decide) ?_
          exact p_wk (ls' := [some (.ref 0), some (.int p1), some (.int x8), some (.int x5), some (.int x9), some (.int x19), some (.int x33), some (.int x34), none]) ⟨rfl, rfl, rfl, rfl, rfl, rfl, rfl, rfl, trivial⟩ (ih x33 x34)
        · refine p_dia (fun c30 => ?_) (fun c30 => ?_)
          · refine p_icmp_eq_t (tgt := 172) dX9_leastOf_151 (by decide) c30 ?_
            refine p_iload rfl dX9_leastOf_172 rfl ?_
            exact J _
          · refine p_icmp_eq_f (tgt := 172) dX9_leastOf_151 (by decide) rfl c30 ?_
            refine p_iload rfl dX9_leastOf_154 rfl ?_
            refine p_iconst (v := (-1 : Int32)) kiconst_m1 dX9_leastOf_156 rfl ?_
            refine p_dia (fun c31 => ?_) (fun c31 => ?_)
            · refine p_icmp_eq_t (tgt := 167) dX9_leastOf_157 (by decide) c31 ?_
              refine p_iload rfl dX9_leastOf_167 rfl ?_
              refine p_goto (tgt := 174) dX9_leastOf_169 (by decide) ?_
              exact J _
            · refine p_icmp_eq_f (tgt := 167) dX9_leastOf_157 (by decide) rfl c31 ?_
              refine p_iload rfl dX9_leastOf_160 rfl ?_
              refine p_iload rfl dX9_leastOf_162 rfl ?_
              refine p_dia (fun c32 => ?_) (fun c32 => ?_)
              · refine p_icmp_ge_t (tgt := 172) dX9_leastOf_164 (by decide) c32 ?_
                refine p_iload rfl dX9_leastOf_172 rfl ?_
                exact J _
              · refine p_icmp_ge_f (tgt := 172) dX9_leastOf_164 (by decide) rfl c32 ?_
                refine p_iload rfl dX9_leastOf_167 rfl ?_
                refine p_goto (tgt := 174) dX9_leastOf_169 (by decide) ?_
                exact J _
      · refine p_if (fun c35 => ?_) (fun c35 => ?_)
        · refine p_if_eq_t (tgt := 145) dX9_leastOf_103 (by decide) c35 ?_
          refine p_iconst (v := (-1 : Int32)) kiconst_m1 dX9_leastOf_145 rfl ?_
          exact J29 (-1 : Int32)
        · refine p_if_eq_f (tgt := 145) dX9_leastOf_103 (by decide) rfl c35 ?_
          refine p_aload_n rfl dX9_leastOf_106 rfl ?_
          refine p_getr qg_RX9_53 uM_0 rfl dX9_leastOf_107 rfl ?_
          refine p_bipush (v := (12 : Int32)) kbipush_12 dX9_leastOf_110 rfl ?_
          refine p_iload rfl dX9_leastOf_112 rfl ?_
          refine p_imul dX9_leastOf_114 rfl ?_
          refine p_iload rfl dX9_leastOf_115 rfl ?_
          refine p_iadd dX9_leastOf_117 rfl ?_
          refine p_iald uM_15 dX9_leastOf_118 rfl (fun _ => ?_)
          refine p_aload_n rfl dX9_leastOf_119 rfl ?_
          refine p_aload_n rfl dX9_leastOf_120 rfl ?_
          refine p_aload_n rfl dX9_leastOf_121 rfl ?_
          refine p_getr qg_RX9_40 uM_0 rfl dX9_leastOf_122 rfl ?_
          refine p_iload rfl dX9_leastOf_125 rfl ?_
          refine p_iald uM_11 dX9_leastOf_127 rfl (fun _ => ?_)
          refine p_callVr (f := f9_lastBlock (h.1 11 (ix x24))) (st := [.ref 0, .int (h.1 15 (ix (((12 : Int32) * x19) + x24)))]) [.int (h.1 11 (ix x24))] qRokM (m9_lastBlock l (h.1 11 (ix x24))) cal_RX9_379 uM_0 rfl rfl ⟨rfl, rfl⟩ ⟨Nat.le_of_ble_eq_true rfl, Nat.le_of_ble_eq_true rfl⟩ (Nat.le_of_ble_eq_true rfl) dX9_leastOf_128 rfl (fun z36 => ?_)
          refine p_aload_n rfl dX9_leastOf_131 rfl ?_
          refine p_getr qg_RX9_40 uM_0 rfl dX9_leastOf_132 rfl ?_
          refine p_iload rfl dX9_leastOf_135 rfl ?_
          refine p_iald uM_11 dX9_leastOf_137 rfl (fun _ => ?_)
          refine p_callVr (f := f9_seekTo z36 (h.1 11 (ix x9))) (st := [.int (h.1 15 (ix (((12 : Int32) * x19) + x24)))]) [.int z36, .int (h.1 11 (ix x9))] qRokM (m9_seekTo l z36 (h.1 11 (ix x9))) cal_RX9_376 uM_0 rfl rfl ⟨rfl, rfl⟩ ⟨Nat.le_of_ble_eq_true rfl, Nat.le_of_ble_eq_true rfl⟩ (Nat.le_of_ble_eq_true rfl) dX9_leastOf_138 rfl (fun z37 => ?_)
          refine p_iadd dX9_leastOf_141 rfl ?_
          refine p_goto (tgt := 146) dX9_leastOf_142 (by decide) ?_
          exact J29 ((h.1 15 (ix (((12 : Int32) * x19) + x24))) + z37)
noncomputable def f9_leastOf_L29 (p1 : Int32) (x5 : Int32) (k : Int32 → Int32 → qH → Option (Int32 × qH)) : Nat → Int32 → Int32 → qH → Option (Int32 × qH)
  | 0, _, _, _ => none
  | n + 1, x8, x9, h10 =>
    if (h10.1 0 20) ≤ x9 then (
      k x8 x9 h10)
    else (
      (f9_has x5 x9 h10).bind fun (z12 : Int32) =>
      qj (fun (x13 : Int32) (h14 : qH) =>
        qlt (x9 + (1 : Int32)) fun (x17 : Int32) =>
        f9_leastOf_L29 p1 x5 k n x13 x17 h14) fun j15 =>
      if z12 = 0 then (
        j15 x8 h10)
      else (
        qlt (x5 &&& (((1 : Int32) <<< (x9 &&& 31)) ^^^ (-1 : Int32))) fun (x19 : Int32) =>
        qj (fun (x20 : Int32) =>
          f9_leastOf_L87 p1 x8 x5 x9 x19 h10 (fun (x38 : Int32) (x39 : Int32) =>
            qg (qin (((12 : Int32) * x5) + x9) 49152) <|
            qlt (qw h10 15 (ix (((12 : Int32) * x5) + x9)) x38) fun (h40 : qH) =>
            qlt (if x5 = (((1 : Int32) <<< ((h40.1 0 20) &&& 31)) - (1 : Int32)) then (if x8 = (-1 : Int32) then x38 else (if x8 ≤ x38 then x8 else x38)) else x8) fun (x44 : Int32) =>
            j15 x44 h40) qN x20 (0 : Int32)) fun j21 =>
        if x19 = 0 then (
          (f9_headOf p1 h10).bind fun (z46 : Int32) =>
          qg (qin x9 24) <|
          (f9_seekTo z46 (h10.1 11 (ix x9)) h10).bind fun (z47 : Int32) =>
          j21 z47)
        else (
          j21 (-1 : Int32))))
set_option maxRecDepth 100000 in
set_option maxHeartbeats 4000000 in
theorem w9_leastOf_L29 (l : Launch) (h0 : qH) (p1 : Int32) (x5 : Int32) {k : Int32 → Int32 → qH → Option (Int32 × qH)} (hk : ∀ (x8 : Int32) (x9 : Int32) (h10 : qH), PW UM ROM l R9_leastOf cX9_leastOf 9 (some .int) RX9 (qEw h0) 232 [some (.ref 0), some (.int p1), some (.int x8), some (.int x5), some (.int x9), none, none, none, none] [] h10 (k x8 x9 h10)) : ∀ (n : Nat) (x8 : Int32) (x9 : Int32) (h10 : qH), PW UM ROM l R9_leastOf cX9_leastOf 9 (some .int) RX9 (qEw h0) 29 [some (.ref 0), some (.int p1), some (.int x8), some (.int x5), some (.int x9), none, none, none, none] [] h10 (f9_leastOf_L29 p1 x5 k n x8 x9 h10) := by
  intro n
  induction n with
  | zero => intro _ _ _; exact p_none
  | succ n ih =>
    intro x8 x9 h10
    unfold f9_leastOf_L29
    refine p_iload rfl dX9_leastOf_29 rfl ?_
    refine p_aload_n rfl dX9_leastOf_31 rfl ?_
    refine p_geti qg_RX9_236 uM_0 rfl dX9_leastOf_32 rfl ?_
    refine p_if (fun c11 => ?_) (fun c11 => ?_)
    · refine p_icmp_ge_t (tgt := 232) dX9_leastOf_35 (by decide) c11 ?_
      exact hk x8 x9 h10
    · refine p_icmp_ge_f (tgt := 232) dX9_leastOf_35 (by decide) rfl c11 ?_
      refine p_iload_n rfl dX9_leastOf_38 rfl ?_
      refine p_iload rfl dX9_leastOf_39 rfl ?_
      refine p_callSr (f := f9_has x5 x9) (st := []) [.int x5, .int x9] qRokM (m9_has l x5 x9) cal_RX9_111 rfl ⟨rfl, rfl⟩ ⟨Nat.le_of_ble_eq_true rfl, Nat.le_of_ble_eq_true rfl⟩ (Nat.le_of_ble_eq_true rfl) dX9_leastOf_41 rfl (fun z12 => ?_)
      refine p_jn (fun j15 => ∀ (x13 : Int32) (h14 : qH), PW UM ROM l R9_leastOf cX9_leastOf 9 (some .int) RX9 (qEw h0) 226 [some (.ref 0), some (.int p1), some (.int x13), some (.int x5), some (.int x9), none, none, none, none] [] h14 (j15 x13 h14)) (fun x13 h14 => ?_) (fun j15 J16 => ?_)
      · refine p_iiN (v := (1 : Int32)) (lf := fun x17 => [some (.ref 0), some (.int p1), some (.int x13), some (.int x5), some (.int x17), none, none, none, none]) kiconst_1 dX9_leastOf_226 rfl rfl rfl rfl (fun _ => rfl) (fun x17 => ?_)
        refine p_goto (tgt := 29) dX9_leastOf_229 (by decide) ?_
        exact ih x13 x17 h14
      · refine p_if (fun c18 => ?_) (fun c18 => ?_)
        · refine p_if_eq_t (tgt := 226) dX9_leastOf_44 (by decide) c18 ?_
          exact J16 x8 h10
        · refine p_if_eq_f (tgt := 226) dX9_leastOf_44 (by decide) rfl c18 ?_
          refine p_iload_n rfl dX9_leastOf_47 rfl ?_
          refine p_iconst (v := (1 : Int32)) kiconst_1 dX9_leastOf_48 rfl ?_
          refine p_iload rfl dX9_leastOf_49 rfl ?_
          refine p_ishl dX9_leastOf_51 rfl ?_
          refine p_iconst (v := (-1 : Int32)) kiconst_m1 dX9_leastOf_52 rfl ?_
          refine p_ixor dX9_leastOf_53 rfl ?_
          refine p_iand dX9_leastOf_54 rfl ?_
          refine p_isN (lf := fun x19 => [some (.ref 0), some (.int p1), some (.int x8), some (.int x5), some (.int x9), some (.int x19), none, none, none]) dX9_leastOf_55 rfl rfl rfl (fun _ => rfl) (fun x19 => ?_)
          refine p_iload rfl dX9_leastOf_57 rfl ?_
          refine p_jn (fun j21 => ∀ (x20 : Int32), PW UM ROM l R9_leastOf cX9_leastOf 9 (some .int) RX9 (qEw h0) 82 [some (.ref 0), some (.int p1), some (.int x8), some (.int x5), some (.int x9), some (.int x19), none, none, none] [.int x20] h10 (j21 x20)) (fun x20 => ?_) (fun j21 J22 => ?_)
          · refine p_is (ls' := [some (.ref 0), some (.int p1), some (.int x8), some (.int x5), some (.int x9), some (.int x19), some (.int x20), none, none]) dX9_leastOf_82 rfl rfl rfl rfl ?_
            refine p_iconst (v := (0 : Int32)) kiconst_0 dX9_leastOf_84 rfl ?_
            refine p_is (ls' := [some (.ref 0), some (.int p1), some (.int x8), some (.int x5), some (.int x9), some (.int x19), some (.int x20), some (.int (0 : Int32)), none]) dX9_leastOf_85 rfl rfl rfl rfl ?_
            refine w9_leastOf_L87 l h0 p1 x8 x5 x9 x19 h10 (fun x38 x39 => ?_) qN _ _
            refine p_aload_n rfl dX9_leastOf_182 rfl ?_
            refine p_getr qg_RX9_53 uM_0 rfl dX9_leastOf_183 rfl ?_
            refine p_bipush (v := (12 : Int32)) kbipush_12 dX9_leastOf_186 rfl ?_
            refine p_iload_n rfl dX9_leastOf_188 rfl ?_
            refine p_imul dX9_leastOf_189 rfl ?_
            refine p_iload rfl dX9_leastOf_190 rfl ?_
            refine p_iadd dX9_leastOf_192 rfl ?_
            refine p_iload rfl dX9_leastOf_193 rfl ?_
            refine p_iast qokM uM_15 dX9_leastOf_195 rfl (fun _ => ?_)
            refine p_nmH (fun h40 => ?_)
            refine p_iload_n rfl dX9_leastOf_196 rfl ?_
            refine p_iconst (v := (1 : Int32)) kiconst_1 dX9_leastOf_197 rfl ?_
            refine p_aload_n rfl dX9_leastOf_198 rfl ?_
            refine p_geti qg_RX9_236 uM_0 rfl dX9_leastOf_199 rfl ?_
            refine p_ishl dX9_leastOf_202 rfl ?_
            refine p_iconst (v := (1 : Int32)) kiconst_1 dX9_leastOf_203 rfl ?_
            refine p_isub dX9_leastOf_204 rfl ?_
            refine p_vj 225 [some (.ref 0), some (.int p1), some (.int x8), some (.int x5), some (.int x9), some (.int x19), some (.int x38), some (.int x39), none] [] (fun x44 => ?_) (fun J => ?_)
            · refine p_is_n (ls' := [some (.ref 0), some (.int p1), some (.int x44), some (.int x5), some (.int x9), some (.int x19), some (.int x38), some (.int x39), none]) dX9_leastOf_225 rfl rfl rfl rfl ?_
              exact p_wk (ls' := [some (.ref 0), some (.int p1), some (.int x44), some (.int x5), some (.int x9), none, none, none, none]) ⟨rfl, rfl, rfl, rfl, rfl, trivial⟩ (J16 x44 h40)
            · refine p_dia (fun c41 => ?_) (fun c41 => ?_)
              · refine p_icmp_ne_f (tgt := 224) dX9_leastOf_205 (by decide) rfl c41 ?_
                refine p_iload_n rfl dX9_leastOf_208 rfl ?_
                refine p_iconst (v := (-1 : Int32)) kiconst_m1 dX9_leastOf_209 rfl ?_
                refine p_dia (fun c42 => ?_) (fun c42 => ?_)
                · refine p_icmp_eq_t (tgt := 219) dX9_leastOf_210 (by decide) c42 ?_
                  refine p_iload rfl dX9_leastOf_219 rfl ?_
                  refine p_goto (tgt := 225) dX9_leastOf_221 (by decide) ?_
                  exact J _
                · refine p_icmp_eq_f (tgt := 219) dX9_leastOf_210 (by decide) rfl c42 ?_
                  refine p_iload rfl dX9_leastOf_213 rfl ?_
                  refine p_iload_n rfl dX9_leastOf_215 rfl ?_
                  refine p_dia (fun c43 => ?_) (fun c43 => ?_)
                  · refine p_icmp_ge_t (tgt := 224) dX9_leastOf_216 (by decide) c43 ?_
                    refine p_iload_n rfl dX9_leastOf_224 rfl ?_
                    exact J _
                  · refine p_icmp_ge_f (tgt := 224) dX9_leastOf_216 (by decide) rfl c43 ?_
                    refine p_iload rfl dX9_leastOf_219 rfl ?_
                    refine p_goto (tgt := 225) dX9_leastOf_221 (by decide) ?_
                    exact J _
              · refine p_icmp_ne_t (tgt := 224) dX9_leastOf_205 (by decide) c41 ?_
                refine p_iload_n rfl dX9_leastOf_224 rfl ?_
                exact J _
          · refine p_if (fun c45 => ?_) (fun c45 => ?_)
            · refine p_if_ne_f (tgt := 81) dX9_leastOf_59 (by decide) rfl c45 ?_
              refine p_aload_n rfl dX9_leastOf_62 rfl ?_
              refine p_aload_n rfl dX9_leastOf_63 rfl ?_
              refine p_iload_n rfl dX9_leastOf_64 rfl ?_
              refine p_callVr (f := f9_headOf p1) (st := [.ref 0]) [.int p1] qRokM (m9_headOf l p1) cal_RX9_243 uM_0 rfl rfl ⟨rfl, rfl⟩ ⟨Nat.le_of_ble_eq_true rfl, Nat.le_of_ble_eq_true rfl⟩ (Nat.le_of_ble_eq_true rfl) dX9_leastOf_65 rfl (fun z46 => ?_)
              refine p_aload_n rfl dX9_leastOf_68 rfl ?_
              refine p_getr qg_RX9_40 uM_0 rfl dX9_leastOf_69 rfl ?_
              refine p_iload rfl dX9_leastOf_72 rfl ?_
              refine p_iald uM_11 dX9_leastOf_74 rfl (fun _ => ?_)
              refine p_callVr (f := f9_seekTo z46 (h10.1 11 (ix x9))) (st := []) [.int z46, .int (h10.1 11 (ix x9))] qRokM (m9_seekTo l z46 (h10.1 11 (ix x9))) cal_RX9_376 uM_0 rfl rfl ⟨rfl, rfl⟩ ⟨Nat.le_of_ble_eq_true rfl, Nat.le_of_ble_eq_true rfl⟩ (Nat.le_of_ble_eq_true rfl) dX9_leastOf_75 rfl (fun z47 => ?_)
              refine p_goto (tgt := 82) dX9_leastOf_78 (by decide) ?_
              exact J22 z47
            · refine p_if_ne_t (tgt := 81) dX9_leastOf_59 (by decide) c45 ?_
              refine p_iconst (v := (-1 : Int32)) kiconst_m1 dX9_leastOf_81 rfl ?_
              exact J22 (-1 : Int32)
noncomputable def f9_leastOf_L16 (p1 : Int32) (k : Int32 → Int32 → qH → Option (Int32 × qH)) : Nat → Int32 → Int32 → qH → Option (Int32 × qH)
  | 0, _, _, _ => none
  | n + 1, x4, x5, h6 =>
    if ((1 : Int32) <<< ((h6.1 0 20) &&& 31)) ≤ x5 then (
      k x4 x5 h6)
    else (
      f9_leastOf_L29 p1 x5 (fun (x48 : Int32) (x49 : Int32) (h50 : qH) =>
        qlt (x5 + (1 : Int32)) fun (x51 : Int32) =>
        f9_leastOf_L16 p1 k n x48 x51 h50) qN x4 (0 : Int32) h6)
set_option maxRecDepth 100000 in
set_option maxHeartbeats 4000000 in
theorem w9_leastOf_L16 (l : Launch) (h0 : qH) (p1 : Int32) {k : Int32 → Int32 → qH → Option (Int32 × qH)} (hk : ∀ (x4 : Int32) (x5 : Int32) (h6 : qH), PW UM ROM l R9_leastOf cX9_leastOf 9 (some .int) RX9 (qEw h0) 238 [some (.ref 0), some (.int p1), some (.int x4), some (.int x5), none, none, none, none, none] [] h6 (k x4 x5 h6)) : ∀ (n : Nat) (x4 : Int32) (x5 : Int32) (h6 : qH), PW UM ROM l R9_leastOf cX9_leastOf 9 (some .int) RX9 (qEw h0) 16 [some (.ref 0), some (.int p1), some (.int x4), some (.int x5), none, none, none, none, none] [] h6 (f9_leastOf_L16 p1 k n x4 x5 h6) := by
  intro n
  induction n with
  | zero => intro _ _ _; exact p_none
  | succ n ih =>
    intro x4 x5 h6
    unfold f9_leastOf_L16
    refine p_iload_n rfl dX9_leastOf_16 rfl ?_
    refine p_iconst (v := (1 : Int32)) kiconst_1 dX9_leastOf_17 rfl ?_
    refine p_aload_n rfl dX9_leastOf_18 rfl ?_
    refine p_geti qg_RX9_236 uM_0 rfl dX9_leastOf_19 rfl ?_
    refine p_ishl dX9_leastOf_22 rfl ?_
    refine p_if (fun c7 => ?_) (fun c7 => ?_)
    · refine p_icmp_ge_t (tgt := 238) dX9_leastOf_23 (by decide) c7 ?_
      exact hk x4 x5 h6
    · refine p_icmp_ge_f (tgt := 238) dX9_leastOf_23 (by decide) rfl c7 ?_
      refine p_iconst (v := (0 : Int32)) kiconst_0 dX9_leastOf_26 rfl ?_
      refine p_is (ls' := [some (.ref 0), some (.int p1), some (.int x4), some (.int x5), some (.int (0 : Int32)), none, none, none, none]) dX9_leastOf_27 rfl rfl rfl rfl ?_
      refine w9_leastOf_L29 l h0 p1 x5 (fun x48 x49 h50 => ?_) qN _ _ _
      refine p_iiN (v := (1 : Int32)) (lf := fun x51 => [some (.ref 0), some (.int p1), some (.int x48), some (.int x51), some (.int x49), none, none, none, none]) kiconst_1 dX9_leastOf_232 rfl rfl rfl rfl (fun _ => rfl) (fun x51 => ?_)
      refine p_goto (tgt := 16) dX9_leastOf_235 (by decide) ?_
      exact p_wk (ls' := [some (.ref 0), some (.int p1), some (.int x48), some (.int x51), none, none, none, none, none]) ⟨rfl, rfl, rfl, rfl, trivial⟩ (ih x48 x51 h50)
noncomputable def f9_leastOf (p1 : Int32) (h : qH) : Option (Int32 × qH) :=
  (f9_headOf p1 h).bind fun (z1 : Int32) =>
  qb2 (f9_laysOrder p1 (0 : Int32) z1 h) fun (z2 : Int32) (h3 : qH) =>
  f9_leastOf_L16 p1 (fun (x52 : Int32) (x53 : Int32) (h54 : qH) =>
    qlt (if x52 = (-1 : Int32) then (0 : Int32) else x52) fun (x56 : Int32) =>
    some (x56, h54)) qN (-1 : Int32) (1 : Int32) h3
set_option maxRecDepth 100000 in
set_option maxHeartbeats 4000000 in
theorem m9_leastOf (l : Launch) (p1 : Int32) : qMet UM ROM l yX9_leastOf (qws yX9_leastOf cX9_leastOf 9 (some .int)) R9_leastOf [.ref 0, .int p1] (f9_leastOf p1) qEw := by
  refine q_met (own := RX9) 7 (by decide) rfl (Nat.le_of_ble_eq_true rfl) (ls := [some (.ref 0), some (.int p1), none, none, none, none, none, none, none]) rfl fun h => ?_
  unfold f9_leastOf
  show PW UM ROM l R9_leastOf cX9_leastOf 9 (some .int) RX9 (qEw h) 0 [some (.ref 0), some (.int p1), none, none, none, none, none, none, none] [] h _
  refine p_aload_n rfl dX9_leastOf_0 rfl ?_
  refine p_iload_n rfl dX9_leastOf_1 rfl ?_
  refine p_iconst (v := (0 : Int32)) kiconst_0 dX9_leastOf_2 rfl ?_
  refine p_aload_n rfl dX9_leastOf_3 rfl ?_
  refine p_iload_n rfl dX9_leastOf_4 rfl ?_
  refine p_callVr (f := f9_headOf p1) (st := [.int (0 : Int32), .int p1, .ref 0]) [.int p1] qRokM (m9_headOf l p1) cal_RX9_243 uM_0 rfl rfl ⟨rfl, rfl⟩ ⟨Nat.le_of_ble_eq_true rfl, Nat.le_of_ble_eq_true rfl⟩ (Nat.le_of_ble_eq_true rfl) dX9_leastOf_5 rfl (fun z1 => ?_)
  refine p_cVw (f := f9_laysOrder p1 (0 : Int32) z1) (st := []) [.int p1, .int (0 : Int32), .int z1] qRokM (m9_laysOrder l p1 (0 : Int32) z1) cal_RX9_246 uM_0 rfl rfl ⟨rfl, rfl⟩ ⟨Nat.le_of_ble_eq_true rfl, Nat.le_of_ble_eq_true rfl⟩ (Nat.le_of_ble_eq_true rfl) dX9_leastOf_8 rfl (fun z2 h3 => ?_)
  refine p_pop rfl dX9_leastOf_11 rfl ?_
  refine p_iconst (v := (-1 : Int32)) kiconst_m1 dX9_leastOf_12 rfl ?_
  refine p_is_n (ls' := [some (.ref 0), some (.int p1), some (.int (-1 : Int32)), none, none, none, none, none, none]) dX9_leastOf_13 rfl rfl rfl rfl ?_
  refine p_iconst (v := (1 : Int32)) kiconst_1 dX9_leastOf_14 rfl ?_
  refine p_is_n (ls' := [some (.ref 0), some (.int p1), some (.int (-1 : Int32)), some (.int (1 : Int32)), none, none, none, none, none]) dX9_leastOf_15 rfl rfl rfl rfl ?_
  refine w9_leastOf_L16 l h p1 (fun x52 x53 h54 => ?_) qN _ _ _
  refine p_iload_n rfl dX9_leastOf_238 rfl ?_
  refine p_iconst (v := (-1 : Int32)) kiconst_m1 dX9_leastOf_239 rfl ?_
  refine p_vj 248 [some (.ref 0), some (.int p1), some (.int x52), some (.int x53), none, none, none, none, none] [] (fun x56 => ?_) (fun J => ?_)
  · exact p_iret rfl rfl dX9_leastOf_248
  · refine p_dia (fun c55 => ?_) (fun c55 => ?_)
    · refine p_icmp_ne_f (tgt := 247) dX9_leastOf_240 (by decide) rfl c55 ?_
      refine p_iconst (v := (0 : Int32)) kiconst_0 dX9_leastOf_243 rfl ?_
      refine p_goto (tgt := 248) dX9_leastOf_244 (by decide) ?_
      exact J _
    · refine p_icmp_ne_t (tgt := 247) dX9_leastOf_240 (by decide) c55 ?_
      refine p_iload_n rfl dX9_leastOf_247 rfl ?_
      exact J _
noncomputable def f9_least (p1 : Int32) (h : qH) : Option (Int32 × qH) :=
  (f9_isTape p1 h).bind fun (z1 : Int32) =>
  qj (fun (x2 : Int32) (h3 : qH) =>
    some (x2, h3)) fun j4 =>
  if z1 = 0 then (
    j4 (-1 : Int32) h)
  else (
    qb2 (f9_leastOf p1 h) fun (z7 : Int32) (h8 : qH) =>
    j4 z7 h8)
set_option maxRecDepth 100000 in
set_option maxHeartbeats 4000000 in
theorem m9_least (l : Launch) (p1 : Int32) : qMet UM ROM l yX9_least (qws yX9_least cX9_least 2 (some .int)) R9_least [.ref 0, .int p1] (f9_least p1) qEw := by
  refine q_met (own := RX9) 0 (by decide) rfl (Nat.le_of_ble_eq_true rfl) (ls := [some (.ref 0), some (.int p1)]) rfl fun h => ?_
  unfold f9_least
  show PW UM ROM l R9_least cX9_least 2 (some .int) RX9 (qEw h) 0 [some (.ref 0), some (.int p1)] [] h _
  refine p_aload_n rfl dX9_least_0 rfl ?_
  refine p_iload_n rfl dX9_least_1 rfl ?_
  refine p_callVr (f := f9_isTape p1) (st := []) [.int p1] qRokM (m9_isTape l p1) cal_RX9_169 uM_0 rfl rfl ⟨rfl, rfl⟩ ⟨Nat.le_of_ble_eq_true rfl, Nat.le_of_ble_eq_true rfl⟩ (Nat.le_of_ble_eq_true rfl) dX9_least_2 rfl (fun z1 => ?_)
  refine p_jn (fun j4 => ∀ (x2 : Int32) (h3 : qH), PW UM ROM l R9_least cX9_least 2 (some .int) RX9 (qEw h) 17 [some (.ref 0), some (.int p1)] [.int x2] h3 (j4 x2 h3)) (fun x2 h3 => ?_) (fun j4 J5 => ?_)
  · exact p_iret rfl rfl dX9_least_17
  · refine p_if (fun c6 => ?_) (fun c6 => ?_)
    · refine p_if_eq_t (tgt := 16) dX9_least_5 (by decide) c6 ?_
      refine p_iconst (v := (-1 : Int32)) kiconst_m1 dX9_least_16 rfl ?_
      exact J5 (-1 : Int32) h
    · refine p_if_eq_f (tgt := 16) dX9_least_5 (by decide) rfl c6 ?_
      refine p_aload_n rfl dX9_least_8 rfl ?_
      refine p_iload_n rfl dX9_least_9 rfl ?_
      refine p_cVw (f := f9_leastOf p1) (st := []) [.int p1] qRokM (m9_leastOf l p1) cal_RX9_382 uM_0 rfl rfl ⟨rfl, rfl⟩ ⟨Nat.le_of_ble_eq_true rfl, Nat.le_of_ble_eq_true rfl⟩ (Nat.le_of_ble_eq_true rfl) dX9_least_10 rfl (fun z7 h8 => ?_)
      refine p_goto (tgt := 17) dX9_least_13 (by decide) ?_
      exact J5 z7 h8
noncomputable def f9_layAll_L19 (p1 : Int32) (k : qH → Option (qH)) : Nat → qH → Option (qH)
  | 0, _ => none
  | n + 1, h5 =>
    (f9_nextTape h5).bind fun (z6 : Int32) =>
    if z6 = (-1 : Int32) then (
      k h5)
    else (
      qb2 (f9_servesNow h5) fun (z8 : Int32) (h9 : qH) =>
      qg (qin (h5.1 0 28) 12) <|
      qlt (qw h9 16 (ix (h5.1 0 28)) z8) fun (h10 : qH) =>
      qj (fun (h11 : qH) =>
        qlt (qw h11 0 28 ((h11.1 0 28) + (1 : Int32))) fun (h14 : qH) =>
        f9_layAll_L19 p1 k n h14) fun j12 =>
      if (h10.1 0 31) = (-1 : Int32) then (
        if p1 = (-1 : Int32) then (
          j12 h10)
        else (
          qg (qin ((144 : Int32) + p1) 353) <|
          if (h10.1 9 (ix ((144 : Int32) + p1))) = 0 then (
            qlt (qw h10 0 31 ((h10.1 0 28) + (1 : Int32))) fun (h18 : qH) =>
            j12 h18)
          else (
            j12 h10)))
      else (
        j12 h10))
set_option maxRecDepth 100000 in
set_option maxHeartbeats 4000000 in
theorem w9_layAll_L19 (l : Launch) (h0 : qH) (p1 : Int32) {k : qH → Option (qH)} (hk : ∀ (h5 : qH), PW UM ROM l R9_layAll cX9_layAll 2 none RX9 (qEv h0) 89 [some (.ref 0), some (.int p1)] [] h5 (k h5)) : ∀ (n : Nat) (h5 : qH), PW UM ROM l R9_layAll cX9_layAll 2 none RX9 (qEv h0) 19 [some (.ref 0), some (.int p1)] [] h5 (f9_layAll_L19 p1 k n h5) := by
  intro n
  induction n with
  | zero => intro _; exact p_none
  | succ n ih =>
    intro h5
    unfold f9_layAll_L19
    refine p_aload_n rfl dX9_layAll_19 rfl ?_
    refine p_callVr (f := f9_nextTape) (st := []) [] qRokM (m9_nextTape l) cal_RX9_250 uM_0 rfl rfl ⟨rfl, rfl⟩ ⟨Nat.le_of_ble_eq_true rfl, Nat.le_of_ble_eq_true rfl⟩ (Nat.le_of_ble_eq_true rfl) dX9_layAll_20 rfl (fun z6 => ?_)
    refine p_iconst (v := (-1 : Int32)) kiconst_m1 dX9_layAll_23 rfl ?_
    refine p_if (fun c7 => ?_) (fun c7 => ?_)
    · refine p_icmp_eq_t (tgt := 89) dX9_layAll_24 (by decide) c7 ?_
      exact hk h5
    · refine p_icmp_eq_f (tgt := 89) dX9_layAll_24 (by decide) rfl c7 ?_
      refine p_aload_n rfl dX9_layAll_27 rfl ?_
      refine p_getr qg_RX9_56 uM_0 rfl dX9_layAll_28 rfl ?_
      refine p_aload_n rfl dX9_layAll_31 rfl ?_
      refine p_geti qg_RX9_391 uM_0 rfl dX9_layAll_32 rfl ?_
      refine p_aload_n rfl dX9_layAll_35 rfl ?_
      refine p_cVw (f := f9_servesNow) (st := [.int (h5.1 0 28), .ref 16]) [] qRokM (m9_servesNow l) cal_RX9_307 uM_0 rfl rfl ⟨rfl, rfl⟩ ⟨Nat.le_of_ble_eq_true rfl, Nat.le_of_ble_eq_true rfl⟩ (Nat.le_of_ble_eq_true rfl) dX9_layAll_36 rfl (fun z8 h9 => ?_)
      refine p_iast qokM uM_16 dX9_layAll_39 rfl (fun _ => ?_)
      refine p_nmH (fun h10 => ?_)
      refine p_aload_n rfl dX9_layAll_40 rfl ?_
      refine p_geti qg_RX9_388 uM_0 rfl dX9_layAll_41 rfl ?_
      refine p_iconst (v := (-1 : Int32)) kiconst_m1 dX9_layAll_44 rfl ?_
      refine p_jn (fun j12 => ∀ (h11 : qH), PW UM ROM l R9_layAll cX9_layAll 2 none RX9 (qEv h0) 76 [some (.ref 0), some (.int p1)] [] h11 (j12 h11)) (fun h11 => ?_) (fun j12 J13 => ?_)
      · refine p_aload_n rfl dX9_layAll_76 rfl ?_
        refine p_dup rfl dX9_layAll_77 rfl ?_
        refine p_geti qg_RX9_391 uM_0 rfl dX9_layAll_78 rfl ?_
        refine p_iconst (v := (1 : Int32)) kiconst_1 dX9_layAll_81 rfl ?_
        refine p_iadd dX9_layAll_82 rfl ?_
        refine p_puti qokM qp_RX9_391 uM_0 rfl dX9_layAll_83 rfl ?_
        refine p_nmH (fun h14 => ?_)
        refine p_goto (tgt := 19) dX9_layAll_86 (by decide) ?_
        exact ih h14
      · refine p_if (fun c15 => ?_) (fun c15 => ?_)
        · refine p_icmp_ne_f (tgt := 76) dX9_layAll_45 (by decide) rfl c15 ?_
          refine p_iload_n rfl dX9_layAll_48 rfl ?_
          refine p_iconst (v := (-1 : Int32)) kiconst_m1 dX9_layAll_49 rfl ?_
          refine p_if (fun c16 => ?_) (fun c16 => ?_)
          · refine p_icmp_eq_t (tgt := 76) dX9_layAll_50 (by decide) c16 ?_
            exact J13 h10
          · refine p_icmp_eq_f (tgt := 76) dX9_layAll_50 (by decide) rfl c16 ?_
            refine p_aload_n rfl dX9_layAll_53 rfl ?_
            refine p_getr qg_RX9_34 uM_0 rfl dX9_layAll_54 rfl ?_
            refine p_sipush (v := (144 : Int32)) ksipush_144 dX9_layAll_57 rfl ?_
            refine p_iload_n rfl dX9_layAll_60 rfl ?_
            refine p_iadd dX9_layAll_61 rfl ?_
            refine p_iald uM_9 dX9_layAll_62 rfl (fun _ => ?_)
            refine p_if (fun c17 => ?_) (fun c17 => ?_)
            · refine p_if_ne_f (tgt := 76) dX9_layAll_63 (by decide) rfl c17 ?_
              refine p_aload_n rfl dX9_layAll_66 rfl ?_
              refine p_aload_n rfl dX9_layAll_67 rfl ?_
              refine p_geti qg_RX9_391 uM_0 rfl dX9_layAll_68 rfl ?_
              refine p_iconst (v := (1 : Int32)) kiconst_1 dX9_layAll_71 rfl ?_
              refine p_iadd dX9_layAll_72 rfl ?_
              refine p_puti qokM qp_RX9_388 uM_0 rfl dX9_layAll_73 rfl ?_
              refine p_nmH (fun h18 => ?_)
              exact J13 h18
            · refine p_if_ne_t (tgt := 76) dX9_layAll_63 (by decide) c17 ?_
              exact J13 h10
        · refine p_icmp_ne_t (tgt := 76) dX9_layAll_45 (by decide) c15 ?_
          exact J13 h10
noncomputable def f9_layAll (p1 : Int32) (h : qH) : Option (qH) :=
  (f9_putAside h).bind fun (h1 : qH) =>
  qlt (qw h1 0 18 (0 : Int32)) fun (h2 : qH) =>
  qlt (qw h2 0 31 (-1 : Int32)) fun (h3 : qH) =>
  qlt (qw h3 0 28 (0 : Int32)) fun (h4 : qH) =>
  f9_layAll_L19 p1 (fun (h19 : qH) =>
    qlt (qw h19 0 29 ((h19.1 9 170) - (h19.1 14 170))) fun (h20 : qH) =>
    qlt (qw h20 0 30 (h20.1 0 18)) fun (h21 : qH) =>
    (f9_bringBack h21).bind fun (h22 : qH) =>
    some h22) qN h4
set_option maxRecDepth 100000 in
set_option maxHeartbeats 4000000 in
theorem m9_layAll (l : Launch) (p1 : Int32) : qMet UM ROM l yX9_layAll (qws yX9_layAll cX9_layAll 2 none) R9_layAll [.ref 0, .int p1] (f9_layAll p1) qEv := by
  refine q_met (own := RX9) 0 (by decide) rfl (Nat.le_of_ble_eq_true rfl) (ls := [some (.ref 0), some (.int p1)]) rfl fun h => ?_
  unfold f9_layAll
  show PW UM ROM l R9_layAll cX9_layAll 2 none RX9 (qEv h) 0 [some (.ref 0), some (.int p1)] [] h _
  refine p_aload_n rfl dX9_layAll_0 rfl ?_
  refine p_callVv (f := f9_putAside) (st := []) [] qRokM (m9_putAside l) cal_RX9_385 uM_0 rfl rfl ⟨rfl, rfl⟩ ⟨Nat.le_of_ble_eq_true rfl, Nat.le_of_ble_eq_true rfl⟩ (Nat.le_of_ble_eq_true rfl) dX9_layAll_1 rfl (fun h1 => ?_)
  refine p_aload_n rfl dX9_layAll_4 rfl ?_
  refine p_iconst (v := (0 : Int32)) kiconst_0 dX9_layAll_5 rfl ?_
  refine p_puti qokM qp_RX9_226 uM_0 rfl dX9_layAll_6 rfl ?_
  refine p_nmH (fun h2 => ?_)
  refine p_aload_n rfl dX9_layAll_9 rfl ?_
  refine p_iconst (v := (-1 : Int32)) kiconst_m1 dX9_layAll_10 rfl ?_
  refine p_puti qokM qp_RX9_388 uM_0 rfl dX9_layAll_11 rfl ?_
  refine p_nmH (fun h3 => ?_)
  refine p_aload_n rfl dX9_layAll_14 rfl ?_
  refine p_iconst (v := (0 : Int32)) kiconst_0 dX9_layAll_15 rfl ?_
  refine p_puti qokM qp_RX9_391 uM_0 rfl dX9_layAll_16 rfl ?_
  refine p_nmH (fun h4 => ?_)
  refine w9_layAll_L19 l h p1 (fun h19 => ?_) qN _
  refine p_aload_n rfl dX9_layAll_89 rfl ?_
  refine p_aload_n rfl dX9_layAll_90 rfl ?_
  refine p_getr qg_RX9_34 uM_0 rfl dX9_layAll_91 rfl ?_
  refine p_sipush (v := (170 : Int32)) ksipush_170 dX9_layAll_94 rfl ?_
  refine p_ialdK uM_9 kix_170 kqin_170_353 dX9_layAll_97 rfl ?_
  refine p_aload_n rfl dX9_layAll_98 rfl ?_
  refine p_getr qg_RX9_49 uM_0 rfl dX9_layAll_99 rfl ?_
  refine p_sipush (v := (170 : Int32)) ksipush_170 dX9_layAll_102 rfl ?_
  refine p_ialdK uM_14 kix_170 kqin_170_172 dX9_layAll_105 rfl ?_
  refine p_isub dX9_layAll_106 rfl ?_
  refine p_puti qokM qp_RX9_394 uM_0 rfl dX9_layAll_107 rfl ?_
  refine p_nmH (fun h20 => ?_)
  refine p_aload_n rfl dX9_layAll_110 rfl ?_
  refine p_aload_n rfl dX9_layAll_111 rfl ?_
  refine p_geti qg_RX9_226 uM_0 rfl dX9_layAll_112 rfl ?_
  refine p_puti qokM qp_RX9_397 uM_0 rfl dX9_layAll_115 rfl ?_
  refine p_nmH (fun h21 => ?_)
  refine p_aload_n rfl dX9_layAll_118 rfl ?_
  refine p_callVv (f := f9_bringBack) (st := []) [] qRokM (m9_bringBack l) cal_RX9_400 uM_0 rfl rfl ⟨rfl, rfl⟩ ⟨Nat.le_of_ble_eq_true rfl, Nat.le_of_ble_eq_true rfl⟩ (Nat.le_of_ble_eq_true rfl) dX9_layAll_119 rfl (fun h22 => ?_)
  exact p_vret rfl rfl dX9_layAll_122
noncomputable def f9_all (p1 : Int32) (h : qH) : Option (Int32 × qH) :=
  (f9_isHall h).bind fun (z1 : Int32) =>
  if z1 = 0 then (
    some ((-1 : Int32), h))
  else (
    (f9_in p1 (0 : Int32) (2 : Int32) h).bind fun (z3 : Int32) =>
    if z3 = 0 then (
      some ((-1 : Int32), h))
    else (
      (f9_layAll (-1 : Int32) h).bind fun (h5 : qH) =>
      qlt (if p1 = 0 then (h5.1 0 29) else (if p1 = (1 : Int32) then (h5.1 0 30) else (h5.1 0 28))) fun (x8 : Int32) =>
      some (x8, h5)))
set_option maxRecDepth 100000 in
set_option maxHeartbeats 4000000 in
theorem m9_all (l : Launch) (p1 : Int32) : qMet UM ROM l yX9_all (qws yX9_all cX9_all 2 (some .int)) R9_all [.ref 0, .int p1] (f9_all p1) qEw := by
  refine q_met (own := RX9) 0 (by decide) rfl (Nat.le_of_ble_eq_true rfl) (ls := [some (.ref 0), some (.int p1)]) rfl fun h => ?_
  unfold f9_all
  show PW UM ROM l R9_all cX9_all 2 (some .int) RX9 (qEw h) 0 [some (.ref 0), some (.int p1)] [] h _
  refine p_aload_n rfl dX9_all_0 rfl ?_
  refine p_callVr (f := f9_isHall) (st := []) [] qRokM (m9_isHall l) cal_RX9_156 uM_0 rfl rfl ⟨rfl, rfl⟩ ⟨Nat.le_of_ble_eq_true rfl, Nat.le_of_ble_eq_true rfl⟩ (Nat.le_of_ble_eq_true rfl) dX9_all_1 rfl (fun z1 => ?_)
  refine p_if (fun c2 => ?_) (fun c2 => ?_)
  · refine p_if_eq_t (tgt := 16) dX9_all_4 (by decide) c2 ?_
    refine p_iconst (v := (-1 : Int32)) kiconst_m1 dX9_all_16 rfl ?_
    exact p_iret rfl rfl dX9_all_17
  · refine p_if_eq_f (tgt := 16) dX9_all_4 (by decide) rfl c2 ?_
    refine p_iload_n rfl dX9_all_7 rfl ?_
    refine p_iconst (v := (0 : Int32)) kiconst_0 dX9_all_8 rfl ?_
    refine p_iconst (v := (2 : Int32)) kiconst_2 dX9_all_9 rfl ?_
    refine p_callSr (f := f9_in p1 (0 : Int32) (2 : Int32)) (st := []) [.int p1, .int (0 : Int32), .int (2 : Int32)] qRokM (m9_in l p1 (0 : Int32) (2 : Int32)) cal_RX9_76 rfl ⟨rfl, rfl⟩ ⟨Nat.le_of_ble_eq_true rfl, Nat.le_of_ble_eq_true rfl⟩ (Nat.le_of_ble_eq_true rfl) dX9_all_10 rfl (fun z3 => ?_)
    refine p_if (fun c4 => ?_) (fun c4 => ?_)
    · refine p_if_ne_f (tgt := 18) dX9_all_13 (by decide) rfl c4 ?_
      refine p_iconst (v := (-1 : Int32)) kiconst_m1 dX9_all_16 rfl ?_
      exact p_iret rfl rfl dX9_all_17
    · refine p_if_ne_t (tgt := 18) dX9_all_13 (by decide) c4 ?_
      refine p_aload_n rfl dX9_all_18 rfl ?_
      refine p_iconst (v := (-1 : Int32)) kiconst_m1 dX9_all_19 rfl ?_
      refine p_callVv (f := f9_layAll (-1 : Int32)) (st := []) [.int (-1 : Int32)] qRokM (m9_layAll l (-1 : Int32)) cal_RX9_403 uM_0 rfl rfl ⟨rfl, rfl⟩ ⟨Nat.le_of_ble_eq_true rfl, Nat.le_of_ble_eq_true rfl⟩ (Nat.le_of_ble_eq_true rfl) dX9_all_20 rfl (fun h5 => ?_)
      refine p_iload_n rfl dX9_all_23 rfl ?_
      refine p_vj 50 [some (.ref 0), some (.int p1)] [] (fun x8 => ?_) (fun J => ?_)
      · exact p_iret rfl rfl dX9_all_50
      · refine p_dia (fun c6 => ?_) (fun c6 => ?_)
        · refine p_if_ne_f (tgt := 34) dX9_all_24 (by decide) rfl c6 ?_
          refine p_aload_n rfl dX9_all_27 rfl ?_
          refine p_geti qg_RX9_394 uM_0 rfl dX9_all_28 rfl ?_
          refine p_goto (tgt := 50) dX9_all_31 (by decide) ?_
          exact J _
        · refine p_if_ne_t (tgt := 34) dX9_all_24 (by decide) c6 ?_
          refine p_iload_n rfl dX9_all_34 rfl ?_
          refine p_iconst (v := (1 : Int32)) kiconst_1 dX9_all_35 rfl ?_
          refine p_dia (fun c7 => ?_) (fun c7 => ?_)
          · refine p_icmp_ne_f (tgt := 46) dX9_all_36 (by decide) rfl c7 ?_
            refine p_aload_n rfl dX9_all_39 rfl ?_
            refine p_geti qg_RX9_397 uM_0 rfl dX9_all_40 rfl ?_
            refine p_goto (tgt := 50) dX9_all_43 (by decide) ?_
            exact J _
          · refine p_icmp_ne_t (tgt := 46) dX9_all_36 (by decide) c7 ?_
            refine p_aload_n rfl dX9_all_46 rfl ?_
            refine p_geti qg_RX9_391 uM_0 rfl dX9_all_47 rfl ?_
            exact J _
noncomputable def f9_served (p1 : Int32) (h : qH) : Option (Int32 × qH) :=
  (f9_isHall h).bind fun (z1 : Int32) =>
  if z1 = 0 then (
    some ((-1 : Int32), h))
  else (
    (f9_layAll (-1 : Int32) h).bind fun (h3 : qH) =>
    (f9_in p1 (0 : Int32) ((h3.1 0 28) - (1 : Int32)) h3).bind fun (z4 : Int32) =>
    qj (fun (x5 : Int32) =>
      some (x5, h3)) fun j6 =>
    if z4 = 0 then (
      j6 (-1 : Int32))
    else (
      qg (qin p1 12) <|
      j6 (h3.1 16 (ix p1))))
set_option maxRecDepth 100000 in
set_option maxHeartbeats 4000000 in
theorem m9_served (l : Launch) (p1 : Int32) : qMet UM ROM l yX9_served (qws yX9_served cX9_served 2 (some .int)) R9_served [.ref 0, .int p1] (f9_served p1) qEw := by
  refine q_met (own := RX9) 0 (by decide) rfl (Nat.le_of_ble_eq_true rfl) (ls := [some (.ref 0), some (.int p1)]) rfl fun h => ?_
  unfold f9_served
  show PW UM ROM l R9_served cX9_served 2 (some .int) RX9 (qEw h) 0 [some (.ref 0), some (.int p1)] [] h _
  refine p_aload_n rfl dX9_served_0 rfl ?_
  refine p_callVr (f := f9_isHall) (st := []) [] qRokM (m9_isHall l) cal_RX9_156 uM_0 rfl rfl ⟨rfl, rfl⟩ ⟨Nat.le_of_ble_eq_true rfl, Nat.le_of_ble_eq_true rfl⟩ (Nat.le_of_ble_eq_true rfl) dX9_served_1 rfl (fun z1 => ?_)
  refine p_if (fun c2 => ?_) (fun c2 => ?_)
  · refine p_if_ne_f (tgt := 9) dX9_served_4 (by decide) rfl c2 ?_
    refine p_iconst (v := (-1 : Int32)) kiconst_m1 dX9_served_7 rfl ?_
    exact p_iret rfl rfl dX9_served_8
  · refine p_if_ne_t (tgt := 9) dX9_served_4 (by decide) c2 ?_
    refine p_aload_n rfl dX9_served_9 rfl ?_
    refine p_iconst (v := (-1 : Int32)) kiconst_m1 dX9_served_10 rfl ?_
    refine p_callVv (f := f9_layAll (-1 : Int32)) (st := []) [.int (-1 : Int32)] qRokM (m9_layAll l (-1 : Int32)) cal_RX9_403 uM_0 rfl rfl ⟨rfl, rfl⟩ ⟨Nat.le_of_ble_eq_true rfl, Nat.le_of_ble_eq_true rfl⟩ (Nat.le_of_ble_eq_true rfl) dX9_served_11 rfl (fun h3 => ?_)
    refine p_iload_n rfl dX9_served_14 rfl ?_
    refine p_iconst (v := (0 : Int32)) kiconst_0 dX9_served_15 rfl ?_
    refine p_aload_n rfl dX9_served_16 rfl ?_
    refine p_geti qg_RX9_391 uM_0 rfl dX9_served_17 rfl ?_
    refine p_iconst (v := (1 : Int32)) kiconst_1 dX9_served_20 rfl ?_
    refine p_isub dX9_served_21 rfl ?_
    refine p_callSr (f := f9_in p1 (0 : Int32) ((h3.1 0 28) - (1 : Int32))) (st := []) [.int p1, .int (0 : Int32), .int ((h3.1 0 28) - (1 : Int32))] qRokM (m9_in l p1 (0 : Int32) ((h3.1 0 28) - (1 : Int32))) cal_RX9_76 rfl ⟨rfl, rfl⟩ ⟨Nat.le_of_ble_eq_true rfl, Nat.le_of_ble_eq_true rfl⟩ (Nat.le_of_ble_eq_true rfl) dX9_served_22 rfl (fun z4 => ?_)
    refine p_jn (fun j6 => ∀ (x5 : Int32), PW UM ROM l R9_served cX9_served 2 (some .int) RX9 (qEw h) 38 [some (.ref 0), some (.int p1)] [.int x5] h3 (j6 x5)) (fun x5 => ?_) (fun j6 J7 => ?_)
    · exact p_iret rfl rfl dX9_served_38
    · refine p_if (fun c8 => ?_) (fun c8 => ?_)
      · refine p_if_eq_t (tgt := 37) dX9_served_25 (by decide) c8 ?_
        refine p_iconst (v := (-1 : Int32)) kiconst_m1 dX9_served_37 rfl ?_
        exact J7 (-1 : Int32)
      · refine p_if_eq_f (tgt := 37) dX9_served_25 (by decide) rfl c8 ?_
        refine p_aload_n rfl dX9_served_28 rfl ?_
        refine p_getr qg_RX9_56 uM_0 rfl dX9_served_29 rfl ?_
        refine p_iload_n rfl dX9_served_32 rfl ?_
        refine p_iald uM_16 dX9_served_33 rfl (fun _ => ?_)
        refine p_goto (tgt := 38) dX9_served_34 (by decide) ?_
        exact J7 (h3.1 16 (ix p1))
noncomputable def f9_soon (p1 : Int32) (h : qH) : Option (Int32 × qH) :=
  (f9_isHeld p1 h).bind fun (z1 : Int32) =>
  if z1 = 0 then (
    some ((-1 : Int32), h))
  else (
    qg (qin ((144 : Int32) + p1) 353) <|
    if (h.1 9 (ix ((144 : Int32) + p1))) = 0 then (
      some ((-1 : Int32), h))
    else (
      (f9_layAll p1 h).bind fun (h4 : qH) =>
      some ((h4.1 0 31), h4)))
set_option maxRecDepth 100000 in
set_option maxHeartbeats 4000000 in
theorem m9_soon (l : Launch) (p1 : Int32) : qMet UM ROM l yX9_soon (qws yX9_soon cX9_soon 2 (some .int)) R9_soon [.ref 0, .int p1] (f9_soon p1) qEw := by
  refine q_met (own := RX9) 0 (by decide) rfl (Nat.le_of_ble_eq_true rfl) (ls := [some (.ref 0), some (.int p1)]) rfl fun h => ?_
  unfold f9_soon
  show PW UM ROM l R9_soon cX9_soon 2 (some .int) RX9 (qEw h) 0 [some (.ref 0), some (.int p1)] [] h _
  refine p_aload_n rfl dX9_soon_0 rfl ?_
  refine p_iload_n rfl dX9_soon_1 rfl ?_
  refine p_callVr (f := f9_isHeld p1) (st := []) [.int p1] qRokM (m9_isHeld l p1) cal_RX9_289 uM_0 rfl rfl ⟨rfl, rfl⟩ ⟨Nat.le_of_ble_eq_true rfl, Nat.le_of_ble_eq_true rfl⟩ (Nat.le_of_ble_eq_true rfl) dX9_soon_2 rfl (fun z1 => ?_)
  refine p_if (fun c2 => ?_) (fun c2 => ?_)
  · refine p_if_eq_t (tgt := 21) dX9_soon_5 (by decide) c2 ?_
    refine p_iconst (v := (-1 : Int32)) kiconst_m1 dX9_soon_21 rfl ?_
    exact p_iret rfl rfl dX9_soon_22
  · refine p_if_eq_f (tgt := 21) dX9_soon_5 (by decide) rfl c2 ?_
    refine p_aload_n rfl dX9_soon_8 rfl ?_
    refine p_getr qg_RX9_34 uM_0 rfl dX9_soon_9 rfl ?_
    refine p_sipush (v := (144 : Int32)) ksipush_144 dX9_soon_12 rfl ?_
    refine p_iload_n rfl dX9_soon_15 rfl ?_
    refine p_iadd dX9_soon_16 rfl ?_
    refine p_iald uM_9 dX9_soon_17 rfl (fun _ => ?_)
    refine p_if (fun c3 => ?_) (fun c3 => ?_)
    · refine p_if_ne_f (tgt := 23) dX9_soon_18 (by decide) rfl c3 ?_
      refine p_iconst (v := (-1 : Int32)) kiconst_m1 dX9_soon_21 rfl ?_
      exact p_iret rfl rfl dX9_soon_22
    · refine p_if_ne_t (tgt := 23) dX9_soon_18 (by decide) c3 ?_
      refine p_aload_n rfl dX9_soon_23 rfl ?_
      refine p_iload_n rfl dX9_soon_24 rfl ?_
      refine p_callVv (f := f9_layAll p1) (st := []) [.int p1] qRokM (m9_layAll l p1) cal_RX9_403 uM_0 rfl rfl ⟨rfl, rfl⟩ ⟨Nat.le_of_ble_eq_true rfl, Nat.le_of_ble_eq_true rfl⟩ (Nat.le_of_ble_eq_true rfl) dX9_soon_25 rfl (fun h4 => ?_)
      refine p_aload_n rfl dX9_soon_28 rfl ?_
      refine p_geti qg_RX9_388 uM_0 rfl dX9_soon_29 rfl ?_
      exact p_iret rfl rfl dX9_soon_32
noncomputable def f9_target (p1 : Int32) (h : qH) : Option (Int32) :=
  (f9_isTape p1 h).bind fun (z1 : Int32) =>
  qj (fun (x2 : Int32) =>
    some x2) fun j3 =>
  if z1 = 0 then (
    j3 (-1 : Int32))
  else (
    (f9_filesOn p1 h).bind fun (z6 : Int32) =>
    if z6 ≤ 0 then (
      j3 (-1 : Int32))
    else (
      (f9_targetOf p1 h).bind fun (z8 : Int32) =>
      j3 z8))
set_option maxRecDepth 100000 in
set_option maxHeartbeats 4000000 in
theorem m9_target (l : Launch) (p1 : Int32) : qMet UM ROM l yX9_target (qws yX9_target cX9_target 2 (some .int)) R9_target [.ref 0, .int p1] (f9_target p1) qEr := by
  refine q_met (own := RX9) 0 (by decide) rfl (Nat.le_of_ble_eq_true rfl) (ls := [some (.ref 0), some (.int p1)]) rfl fun h => ?_
  unfold f9_target
  refine p_aload_n rfl dX9_target_0 rfl ?_
  refine p_iload_n rfl dX9_target_1 rfl ?_
  refine p_callVr (f := f9_isTape p1) (st := []) [.int p1] qRokM (m9_isTape l p1) cal_RX9_169 uM_0 rfl rfl ⟨rfl, rfl⟩ ⟨Nat.le_of_ble_eq_true rfl, Nat.le_of_ble_eq_true rfl⟩ (Nat.le_of_ble_eq_true rfl) dX9_target_2 rfl (fun z1 => ?_)
  refine p_jn (fun j3 => ∀ (x2 : Int32), PW UM ROM l R9_target cX9_target 2 (some .int) RX9 (qEr h) 25 [some (.ref 0), some (.int p1)] [.int x2] h (j3 x2)) (fun x2 => ?_) (fun j3 J4 => ?_)
  · exact p_iret rfl rfl dX9_target_25
  · refine p_if (fun c5 => ?_) (fun c5 => ?_)
    · refine p_if_eq_t (tgt := 24) dX9_target_5 (by decide) c5 ?_
      refine p_iconst (v := (-1 : Int32)) kiconst_m1 dX9_target_24 rfl ?_
      exact J4 (-1 : Int32)
    · refine p_if_eq_f (tgt := 24) dX9_target_5 (by decide) rfl c5 ?_
      refine p_aload_n rfl dX9_target_8 rfl ?_
      refine p_iload_n rfl dX9_target_9 rfl ?_
      refine p_callVr (f := f9_filesOn p1) (st := []) [.int p1] qRokM (m9_filesOn l p1) cal_RX9_262 uM_0 rfl rfl ⟨rfl, rfl⟩ ⟨Nat.le_of_ble_eq_true rfl, Nat.le_of_ble_eq_true rfl⟩ (Nat.le_of_ble_eq_true rfl) dX9_target_10 rfl (fun z6 => ?_)
      refine p_if (fun c7 => ?_) (fun c7 => ?_)
      · refine p_if_le_t (tgt := 24) dX9_target_13 (by decide) c7 ?_
        refine p_iconst (v := (-1 : Int32)) kiconst_m1 dX9_target_24 rfl ?_
        exact J4 (-1 : Int32)
      · refine p_if_le_f (tgt := 24) dX9_target_13 (by decide) rfl c7 ?_
        refine p_aload_n rfl dX9_target_16 rfl ?_
        refine p_iload_n rfl dX9_target_17 rfl ?_
        refine p_callVr (f := f9_targetOf p1) (st := []) [.int p1] qRokM (m9_targetOf l p1) cal_RX9_274 uM_0 rfl rfl ⟨rfl, rfl⟩ ⟨Nat.le_of_ble_eq_true rfl, Nat.le_of_ble_eq_true rfl⟩ (Nat.le_of_ble_eq_true rfl) dX9_target_18 rfl (fun z8 => ?_)
        refine p_goto (tgt := 25) dX9_target_21 (by decide) ?_
        exact J4 z8
noncomputable def f9_cheap_L7 (p1 : Int32) (k : Int32 → Int32 → Int32 → qH → Option (Int32 × qH)) : Nat → Int32 → Int32 → Int32 → qH → Option (Int32 × qH)
  | 0, _, _, _, _ => none
  | n + 1, x1, x2, x3, h4 =>
    if (h4.1 0 12) ≤ x3 then (
      k x1 x2 x3 h4)
    else (
      (f9_whyWrite x3 p1 h4).bind fun (z6 : Int32) =>
      qj (fun (x7 : Int32) (x8 : Int32) (h9 : qH) =>
        qlt (x3 + (1 : Int32)) fun (x12 : Int32) =>
        f9_cheap_L7 p1 k n x7 x8 x12 h9) fun j10 =>
      if z6 = (-1 : Int32) then (
        (f9_putAside h4).bind fun (h14 : qH) =>
        qb2 (f9_writesNow x3 p1 h14) fun (z15 : Int32) (h16 : qH) =>
        qlt ((h16.1 9 170) - (h16.1 14 170)) fun (x17 : Int32) =>
        (f9_bringBack h16).bind fun (h18 : qH) =>
        if x1 = (-1 : Int32) then (
          j10 x3 x17 h18)
        else (
          if x2 ≤ x17 then (
            j10 x1 x2 h18)
          else (
            j10 x3 x17 h18)))
      else (
        j10 x1 x2 h4))
set_option maxRecDepth 100000 in
set_option maxHeartbeats 4000000 in
theorem w9_cheap_L7 (l : Launch) (h0 : qH) (p1 : Int32) {k : Int32 → Int32 → Int32 → qH → Option (Int32 × qH)} (hk : ∀ (x1 : Int32) (x2 : Int32) (x3 : Int32) (h4 : qH), PW UM ROM l R9_cheap cX9_cheap 6 (some .int) RX9 (qEw h0) 85 [some (.ref 0), some (.int p1), some (.int x1), some (.int x2), some (.int x3), none] [] h4 (k x1 x2 x3 h4)) : ∀ (n : Nat) (x1 : Int32) (x2 : Int32) (x3 : Int32) (h4 : qH), PW UM ROM l R9_cheap cX9_cheap 6 (some .int) RX9 (qEw h0) 7 [some (.ref 0), some (.int p1), some (.int x1), some (.int x2), some (.int x3), none] [] h4 (f9_cheap_L7 p1 k n x1 x2 x3 h4) := by
  intro n
  induction n with
  | zero => intro _ _ _ _; exact p_none
  | succ n ih =>
    intro x1 x2 x3 h4
    unfold f9_cheap_L7
    refine p_iload rfl dX9_cheap_7 rfl ?_
    refine p_aload_n rfl dX9_cheap_9 rfl ?_
    refine p_geti qg_RX9_153 uM_0 rfl dX9_cheap_10 rfl ?_
    refine p_if (fun c5 => ?_) (fun c5 => ?_)
    · refine p_icmp_ge_t (tgt := 85) dX9_cheap_13 (by decide) c5 ?_
      exact hk x1 x2 x3 h4
    · refine p_icmp_ge_f (tgt := 85) dX9_cheap_13 (by decide) rfl c5 ?_
      refine p_aload_n rfl dX9_cheap_16 rfl ?_
      refine p_iload rfl dX9_cheap_17 rfl ?_
      refine p_iload_n rfl dX9_cheap_19 rfl ?_
      refine p_callVr (f := f9_whyWrite x3 p1) (st := []) [.int x3, .int p1] qRokM (m9_whyWrite l x3 p1) cal_RX9_298 uM_0 rfl rfl ⟨rfl, rfl⟩ ⟨Nat.le_of_ble_eq_true rfl, Nat.le_of_ble_eq_true rfl⟩ (Nat.le_of_ble_eq_true rfl) dX9_cheap_20 rfl (fun z6 => ?_)
      refine p_iconst (v := (-1 : Int32)) kiconst_m1 dX9_cheap_23 rfl ?_
      refine p_jn (fun j10 => ∀ (x7 : Int32) (x8 : Int32) (h9 : qH), PW UM ROM l R9_cheap cX9_cheap 6 (some .int) RX9 (qEw h0) 79 [some (.ref 0), some (.int p1), some (.int x7), some (.int x8), some (.int x3), none] [] h9 (j10 x7 x8 h9)) (fun x7 x8 h9 => ?_) (fun j10 J11 => ?_)
      · refine p_iiN (v := (1 : Int32)) (lf := fun x12 => [some (.ref 0), some (.int p1), some (.int x7), some (.int x8), some (.int x12), none]) kiconst_1 dX9_cheap_79 rfl rfl rfl rfl (fun _ => rfl) (fun x12 => ?_)
        refine p_goto (tgt := 7) dX9_cheap_82 (by decide) ?_
        exact ih x7 x8 x12 h9
      · refine p_if (fun c13 => ?_) (fun c13 => ?_)
        · refine p_icmp_ne_f (tgt := 79) dX9_cheap_24 (by decide) rfl c13 ?_
          refine p_aload_n rfl dX9_cheap_27 rfl ?_
          refine p_callVv (f := f9_putAside) (st := []) [] qRokM (m9_putAside l) cal_RX9_385 uM_0 rfl rfl ⟨rfl, rfl⟩ ⟨Nat.le_of_ble_eq_true rfl, Nat.le_of_ble_eq_true rfl⟩ (Nat.le_of_ble_eq_true rfl) dX9_cheap_28 rfl (fun h14 => ?_)
          refine p_aload_n rfl dX9_cheap_31 rfl ?_
          refine p_iload rfl dX9_cheap_32 rfl ?_
          refine p_iload_n rfl dX9_cheap_34 rfl ?_
          refine p_cVw (f := f9_writesNow x3 p1) (st := []) [.int x3, .int p1] qRokM (m9_writesNow l x3 p1) cal_RX9_310 uM_0 rfl rfl ⟨rfl, rfl⟩ ⟨Nat.le_of_ble_eq_true rfl, Nat.le_of_ble_eq_true rfl⟩ (Nat.le_of_ble_eq_true rfl) dX9_cheap_35 rfl (fun z15 h16 => ?_)
          refine p_pop rfl dX9_cheap_38 rfl ?_
          refine p_aload_n rfl dX9_cheap_39 rfl ?_
          refine p_getr qg_RX9_34 uM_0 rfl dX9_cheap_40 rfl ?_
          refine p_sipush (v := (170 : Int32)) ksipush_170 dX9_cheap_43 rfl ?_
          refine p_ialdK uM_9 kix_170 kqin_170_353 dX9_cheap_46 rfl ?_
          refine p_aload_n rfl dX9_cheap_47 rfl ?_
          refine p_getr qg_RX9_49 uM_0 rfl dX9_cheap_48 rfl ?_
          refine p_sipush (v := (170 : Int32)) ksipush_170 dX9_cheap_51 rfl ?_
          refine p_ialdK uM_14 kix_170 kqin_170_172 dX9_cheap_54 rfl ?_
          refine p_isub dX9_cheap_55 rfl ?_
          refine p_isN (lf := fun x17 => [some (.ref 0), some (.int p1), some (.int x1), some (.int x2), some (.int x3), some (.int x17)]) dX9_cheap_56 rfl rfl rfl (fun _ => rfl) (fun x17 => ?_)
          refine p_aload_n rfl dX9_cheap_58 rfl ?_
          refine p_callVv (f := f9_bringBack) (st := []) [] qRokM (m9_bringBack l) cal_RX9_400 uM_0 rfl rfl ⟨rfl, rfl⟩ ⟨Nat.le_of_ble_eq_true rfl, Nat.le_of_ble_eq_true rfl⟩ (Nat.le_of_ble_eq_true rfl) dX9_cheap_59 rfl (fun h18 => ?_)
          refine p_iload_n rfl dX9_cheap_62 rfl ?_
          refine p_iconst (v := (-1 : Int32)) kiconst_m1 dX9_cheap_63 rfl ?_
          refine p_if (fun c19 => ?_) (fun c19 => ?_)
          · refine p_icmp_eq_t (tgt := 73) dX9_cheap_64 (by decide) c19 ?_
            refine p_iload rfl dX9_cheap_73 rfl ?_
            refine p_is_n (ls' := [some (.ref 0), some (.int p1), some (.int x3), some (.int x2), some (.int x3), some (.int x17)]) dX9_cheap_75 rfl rfl rfl rfl ?_
            refine p_iload rfl dX9_cheap_76 rfl ?_
            refine p_is_n (ls' := [some (.ref 0), some (.int p1), some (.int x3), some (.int x17), some (.int x3), some (.int x17)]) dX9_cheap_78 rfl rfl rfl rfl ?_
            exact p_wk (ls' := [some (.ref 0), some (.int p1), some (.int x3), some (.int x17), some (.int x3), none]) ⟨rfl, rfl, rfl, rfl, rfl, trivial⟩ (J11 x3 x17 h18)
          · refine p_icmp_eq_f (tgt := 73) dX9_cheap_64 (by decide) rfl c19 ?_
            refine p_iload rfl dX9_cheap_67 rfl ?_
            refine p_iload_n rfl dX9_cheap_69 rfl ?_
            refine p_if (fun c20 => ?_) (fun c20 => ?_)
            · refine p_icmp_ge_t (tgt := 79) dX9_cheap_70 (by decide) c20 ?_
              exact p_wk (ls' := [some (.ref 0), some (.int p1), some (.int x1), some (.int x2), some (.int x3), none]) ⟨rfl, rfl, rfl, rfl, rfl, trivial⟩ (J11 x1 x2 h18)
            · refine p_icmp_ge_f (tgt := 79) dX9_cheap_70 (by decide) rfl c20 ?_
              refine p_iload rfl dX9_cheap_73 rfl ?_
              refine p_is_n (ls' := [some (.ref 0), some (.int p1), some (.int x3), some (.int x2), some (.int x3), some (.int x17)]) dX9_cheap_75 rfl rfl rfl rfl ?_
              refine p_iload rfl dX9_cheap_76 rfl ?_
              refine p_is_n (ls' := [some (.ref 0), some (.int p1), some (.int x3), some (.int x17), some (.int x3), some (.int x17)]) dX9_cheap_78 rfl rfl rfl rfl ?_
              exact p_wk (ls' := [some (.ref 0), some (.int p1), some (.int x3), some (.int x17), some (.int x3), none]) ⟨rfl, rfl, rfl, rfl, rfl, trivial⟩ (J11 x3 x17 h18)
        · refine p_icmp_ne_t (tgt := 79) dX9_cheap_24 (by decide) c13 ?_
          exact J11 x1 x2 h4
noncomputable def f9_cheap (p1 : Int32) (h : qH) : Option (Int32 × qH) :=
  f9_cheap_L7 p1 (fun (x21 : Int32) (x22 : Int32) (x23 : Int32) (h24 : qH) =>
    some (x21, h24)) qN (-1 : Int32) (0 : Int32) (0 : Int32) h
set_option maxRecDepth 100000 in
set_option maxHeartbeats 4000000 in
theorem m9_cheap (l : Launch) (p1 : Int32) : qMet UM ROM l yX9_cheap (qws yX9_cheap cX9_cheap 6 (some .int)) R9_cheap [.ref 0, .int p1] (f9_cheap p1) qEw := by
  refine q_met (own := RX9) 4 (by decide) rfl (Nat.le_of_ble_eq_true rfl) (ls := [some (.ref 0), some (.int p1), none, none, none, none]) rfl fun h => ?_
  unfold f9_cheap
  show PW UM ROM l R9_cheap cX9_cheap 6 (some .int) RX9 (qEw h) 0 [some (.ref 0), some (.int p1), none, none, none, none] [] h _
  refine p_iconst (v := (-1 : Int32)) kiconst_m1 dX9_cheap_0 rfl ?_
  refine p_is_n (ls' := [some (.ref 0), some (.int p1), some (.int (-1 : Int32)), none, none, none]) dX9_cheap_1 rfl rfl rfl rfl ?_
  refine p_iconst (v := (0 : Int32)) kiconst_0 dX9_cheap_2 rfl ?_
  refine p_is_n (ls' := [some (.ref 0), some (.int p1), some (.int (-1 : Int32)), some (.int (0 : Int32)), none, none]) dX9_cheap_3 rfl rfl rfl rfl ?_
  refine p_iconst (v := (0 : Int32)) kiconst_0 dX9_cheap_4 rfl ?_
  refine p_is (ls' := [some (.ref 0), some (.int p1), some (.int (-1 : Int32)), some (.int (0 : Int32)), some (.int (0 : Int32)), none]) dX9_cheap_5 rfl rfl rfl rfl ?_
  refine w9_cheap_L7 l h p1 (fun x21 x22 x23 h24 => ?_) qN _ _ _ _
  refine p_iload_n rfl dX9_cheap_85 rfl ?_
  exact p_iret rfl rfl dX9_cheap_86
noncomputable def f9_idle (p1 : Int32) (h : qH) : Option (Int32) :=
  (f9_isHall h).bind fun (z1 : Int32) =>
  qj (fun (x2 : Int32) =>
    some x2) fun j3 =>
  if z1 = 0 then (
    j3 (-1 : Int32))
  else (
    (f9_in p1 (1 : Int32) (99 : Int32) h).bind fun (z6 : Int32) =>
    if z6 = 0 then (
      j3 (-1 : Int32))
    else (
      (f9_idleOnes ((h.1 9 170) + p1) h).bind fun (z8 : Int32) =>
      j3 z8))
set_option maxRecDepth 100000 in
set_option maxHeartbeats 4000000 in
theorem m9_idle (l : Launch) (p1 : Int32) : qMet UM ROM l yX9_idle (qws yX9_idle cX9_idle 2 (some .int)) R9_idle [.ref 0, .int p1] (f9_idle p1) qEr := by
  refine q_met (own := RX9) 0 (by decide) rfl (Nat.le_of_ble_eq_true rfl) (ls := [some (.ref 0), some (.int p1)]) rfl fun h => ?_
  unfold f9_idle
  refine p_aload_n rfl dX9_idle_0 rfl ?_
  refine p_callVr (f := f9_isHall) (st := []) [] qRokM (m9_isHall l) cal_RX9_156 uM_0 rfl rfl ⟨rfl, rfl⟩ ⟨Nat.le_of_ble_eq_true rfl, Nat.le_of_ble_eq_true rfl⟩ (Nat.le_of_ble_eq_true rfl) dX9_idle_1 rfl (fun z1 => ?_)
  refine p_jn (fun j3 => ∀ (x2 : Int32), PW UM ROM l R9_idle cX9_idle 2 (some .int) RX9 (qEr h) 35 [some (.ref 0), some (.int p1)] [.int x2] h (j3 x2)) (fun x2 => ?_) (fun j3 J4 => ?_)
  · exact p_iret rfl rfl dX9_idle_35
  · refine p_if (fun c5 => ?_) (fun c5 => ?_)
    · refine p_if_eq_t (tgt := 34) dX9_idle_4 (by decide) c5 ?_
      refine p_iconst (v := (-1 : Int32)) kiconst_m1 dX9_idle_34 rfl ?_
      exact J4 (-1 : Int32)
    · refine p_if_eq_f (tgt := 34) dX9_idle_4 (by decide) rfl c5 ?_
      refine p_iload_n rfl dX9_idle_7 rfl ?_
      refine p_iconst (v := (1 : Int32)) kiconst_1 dX9_idle_8 rfl ?_
      refine p_bipush (v := (99 : Int32)) kbipush_99 dX9_idle_9 rfl ?_
      refine p_callSr (f := f9_in p1 (1 : Int32) (99 : Int32)) (st := []) [.int p1, .int (1 : Int32), .int (99 : Int32)] qRokM (m9_in l p1 (1 : Int32) (99 : Int32)) cal_RX9_76 rfl ⟨rfl, rfl⟩ ⟨Nat.le_of_ble_eq_true rfl, Nat.le_of_ble_eq_true rfl⟩ (Nat.le_of_ble_eq_true rfl) dX9_idle_11 rfl (fun z6 => ?_)
      refine p_if (fun c7 => ?_) (fun c7 => ?_)
      · refine p_if_eq_t (tgt := 34) dX9_idle_14 (by decide) c7 ?_
        refine p_iconst (v := (-1 : Int32)) kiconst_m1 dX9_idle_34 rfl ?_
        exact J4 (-1 : Int32)
      · refine p_if_eq_f (tgt := 34) dX9_idle_14 (by decide) rfl c7 ?_
        refine p_aload_n rfl dX9_idle_17 rfl ?_
        refine p_aload_n rfl dX9_idle_18 rfl ?_
        refine p_getr qg_RX9_34 uM_0 rfl dX9_idle_19 rfl ?_
        refine p_sipush (v := (170 : Int32)) ksipush_170 dX9_idle_22 rfl ?_
        refine p_ialdK uM_9 kix_170 kqin_170_353 dX9_idle_25 rfl ?_
        refine p_iload_n rfl dX9_idle_26 rfl ?_
        refine p_iadd dX9_idle_27 rfl ?_
        refine p_callVr (f := f9_idleOnes ((h.1 9 170) + p1)) (st := []) [.int ((h.1 9 170) + p1)] qRokM (m9_idleOnes l ((h.1 9 170) + p1)) cal_RX9_280 uM_0 rfl rfl ⟨rfl, rfl⟩ ⟨Nat.le_of_ble_eq_true rfl, Nat.le_of_ble_eq_true rfl⟩ (Nat.le_of_ble_eq_true rfl) dX9_idle_28 rfl (fun z8 => ?_)
        refine p_goto (tgt := 35) dX9_idle_31 (by decide) ?_
        exact J4 z8
