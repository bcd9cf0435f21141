theorem cal_RX8_174 : qCalV RX8 174 yX7_placeOf cX7_placeOf 2 (some .int) 1 := ⟨⟨qTT_in 1278 (by decide +kernel) rfl, qTT_in 134 (by decide +kernel) rfl, ⟨by decide, by decide, by decide +kernel⟩, Or.inl (qTT_in 1275 (by decide +kernel) rfl)⟩, qTT_in 1276 (by decide +kernel) rfl, qTT_in 1277 (by decide +kernel) rfl⟩
theorem cal_RX8_189 : qCalV RX8 189 yX7_filesOn cX7_filesOn 4 (some .int) 1 := ⟨⟨qTT_in 832 (by decide +kernel) rfl, qTT_in 134 (by decide +kernel) rfl, ⟨by decide, by decide, by decide +kernel⟩, Or.inl (qTT_in 1279 (by decide +kernel) rfl)⟩, qTT_in 830 (by decide +kernel) rfl, qTT_in 831 (by decide +kernel) rfl⟩
theorem cal_RX8_195 : qCalV RX8 195 yX7_askedOn cX7_askedOn 4 (some .int) 1 := ⟨⟨qTT_in 883 (by decide +kernel) rfl, qTT_in 134 (by decide +kernel) rfl, ⟨by decide, by decide, by decide +kernel⟩, Or.inl (qTT_in 1280 (by decide +kernel) rfl)⟩, qTT_in 881 (by decide +kernel) rfl, qTT_in 882 (by decide +kernel) rfl⟩
theorem qg_RX8_168 : qGet RX8 168 7 7 := ⟨RX7, TX7, 18, rfl, by decide, inq7, Or.inr ⟨"SpoolHall", qNT_in 335 (by decide +kernel) rfl⟩⟩
theorem qg_RX8_177 : qGet RX8 177 7 8 := ⟨RX7, TX7, 18, rfl, by decide, inq7, Or.inr ⟨"SpoolHall", qNT_in 338 (by decide +kernel) rfl⟩⟩
theorem qg_RX8_180 : qGet RX8 180 7 9 := ⟨RX7, TX7, 18, rfl, by decide, inq7, Or.inr ⟨"SpoolHall", qNT_in 340 (by decide +kernel) rfl⟩⟩
theorem qg_RX8_183 : qGet RX8 183 7 10 := ⟨RX7, TX7, 18, rfl, by decide, inq7, Or.inr ⟨"SpoolHall", qNT_in 342 (by decide +kernel) rfl⟩⟩
theorem qg_RX8_186 : qGet RX8 186 7 11 := ⟨RX7, TX7, 18, rfl, by decide, inq7, Or.inr ⟨"SpoolHall", qNT_in 344 (by decide +kernel) rfl⟩⟩
theorem qg_RX8_201 : qGet RX8 201 7 12 := ⟨RX7, TX7, 18, rfl, by decide, inq7, Or.inr ⟨"SpoolHall", qNT_in 346 (by decide +kernel) rfl⟩⟩
abbrev R8_tape : Room := { frames := 1, cells := 0, slots := 0, locals := 23 }
noncomputable def f8_tape (p1 p2 : Int32) (h : qH) : Option Int32 :=
  (f4_isTape 6 p1 h).bind fun (z1 : Int32) =>
  if z1 = 0 then (
    none)
  else (
    if p2 < 0 then (
      none)
    else (
      if p2 ≤ (10 : Int32) then (
        qg (qin p1 8) <|
        qlt (if (h.1 52 (ix p1)) = (-1 : Int32) then (0 : Int32) else (1 : Int32)) fun (x6 : Int32) =>
        if p2 = (0 : Int32) then (
          qg (qin p1 8) <|
          some (h.1 8 (ix p1)))
        else (
          if p2 = (1 : Int32) then (
          (f7_placeOf 51 p1 h).bind fun (z9 : Int32) =>
          some z9)
        else (
          if p2 = (2 : Int32) then (
          qj (fun (x11 : Int32) =>
            some x11) fun j12 =>
          if x6 = 0 then (
            j12 (-1 : Int32))
          else (
            qg (qin p1 8) <|
            j12 (h.1 53 (ix p1))))
        else (
          if p2 = (3 : Int32) then (
          qg (qin p1 8) <|
          some (h.1 54 (ix p1)))
        else (
          if p2 = (4 : Int32) then (
          qg (qin p1 8) <|
          some (h.1 55 (ix p1)))
        else (
          if p2 = (5 : Int32) then (
          qg (qin p1 8) <|
          some (h.1 56 (ix p1)))
        else (
          if p2 = (6 : Int32) then (
          (f7_filesOn 51 p1 h).bind fun (z19 : Int32) =>
          some z19)
        else (
          if p2 = (7 : Int32) then (
          (f7_blocksOn 51 p1 h).bind fun (z21 : Int32) =>
          some z21)
        else (
          if p2 = (8 : Int32) then (
          qg (qin p1 8) <|
          (f7_blocksOn 51 p1 h).bind fun (z23 : Int32) =>
          some ((h.1 54 (ix p1)) - z23))
        else (
          if p2 = (9 : Int32) then (
          (f7_askedOn 51 p1 h).bind fun (z25 : Int32) =>
          some z25)
        else (
          qj (fun (x26 : Int32) =>
            some x26) fun j27 =>
          if x6 = 0 then (
            j27 (-1 : Int32))
          else (
            qg (qin p1 8) <|
            j27 ((h.1 51 2) - (h.1 57 (ix p1)))))))))))))))
      else (
        none)))
set_option maxRecDepth 100000 in
set_option maxHeartbeats 4000000 in
theorem m8_tape (l : Launch) (p1 p2 : Int32) : qMet UX ROX l yX8_tape (qws yX8_tape cX8_tape 4 (some .int)) R8_tape [.ref 0, .int p1, .int p2] (f8_tape p1 p2) qEr := by
  refine q_met (own := RX8) 1 (by decide) rfl (Nat.le_of_ble_eq_true rfl) (ls := [some (.ref 0), some (.int p1), some (.int p2), none]) rfl fun h => ?_
  refine p_aload_n rfl dX8_tape_0 rfl ?_
  refine p_getr qg_RX8_28 uX_0 rfl dX8_tape_1 rfl ?_
  refine p_iload_n rfl dX8_tape_4 rfl ?_
  refine p_callVr (f := f4_isTape 6 p1) (st := []) [.int p1] qRokX (m4_isTape l (kPlan_6) p1) cal_RX8_157 uX_6 rfl rfl ⟨rfl, rfl⟩ ⟨Nat.le_of_ble_eq_true rfl, Nat.le_of_ble_eq_true rfl⟩ (Nat.le_of_ble_eq_true rfl) dX8_tape_5 rfl (fun z1 => ?_)
  refine p_if (fun c2 => ?_) (fun c2 => ?_)
  · refine p_if_eq_t (tgt := 21) dX8_tape_8 (by decide) c2 ?_
    exact p_none
  · refine p_if_eq_f (tgt := 21) dX8_tape_8 (by decide) rfl c2 ?_
    refine p_iload_n rfl dX8_tape_11 rfl ?_
    refine p_if (fun c3 => ?_) (fun c3 => ?_)
    · refine p_if_lt_t (tgt := 21) dX8_tape_12 (by decide) c3 ?_
      exact p_none
    · refine p_if_lt_f (tgt := 21) dX8_tape_12 (by decide) rfl c3 ?_
      refine p_iload_n rfl dX8_tape_15 rfl ?_
      refine p_bipush (v := (10 : Int32)) kbipush_10 dX8_tape_16 rfl ?_
      refine p_if (fun c4 => ?_) (fun c4 => ?_)
      · refine p_icmp_le_t (tgt := 31) dX8_tape_18 (by decide) c4 ?_
        refine p_aload_n rfl dX8_tape_31 rfl ?_
        refine p_getr qg_RX8_60 uX_0 rfl dX8_tape_32 rfl ?_
        refine p_getr qg_RX8_168 uX_51 rfl dX8_tape_35 rfl ?_
        refine p_iload_n rfl dX8_tape_38 rfl ?_
        refine p_iald uX_52 dX8_tape_39 rfl (fun _ => ?_)
        refine p_iconst (v := (-1 : Int32)) kiconst_m1 dX8_tape_40 rfl ?_
        refine p_vj 49 [some (.ref 0), some (.int p1), some (.int p2), none] [] (fun x6 => ?_) (fun J => ?_)
        · refine p_is_n (ls' := [some (.ref 0), some (.int p1), some (.int p2), some (.int x6)]) dX8_tape_49 rfl rfl rfl rfl ?_
          refine p_iload_n rfl dX8_tape_50 rfl ?_
          refine p_if (fun c7 => ?_) (fun c7 => ?_)
          · refine p_swI (v := (0 : Int32)) (tgt := 104) dX8_tape_51 c7 (by decide) (by decide) rfl (by decide) ?_
            refine p_aload_n rfl dX8_tape_104 rfl ?_
            refine p_getr qg_RX8_28 uX_0 rfl dX8_tape_105 rfl ?_
            refine p_getr qg_RX8_171 uX_6 rfl dX8_tape_108 rfl ?_
            refine p_iload_n rfl dX8_tape_111 rfl ?_
            refine p_iald uX_8 dX8_tape_112 rfl (fun _ => ?_)
            exact p_iret rfl rfl dX8_tape_113
          · refine p_if (fun c8 => ?_) (fun c8 => ?_)
            · refine p_swI (v := (1 : Int32)) (tgt := 114) dX8_tape_51 c8 (by decide) (by decide) rfl (by decide) ?_
              refine p_aload_n rfl dX8_tape_114 rfl ?_
              refine p_getr qg_RX8_60 uX_0 rfl dX8_tape_115 rfl ?_
              refine p_iload_n rfl dX8_tape_118 rfl ?_
              refine p_callVr (f := f7_placeOf 51 p1) (st := []) [.int p1] qRokX (m7_placeOf l (kStage_51) p1) cal_RX8_174 uX_51 rfl rfl ⟨rfl, rfl⟩ ⟨Nat.le_of_ble_eq_true rfl, Nat.le_of_ble_eq_true rfl⟩ (Nat.le_of_ble_eq_true rfl) dX8_tape_119 rfl (fun z9 => ?_)
              exact p_iret rfl rfl dX8_tape_122
            · refine p_if (fun c10 => ?_) (fun c10 => ?_)
              · refine p_swI (v := (2 : Int32)) (tgt := 123) dX8_tape_51 c10 (by decide) (by decide) rfl (by decide) ?_
                refine p_iload_n rfl dX8_tape_123 rfl ?_
                refine p_jn (fun j12 => ∀ (x11 : Int32), PW UX ROX l R8_tape cX8_tape 4 (some .int) RX8 (qEr h) 140 [some (.ref 0), some (.int p1), some (.int p2), some (.int x6)] [.int x11] h (j12 x11)) (fun x11 => ?_) (fun j12 J13 => ?_)
                · exact p_iret rfl rfl dX8_tape_140
                · refine p_if (fun c14 => ?_) (fun c14 => ?_)
                  · refine p_if_eq_t (tgt := 139) dX8_tape_124 (by decide) c14 ?_
                    refine p_iconst (v := (-1 : Int32)) kiconst_m1 dX8_tape_139 rfl ?_
                    exact J13 (-1 : Int32)
                  · refine p_if_eq_f (tgt := 139) dX8_tape_124 (by decide) rfl c14 ?_
                    refine p_aload_n rfl dX8_tape_127 rfl ?_
                    refine p_getr qg_RX8_60 uX_0 rfl dX8_tape_128 rfl ?_
                    refine p_getr qg_RX8_177 uX_51 rfl dX8_tape_131 rfl ?_
                    refine p_iload_n rfl dX8_tape_134 rfl ?_
                    refine p_iald uX_53 dX8_tape_135 rfl (fun _ => ?_)
                    refine p_goto (tgt := 140) dX8_tape_136 (by decide) ?_
                    exact J13 (h.1 53 (ix p1))
              · refine p_if (fun c15 => ?_) (fun c15 => ?_)
                · refine p_swI (v := (3 : Int32)) (tgt := 141) dX8_tape_51 c15 (by decide) (by decide) rfl (by decide) ?_
                  refine p_aload_n rfl dX8_tape_141 rfl ?_
                  refine p_getr qg_RX8_60 uX_0 rfl dX8_tape_142 rfl ?_
                  refine p_getr qg_RX8_180 uX_51 rfl dX8_tape_145 rfl ?_
                  refine p_iload_n rfl dX8_tape_148 rfl ?_
                  refine p_iald uX_54 dX8_tape_149 rfl (fun _ => ?_)
                  exact p_iret rfl rfl dX8_tape_150
                · refine p_if (fun c16 => ?_) (fun c16 => ?_)
                  · refine p_swI (v := (4 : Int32)) (tgt := 151) dX8_tape_51 c16 (by decide) (by decide) rfl (by decide) ?_
                    refine p_aload_n rfl dX8_tape_151 rfl ?_
                    refine p_getr qg_RX8_60 uX_0 rfl dX8_tape_152 rfl ?_
                    refine p_getr qg_RX8_183 uX_51 rfl dX8_tape_155 rfl ?_
                    refine p_iload_n rfl dX8_tape_158 rfl ?_
                    refine p_iald uX_55 dX8_tape_159 rfl (fun _ => ?_)
                    exact p_iret rfl rfl dX8_tape_160
                  · refine p_if (fun c17 => ?_) (fun c17 => ?_)
                    · refine p_swI (v := (5 : Int32)) (tgt := 161) dX8_tape_51 c17 (by decide) (by decide) rfl (by decide) ?_
                      refine p_aload_n rfl dX8_tape_161 rfl ?_
                      refine p_getr qg_RX8_60 uX_0 rfl dX8_tape_162 rfl ?_
                      refine p_getr qg_RX8_186 uX_51 rfl dX8_tape_165 rfl ?_
                      refine p_iload_n rfl dX8_tape_168 rfl ?_
                      refine p_iald uX_56 dX8_tape_169 rfl (fun _ => ?_)
                      exact p_iret rfl rfl dX8_tape_170
                    · refine p_if (fun c18 => ?_) (fun c18 => ?_)
                      · refine p_swI (v := (6 : Int32)) (tgt := 171) dX8_tape_51 c18 (by decide) (by decide) rfl (by decide) ?_
                        refine p_aload_n rfl dX8_tape_171 rfl ?_
                        refine p_getr qg_RX8_60 uX_0 rfl dX8_tape_172 rfl ?_
                        refine p_iload_n rfl dX8_tape_175 rfl ?_
                        refine p_callVr (f := f7_filesOn 51 p1) (st := []) [.int p1] qRokX (m7_filesOn l (kStage_51) p1) cal_RX8_189 uX_51 rfl rfl ⟨rfl, rfl⟩ ⟨Nat.le_of_ble_eq_true rfl, Nat.le_of_ble_eq_true rfl⟩ (Nat.le_of_ble_eq_true rfl) dX8_tape_176 rfl (fun z19 => ?_)
                        exact p_iret rfl rfl dX8_tape_179
                      · refine p_if (fun c20 => ?_) (fun c20 => ?_)
                        · refine p_swI (v := (7 : Int32)) (tgt := 180) dX8_tape_51 c20 (by decide) (by decide) rfl (by decide) ?_
                          refine p_aload_n rfl dX8_tape_180 rfl ?_
                          refine p_getr qg_RX8_60 uX_0 rfl dX8_tape_181 rfl ?_
                          refine p_iload_n rfl dX8_tape_184 rfl ?_
                          refine p_callVr (f := f7_blocksOn 51 p1) (st := []) [.int p1] qRokX (m7_blocksOn l (kStage_51) p1) cal_RX8_192 uX_51 rfl rfl ⟨rfl, rfl⟩ ⟨Nat.le_of_ble_eq_true rfl, Nat.le_of_ble_eq_true rfl⟩ (Nat.le_of_ble_eq_true rfl) dX8_tape_185 rfl (fun z21 => ?_)
                          exact p_iret rfl rfl dX8_tape_188
                        · refine p_if (fun c22 => ?_) (fun c22 => ?_)
                          · refine p_swI (v := (8 : Int32)) (tgt := 189) dX8_tape_51 c22 (by decide) (by decide) rfl (by decide) ?_
                            refine p_aload_n rfl dX8_tape_189 rfl ?_
                            refine p_getr qg_RX8_60 uX_0 rfl dX8_tape_190 rfl ?_
                            refine p_getr qg_RX8_180 uX_51 rfl dX8_tape_193 rfl ?_
                            refine p_iload_n rfl dX8_tape_196 rfl ?_
                            refine p_iald uX_54 dX8_tape_197 rfl (fun _ => ?_)
                            refine p_aload_n rfl dX8_tape_198 rfl ?_
                            refine p_getr qg_RX8_60 uX_0 rfl dX8_tape_199 rfl ?_
                            refine p_iload_n rfl dX8_tape_202 rfl ?_
                            refine p_callVr (f := f7_blocksOn 51 p1) (st := [.int (h.1 54 (ix p1))]) [.int p1] qRokX (m7_blocksOn l (kStage_51) p1) cal_RX8_192 uX_51 rfl rfl ⟨rfl, rfl⟩ ⟨Nat.le_of_ble_eq_true rfl, Nat.le_of_ble_eq_true rfl⟩ (Nat.le_of_ble_eq_true rfl) dX8_tape_203 rfl (fun z23 => ?_)
                            refine p_isub dX8_tape_206 rfl ?_
                            exact p_iret rfl rfl dX8_tape_207
                          · refine p_if (fun c24 => ?_) (fun c24 => ?_)
                            · refine p_swI (v := (9 : Int32)) (tgt := 208) dX8_tape_51 c24 (by decide) (by decide) rfl (by decide) ?_
                              refine p_aload_n rfl dX8_tape_208 rfl ?_
                              refine p_getr qg_RX8_60 uX_0 rfl dX8_tape_209 rfl ?_
                              refine p_iload_n rfl dX8_tape_212 rfl ?_
                              refine p_callVr (f := f7_askedOn 51 p1) (st := []) [.int p1] qRokX (m7_askedOn l (kStage_51) p1) cal_RX8_195 uX_51 rfl rfl ⟨rfl, rfl⟩ ⟨Nat.le_of_ble_eq_true rfl, Nat.le_of_ble_eq_true rfl⟩ (Nat.le_of_ble_eq_true rfl) dX8_tape_213 rfl (fun z25 => ?_)
                              exact p_iret rfl rfl dX8_tape_216
                            · refine p_swO (tgt := 217) dX8_tape_51 (by
                                  have c7' := lv_neT c7 (a := 0) (by decide)
                                  have c8' := lv_neT c8 (a := 1) (by decide)
                                  have c10' := lv_neT c10 (a := 2) (by decide)
                                  have c15' := lv_neT c15 (a := 3) (by decide)
                                  have c16' := lv_neT c16 (a := 4) (by decide)
                                  have c17' := lv_neT c17 (a := 5) (by decide)
                                  have c18' := lv_neT c18 (a := 6) (by decide)
                                  have c20' := lv_neT c20 (a := 7) (by decide)
                                  have c22' := lv_neT c22 (a := 8) (by decide)
                                  have c24' := lv_neT c24 (a := 9) (by decide)
                                  omega) (by decide) ?_
                              refine p_iload_n rfl dX8_tape_217 rfl ?_
                              refine p_jn (fun j27 => ∀ (x26 : Int32), PW UX ROX l R8_tape cX8_tape 4 (some .int) RX8 (qEr h) 242 [some (.ref 0), some (.int p1), some (.int p2), some (.int x6)] [.int x26] h (j27 x26)) (fun x26 => ?_) (fun j27 J28 => ?_)
                              · exact p_iret rfl rfl dX8_tape_242
                              · refine p_if (fun c29 => ?_) (fun c29 => ?_)
                                · refine p_if_eq_t (tgt := 241) dX8_tape_218 (by decide) c29 ?_
                                  refine p_iconst (v := (-1 : Int32)) kiconst_m1 dX8_tape_241 rfl ?_
                                  exact J28 (-1 : Int32)
                                · refine p_if_eq_f (tgt := 241) dX8_tape_218 (by decide) rfl c29 ?_
                                  refine p_aload_n rfl dX8_tape_221 rfl ?_
                                  refine p_getr qg_RX8_60 uX_0 rfl dX8_tape_222 rfl ?_
                                  refine p_geti qg_RX8_198 uX_51 rfl dX8_tape_225 rfl ?_
                                  refine p_aload_n rfl dX8_tape_228 rfl ?_
                                  refine p_getr qg_RX8_60 uX_0 rfl dX8_tape_229 rfl ?_
                                  refine p_getr qg_RX8_201 uX_51 rfl dX8_tape_232 rfl ?_
                                  refine p_iload_n rfl dX8_tape_235 rfl ?_
                                  refine p_iald uX_57 dX8_tape_236 rfl (fun _ => ?_)
                                  refine p_isub dX8_tape_237 rfl ?_
                                  refine p_goto (tgt := 242) dX8_tape_238 (by decide) ?_
                                  exact J28 ((h.1 51 2) - (h.1 57 (ix p1)))
        · refine p_dia (fun c5 => ?_) (fun c5 => ?_)
          · refine p_icmp_eq_t (tgt := 48) dX8_tape_41 (by decide) c5 ?_
            refine p_iconst (v := (0 : Int32)) kiconst_0 dX8_tape_48 rfl ?_
            exact J _
          · refine p_icmp_eq_f (tgt := 48) dX8_tape_41 (by decide) rfl c5 ?_
            refine p_iconst (v := (1 : Int32)) kiconst_1 dX8_tape_44 rfl ?_
            refine p_goto (tgt := 49) dX8_tape_45 (by decide) ?_
            exact J _
      · refine p_icmp_le_f (tgt := 31) dX8_tape_18 (by decide) rfl c4 ?_
        exact p_none
