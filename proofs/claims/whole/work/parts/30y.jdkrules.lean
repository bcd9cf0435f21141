/-! ===== texts: String's own methods over what is only read ===== -/
def kStr (p : Nat) : Prop := p = 210 ∨ p = 211 ∨ p = 212
theorem kStr_210 : kStr 210 := Or.inl rfl
theorem kStr_211 : kStr 211 := Or.inr (Or.inl rfl)
theorem kStr_212 : kStr 212 := Or.inr (Or.inr rfl)
def slen (p : Nat) : Nat := [3, 12, 11].getD (p - 210) 0
def sby (p j : Nat) : Int32 := (skB.getD (p - 210) []).getD j 0
theorem kStr.ex {p : Nat} (h : kStr p) : ∃ i, i < 3 ∧ p = 210 + i := by
  rcases h with rfl | rfl | rfl
  · exact ⟨0, by omega, rfl⟩
  · exact ⟨1, by omega, rfl⟩
  · exact ⟨2, by omega, rfl⟩
section QS
variable {ρ : Type} {l : Launch} {R : Room} {cc : ByteArray} {nL : Nat} {ret : Option FieldType} {own : String} {E : ρ → Option Value × qH} {pc pc' : Nat} {ls : List (Option Value)} {st : List Value} {h : qH} {r : Option ρ}
theorem p_i2b {x : Int32} (hd : decode cc pc = .ok (.i2b, 1)) (hp : pc + 1 = pc') (k : PW UX ROX l R cc nL ret own E pc' ls (.int x.toInt8.toInt32 :: st) h r) : PW UX ROX l R cc nL ret own E pc ls (.int x :: st) h r := by
  subst hp
  exact PW.go k fun p e s m args below meth c H locs cells slots Q ad la hC hL w => lv_i2b hC.1 hC.2.1 hd rfl w
theorem p_i2c {x : Int32} (hd : decode cc pc = .ok (.i2c, 1)) (hp : pc + 1 = pc') (k : PW UX ROX l R cc nL ret own E pc' ls (.int (x.toUInt32 % 65536).toInt32 :: st) h r) : PW UX ROX l R cc nL ret own E pc ls (.int x :: st) h r := by
  subst hp
  exact PW.go k fun p e s m args below meth c H locs cells slots Q ad la hC hL w => lv_i2c hC.1 hC.2.1 hd rfl w
theorem p_bretG {v : Int32} {z : ρ} (hr : ret = some .byte) (hz : E z = (some (.int v), h)) (hd : decode cc pc = .ok (.ireturn, 1)) : PW UX ROX l R cc nL ret own E pc ls [.int v] h (qg (qbo v) (some z)) := by
  intro z' hz' p e s m args below meth c D cs ad A H locs cells slots la hC hW hL
  obtain ⟨h1, h2⟩ := qg_some hz'
  cases h2
  rw [hz]
  have hlocks : meth.locks = false := hC.2.2.2.2.2.2.2
  have hv : narrow .byte (.int v) = .int v := by
    simp only [qbo, Bool.or_eq_true, decide_eq_true_eq] at h1
    rcases h1 with rfl | rfl <;> decide
  exact W.zret (v := v) (ty := .byte) hC.1 hC.2.1 (by rw [hC.2.2.2.1, hr]) hv (fun t ht hw => qend hW t ht hw) hW.2.2.2.1.2.2 hd
theorem p_cmpct {idx : Nat} (hlk : Cond.fieldLink own idx "java/lang/String" "COMPACT_STRINGS" "Z" ∈ qTT) (hd : decode cc pc = .ok (.getstatic idx, 3)) (hp : pc + 3 = pc') (k : PW UX ROX l R cc nL ret own E pc' ls (.int 1 :: st) h r) : PW UX ROX l R cc nL ret own E pc ls st h r := by
  subst hp
  intro z hz p e s m args below meth c D cs ad A H locs cells slots la hC hW hL
  exact va_gets hC.1 hC.2.1 hW.2.2.2.2.2.1.2.2.2 hW.2.2.2.1 hC.2.2.2.2.1 (hC.2.2.2.2.2.1 _ hlk) (fun _ h9 => h9) hd (k z hz p e s m args below meth c D cs ad A H locs cells slots la hC hW hL)
theorem p_strC {p0 idx : Nat} (hp0 : kStr p0) (hlk : Cond.fieldLink own idx "java/lang/String" "coder" "B" ∈ qTT) (hd : decode cc pc = .ok (.getfield idx, 3)) (hp : pc + 3 = pc') (k : PW UX ROX l R cc nL ret own E pc' ls (.int 0 :: st) h r) : PW UX ROX l R cc nL ret own E pc ls (.ref p0 :: st) h r := by
  subst hp
  intro z hz p e s m args below meth c D cs ad A H locs cells slots la hC hW hL
  obtain ⟨i, hi, rfl⟩ := hp0.ex
  obtain ⟨cf, k0, fi, f, cell, h1, h2, h3, h4, h5, h6⟩ := ((hW.2.2.2.2.2.1.2.2.1.1 i hi).2.1).kept hW.2.2.2.1.2.1
  exact W.getf hC.1 hC.2.1 hC.2.2.2.2.1 (hC.2.2.2.2.2.1 _ hlk) h1 h2 h3 h4 (v := .int 0) h5 rfl rfl hd (k z hz p e s m args below meth c D cs ad A H locs cells slots la hC hW hL)
theorem p_strF {p0 idx : Nat} (hp0 : kStr p0) (hlk : Cond.fieldLink own idx "java/lang/String" "value" "[B" ∈ qTT) (hd : decode cc pc = .ok (.getfield idx, 3)) (hp : pc + 3 = pc') (k : PW UX ROX l R cc nL ret own E pc' ls (.ref (p0 + 10) :: st) h r) : PW UX ROX l R cc nL ret own E pc ls (.ref p0 :: st) h r := by
  subst hp
  intro z hz p e s m args below meth c D cs ad A H locs cells slots la hC hW hL
  obtain ⟨i, hi, rfl⟩ := hp0.ex
  obtain ⟨cf, k0, fi, f, cell, h1, h2, h3, h4, h5, h6⟩ := ((hW.2.2.2.2.2.1.2.2.1.1 i hi).2.2.1).kept hW.2.2.2.1.2.1
  have w := k z hz p e s m args below meth c D cs ad A H locs cells slots la hC hW hL
  rw [show 210 + i + 10 = 220 + i by omega] at w
  exact W.getf hC.1 hC.2.1 hC.2.2.2.2.1 (hC.2.2.2.2.2.1 _ hlk) h1 h2 h3 h4 (v := .ref (ad (220 + i))) h5 rfl rfl hd w
theorem slen_at (i : Nat) : slen (210 + i) = [3, 12, 11].getD i 0 := by
  show [3, 12, 11].getD (210 + i - 210) 0 = _
  rw [show 210 + i - 210 = i by omega]
theorem sby_at (i j : Nat) : sby (210 + i) j = (skB.getD i []).getD j 0 := by
  show (skB.getD (210 + i - 210) []).getD j 0 = _
  rw [show 210 + i - 210 = i by omega]
theorem p_sbald {p0 : Nat} {i0 : Int32} (hp0 : kStr p0) (hd : decode cc pc = .ok (.baload, 1)) (hp : pc + 1 = pc') (k : qin i0 (slen p0) = true → PW UX ROX l R cc nL ret own E pc' ls (.int (sby p0 (ix i0)) :: st) h r) : PW UX ROX l R cc nL ret own E pc ls (.int i0 :: .ref (p0 + 10) :: st) h (qg (qin i0 (slen p0)) r) := by
  subst hp
  intro z hz p e s m args below meth c D cs ad A H locs cells slots la hC hW hL
  obtain ⟨g1, g2⟩ := qg_some hz
  obtain ⟨i, hi, rfl⟩ := hp0.ex
  have hT := (hW.2.2.2.2.2.1.2.2.1.1 i hi).2.2.2
  have w := k g1 z g2 p e s m args below meth c D cs ad A H locs cells slots la hC hW hL
  have hin := qin_vp g1
  rw [slen_at] at hin
  rw [sby_at] at w
  show W p l e R s m args below meth c H locs cells slots _ (F0 m pc la (.int i0 :: .ref (ad (210 + i + 10)) :: st.map (qv ad)))
  rw [show 210 + i + 10 = 220 + i by omega]
  exact va_tb hC.1 hC.2.1 hT hW.2.2.2.1 hin rfl hd w
theorem p_slen {p0 : Nat} (hp0 : kStr p0) (hd : decode cc pc = .ok (.arraylength, 1)) (hp : pc + 1 = pc') (k : PW UX ROX l R cc nL ret own E pc' ls (.int (nI (slen p0)) :: st) h r) : PW UX ROX l R cc nL ret own E pc ls (.ref (p0 + 10) :: st) h r := by
  subst hp
  intro z hz p e s m args below meth c D cs ad A H locs cells slots la hC hW hL
  obtain ⟨i, hi, rfl⟩ := hp0.ex
  have hT := (hW.2.2.2.2.2.1.2.2.1.1 i hi).2.2.2
  have w := k z hz p e s m args below meth c D cs ad A H locs cells slots la hC hW hL
  rw [slen_at] at w
  show W p l e R s m args below meth c H locs cells slots _ (F0 m pc la (.ref (ad (210 + i + 10)) :: st.map (qv ad)))
  rw [show 210 + i + 10 = 220 + i by omega]
  exact va_tlen hC.1 hC.2.1 hT hW.2.2.2.1 rfl hd w
theorem p_callVO {f : qH → Option Int32} {kk : Int32 → Option ρ} {y : MethodName} {cy : ByteArray} {nLy n idx b : Nat} {ry : Option FieldType} {rm : Room} (as : List Value) (hb0 : kStr b) (hm : qMet UX ROX l y (qws y cy nLy ry) rm (.ref b :: as) f qEr) (hc : qCalV own idx y cy nLy ry n) (hyc : y.cls = "java/lang/String") (hn : as.length = n) (hrm : rm.cells = 0 ∧ rm.slots = 0) (hR : rm.frames + 1 ≤ R.frames ∧ 8 + (nLy + 11) + rm.locals ≤ R.locals) (hcat : (st.map fun v => v.category).sum ≤ 8) (hd : decode cc pc = .ok (.invokevirtual idx, 3)) (hp : pc + 3 = pc')
    (k : ∀ z : Int32, PW UX ROX l R cc nL ret own E pc' ls (.int z :: st) h (kk z)) : PW UX ROX l R cc nL ret own E pc ls (as.reverse ++ .ref b :: st) h ((f h).bind kk) := by
  refine p_callX (E' := qEr h) hp (fun z' hz' p e s m args below meth c D cs ad A H locs cells slots la hC hW hL => ?_) k
  obtain ⟨⟨h1, h2, h3, h4⟩, h5, h6⟩ := hc
  have hts := hC.2.2.2.2.2.1
  have hM := hm D cs ad h z' H.size hz'
  obtain ⟨i, hi, rfl⟩ := hb0.ex
  have hrecv : ∃ cell : Cell, H[ad (210 + i)]? = some cell ∧ cell.vm.isStatics = false ∧ s.vm.findClass y.cls = some cell.cls := by
    rw [hyc]
    exact va_Orecv ((hW.2.2.2.2.2.1.2.2.1.1 i hi).1) hW.2.2.2.1
  have hpre : PreV s H y.cls (ad (210 + i)) (va_Pc ((Value.ref (210 + i) :: as).map (qv ad)) (qPre UX ROX D cs ad h H.size)) (as.map (qv ad)) := ⟨qPre_blind qRokX, hrecv, fun S hS hw => ⟨rfl, qPre_of qRokX hC.2.2.2.2.2.2.1 hW S hS hw⟩⟩
  have hstk : (F0 m pc la ((as.reverse ++ .ref (210 + i) :: st).map (qv ad))).stack = (as.map (qv ad)).reverse ++ .ref (ad (210 + i)) :: st.map (qv ad) := by
    show (as.reverse ++ .ref (210 + i) :: st).map (qv ad) = _
    simp [qv]
  have hroom : 2 * (F0 m pc la ((as.reverse ++ .ref (210 + i) :: st).map (qv ad))).monitorRoom + ((st.map (qv ad)).map fun v => v.category).sum ≤ 8 := by
    show 2 * 0 + _ ≤ 8
    rw [qv_cats]
    omega
  have hfit : cells + 0 ≤ R.cells ∧ slots + 0 ≤ R.slots := ⟨hW.2.2.2.2.2.2.1, hW.2.2.2.2.2.2.2⟩
  rcases h4 with h4 | ⟨host, h4⟩
  · exact ⟨_, va_runV (n := n) ⟨hC.1, hC.2.1, hC.2.2.1, hC.2.2.2.2.1, hts⟩ hM ⟨callB_of n hts (qws_good h1) rfl hrm.1 hrm.2 (hts _ h2) (hts _ h4) h3 hR, hts _ h5, hts _ h6⟩ hpre rfl (by simpa using hn) hL.1 hstk hroom hd hfit⟩
  · exact ⟨_, va_runVN (n := n) ⟨hC.1, hC.2.1, hC.2.2.1, hC.2.2.2.2.1, hts⟩ hM ⟨va_cnB n hts (qws_good h1) rfl hrm.1 hrm.2 (hC.2.2.2.2.2.2.1 _ h4) (hts _ h2) h3 hR, hts _ h5, hts _ h6⟩ hpre rfl (by simpa using hn) hL.1 hstk hroom hd hfit⟩
end QS
theorem qmax_RJ1_92 : qMax RJ1 92 := ⟨qTT_in 569 (by decide +kernel) rfl, qTT_in 570 (by decide +kernel) rfl, qTT_in 141 (by decide +kernel) rfl, qTT_in 571 (by decide +kernel) rfl⟩
theorem qmin_RJ1_38 : qMin RJ1 38 := ⟨qTT_in 572 (by decide +kernel) rfl, qTT_in 573 (by decide +kernel) rfl, qTT_in 141 (by decide +kernel) rfl, qTT_in 574 (by decide +kernel) rfl⟩
theorem sf_RJ0_15 : Cond.fieldLink RJ0 15 "java/lang/String" "coder" "B" ∈ qTT := qTT_in 1965 (by decide +kernel) rfl
theorem sf_RJ0_38 : Cond.fieldLink RJ0 38 "java/lang/String" "COMPACT_STRINGS" "Z" ∈ qTT := qTT_in 553 (by decide +kernel) rfl
theorem sf_RJ0_9 : Cond.fieldLink RJ0 9 "java/lang/String" "value" "[B" ∈ qTT := qTT_in 1966 (by decide +kernel) rfl
theorem cal_RX5_135 : qCalV RX5 135 yJ0_indexOf_0f7a4 cJ0_indexOf_0f7a4 2 (some .int) 1 := ⟨⟨qTT_in 544 (by decide +kernel) rfl, qTT_in 139 (by decide +kernel) rfl, ⟨by decide, by decide, by decide +kernel⟩, Or.inl (qTT_in 541 (by decide +kernel) rfl)⟩, qTT_in 542 (by decide +kernel) rfl, qTT_in 543 (by decide +kernel) rfl⟩
theorem cal_RJ0_335 : qCalV RJ0 335 yJ0_coder_7d493 cJ0_coder_7d493 1 (some .byte) 0 := ⟨⟨qTT_in 562 (by decide +kernel) rfl, qTT_in 139 (by decide +kernel) rfl, ⟨by decide, by decide, by decide +kernel⟩, Or.inl (qTT_in 559 (by decide +kernel) rfl)⟩, qTT_in 560 (by decide +kernel) rfl, qTT_in 561 (by decide +kernel) rfl⟩
theorem cal_RJ0_492 : qCalV RJ0 492 yJ0_isLatin1_aae02 cJ0_isLatin1_aae02 1 (some .boolean) 0 := ⟨⟨qTT_in 552 (by decide +kernel) rfl, qTT_in 139 (by decide +kernel) rfl, ⟨by decide, by decide, by decide +kernel⟩, Or.inl (qTT_in 549 (by decide +kernel) rfl)⟩, qTT_in 550 (by decide +kernel) rfl, qTT_in 551 (by decide +kernel) rfl⟩
theorem cal_RJ0_505 : qCalV RJ0 505 yJ0_length_8abf5 cJ0_length_8abf5 1 (some .int) 0 := ⟨⟨qTT_in 558 (by decide +kernel) rfl, qTT_in 139 (by decide +kernel) rfl, ⟨by decide, by decide, by decide +kernel⟩, Or.inl (qTT_in 555 (by decide +kernel) rfl)⟩, qTT_in 556 (by decide +kernel) rfl, qTT_in 557 (by decide +kernel) rfl⟩
theorem cal_RJ0_633 : qCalV RJ0 633 yJ0_indexOf_7cf53 cJ0_indexOf_7cf53 3 (some .int) 2 := ⟨⟨qTT_in 548 (by decide +kernel) rfl, qTT_in 139 (by decide +kernel) rfl, ⟨by decide, by decide, by decide +kernel⟩, Or.inl (qTT_in 545 (by decide +kernel) rfl)⟩, qTT_in 546 (by decide +kernel) rfl, qTT_in 547 (by decide +kernel) rfl⟩
theorem cal_RJ0_637 : qCalS RJ0 637 yJ1_indexOf_4cfef cJ1_indexOf_4cfef 4 (some .int) 4 := ⟨⟨qTT_in 565 (by decide +kernel) rfl, qTT_in 140 (by decide +kernel) rfl, ⟨by decide, by decide, by decide +kernel⟩, Or.inl (qTT_in 563 (by decide +kernel) rfl)⟩, qTT_in 564 (by decide +kernel) rfl⟩
theorem cal_RJ1_88 : qCalS RJ1 88 yJ1_canEncode_9a6ad cJ1_canEncode_9a6ad 1 (some .boolean) 1 := ⟨⟨qTT_in 568 (by decide +kernel) rfl, qTT_in 140 (by decide +kernel) rfl, ⟨by decide, by decide, by decide +kernel⟩, Or.inl (qTT_in 566 (by decide +kernel) rfl)⟩, qTT_in 567 (by decide +kernel) rfl⟩
theorem cal_RJ1_95 : qCalS RJ1 95 yJ1_indexOfChar_4cfef cJ1_indexOfChar_4cfef 6 (some .int) 4 := ⟨⟨qTT_in 577 (by decide +kernel) rfl, qTT_in 140 (by decide +kernel) rfl, ⟨by decide, by decide, by decide +kernel⟩, Or.inl (qTT_in 575 (by decide +kernel) rfl)⟩, qTT_in 576 (by decide +kernel) rfl⟩
abbrev R0_length_8abf5 : Room := { frames := 1, cells := 0, slots := 0, locals := 20 }
abbrev R0_indexOf_0f7a4 : Room := { frames := 3, cells := 0, slots := 0, locals := 70 }
abbrev R0_indexOf_7cf53 : Room := { frames := 2, cells := 0, slots := 0, locals := 48 }
abbrev R0_coder_7d493 : Room := { frames := 0, cells := 0, slots := 0, locals := 0 }
abbrev R0_isLatin1_aae02 : Room := { frames := 0, cells := 0, slots := 0, locals := 0 }
abbrev R1_canEncode_9a6ad : Room := { frames := 0, cells := 0, slots := 0, locals := 0 }
abbrev R1_indexOf_4cfef : Room := { frames := 1, cells := 0, slots := 0, locals := 25 }
abbrev R1_indexOfChar_4cfef : Room := { frames := 0, cells := 0, slots := 0, locals := 0 }
