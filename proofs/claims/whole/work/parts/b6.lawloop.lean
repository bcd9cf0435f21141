/-! ===== the law's loop ===== -/
theorem and63 (a : Int32) : ∃ n, n < 64 ∧ a &&& 63 = nI n := by
  refine ⟨a.toBitVec.toNat % 64, Nat.mod_lt _ (by omega), ?_⟩
  apply b_ext
  intro j hj
  rw [b_and, b_nI _ hj]
  have h1 : bt 63 j = decide (j < 6) := by
    have := b_nI 63 hj
    rw [show (63 : Int32) = nI 63 from rfl, this, show (63 : Nat) = 2 ^ 6 - 1 by decide, Nat.testBit_two_pow_sub_one]
  rw [h1, show (64 : Nat) = 2 ^ 6 by decide, Nat.testBit_mod_two_pow]
  have h2 : bt a j = a.toBitVec.toNat.testBit j := rfl
  rw [h2, Bool.and_comm]
theorem cmp6 : ∀ (L i : Fin 12), (L.val < i.val + 6) → nI L.val - 6 < nI i.val := by decide +kernel
section LL
variable {p : Program} {l : Launch} {e : Env} {s : State} {m : MethodId} {below : List Frame} {meth : Method} {c : Code} {b L : Nat} {xs : Nat → Int32} {D : va_G} {cs : Nat → ClassId} {xl : List (Nat × Value)} {i pc pc' : Nat} {st : List Value} {hx hm : qH} {ov : Nat → Int64} {C S B : Nat}
theorem lp_mono {C' S' : Nat} (kk : LPt p l e s m below meth c b D cs xl i pc st hx hm ov C' S') (h1 : C ≤ C') (h2 : S ≤ S') : LPt p l e s m below meth c b D cs xl i pc st hx hm ov C S :=
  fun adx adm o H locs cells slots la hW hl hc hs => kk adx adm o H locs cells slots la hW hl (Nat.le_trans hc h1) (Nat.le_trans hs h2)
theorem lp_exit (K : LC p l s m meth c b L xs D cs) (hCS : C ≤ 601024 ∧ S ≤ 7293034) : LPt p l e s m below meth c b D cs xl i 1528 [] hx hm ov C S := by
  intro adx adm o H locs cells slots la hW hl hc hs
  refine lv_iconst (v := 1) K.1.1 K.1.2.1 dL_law_1528 (by decide) ?_
  refine va_forget (fun q hq => hW.2.2.2.2.1.2.2 q hq) ?_
  refine W.widen (k := 601024) (n := 7293034) (Nat.le_trans hc hCS.1) (Nat.le_trans hs hCS.2) ?_
  exact lw_ret K.1.1 K.1.2.1 K.2.2.2.2.2.1.2 K.2.2.2.2.2.1.1 dL_law_1529
theorem lp_next (K : LC p l s m meth c b L xs D cs) (kk : LPt p l e s m below meth c b D cs [] (i + 6) 23 [] hx hm ov C S) : LPt p l e s m below meth c b D cs [] i 1522 [] hx hm ov C S := by
  intro adx adm o H locs cells slots la hW hl hc hs
  have hl : lv_has la 7 [(0, .ref b), (1, .ref (adx 0)), (2, .ref (adm 0)), (3, .ref o), (4, .int (nI i))] := hl
  refine lv_iinc (v := nI (i + 6)) (lv' := [(4, .int (nI (i + 6))), (0, .ref b), (1, .ref (adx 0)), (2, .ref (adm 0)), (3, .ref o)]) K.1.1 K.1.2.1 dL_law_1522 hl (k := 4) rfl (nI_add i 6) (by decide) rfl (fun la2 hl2 => ?_)
  refine lv_goto (tgt := 23) K.1.1 K.1.2.1 dL_law_1525 (by decide) ?_
  exact kk adx adm o H locs cells slots la2 hW ⟨hl2.1, hl2.2.1, fun q hq => hl2.2.2 q (by
    simp only [List.append_nil, List.mem_cons, List.not_mem_nil, or_false] at hq ⊢
    rcases hq with h | h | h | h | h <;> simp [h])⟩ hc hs
theorem lp_sw (K : LC p l s m meth c b L xs D cs) {n tgt : Nat} {off : Int} (hn : n < 43) (ho : (#[188, 261, 286, 311, 336, 361, 429, 466, 491, 516, 553, 590, 639, 664, 677, 714, 739, 764, 789, 826, 839, 864, 889, 902, 971, 996, 1009, 1046, 1083, 1108, 1133, 1158, 1183, 1208, 1233, 1258, 1295, 1344, 1381, 1406, 1431, 1444, 1457] : Array Int)[n]? = some off) (ht : (40 : Int) + off = (tgt : Int)) (kk : LPt p l e s m below meth c b D cs xl i tgt st hx hm ov C S) : LPt p l e s m below meth c b D cs xl i 40 (.int (nI n) :: st) hx hm ov C S := by
  have hv : (nI n).toInt = (n : Int) := by
    show (Int32.ofNat n).toInt = _
    rw [Int32.toInt_ofNat_of_lt (by omega)]
  refine lp_go kk fun H locs cells slots Q la ad w => lv_tableIn K.1.1 K.1.2.1 dL_law_40 (by rw [hv]; omega) (by rw [hv]; omega) (by rw [hv, Int.sub_zero, Int.toNat_natCast]; exact ho) ht w
theorem lp_swd (K : LC p l s m meth c b L xs D cs) {n : Nat} (hn : 43 ≤ n) (hn2 : n < 64) (kk : LPt p l e s m below meth c b D cs xl i 1522 st hx hm ov C S) : LPt p l e s m below meth c b D cs xl i 40 (.int (nI n) :: st) hx hm ov C S := by
  have hv : (nI n).toInt = (n : Int) := by
    show (Int32.ofNat n).toInt = _
    rw [Int32.toInt_ofNat_of_lt (by omega)]
  exact lp_go kk fun H locs cells slots Q la ad w => lv_tableOut K.1.1 K.1.2.1 dL_law_40 (by rw [hv]; omega) (by decide) w
theorem lp_head (K : LC p l s m meth c b L xs D cs) (hi : i + 6 ≤ L) {n : Nat} (hn : xs i &&& 63 = nI n) (kk : LPt p l e s m below meth c b D cs xl i 40 [.int (nI n)] hx hm ov C S) : LPt p l e s m below meth c b D cs xl i 33 [] hx hm ov C S := by
  intro adx adm o H locs cells slots la hW hl hc hs
  have hL := K.2.2.2.2.1.2.2
  refine lv_aload_n (x := b) K.1.1 K.1.2.1 dL_law_33 rfl (hl.2.2 (0, .ref b) (by simp)) ?_
  refine lv_iload (x := nI i) K.1.1 K.1.2.1 dL_law_34 (hl.2.2 (4, .int (nI i)) (by simp)) ?_
  refine va_sld K.1.1 K.1.2.1 K.2.2.2.2.1.1 K.2.2.2.2.1.2.1 (A := lA s) (Nat.not_le.mpr K.2.2.2.2.1.2.1) hW.2.2.2.2.1 (i := nI i) (qin_vp (qin_nI (by omega) (by omega))) dL_law_36 ?_
  rw [show (nI i).toNatClampNeg = i from ix_nI (by omega)]
  refine lv_bipush (v := 63) K.1.1 K.1.2.1 dL_law_37 (by decide) ?_
  refine lv_iand K.1.1 K.1.2.1 dL_law_39 ?_
  rw [hn]
  exact kk adx adm o H locs cells slots la hW hl hc hs
abbrev SB : Nat := 200000
theorem lp_test (K : LC p l s m meth c b L xs D cs) (kt : nI L - 6 < nI i → LPt p l e s m below meth c b D cs xl i 1528 [] hx hm ov C S) (kf : ¬ nI L - 6 < nI i → LPt p l e s m below meth c b D cs xl i 33 [] hx hm ov C S) : LPt p l e s m below meth c b D cs xl i 23 [] hx hm ov C S := by
  intro adx adm o H locs cells slots la hW hl hc hs
  refine lv_iload (x := nI i) K.1.1 K.1.2.1 dL_law_23 (hl.2.2 (4, .int (nI i)) (by simp)) ?_
  refine lv_aload_n (x := b) K.1.1 K.1.2.1 dL_law_25 rfl (hl.2.2 (0, .ref b) (by simp)) ?_
  refine va_slen K.1.1 K.1.2.1 K.2.2.2.2.1.1 K.2.2.2.2.1.2.1 (A := lA s) (Nat.not_le.mpr K.2.2.2.2.1.2.1) hW.2.2.2.2.1 dL_law_26 ?_
  refine lv_bipush (v := 6) K.1.1 K.1.2.1 dL_law_27 (by decide) ?_
  refine lv_isub K.1.1 K.1.2.1 dL_law_29 ?_
  exact lv_icmp_gt (tgt := 1528) K.1.1 K.1.2.1 dL_law_30 (by decide) (fun z => kt z adx adm o H locs cells slots la hW hl hc hs) (fun z => kf z adx adm o H locs cells slots la hW hl hc hs)
theorem law_stop (K : LC p l s m meth c b L xs D cs) (hi : L < i + 6) (h2 : i ≤ L + 6) (t : TL (ix (hx.1 100 0))) (hS : S ≤ SB + i + 2 * ix (hx.1 100 0)) : LPt p l e s m below meth c b D cs xl i 23 [] hx hm ov (110 + i) S := by
  have hL := K.2.2.2.2.1.2.2
  have hle := t.le
  have hlt : nI L - 6 < nI i := by
    by_cases h6 : 6 ≤ L
    · obtain ⟨k, rfl⟩ : ∃ k, L = k + 6 := ⟨L - 6, by omega⟩
      have e6 : nI (k + 6) - 6 = nI k := by
        rw [← nI_add]
        exact Int32.add_sub_cancel _ _
      rw [e6]
      exact nI_lt (by omega) (by omega)
    · exact cmp6 ⟨L, by omega⟩ ⟨i, by omega⟩ hi
  exact lp_test K (fun _ => lp_exit K ⟨by omega, by have : SB = 200000 := rfl; omega⟩) (fun z => absurd hlt z)
theorem law_go (K : LC p l s m meth c b L xs D cs) (hi : i + 6 ≤ L) (kk : LPt p l e s m below meth c b D cs xl i 33 [] hx hm ov C S) : LPt p l e s m below meth c b D cs xl i 23 [] hx hm ov C S := by
  have hL := K.2.2.2.2.1.2.2
  refine lp_test K (fun z => ?_) (fun _ => kk)
  obtain ⟨k, rfl⟩ : ∃ k, L = k + 6 := ⟨L - 6, by omega⟩
  have e6 : nI (k + 6) - 6 = nI k := by
    rw [← nI_add]
    exact Int32.add_sub_cancel _ _
  rw [e6] at z
  exact absurd z (nI_nlt (by omega) (by omega))
set_option maxHeartbeats 1000000 in
theorem law_turn (K : LC p l s m meth c b L xs D cs) (hi : i + 6 ≤ L) (h : WW (7 * i) hx hm) (tl : TL (ix (hx.1 100 0))) (kk : ∀ hx' hm' ov' S', WW (7 * i + 40) hx' hm' → TL (ix (hx'.1 100 0)) → S' ≤ SB + 2 * ix (hx'.1 100 0) + i + 6 → LPt p l e s m below meth c b D cs [] i 1522 [] hx' hm' ov' (110 + i + 1) S') : LPt p l e s m below meth c b D cs [] i 33 [] hx hm ov (110 + i) (SB + i + 2 * ix (hx.1 100 0)) := by
  have hL := K.2.2.2.2.1.2.2
  have hle := tl.le
  have hCS : 110 + i ≤ 601024 ∧ SB + i + 2 * ix (hx.1 100 0) ≤ 7293034 := ⟨by omega, by show 200000 + i + _ ≤ _; omega⟩
  have hB : 7 * i + 40 < 2 ^ 29 := by omega
  have kk1 : ∀ hx' hm', WW (7 * i + 40) hx' hm' → ix (hx'.1 100 0) = ix (hx.1 100 0) → LPt p l e s m below meth c b D cs [] i 1522 [] hx' hm' ov (110 + i) (SB + i + 2 * ix (hx.1 100 0)) := fun hx' hm' w h100 => lp_mono (kk hx' hm' ov (SB + i + 2 * ix (hx.1 100 0)) w (by rw [h100]; exact tl) (by rw [h100]; omega)) (by omega) (Nat.le_refl _)
  obtain ⟨n, hn, e⟩ := and63 (xs i)
  refine lp_head K hi e ?_
  by_cases e0 : n = 0
  · subst e0
    exact lp_sw (tgt := 228) K (by decide) rfl (by decide) (lc_0 K hi hCS hB h kk1)
  by_cases e1 : n = 1
  · subst e1
    exact lp_sw (tgt := 301) K (by decide) rfl (by decide) (lc_1 K hi hCS hB h kk1)
  by_cases e2 : n = 2
  · subst e2
    exact lp_sw (tgt := 326) K (by decide) rfl (by decide) (lc_2 K hi hCS hB h kk1)
  by_cases e3 : n = 3
  · subst e3
    exact lp_sw (tgt := 351) K (by decide) rfl (by decide) (lc_3 K hi hCS hB h kk1)
  by_cases e4 : n = 4
  · subst e4
    exact lp_sw (tgt := 376) K (by decide) rfl (by decide) (lc_4 K hi hCS hB h kk1)
  by_cases e5 : n = 5
  · subst e5
    exact lp_sw (tgt := 401) K (by decide) rfl (by decide) (lc_5 K hi ⟨by omega, by show 200000 + i + _ + 6 ≤ _; omega⟩ h (fun hm' ov' w => kk hx hm' ov' _ w tl (by omega)))
  by_cases e6 : n = 6
  · subst e6
    exact lp_sw (tgt := 469) K (by decide) rfl (by decide) (lc_6 K hi hCS hB h kk1)
  by_cases e7 : n = 7
  · subst e7
    exact lp_sw (tgt := 506) K (by decide) rfl (by decide) (lc_7 K hi hCS hB h kk1)
  by_cases e8 : n = 8
  · subst e8
    exact lp_sw (tgt := 531) K (by decide) rfl (by decide) (lc_8 K hi hCS hB h kk1)
  by_cases e9 : n = 9
  · subst e9
    exact lp_sw (tgt := 556) K (by decide) rfl (by decide) (lc_9 K hi hCS hB h kk1)
  by_cases e10 : n = 10
  · subst e10
    exact lp_sw (tgt := 593) K (by decide) rfl (by decide) (lc_10 K hi hCS hB h kk1)
  by_cases e11 : n = 11
  · subst e11
    exact lp_sw (tgt := 630) K (by decide) rfl (by decide) (lc_11 K hi hCS hB h kk1)
  by_cases e12 : n = 12
  · subst e12
    exact lp_sw (tgt := 679) K (by decide) rfl (by decide) (lc_12 K hi hCS hB h kk1)
  by_cases e13 : n = 13
  · subst e13
    exact lp_sw (tgt := 704) K (by decide) rfl (by decide) (lc_13 K hi hCS hB h kk1)
  by_cases e14 : n = 14
  · subst e14
    exact lp_sw (tgt := 717) K (by decide) rfl (by decide) (lc_14 K hi hCS hB h kk1)
  by_cases e15 : n = 15
  · subst e15
    exact lp_sw (tgt := 754) K (by decide) rfl (by decide) (lc_15 K hi hCS hB h kk1)
  by_cases e16 : n = 16
  · subst e16
    exact lp_sw (tgt := 779) K (by decide) rfl (by decide) (lc_16 K hi hCS hB h kk1)
  by_cases e17 : n = 17
  · subst e17
    exact lp_sw (tgt := 804) K (by decide) rfl (by decide) (lc_17 K hi hCS hB h kk1)
  by_cases e18 : n = 18
  · subst e18
    exact lp_sw (tgt := 829) K (by decide) rfl (by decide) (lc_18 K hi hCS hB h kk1)
  by_cases e19 : n = 19
  · subst e19
    exact lp_sw (tgt := 866) K (by decide) rfl (by decide) (lc_19 K hi hCS hB h kk1)
  by_cases e20 : n = 20
  · subst e20
    exact lp_sw (tgt := 879) K (by decide) rfl (by decide) (lc_20 K hi hCS hB h kk1)
  by_cases e21 : n = 21
  · subst e21
    exact lp_sw (tgt := 904) K (by decide) rfl (by decide) (lc_21 K hi hCS hB h kk1)
  by_cases e22 : n = 22
  · subst e22
    exact lp_sw (tgt := 929) K (by decide) rfl (by decide) (lc_22 K hi hCS hB h kk1)
  by_cases e23 : n = 23
  · subst e23
    exact lp_sw (tgt := 942) K (by decide) rfl (by decide) (lc_23 K hi hCS hB h kk1)
  by_cases e24 : n = 24
  · subst e24
    exact lp_sw (tgt := 1011) K (by decide) rfl (by decide) (lc_24 K hi hCS hB h kk1)
  by_cases e25 : n = 25
  · subst e25
    exact lp_sw (tgt := 1036) K (by decide) rfl (by decide) (lc_25 K hi hCS hB h kk1)
  by_cases e26 : n = 26
  · subst e26
    exact lp_sw (tgt := 1049) K (by decide) rfl (by decide) (lc_26 K hi hCS hB h kk1)
  by_cases e27 : n = 27
  · subst e27
    exact lp_sw (tgt := 1086) K (by decide) rfl (by decide) (lc_27 K hi hCS hB h kk1)
  by_cases e28 : n = 28
  · subst e28
    exact lp_sw (tgt := 1123) K (by decide) rfl (by decide) (lc_28 K hi h tl (C0 := 110 + i) (S0 := SB + i) ⟨by omega, by show 200000 + i + _ ≤ _; omega⟩ (fun hx' hm' S' w t hS => kk hx' hm' ov S' w t (by omega)))
  by_cases e29 : n = 29
  · subst e29
    exact lp_sw (tgt := 1148) K (by decide) rfl (by decide) (lc_29 K hi hCS hB h kk1)
  by_cases e30 : n = 30
  · subst e30
    exact lp_sw (tgt := 1173) K (by decide) rfl (by decide) (lc_30 K hi hCS hB h kk1)
  by_cases e31 : n = 31
  · subst e31
    exact lp_sw (tgt := 1198) K (by decide) rfl (by decide) (lc_31 K hi hCS hB h kk1)
  by_cases e32 : n = 32
  · subst e32
    exact lp_sw (tgt := 1223) K (by decide) rfl (by decide) (lc_32 K hi hCS hB h kk1)
  by_cases e33 : n = 33
  · subst e33
    exact lp_sw (tgt := 1248) K (by decide) rfl (by decide) (lc_33 K hi hCS hB h kk1)
  by_cases e34 : n = 34
  · subst e34
    exact lp_sw (tgt := 1273) K (by decide) rfl (by decide) (lc_34 K hi hCS hB h kk1)
  by_cases e35 : n = 35
  · subst e35
    exact lp_sw (tgt := 1298) K (by decide) rfl (by decide) (lc_35 K hi hCS hB h kk1)
  by_cases e36 : n = 36
  · subst e36
    exact lp_sw (tgt := 1335) K (by decide) rfl (by decide) (lc_36 K hi hCS hB h kk1)
  by_cases e37 : n = 37
  · subst e37
    exact lp_sw (tgt := 1384) K (by decide) rfl (by decide) (lc_37 K hi hCS hB h kk1)
  by_cases e38 : n = 38
  · subst e38
    exact lp_sw (tgt := 1421) K (by decide) rfl (by decide) (lc_38 K hi hCS hB h kk1)
  by_cases e39 : n = 39
  · subst e39
    exact lp_sw (tgt := 1446) K (by decide) rfl (by decide) (lc_39 K hi hCS hB h kk1)
  by_cases e40 : n = 40
  · subst e40
    exact lp_sw (tgt := 1471) K (by decide) rfl (by decide) (lc_40 K hi hCS hB h kk1)
  by_cases e41 : n = 41
  · subst e41
    exact lp_sw (tgt := 1484) K (by decide) rfl (by decide) (lc_41 K hi hCS hB h kk1)
  by_cases e42 : n = 42
  · subst e42
    exact lp_sw (tgt := 1497) K (by decide) rfl (by decide) (lc_42 K hi hCS hB h kk1)
  exact lp_swd K (by omega) hn (kk1 hx hm (h.mono (by omega)) rfl)
theorem law_loop (K : LC p l s m meth c b L xs D cs) : ∀ (n i : Nat) (hx hm : qH) (ov : Nat → Int64) (S : Nat), L ≤ i + 6 * n → i ≤ L + 6 → WW (7 * i) hx hm → TL (ix (hx.1 100 0)) → S ≤ SB + i + 2 * ix (hx.1 100 0) → LPt p l e s m below meth c b D cs [] i 23 [] hx hm ov (110 + i) S := by
  intro n
  have hL := K.2.2.2.2.1.2.2
  induction n with
  | zero => exact fun i hx hm ov S h1 h2 w t hS => law_stop K (by omega) h2 t hS
  | succ n ih =>
    intro i hx hm ov S h1 h2 w t hS
    by_cases hi : i + 6 ≤ L
    · refine law_go K hi (lp_mono (law_turn K hi w t (fun hx' hm' ov' S' w' t' hS' => ?_)) (Nat.le_refl _) hS)
      exact lp_next K (lp_mono (ih (i + 6) hx' hm' ov' S' (by omega) (by omega) (w'.mono (by omega)) t' (by omega)) (by omega) (Nat.le_refl _))
    · exact law_stop K (by omega) h2 t hS
end LL
