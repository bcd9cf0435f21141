section PG1
variable {T B F LT k nx : Nat} {r : Nat → Nat} {hx hm : qH}
theorem LG.rg {ring ring' N : Nat → Int32} (h : LG LT ring N) (he : ∀ i, i < 300 → ring' i = ring i) : LG LT ring' N := ⟨h.1, fun i w hi hw => by rw [he _ (by omega)]; exact h.2 i w hi hw⟩
theorem KR.rg {L p : Nat} {w ring ring' N : Nat → Int32} (h : KR T r B L w p ring N) (he : ∀ i, i < 300 → ring' i = ring i) : KR T r B L w p ring' N := by
  obtain ⟨F', i, s, l⟩ := h
  exact ⟨F', i, s, l.rg he⟩
theorem HS.undo (H : HS T r B F LT k nx hx hm) (hB : B < 2 ^ 29) : ∃ (v : Int32) (F' LT' k' nx' : Nat) (hx' hm' : qH), f8_undo hx = some (v, hx') ∧ f9_undo hm = some (v, hm') ∧ HS T r B F' LT' k' nx' hx' hm' ∧ AF hx hx' hm hm' := by
  obtain ⟨q, ⟨l1, l2, l3⟩, ⟨k1, k2, k3, k4, k5, k6⟩, pa⟩ := H
  have hT := q.t31
  by_cases hk : k = 0
  · have e1 : hx.1 77 1 = 0 := by rw [k1, hk]; rfl
    have e2 : hm.1 0 23 = 0 := by rw [k2, hk]; rfl
    refine ⟨-1, F, LT, k, nx, hx, hm, ?_, ?_, ⟨q, ⟨l1, l2, l3⟩, ⟨k1, k2, k3, k4, k5, k6⟩, pa⟩, AF.rf⟩
    · unfold f8_undo
      rw [if_pos e1]
    · unfold f9_undo
      rw [if_pos e2]
  · obtain ⟨F', i0, s0, g0⟩ := pa 0 (by omega)
    rw [show LT - 1 - 0 = LT - 1 by omega] at g0
    have hkn : ¬ nI k = 0 := nI_ne0 (by omega) (by omega)
    have hkl : ¬ nI k ≤ 0 := nI_nle (by omega) (by omega)
    -- the class
    have e3 : nI nx + (40 : Int32) - 1 = nI (nx + 39) := by
      have : nI nx + (40 : Int32) = nI (nx + 39 + 1) := nI_add nx 40
      rw [this, nI_pred]
    have e4 : nI (nx + 39) - nI (nx + 39) / (40 : Int32) * (40 : Int32) = nI ((nx + 39) % 40) := pk_rem (a := nx + 39) (d := 40) (by omega) (by omega) (by omega)
    have e5 : nI ((nx + 39) % 40) * (172 : Int32) = nI (172 * ((nx + 39) % 40)) := by rw [Nat.mul_comm]; exact nI_mul _ 172
    have e6 : nI k - 1 = nI (k - 1) := by
      have := pk_sub (a := k) (b := 1) (by omega)
      exact this
    have e7 : nI LT - 1 = nI (LT - 1) := by
      have := pk_sub (a := LT) (b := 1) (by omega)
      exact this
    obtain ⟨h2, c1, c2, c3, c4, c5⟩ := load_eq (a := 51) (c := 78) (p := 172 * ((nx + 39) % 40)) (np := 6880) (h := qw hx 77 2 (nI ((nx + 39) % 40))) (by omega) (by omega) (by omega)
    have r77 : h2.1 77 = upd (hx.1 77) 2 (nI ((nx + 39) % 40)) := by rw [c3 77 (by omega), qrow_at]
    have cx : f8_undo hx = some (nI (k - 1), qrow (qrow h2 77 (upd (upd (hx.1 77) 2 (nI ((nx + 39) % 40))) 1 (nI (k - 1)))) 79 (upd (hx.1 79) 1 (nI (LT - 1)))) := by
      unfold f8_undo f3_giveBack
      rw [k1, if_neg hkn, qj_e, if_neg hkl, show decide (¬ (40 : Int32) = 0) = true from by decide, qg_t, qlt_e, k5, e3, e4]
      have e9 : (qw hx 77 2 (nI ((nx + 39) % 40))).1 77 2 = nI ((nx + 39) % 40) := by rw [qrow_at, upd_at]
      rw [e9, e5, c1, bind_s, qlt_e]
      have e10 : h2.1 77 1 - 1 = nI (k - 1) := by rw [r77, upd_ne (by omega), k1, e6]
      rw [e10]
      simp only [bind_s]
      unfold f1_takeBack
      have e11 : (qw h2 77 1 (nI (k - 1))).1 79 = hx.1 79 := by rw [qrow_ne (by omega), c3 79 (by omega), qrow_ne (by omega)]
      simp only [e11, l1, e7, qlt_e, bind_s, if_neg (nI_pos (show LT - 1 < 2 ^ 31 by omega)), qw, qrow_ne (show (79 : Nat) ≠ 77 by omega), r77, qrow_ne (show (77 : Nat) ≠ 79 by omega), qrow_at, upd_at]
      rw [show h2.1 79 = hx.1 79 from by rw [c3 79 (by omega), qrow_ne (by omega)], l1, e7, if_neg (nI_pos (show LT - 1 < 2 ^ 31 by omega))]
    -- the reference
    have e8 : (qw hm 0 23 (nI (k - 1))).1 0 23 = nI (k - 1) := by rw [qrow_at, upd_at]
    obtain ⟨w, u1, u2, u3⟩ := undoL (hm := qw hm 0 23 (nI (k - 1))) e8 (by omega) (fun (x8 : Int32) (h9 : qH) => some ((h9.1 0 23), h9))
    have r13 : (qw hm 0 23 (nI (k - 1))).1 13 = hm.1 13 := qrow_ne (by omega)
    rw [r13] at u1
    have cm : f9_undo hm = some (nI (k - 1), qrow (qw hm 0 23 (nI (k - 1))) 9 w) := by
      unfold f9_undo
      rw [k2, if_neg hkn, qlt_e, e6, u3, qrow_ne (show (0 : Nat) ≠ 9 by omega), e8]
    have hw : ∀ i, i < 353 → w i = (fun i => hm.1 13 (353 * (k - 1 - 0) + i)) i := fun i hi => by
      rw [u1 i hi]
      rfl
    refine ⟨nI (k - 1), F', LT - 1, k - 1, (nx + 39) % 40, _, _, cx, cm, ⟨⟨q.1, ?_, ?_, ?_, ?_⟩, ⟨?_, by omega, ?_⟩, ⟨?_, ?_, by omega, by omega, ?_, by omega⟩, ?_⟩, ?_⟩
    · unfold HX
      rw [qrow_ne (by omega), qrow_ne (by omega), qrow_ne (by omega), qrow_ne (by omega), qrow_ne (by omega), qrow_ne (by omega), qrow_ne (by omega), qrow_ne (by omega), c3 6 (by omega), c3 7 (by omega), c3 12 (by omega), c3 13 (by omega), qrow_ne (by omega), qrow_ne (by omega), qrow_ne (by omega), qrow_ne (by omega)]
      exact q.2.1
    · unfold HM
      rw [qrow_ne (by omega), qrow_at, upd_ne (by omega), qrow_ne (by omega), qrow_ne (by omega)]
      exact q.2.2.1
    · rw [qrow_at]
      have s1 := (s0.cg hT.1 i0.1.2.1 (fun i hi => hw i (by omega)))
      rw [show (nx + 39 - 0) % 40 = (nx + 39) % 40 by omega] at s1
      have s2 := s1.se (b := 51) (h' := h2) (by
        rw [qrow_ne (show (78 : Nat) ≠ 77 by omega)] at c2
        exact c2) hT.1 i0.1.2.1
      refine s2.se ⟨fun k _ _ => ?_, fun j i _ _ _ => ?_, fun j i _ _ _ => ?_⟩ hT.1 i0.1.2.1
      · rw [qrow_ne (by omega), qrow_ne (by omega)]
      · rw [qrow_ne (by omega), qrow_ne (by omega)]
      · rw [qrow_ne (by omega), qrow_ne (by omega)]
    · rw [qrow_at]
      exact i0.cg hT.1 (fun i hi => hw i (by omega))
    · rw [qrow_at, upd_at]
    · rw [qrow_ne (by omega), qrow_ne (by omega), c3 80 (by omega), qrow_ne (by omega), qrow_at]
      exact g0.cg (fun i _ hi => hw i hi)
    · rw [qrow_ne (by omega), qrow_at, upd_at]
    · rw [qrow_ne (by omega), qrow_at, upd_at]
    · rw [qrow_ne (by omega), qrow_at, upd_ne (by omega), upd_at]
    · rw [qrow_ne (show (78 : Nat) ≠ 79 by omega), qrow_ne (show (78 : Nat) ≠ 77 by omega), c3 78 (by omega), qrow_ne (show (78 : Nat) ≠ 77 by omega), qrow_ne (show (80 : Nat) ≠ 79 by omega), qrow_ne (show (80 : Nat) ≠ 77 by omega), c3 80 (by omega), qrow_ne (show (80 : Nat) ≠ 77 by omega), qrow_ne (show (13 : Nat) ≠ 9 by omega), r13]
      intro j hj
      have := pa (j + 1) (by omega)
      rw [show LT - 1 - 1 - j = LT - 1 - (j + 1) by omega, show ((nx + 39) % 40 + 39 - j) % 40 = (nx + 39 - (j + 1)) % 40 by omega, show k - 1 - 1 - j = k - 1 - (j + 1) by omega]
      exact this
    · refine ⟨fun b hb => ?_, fun b b1 b2 b3 b4 b5 => ?_, fun j j1 j2 j3 => ?_, ?_, rfl⟩
      · rw [qrow_ne (by omega), qrow_ne (by omega), c3 b (by omega), qrow_ne (by omega)]
      · rw [qrow_ne b2, qrow_ne b1]
      · rw [qrow_ne (by omega), qrow_at, upd_ne j3]
      · show h2.2 = hx.2
        rw [c4]
        rfl
theorem become_eq {h : qH} {a b : Nat} (hab : a ≠ b) (hab1 : a + 1 ≠ b) (hab2 : a ≠ b + 1) : ∃ w, (∀ i, i < 300 → w i = h.1 (b + 1) i) ∧ f1_become a b h = some (qrow (qrow h a (upd (h.1 a) 1 (h.1 b 1))) (a + 1) w) := by
  unfold f1_become
  rw [qlt_e, show qcp (0 : Int32) 0 300 300 300 = true from by decide, qg_t, qlt_e]
  refine ⟨_, fun i hi => ?_, rfl⟩
  simp only [va_cpy, ix_0, ix_300]
  rw [if_pos (by omega), qrow_ne (Ne.symm hab2)]
  exact congrArg (h.1 (b + 1)) (by omega)
/-- an image, both sides -/
def IM (T : Nat) (r : Nat → Nat) (B : Nat) (hx hm : qH) : Prop := (hx.1 0 17 = 0 ∧ hm.1 0 34 = 0) ∨ (hx.1 0 17 = 1 ∧ hm.1 0 34 = 1 ∧ ∃ LI, hx.1 82 1 = nI LI ∧ LI ≤ B ∧ KR T r B LI (hx.1 81) 0 (hx.1 83) (hm.1 18))
theorem IM.mono {B' : Nat} (h : IM T r B hx hm) (hB : B ≤ B') : IM T r B' hx hm := by
  rcases h with h | ⟨h1, h2, LI, h3, h4, h5⟩
  · exact Or.inl h
  · exact Or.inr ⟨h1, h2, LI, h3, by omega, h5.mono hB⟩
theorem IM.cg {hx' hm' : qH} (h : IM T r B hx hm) (h1 : hx'.1 0 17 = hx.1 0 17) (h2 : hm'.1 0 34 = hm.1 0 34) (h3 : hx'.1 81 = hx.1 81) (h4 : hx'.1 82 = hx.1 82) (h5 : hx'.1 83 = hx.1 83) (h6 : hm'.1 18 = hm.1 18) : IM T r B hx' hm' := by
  unfold IM at h ⊢
  rw [h1, h2, h3, h4, h5, h6]
  exact h
theorem HS.image (H : HS T r B F LT k nx hx hm) : ∃ (v : Int32) (hx' hm' : qH), f8_image hx = some (v, hx') ∧ f9_image hm = some (v, hm') ∧ HS T r B F LT k nx hx' hm' ∧ IM T r B hx' hm' ∧ (∀ b, b ≠ 0 → b ≠ 81 → b ≠ 82 → b ≠ 83 → hx'.1 b = hx.1 b) ∧ (∀ j, j ≠ 17 → hx'.1 0 j = hx.1 0 j) ∧ (∀ b, b ≠ 0 → b ≠ 18 → hm'.1 b = hm.1 b) ∧ ∀ j, j ≠ 34 → hm'.1 0 j = hm.1 0 j := by
  have q := H.1
  have hT := q.t31
  obtain ⟨w, s1, s2, -⟩ := store_eq (a := 51) (c := 81) (p := 0) (np := 172) (h := hx) (by omega) (by omega) (by omega)
  have s1' : f7_store 51 81 172 0 hx = some (qrow hx 81 w) := s1
  obtain ⟨w2, b1, b2⟩ := become_eq (h := qrow hx 81 w) (a := 82) (b := 79) (by omega) (by omega) (by omega)
  obtain ⟨w3, i1, -, i3⟩ := imageL (hm := hm) (fun (x8 : Int32) (h9 : qH) => qlt (qw h9 0 34 (1 : Int32)) fun (h10 : qH) => some ((h10.1 9 170), h10))
  let hx' : qH := qrow (qrow (qrow (qrow hx 81 w) 82 (upd (hx.1 82) 1 (hx.1 79 1))) 83 w2) 0 (upd (hx.1 0) 17 1)
  let hm' : qH := qrow (qrow hm 18 w3) 0 (upd (hm.1 0) 34 1)
  have xo : ∀ b, b ≠ 0 → b ≠ 81 → b ≠ 82 → b ≠ 83 → hx'.1 b = hx.1 b := fun b a1 a2 a3 a4 => by
    show (qrow (qrow (qrow (qrow hx 81 w) 82 _) 83 w2) 0 _).1 b = _
    rw [qrow_ne a1, qrow_ne a4, qrow_ne a3, qrow_ne a2]
  have mo : ∀ b, b ≠ 0 → b ≠ 18 → hm'.1 b = hm.1 b := fun b a1 a2 => by
    show (qrow (qrow hm 18 w3) 0 _).1 b = _
    rw [qrow_ne a1, qrow_ne a2]
  have x0 : hx'.1 0 = upd (hx.1 0) 17 1 := qrow_at _ _ _
  have m0 : hm'.1 0 = upd (hm.1 0) 34 1 := qrow_at _ _ _
  have cx : f8_image hx = some (hx.1 51 2, hx') := by
    unfold f8_image
    rw [q.told.1, bind_s, if_neg q1f, s1', bind_s]
    have b2' : f1_become 82 79 (qrow hx 81 w) = some (qrow (qrow (qrow hx 81 w) 82 (upd (hx.1 82) 1 (hx.1 79 1))) 83 w2) := by
      rw [b2, qrow_ne (show (82 : Nat) ≠ 81 by omega), qrow_ne (show (79 : Nat) ≠ 81 by omega)]
    rw [b2', bind_s, qlt_e]
    show some ((qrow (qrow (qrow (qrow hx 81 w) 82 (upd (hx.1 82) 1 (hx.1 79 1))) 83 w2) 0 (upd ((qrow (qrow (qrow hx 81 w) 82 (upd (hx.1 82) 1 (hx.1 79 1))) 83 w2).1 0) 17 1)).1 51 2, qrow (qrow (qrow (qrow hx 81 w) 82 (upd (hx.1 82) 1 (hx.1 79 1))) 83 w2) 0 (upd ((qrow (qrow (qrow hx 81 w) 82 (upd (hx.1 82) 1 (hx.1 79 1))) 83 w2).1 0) 17 1)) = _
    have e0 : (qrow (qrow (qrow hx 81 w) 82 (upd (hx.1 82) 1 (hx.1 79 1))) 83 w2).1 0 = hx.1 0 := by rw [qrow_ne (by omega), qrow_ne (by omega), qrow_ne (by omega)]
    rw [e0]
    show some (hx'.1 51 2, hx') = _
    rw [xo 51 (by omega) (by omega) (by omega) (by omega)]
  have cm : f9_image hm = some (hm.1 9 170, hm') := by
    unfold f9_image
    rw [q.told.2, bind_s, if_neg q1f, i3, qlt_e]
    show some ((qrow (qrow hm 18 w3) 0 (upd ((qrow hm 18 w3).1 0) 34 1)).1 9 170, qrow (qrow hm 18 w3) 0 (upd ((qrow hm 18 w3).1 0) 34 1)) = _
    rw [qrow_ne (show (0 : Nat) ≠ 18 by omega)]
    show some (hm'.1 9 170, hm') = _
    rw [mo 9 (by omega) (by omega)]
  refine ⟨hx.1 51 2, hx', hm', cx, by rw [cm, q.2.2.2.1.1.1], H.cg (fun b hb => xo b (by omega) (by omega) (by omega) (by omega)) (by rw [m0, upd_ne (by omega)]) (by rw [m0, upd_ne (by omega)]) (mo 5 (by omega) (by omega)) (mo 9 (by omega) (by omega)) (mo 13 (by omega) (by omega)), Or.inr ⟨by rw [x0, upd_at], by rw [m0, upd_at], LT, ?_, H.2.1.2.1, ?_⟩, xo, fun j hj => by rw [x0, upd_ne hj], mo, fun j hj => by rw [m0, upd_ne hj]⟩
  · show (qrow (qrow (qrow (qrow hx 81 w) 82 _) 83 w2) 0 _).1 82 1 = _
    rw [qrow_ne (by omega), qrow_ne (by omega), qrow_at, upd_at]
    exact H.2.1.1
  · have e81 : hx'.1 81 = w := by
      show (qrow (qrow (qrow (qrow hx 81 w) 82 _) 83 w2) 0 _).1 81 = _
      rw [qrow_ne (by omega), qrow_ne (by omega), qrow_ne (by omega), qrow_at]
    have e83 : hx'.1 83 = w2 := by
      show (qrow (qrow (qrow (qrow hx 81 w) 82 _) 83 w2) 0 _).1 83 = _
      rw [qrow_ne (by omega), qrow_at]
    have e18 : hm'.1 18 = w3 := by
      show (qrow (qrow hm 18 w3) 0 _).1 18 = _
      rw [qrow_ne (by omega), qrow_at]
    rw [e81, e83, e18]
    refine ⟨F, q.2.2.2.2.cg hT.1 (fun i hi => i1 i (by omega)), (q.2.2.2.1.cg hT.1 hT.2 (fun i hi => i1 i (by omega))).se s2 hT.1 hT.2, ?_⟩
    refine (H.2.1.2.2.cg (fun i _ hi => i1 i hi)).rg (fun i hi => ?_)
    rw [b1 i hi, qrow_ne (by omega)]
theorem HS.back (H : HS T r B F LT k nx hx hm) (I : IM T r B hx hm) : ∃ (v : Int32) (F' LT' k' nx' : Nat) (hx' hm' : qH), f8_back hx = some (v, hx') ∧ f9_back hm = some (v, hm') ∧ HS T r B F' LT' k' nx' hx' hm' ∧ AF hx hx' hm hm' := by
  have q := H.1
  have hT := q.t31
  unfold f8_back f9_back
  rcases I with ⟨i1, i2⟩ | ⟨i1, i2, LI, i3, i4, F', kI, kS, kL⟩
  · rw [i1, i2, if_pos rfl, if_pos rfl]
    exact ⟨-1, F, LT, k, nx, hx, hm, rfl, rfl, H, AF.rf⟩
  · rw [i1, i2, if_neg q1f, if_neg q1f]
    obtain ⟨h2, c1, c2, c3, c4, c5⟩ := load_eq (a := 51) (c := 81) (p := 0) (np := 172) (h := hx) (by omega) (by omega) (by omega)
    have c1' : f7_load 51 81 172 0 hx = some h2 := c1
    obtain ⟨w2, b1, b2⟩ := become_eq (h := h2) (a := 79) (b := 82) (by omega) (by omega) (by omega)
    obtain ⟨w3, v1, -, v3⟩ := backL (hm := hm) (fun (x7 : Int32) (h8 : qH) => qlt (qw h8 0 23 (0 : Int32)) fun (h9 : qH) => some ((h9.1 9 170), h9))
    have b2' : f1_become 79 82 h2 = some (qrow (qrow h2 79 (upd (hx.1 79) 1 (nI LI))) 80 w2) := by
      rw [b2, c3 79 (by omega), c3 82 (by omega), i3]
    have e77 : (qrow (qrow h2 79 (upd (hx.1 79) 1 (nI LI))) 80 w2).1 77 = hx.1 77 := by rw [qrow_ne (by omega), qrow_ne (by omega), c3 77 (by omega)]
    have cl : f3_clear (qrow (qrow h2 79 (upd (hx.1 79) 1 (nI LI))) 80 w2) = some (qrow (qrow (qrow h2 79 (upd (hx.1 79) 1 (nI LI))) 80 w2) 77 (upd (upd (hx.1 77) 1 0) 2 0)) := by
      unfold f3_clear
      simp only [qlt_e, qw, qrow_at, qrow_qrow, e77]
    have em : (qrow hm 9 w3).1 0 = hm.1 0 := qrow_ne (by omega)
    rw [c1', bind_s, b2', bind_s, cl, bind_s, v3, qlt_e]
    have hN : ∀ i, i < 353 → w3 i = hm.1 18 i := v1
    have qS := (kS.cg hT.1 kI.1.2.1 (fun i hi => hN i (by omega))).se c2 hT.1 kI.1.2.1
    refine ⟨h2.1 51 2, F', LI, 0, 0, qrow (qrow (qrow h2 79 (upd (hx.1 79) 1 (nI LI))) 80 w2) 77 (upd (upd (hx.1 77) 1 0) 2 0), qrow (qrow hm 9 w3) 0 (upd (hm.1 0) 23 0), ?_, ?_, ⟨⟨q.1, ?_, ?_, ?_, ?_⟩, ⟨?_, i4, ?_⟩, ⟨?_, ?_, by omega, by omega, ?_, by omega⟩, ?_⟩, ?_⟩
    · rw [qrow_ne (by omega), qrow_ne (by omega), qrow_ne (by omega)]
    · show some ((qrow (qrow hm 9 w3) 0 (upd ((qrow hm 9 w3).1 0) 23 0)).1 9 170, qrow (qrow hm 9 w3) 0 (upd ((qrow hm 9 w3).1 0) 23 0)) = _
      rw [em, qrow_ne (show (9 : Nat) ≠ 0 by omega), qrow_at, qS.1.1]
    · unfold HX
      rw [qrow_ne (by omega), qrow_ne (by omega), qrow_ne (by omega), qrow_ne (by omega), qrow_ne (by omega), qrow_ne (by omega), qrow_ne (by omega), qrow_ne (by omega), qrow_ne (by omega), qrow_ne (by omega), qrow_ne (by omega), qrow_ne (by omega), c3 6 (by omega), c3 7 (by omega), c3 12 (by omega), c3 13 (by omega)]
      exact q.2.1
    · unfold HM
      rw [qrow_at, upd_ne (by omega), qrow_ne (by omega), qrow_ne (by omega)]
      exact q.2.2.1
    · rw [qrow_ne (show (9 : Nat) ≠ 0 by omega), qrow_at]
      refine qS.se ⟨fun k _ _ => ?_, fun j i _ _ _ => ?_, fun j i _ _ _ => ?_⟩ hT.1 kI.1.2.1
      · rw [qrow_ne (by omega), qrow_ne (by omega), qrow_ne (by omega)]
      · rw [qrow_ne (by omega), qrow_ne (by omega), qrow_ne (by omega)]
      · rw [qrow_ne (by omega), qrow_ne (by omega), qrow_ne (by omega)]
    · rw [qrow_ne (show (9 : Nat) ≠ 0 by omega), qrow_at]
      exact kI.cg hT.1 (fun i hi => hN i (by omega))
    · rw [qrow_ne (by omega), qrow_ne (by omega), qrow_at, upd_at]
    · rw [qrow_ne (by omega), qrow_at, qrow_ne (show (9 : Nat) ≠ 0 by omega), qrow_at]
      refine (kL.cg (fun i _ hi => hN i hi)).rg (fun i hi => ?_)
      rw [b1 i hi, c3 83 (by omega)]
    · rw [qrow_at, upd_ne (by omega), upd_at]; rfl
    · rw [qrow_at, upd_at]; rfl
    · rw [qrow_at, upd_at]; rfl
    · intro j hj
      omega
    · refine ⟨fun b hb => ?_, fun b a1 a2 a3 a4 a5 => ?_, fun j j1 j2 j3 => ?_, c4, rfl⟩
      · rw [qrow_ne (by omega), qrow_ne (by omega), qrow_ne (by omega), c3 b (by omega)]
      · rw [qrow_ne a1, qrow_ne a2]
      · rw [qrow_at, upd_ne j3]
theorem len_eq {h : qH} (hL : h.1 79 1 = nI LT) (hb : LT < 2 ^ 31) : f1_length 79 h = some (nI (ln LT)) := by
  unfold f1_length
  rw [hL]
  by_cases h9 : 60 < LT
  · rw [if_pos (show (60 : Int32) < nI LT from nI_lt (a := 60) h9 hb), ln_ge (by omega)]; rfl
  · rw [if_neg (show ¬ (60 : Int32) < nI LT from nI_nlt (a := 60) (by omega) (by omega))]
    by_cases h8 : LT < 60
    · rw [ln_lt h8]
    · rw [ln_ge (by omega), show LT = 60 by omega]
theorem HS.log (H : HS T r B F LT k nx hx hm) (hB : B < 2 ^ 29) (x y : Int32) : ∃ v, f8_log x y hx = some v ∧ f9_log x y hm = some v := by
  obtain ⟨q, ⟨l1, l2, l3⟩, -⟩ := H
  have hl := ln_le LT
  unfold f8_log f9_log
  rw [len_eq l1 (by omega), bind_s, l3.1]
  rcases in0 (hm := hm) (n := ln LT) x (by omega) with ⟨i, hi, rfl, g1, g2, g3, g4⟩ | ⟨g1, g4⟩
  · rw [g4, bind_s, qj_e, if_neg q1f, if_neg g1, if_neg g3]
    rcases in0 (hm := hm) (n := 3) y (by omega) with ⟨w, hw, rfl, p1, p2, p3, p4⟩ | ⟨p1, p4⟩
    · have p4 : f9_in (nI w) 0 2 hm = some 1 := p4
      have p2' : nI w ≤ (2 : Int32) := nI_le (b := 2) (by omega) (by omega)
      rw [p4, bind_s, if_neg q1f, if_neg p1, if_pos p2']
      unfold f1_numberAt
      have e1 : nI (ln LT) - 1 - nI i = nI (ln LT - 1 - i) := by
        have h9 := pk_sub (a := ln LT) (b := 1) (by omega)
        have h8 := pk_sub (a := ln LT - 1) (b := i) (by omega)
        have h9 : nI (ln LT) - 1 = nI (ln LT - 1) := h9
        rw [h9, h8]
      have e2 : nI LT - 1 - nI i = nI (LT - 1 - i) := by
        have h9 := pk_sub (a := LT) (b := 1) (by omega)
        have h8 := pk_sub (a := LT - 1) (b := i) (by omega)
        have h9 : nI LT - 1 = nI (LT - 1) := h9
        rw [h9, h8]
      have e3 : nI (LT - 1 - i) - nI (LT - 1 - i) / (100 : Int32) * (100 : Int32) = nI ((LT - 1 - i) % 100) := pk_rem (a := LT - 1 - i) (d := 100) (by omega) (by omega) (by omega)
      have e4 : nI ((LT - 1 - i) % 100) * (3 : Int32) + nI w = nI ((LT - 1 - i) % 100 * 3 + w) := by
        have : nI ((LT - 1 - i) % 100) * (3 : Int32) = nI ((LT - 1 - i) % 100 * 3) := nI_mul _ 3
        rw [this, nI_add]
      have e5 : (173 : Int32) + 3 * nI (ln LT - 1 - i) + nI w = nI (173 + 3 * (ln LT - 1 - i) + w) := by rw [lm_3, la_173, nI_add]
      rw [e1, e5, q353 (show 173 + 3 * (ln LT - 1 - i) + w < 353 by omega), qg_t, i353 (show 173 + 3 * (ln LT - 1 - i) + w < 353 by omega)]
      rw [qj_e, if_neg g1, l1, if_pos (nI_lt (show i < LT by omega) (by omega)), show decide (¬ (100 : Int32) = 0) = true from by decide, qg_t, e2, e3, e4, qin_nI (show (LT - 1 - i) % 100 * 3 + w < 300 by omega) (by omega), qg_t, ix_nI (by omega), bind_s]
      refine ⟨_, rfl, ?_⟩
      have := l3.2 (ln LT - 1 - i) w (by omega) hw
      rw [this, show LT - ln LT + (ln LT - 1 - i) = LT - 1 - i by omega]
    · have p4 : f9_in y 0 2 hm = some 0 := p4
      rw [p4, bind_s, if_pos rfl]
      refine ⟨_, ?_, rfl⟩
      rcases p1 with p1 | ⟨p1, p2, p3⟩
      · rw [if_pos p1]
      · have p3' : ¬ y ≤ 2 := by
          intro h9
          obtain ⟨i, hi, rfl⟩ := nI_of p1
          have p2 : nI 3 ≤ nI i := p2
          have h9 : nI i ≤ nI 2 := h9
          rw [nI_leI (by omega) hi] at p2
          rw [nI_leI hi (by omega)] at h9
          omega
        rw [if_neg p1, if_neg p3']
  · rw [g4, bind_s, qj_e, if_pos rfl]
    refine ⟨_, ?_, rfl⟩
    rcases g1 with g1 | ⟨g1, g2, g3⟩
    · rw [if_pos g1]
    · rw [if_neg g1, if_pos g2]
end PG1
