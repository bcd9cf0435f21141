section PM1
variable {L p : Nat} {hx hm : qH}
theorem badW {q : Nat} (h : hm.1 0 4 = nI q) (hq : q ≤ 240) : f9_bad hm = some (qw hm 0 4 (nI q)) := by
  unfold f9_bad
  rw [qlt_e, qlt_e, h, if_neg (nI_m1 (by omega))]
theorem commaW {q : Nat} (h : hm.1 0 4 = nI q) (hq : q ≤ 240) : f9_comma hm = some (qw hm 0 4 (nI q)) := by
  unfold f9_comma
  rw [qj_e, if_neg (by rw [h]; exact nI_m1 (by omega)), badW h hq, bind_s]
theorem digitW {q : Nat} (h : hm.1 0 4 = nI q) (hq : q ≤ 240) : f9_digit hm = some (0, qw hm 0 4 (nI q)) := by
  unfold f9_digit
  rw [if_neg (by rw [h]; exact nI_m1 (by omega)), badW h hq, bind_s]
/-- what follows the letter of a step -/
noncomputable def tX (z x6 : Int32) (h5 : qH) : Option (Int32 × qH) :=
    if x6 = 0 then ((f6_add 39 z (-1) (-1) h5).bind fun h8 => some (-1, h8))
    else (
      qj (fun (x9 : Int32) (h10 : qH) =>
        qlt (h10.1 3 5) fun (x13 : Int32) =>
        qj (fun (x14 : Int32) (h15 : qH) =>
          qj (fun (h18 : qH) =>
            some (x14, h18)) fun j19 =>
          if x14 = (-1 : Int32) then (
            qlt (if x6 = (3 : Int32) then (h15.1 3 5) else (-1 : Int32)) fun (x23 : Int32) =>
            (f6_add 39 z x13 x23 h15).bind fun (h24 : qH) =>
            j19 h24)
          else (
            j19 h15)) fun j16 =>
        if x9 = (-1 : Int32) then (
          if x6 = (3 : Int32) then (
            qb2 (f5_readComma h10) fun (z27 : Int32) (h28 : qH) =>
            if z27 = (-1 : Int32) then (
              qb2 (f5_readDigit h28) fun (z30 : Int32) (h31 : qH) =>
              j16 z30 h31)
            else (
              j16 z27 h28))
          else (
            j16 x9 h10))
        else (
          j16 x9 h10)) fun j11 =>
      if x6 = (1 : Int32) then (
        qb2 (f5_readNumber (0 : Int32) (99 : Int32) h5) fun (z33 : Int32) (h34 : qH) =>
        j11 z33 h34)
      else (
        qb2 (f5_readDigit h5) fun (z35 : Int32) (h36 : qH) =>
        j11 z35 h36))
theorem tX0 {z : Int32} {h : qH} : tX z 0 h = ((f6_add 39 z (-1) (-1) h).bind fun h8 => some (-1, h8)) := by
  unfold tX
  rw [if_pos rfl]
theorem tX1 {z : Int32} {h : qH} : tX z 1 h = qb2 (f5_readNumber 0 99 h) fun z33 h34 => if z33 = -1 then (f6_add 39 z (h34.1 3 5) (-1) h34).bind fun h24 => some (z33, h24) else some (z33, h34) := by
  unfold tX
  rw [if_neg (by decide), qj_e, if_pos rfl]
  simp only [qj_e, qlt_e, if_neg (show ¬ (1 : Int32) = 3 by decide), ite_self]
theorem tX2 {z : Int32} {h : qH} : tX z 2 h = qb2 (f5_readDigit h) fun z33 h34 => if z33 = -1 then (f6_add 39 z (h34.1 3 5) (-1) h34).bind fun h24 => some (z33, h24) else some (z33, h34) := by
  unfold tX
  rw [if_neg (by decide), qj_e, if_neg (by decide)]
  simp only [qj_e, qlt_e, if_neg (show ¬ (2 : Int32) = 3 by decide), ite_self]
theorem tX3 {z : Int32} {h : qH} : tX z 3 h = qb2 (f5_readDigit h) fun z35 h36 => if z35 = -1 then (qb2 (f5_readComma h36) fun z27 h28 => if z27 = -1 then (qb2 (f5_readDigit h28) fun z30 h31 => if z30 = -1 then (f6_add 39 z (h36.1 3 5) (h31.1 3 5) h31).bind fun h24 => some (z30, h24) else some (z30, h31)) else some (z27, h28)) else some (z35, h36) := by
  unfold tX
  rw [if_neg (by decide), qj_e, if_neg (by decide)]
  congr 1
  funext z35 h36
  by_cases c : z35 = -1
  · simp only [qj_e, qlt_e, if_pos c, if_true]
    congr 1
    funext z27 h28
    by_cases c2 : z27 = -1
    · simp only [if_pos c2]
    · simp only [if_neg c2]
  · simp only [qj_e, qlt_e, if_neg c]
noncomputable def tM (p1 z3 : Int32) (h9 : qH) : Option qH :=
    qj (fun (h10 : qH) =>
      qb2 (f9_number (0 : Int32) (99 : Int32) h10) fun (z13 : Int32) (h14 : qH) =>
      qg (qin (p1 + (1 : Int32)) 240) <|
      qlt (qw h14 7 (ix (p1 + (1 : Int32))) z13) fun (h15 : qH) =>
      some h15) fun j11 =>
    if z3 = (0 : Int32) then (
      j11 h9)
    else (
      if z3 = (1 : Int32) then (
      some h9)
    else (
      if z3 = (3 : Int32) then (
      j11 h9)
    else (
      if z3 = (7 : Int32) then (
      some h9)
    else (
      if z3 = (9 : Int32) then (
      j11 h9)
    else (
      if z3 = (10 : Int32) then (
      some h9)
    else (
      qb2 (f9_digit h9) fun (z22 : Int32) (h23 : qH) =>
      qg (qin (p1 + (1 : Int32)) 240) <|
      qlt (qw h23 7 (ix (p1 + (1 : Int32))) z22) fun (h24 : qH) =>
      qj (fun (h25 : qH) =>
        some h25) fun j26 =>
      qj ((f9_comma h24).bind fun (h30 : qH) =>
        qb2 (f9_digit h30) fun (z31 : Int32) (h32 : qH) =>
        qg (qin (p1 + (2 : Int32)) 240) <|
        qlt (qw h32 7 (ix (p1 + (2 : Int32))) z31) fun (h33 : qH) =>
        j26 h33) fun j28 =>
      if z3 = (2 : Int32) then (
        j28)
      else (
        if z3 = (6 : Int32) then (
          j28)
        else (
          j26 h24))))))))
theorem tM0 {t z : Int32} {h : qH} (hz : z = 1 ∨ z = 7 ∨ z = 10) : tM t z h = some h := by
  unfold tM
  rw [qj_e]
  rcases hz with e | e | e <;> subst e
  · rw [if_neg (by decide), if_pos (by decide)]
  · rw [if_neg (by decide), if_neg (by decide), if_neg (by decide), if_pos (by decide)]
  · rw [if_neg (by decide), if_neg (by decide), if_neg (by decide), if_neg (by decide), if_neg (by decide), if_pos (by decide)]
theorem tM1 {t z : Int32} {h : qH} (hz : z = 0 ∨ z = 3 ∨ z = 9) (q1 : qin (t + 1) 240 = true) : tM t z h = qb2 (f9_number 0 99 h) fun z13 h14 => some (qw h14 7 (ix (t + 1)) z13) := by
  unfold tM
  rw [qj_e, q1]
  rcases hz with e | e | e <;> subst e
  · rw [if_pos (by decide)]; rfl
  · rw [if_neg (by decide), if_neg (by decide), if_pos (by decide)]; rfl
  · rw [if_neg (by decide), if_neg (by decide), if_neg (by decide), if_neg (by decide), if_pos (by decide)]; rfl
theorem tM2 {t z : Int32} {h : qH} (hz : z = 4 ∨ z = 5 ∨ z = 8) (q1 : qin (t + 1) 240 = true) : tM t z h = qb2 (f9_digit h) fun z13 h14 => some (qw h14 7 (ix (t + 1)) z13) := by
  unfold tM
  rw [qj_e, q1]
  rcases hz with e | e | e <;> subst e <;> rw [if_neg (by decide), if_neg (by decide), if_neg (by decide), if_neg (by decide), if_neg (by decide), if_neg (by decide)] <;> congr 1 <;> funext z22 h23 <;> rw [qg_t, qlt_e, qj_e, qj_e, if_neg (by decide), if_neg (by decide)]
theorem tM3 {t z : Int32} {h : qH} (hz : z = 2 ∨ z = 6) (q1 : qin (t + 1) 240 = true) (q2 : qin (t + 2) 240 = true) : tM t z h = qb2 (f9_digit h) fun z13 h14 => (f9_comma (qw h14 7 (ix (t + 1)) z13)).bind fun h30 => qb2 (f9_digit h30) fun z31 h32 => some (qw h32 7 (ix (t + 2)) z31) := by
  unfold tM
  rw [qj_e, q1, q2]
  rcases hz with e | e <;> subst e <;> rw [if_neg (by decide), if_neg (by decide), if_neg (by decide), if_neg (by decide), if_neg (by decide), if_neg (by decide)] <;> congr 1 <;> funext z22 h23 <;> rw [qg_t, qlt_e, qj_e, qj_e]
theorem RD.row7 {j : Nat} {v : Int32} (r : RD L p hx hm) : RD L p hx (qrow hm 7 (upd (hm.1 7) j v)) := ⟨r.1.cg rfl rfl (by rw [qrow_ne (by omega)]) (qrow_ne (by omega)), r.2.1, by rw [qrow_ne (by omega)]; exact r.2.2.1, r.2.2.2.1, by rw [qrow_ne (by omega)]; exact r.2.2.2.2⟩
theorem u1 {f : Nat → Int32} {t : Nat} {a b c d : Int32} : upd (upd (upd (upd f t a) (t + 1) b) (t + 2) c) (t + 1) d = upd (upd (upd f t a) (t + 1) d) (t + 2) c := by
  funext k
  by_cases k1 : k = t + 1
  · subst k1; rw [upd_at, upd_ne (by omega), upd_at]
  · rw [upd_ne k1]
    by_cases k2 : k = t + 2
    · subst k2; rw [upd_at, upd_at]
    · rw [upd_ne k2, upd_ne k1, upd_ne k2, upd_ne k1]
theorem u2 {f : Nat → Int32} {t : Nat} {c d : Int32} : upd (upd f (t + 2) c) (t + 2) d = upd f (t + 2) d := by
  funext k
  by_cases k1 : k = t + 2
  · subst k1; rw [upd_at, upd_at]
  · rw [upd_ne k1, upd_ne k1, upd_ne k1]
/-- a step is added to the draft -/
def hxS (h : qH) (i : Nat) (a b c : Int32) : qH := qrow (qrow (qrow (qrow h 40 (upd (h.1 40) i a)) 41 (upd (h.1 41) i b)) 42 (upd (h.1 42) i c)) 39 (upd (h.1 39) 3 (nI (i + 1)))
theorem add6_eq {i : Nat} {a b c : Int32} (hi : i < 16) (hs : hx.1 39 3 = nI i) : f6_add 39 a b c hx = some (hxS hx i a b c) := by
  have q16 : qin (nI i) 16 = true := qin_nI hi (by omega)
  unfold f6_add hxS
  rw [qj_e, hs, if_neg (show ¬ (16 : Int32) ≤ nI i from nI_ge (b := 16) hi (by omega))]
  simp only [qlt_e, qw, show (39 : Nat) + 1 = 40 from rfl, show (39 : Nat) + 2 = 41 from rfl, show (39 : Nat) + 3 = 42 from rfl, qrow_ne (show (39 : Nat) ≠ 40 by omega), qrow_ne (show (39 : Nat) ≠ 41 by omega), qrow_ne (show (39 : Nat) ≠ 42 by omega), qrow_ne (show (41 : Nat) ≠ 40 by omega), qrow_ne (show (42 : Nat) ≠ 40 by omega), qrow_ne (show (42 : Nat) ≠ 41 by omega), hs, q16, qg_t, ix_nI (show i < 2 ^ 31 by omega), nI_1]
theorem hxS_o {i b' : Nat} {a b c : Int32} (h : ¬ (39 ≤ b' ∧ b' ≤ 42)) : (hxS hx i a b c).1 b' = hx.1 b' := by
  unfold hxS
  rw [qrow_ne (by omega), qrow_ne (by omega), qrow_ne (by omega), qrow_ne (by omega)]
theorem hxS_v {i : Nat} {a b c : Int32} : (hxS hx i a b c).1 39 = upd (hx.1 39) 3 (nI (i + 1)) ∧ (hxS hx i a b c).1 40 = upd (hx.1 40) i a ∧ (hxS hx i a b c).1 41 = upd (hx.1 41) i b ∧ (hxS hx i a b c).1 42 = upd (hx.1 42) i c := by
  unfold hxS
  refine ⟨qrow_at _ _ _, ?_, ?_, ?_⟩
  · rw [qrow_ne (by omega), qrow_ne (by omega), qrow_ne (by omega), qrow_at]
  · rw [qrow_ne (by omega), qrow_ne (by omega), qrow_at]
  · rw [qrow_ne (by omega), qrow_at]
/-- the reference's row of a step -/
def hmS (h : qH) (t : Nat) (a b c : Int32) : qH := qrow h 7 (upd (upd (upd (h.1 7) t a) (t + 1) b) (t + 2) c)
theorem hmS_o {t b' : Nat} {a b c : Int32} (h : b' ≠ 7) : (hmS hm t a b c).1 b' = hm.1 b' := qrow_ne h
/-- what a step's reading tells -/
def SOK (L : Nat) (hx hm : qH) (i t : Nat) (ox : Option (Int32 × qH)) (om : Option qH) : Prop := ∃ (p' act : Nat) (a b : Int32) (hx' hm' : qH), act ≤ 10 ∧ (act = 7 → a = -1) ∧ RD L p' hx' hm' ∧ ox = some (-1, hx') ∧ om = some hm' ∧ (∀ c, c ≠ 3 → ¬ (39 ≤ c ∧ c ≤ 42) → hx'.1 c = hx.1 c) ∧ (∀ j, j ≠ 4 → j ≠ 5 → hx'.1 3 j = hx.1 3 j) ∧ hx'.1 39 = upd (hx.1 39) 3 (nI (i + 1)) ∧ hx'.1 40 = upd (hx.1 40) i (nI act) ∧ hx'.1 41 = upd (hx.1 41) i a ∧ hx'.1 42 = upd (hx.1 42) i b ∧ (∀ c, c ≠ 0 → c ≠ 7 → hm'.1 c = hm.1 c) ∧ (∀ j, j ≠ 3 → j ≠ 4 → hm'.1 0 j = hm.1 0 j) ∧ hm'.1 7 t = nI act ∧ hm'.1 7 (t + 1) = a ∧ hm'.1 7 (t + 2) = b ∧ ∀ k, k ≠ t → k ≠ t + 1 → k ≠ t + 2 → hm'.1 7 k = hm.1 7 k
def SBD (hx hm : qH) (t : Nat) (ox : Option (Int32 × qH)) (om : Option qH) : Prop := ∃ (q : Nat) (hx' hm' : qH), q ≤ 240 ∧ ox = some (nI q, hx') ∧ om = some hm' ∧ hm'.1 0 4 = nI q ∧ RX hx hx' ∧ (∀ c, c ≠ 0 → c ≠ 7 → hm'.1 c = hm.1 c) ∧ (∀ j, j ≠ 3 → j ≠ 4 → hm'.1 0 j = hm.1 0 j) ∧ ∀ k, k ≠ t → k ≠ t + 1 → k ≠ t + 2 → hm'.1 7 k = hm.1 7 k
theorem RD.rstep (h : RD L p hx hm) {i n : Nat} (hi : i < 16) (hn : n ≤ 4) (hs : hx.1 39 3 = nI i) : SOK L hx hm i (3 * (16 * n + i)) (f5_readStep 39 hx) (f9_readStep (nI (3 * (16 * n + i))) hm) ∨ SBD hx hm (3 * (16 * n + i)) (f5_readStep 39 hx) (f9_readStep (nI (3 * (16 * n + i))) hm) := by
  obtain ⟨p0, x0, y0, a1, a2, a3, a4, a5, a6, a7, a8⟩ := h.nx
  obtain ⟨z, s1, s2, s3⟩ := sort_sg h.1 p0
  have hb := h.1.2.2.1
  have ht : 3 * (16 * n + i) + 2 < 240 := by omega
  generalize 3 * (16 * n + i) = t at ht
  have q0 : qin (nI t) 240 = true := qin_nI (by omega) (by omega)
  have q1 : qin (nI (t + 1)) 240 = true := qin_nI (by omega) (by omega)
  have q2 : qin (nI (t + 2)) 240 = true := qin_nI (by omega) (by omega)
  unfold f5_readStep f9_readStep
  rw [a7, a8, qb2_s, qb2_s, s1, s2, bind_s, bind_s]
  rcases s3 with s3 | ⟨hp0, j, hj, ej⟩
  · right
    rw [s3, if_neg (by decide), if_pos rfl, bad_eq a2.2.2.2.2 a2.2.2.1, bind_s, a2.2.1]
    exact ⟨p0, x0, _, by have := a2.2.2.2.1; omega, rfl, rfl, by rw [qrow_at, upd_at], a3, fun c c1 c2 => by rw [qrow_ne c1, a4.1 c c1], fun j j1 j2 => by rw [qrow_at, upd_ne j2, a4.2.1 j j1 j2], fun k _ _ _ => by rw [qrow_ne (by omega), a4.1 7 (by omega)]⟩
  · rw [ej, if_pos (nI_pos' (by omega)), if_neg (nI_m1 (by omega)), a2.2.1, a2.2.2.1, nI_1]
    have b2 := a2.step hp0
    let x1 : qH := qw x0 3 4 (nI (p0 + 1))
    let y1 : qH := qw y0 0 3 (nI (p0 + 1))
    have rx1 : RX hx x1 := a3.tr (RX.at (Or.inl rfl))
    have rm1 : RM hm y1 := a4.tr (RM.at (Or.inl rfl))
    have b2 : RD L (p0 + 1) x1 y1 := b2
    let y2 : qH := hmS y1 t (nI j) (-1) (-1)
    have b3 : RD L (p0 + 1) x1 y2 := ⟨b2.1.cg rfl rfl (by rw [hmS_o (by omega)]) (hmS_o (by omega)), b2.2.1, by rw [hmS_o (by omega)]; exact b2.2.2.1, b2.2.2.2.1, by rw [hmS_o (by omega)]; exact b2.2.2.2.2⟩
    have y27 : y2.1 7 = upd (upd (upd (hm.1 7) t (nI j)) (t + 1) (-1)) (t + 2) (-1) := by
      show (qrow y1 7 _).1 7 = _
      rw [qrow_at, rm1.1 7 (by omega)]
    have y2o : ∀ c, c ≠ 0 → c ≠ 7 → y2.1 c = hm.1 c := fun c c1 c2 => by rw [hmS_o c2, rm1.1 c c1]
    have y20 : ∀ j', j' ≠ 3 → j' ≠ 4 → y2.1 0 j' = hm.1 0 j' := fun j' c1 c2 => by rw [hmS_o (by omega), rm1.2.1 j' c1 c2]
    have x139 : x1.1 39 = hx.1 39 := rx1.1 39 (by omega)
    have hs1 : x1.1 39 3 = nI i := by rw [x139]; exact hs
    have e1t : nI t + 1 = nI (t + 1) := nI_1 t
    have e2t : nI t + 2 = nI (t + 2) := nI_add t 2
    have tails : (SOK L hx hm i t (tX (nI j) (stForms j) x1) (tM (nI t) (nI j) y2) ∨ SBD hx hm t (tX (nI j) (stForms j) x1) (tM (nI t) (nI j) y2)) → (SOK L hx hm i t (qlt x1 fun h5 => qg (qin (nI j) 11) (qlt (stForms (ix (nI j))) fun x6 => tX (nI j) x6 h5)) (qlt y1 fun h6 => qg (qin (nI t) 240) (qlt (qw h6 7 (ix (nI t)) (nI j)) fun h7 => qg (qin (nI t + 1) 240) (qlt (qw h7 7 (ix (nI t + 1)) (-1)) fun h8 => qg (qin (nI t + 2) 240) (qlt (qw h8 7 (ix (nI t + 2)) (-1)) fun h9 => tM (nI t) (nI j) h9)))) ∨ SBD hx hm t (qlt x1 fun h5 => qg (qin (nI j) 11) (qlt (stForms (ix (nI j))) fun x6 => tX (nI j) x6 h5)) (qlt y1 fun h6 => qg (qin (nI t) 240) (qlt (qw h6 7 (ix (nI t)) (nI j)) fun h7 => qg (qin (nI t + 1) 240) (qlt (qw h7 7 (ix (nI t + 1)) (-1)) fun h8 => qg (qin (nI t + 2) 240) (qlt (qw h8 7 (ix (nI t + 2)) (-1)) fun h9 => tM (nI t) (nI j) h9))))) := by
      intro hh
      rw [qin_nI (show j < 11 by omega) (by omega), ix_nI (show j < 2 ^ 31 by omega), e1t, e2t, q0, q1, q2, ix_nI (show t < 2 ^ 31 by omega), ix_nI (show t + 1 < 2 ^ 31 by omega), ix_nI (show t + 2 < 2 ^ 31 by omega)]
      simp only [qlt_e, qg_t]
      have ey2 : qw (qw (qw y1 7 t (nI j)) 7 (t + 1) (-1)) 7 (t + 2) (-1) = y2 := by
        show _ = qrow y1 7 (upd (upd (upd (y1.1 7) t (nI j)) (t + 1) (-1)) (t + 2) (-1))
        simp only [qw, qrow_at, qrow_qrow]
      rw [ey2]
      exact hh
    refine tails ?_
    clear tails
    -- how the kinds end
    have okS : ∀ (p' : Nat) (a b : Int32) (xx yy : qH), (j = 7 → a = -1) → RD L p' xx yy → RX hx xx → (∀ c, c ≠ 0 → c ≠ 7 → yy.1 c = hm.1 c) → (∀ j', j' ≠ 3 → j' ≠ 4 → yy.1 0 j' = hm.1 0 j') → yy.1 7 = upd (upd (upd (hm.1 7) t (nI j)) (t + 1) a) (t + 2) b → SOK L hx hm i t (some (-1, hxS xx i (nI j) a b)) (some yy) := by
      intro p' a b xx yy h7 r rx m1 m2 m7
      have v := hxS_v (hx := xx) (i := i) (a := nI j) (b := a) (c := b)
      rw [rx.1 39 (by omega), rx.1 40 (by omega), rx.1 41 (by omega), rx.1 42 (by omega)] at v
      refine ⟨p', j, a, b, _, _, hj, h7, ⟨r.1.cg (by rw [hxS_o (by omega)]) (hxS_o (by omega)) rfl rfl, by rw [hxS_o (by omega)]; exact r.2.1, r.2.2.1, r.2.2.2.1, r.2.2.2.2⟩, rfl, rfl, fun c c1 c2 => by rw [hxS_o c2, rx.1 c c1], fun j' c1 c2 => by rw [hxS_o (by omega), rx.2.1 j' c1 c2], v.1, v.2.1, v.2.2.1, v.2.2.2, m1, m2, ?_, ?_, ?_, fun k k1 k2 k3 => ?_⟩
      · rw [m7, upd_ne (by omega), upd_ne (by omega), upd_at]
      · rw [m7, upd_ne (by omega), upd_at]
      · rw [m7, upd_at]
      · rw [m7, upd_ne k3, upd_ne k2, upd_ne k1]
    have bdS : ∀ (q : Nat) (xx yy : qH), q ≤ 240 → RX hx xx → yy.1 0 4 = nI q → (∀ c, c ≠ 0 → c ≠ 7 → yy.1 c = hm.1 c) → (∀ j', j' ≠ 3 → j' ≠ 4 → yy.1 0 j' = hm.1 0 j') → (∀ k, k ≠ t → k ≠ t + 1 → k ≠ t + 2 → yy.1 7 k = hm.1 7 k) → SBD hx hm t (some (nI q, xx)) (some yy) := fun q xx yy hq rx e m1 m2 m7 => ⟨q, xx, yy, hq, rfl, rfl, e, rx, m1, m2, m7⟩
    have u7 : ∀ k, k ≠ t → k ≠ t + 1 → k ≠ t + 2 → y2.1 7 k = hm.1 7 k := fun k k1 k2 k3 => by rw [y27, upd_ne k3, upd_ne k2, upd_ne k1]
    have bare : j = 1 ∨ j = 7 ∨ j = 10 → SOK L hx hm i t (some (-1, hxS x1 i (nI j) (-1) (-1))) (some y2) := fun _ => okS (p0 + 1) (-1) (-1) x1 y2 (fun _ => rfl) b3 rx1 y2o y20 y27
    have hq1 : qin (nI t + 1) 240 = true := by rw [e1t]; exact q1
    have hq2 : qin (nI t + 2) 240 = true := by rw [e2t]; exact q2
    have hi1 : ix (nI t + 1) = t + 1 := by rw [e1t]; exact ix_nI (by omega)
    have hi2 : ix (nI t + 2) = t + 2 := by rw [e2t]; exact ix_nI (by omega)
    have one : ∀ (fx : Option (Int32 × qH)) (fm : Option (Int32 × qH)), j ≠ 7 → ((∃ (p' v : Nat) (xx yy : qH), RD L p' xx yy ∧ RX x1 xx ∧ RM y2 yy ∧ xx.1 3 5 = nI v ∧ fx = some (-1, xx) ∧ fm = some (nI v, yy)) ∨ ∃ (q : Nat) (v : Int32) (xx yy : qH), BD x1 y2 xx yy q ∧ fx = some (nI q, xx) ∧ fm = some (v, yy)) → SOK L hx hm i t (qb2 fx fun z33 h34 => if z33 = -1 then (f6_add 39 (nI j) (h34.1 3 5) (-1) h34).bind fun h24 => some (z33, h24) else some (z33, h34)) (qb2 fm fun z13 h14 => some (qw h14 7 (ix (nI t + 1)) z13)) ∨ SBD hx hm t (qb2 fx fun z33 h34 => if z33 = -1 then (f6_add 39 (nI j) (h34.1 3 5) (-1) h34).bind fun h24 => some (z33, h24) else some (z33, h34)) (qb2 fm fun z13 h14 => some (qw h14 7 (ix (nI t + 1)) z13)) := by
      intro fx fm j7 hh
      rcases hh with ⟨p', v, xx, yy, r, rx, rm, nv, e1, e2⟩ | ⟨q, v, xx, yy, ⟨rx, rm, e4, hq⟩, e1, e2⟩
      · left
        have r39 : xx.1 39 3 = nI i := by rw [rx.1 39 (by omega)]; exact hs1
        rw [e1, e2, qb2_s, qb2_s, if_pos rfl, nv, add6_eq hi r39, bind_s, hi1]
        refine okS p' (nI v) (-1) xx _ (fun e => absurd e j7) r.row7 (rx1.tr rx) (fun c c1 c2 => by rw [qrow_ne c2, rm.1 c c1, y2o c c1 c2]) (fun j' c1 c2 => by rw [qrow_ne (by omega), rm.2.1 j' c1 c2, y20 j' c1 c2]) ?_
        rw [qrow_at, rm.1 7 (by omega), y27, u1]
      · right
        rw [e1, e2, qb2_s, qb2_s, if_neg (nI_m1 (by omega)), hi1]
        exact bdS q xx _ hq (rx1.tr rx) (by rw [qrow_ne (by omega)]; exact e4) (fun c c1 c2 => by rw [qrow_ne c2, rm.1 c c1, y2o c c1 c2]) (fun j' c1 c2 => by rw [qrow_ne (by omega), rm.2.1 j' c1 c2, y20 j' c1 c2]) (fun k k1 k2 k3 => by rw [qrow_at, upd_ne k2, rm.1 7 (by omega), u7 k k1 k2 k3])
    have jc : (j = 1 ∨ j = 7 ∨ j = 10) ∨ (j = 0 ∨ j = 3 ∨ j = 9) ∨ (j = 4 ∨ j = 5 ∨ j = 8) ∨ j = 2 ∨ j = 6 := by omega
    rcases jc with jc | jc | jc | jc
    · have ef : stForms j = 0 := by rcases jc with e | e | e <;> rw [e] <;> decide
      have ez : nI j = 1 ∨ nI j = 7 ∨ nI j = 10 := by rcases jc with e | e | e <;> rw [e] <;> decide
      rw [ef, tX0, tM0 ez, add6_eq hi hs1, bind_s]
      exact Or.inl (bare jc)
    · have ef : stForms j = 1 := by rcases jc with e | e | e <;> rw [e] <;> decide
      have ez : nI j = 0 ∨ nI j = 3 ∨ nI j = 9 := by rcases jc with e | e | e <;> rw [e] <;> decide
      rw [ef, tX1, tM1 ez hq1]
      refine one _ _ (by omega) ?_
      rcases b3.number (lo := 0) (hi := 99) (by omega) (by omega) with ⟨p', v, xx, yy, -, -, r, rx, rm, nv, e1, e2⟩ | ⟨q, v, xx, yy, g, e1, e2⟩
      · exact Or.inl ⟨p', v, xx, yy, r, rx, rm, nv, e1, e2⟩
      · exact Or.inr ⟨q, v, xx, yy, g, e1, e2⟩
    · have ef : stForms j = 2 := by rcases jc with e | e | e <;> rw [e] <;> decide
      have ez : nI j = 4 ∨ nI j = 5 ∨ nI j = 8 := by rcases jc with e | e | e <;> rw [e] <;> decide
      rw [ef, tX2, tM2 ez hq1]
      refine one _ _ (by omega) ?_
      rcases b3.digit with ⟨p', v, xx, yy, -, -, r, rx, rm, nv, e1, e2⟩ | ⟨q, xx, yy, g, e1, e2⟩
      · exact Or.inl ⟨p', v, xx, yy, r, rx, rm, nv, e1, e2⟩
      · exact Or.inr ⟨q, 0, xx, yy, g, e1, e2⟩
    · have ef : stForms j = 3 := by rcases jc with e | e <;> rw [e] <;> decide
      have ez : nI j = 2 ∨ nI j = 6 := by rcases jc with e | e <;> rw [e] <;> decide
      rw [ef, tX3, tM3 ez hq1 hq2, hi1, hi2]
      rcases b3.digit with ⟨p', v, xx, yy, -, -, r, rx, rm, nv, e1, e2⟩ | ⟨q, xx, yy, ⟨rx, rm, e4, hq⟩, e1, e2⟩
      · have r2 : RD L p' xx (qw yy 7 (t + 1) (nI v)) := r.row7
        rw [e1, e2, qb2_s, qb2_s, if_pos rfl, nv]
        rcases r2.comma with ⟨p2, x3, y3, r3, rx3, rm3, nv3, e3, e4⟩ | ⟨q, x3, y3, ⟨rx3, rm3, e4', hq⟩, e3, e4⟩
        · rw [e3, e4, qb2_s, bind_s, if_pos rfl]
          rcases r3.digit with ⟨p4, w, x5, y5, -, -, r5, rx5, rm5, nv5, e5, e6⟩ | ⟨q, x5, y5, ⟨rx5, rm5, e4', hq⟩, e5, e6⟩
          · left
            have r39 : x5.1 39 3 = nI i := by rw [rx5.1 39 (by omega), rx3.1 39 (by omega), rx.1 39 (by omega)]; exact hs1
            rw [e5, e6, qb2_s, qb2_s, if_pos rfl, nv5, add6_eq hi r39, bind_s]
            refine okS p4 (nI v) (nI w) x5 _ (fun e => by omega) r5.row7 (((rx1.tr rx).tr rx3).tr rx5) (fun c c1 c2 => by rw [qrow_ne c2, rm5.1 c c1, rm3.1 c c1, qrow_ne c2, rm.1 c c1, y2o c c1 c2]) (fun j' c1 c2 => by rw [qrow_ne (by omega), rm5.2.1 j' c1 c2, rm3.2.1 j' c1 c2, qrow_ne (by omega), rm.2.1 j' c1 c2, y20 j' c1 c2]) ?_
            rw [qrow_at, rm5.1 7 (by omega), rm3.1 7 (by omega), qrow_at, rm.1 7 (by omega), y27, u1, u2]
          · right
            rw [e5, e6, qb2_s, qb2_s, if_neg (nI_m1 (by omega))]
            exact bdS q x5 _ hq (((rx1.tr rx).tr rx3).tr rx5) (by rw [qrow_ne (by omega)]; exact e4') (fun c c1 c2 => by rw [qrow_ne c2, rm5.1 c c1, rm3.1 c c1, qrow_ne c2, rm.1 c c1, y2o c c1 c2]) (fun j' c1 c2 => by rw [qrow_ne (by omega), rm5.2.1 j' c1 c2, rm3.2.1 j' c1 c2, qrow_ne (by omega), rm.2.1 j' c1 c2, y20 j' c1 c2]) (fun k k1 k2 k3 => by rw [qrow_at, upd_ne k3, rm5.1 7 (by omega), rm3.1 7 (by omega), qrow_at, upd_ne k2, rm.1 7 (by omega), u7 k k1 k2 k3])
        · right
          rw [e3, e4, qb2_s, bind_s, if_neg (nI_m1 (by omega)), digitW e4' hq, qb2_s]
          exact bdS q x3 _ hq ((rx1.tr rx).tr rx3) (by rw [qrow_ne (by omega), qrow_at, upd_at]) (fun c c1 c2 => by rw [qrow_ne c2, qrow_ne c1, rm3.1 c c1, qrow_ne c2, rm.1 c c1, y2o c c1 c2]) (fun j' c1 c2 => by rw [qrow_ne (by omega), qrow_at, upd_ne c2, rm3.2.1 j' c1 c2, qrow_ne (by omega), rm.2.1 j' c1 c2, y20 j' c1 c2]) (fun k k1 k2 k3 => by rw [qrow_at, upd_ne k3, qrow_ne (by omega), rm3.1 7 (by omega), qrow_at, upd_ne k2, rm.1 7 (by omega), u7 k k1 k2 k3])
      · right
        have w4 : (qw yy 7 (t + 1) 0).1 0 4 = nI q := by rw [qrow_ne (by omega)]; exact e4
        have w5 : (qw (qw yy 7 (t + 1) 0) 0 4 (nI q)).1 0 4 = nI q := by rw [qrow_at, upd_at]
        rw [e1, e2, qb2_s, qb2_s, if_neg (nI_m1 (by omega)), commaW w4 hq, bind_s, digitW w5 hq, qb2_s]
        exact bdS q xx _ hq (rx1.tr rx) (by rw [qrow_ne (by omega), qrow_at, upd_at]) (fun c c1 c2 => by rw [qrow_ne c2, qrow_ne c1, qrow_ne c1, qrow_ne c2, rm.1 c c1, y2o c c1 c2]) (fun j' c1 c2 => by rw [qrow_ne (by omega), qrow_at, upd_ne c2, qrow_at, upd_ne c2, qrow_ne (by omega), rm.2.1 j' c1 c2, y20 j' c1 c2]) (fun k k1 k2 k3 => by rw [qrow_at, upd_ne k3, qrow_ne (by omega), qrow_ne (by omega), qrow_at, upd_ne k2, rm.1 7 (by omega), u7 k k1 k2 k3])
end PM1
