section PG
variable {T B F a : Nat} {r : Nat → Nat} {hx hm : qH}
/-- from one pair of stores to another, by the same act on both sides -/
def OP (T : Nat) (r : Nat → Nat) (B F a : Nat) (hx hm hx' hm' : qH) : Prop := QQ T r B F hx' a hm' ∧ FX a hx hx' ∧ FM hm hm' ∧ hx'.1 a 6 - hm'.1 0 18 = hx.1 a 6 - hm.1 0 18
theorem OP.rf (q : QQ T r B F hx a hm) : OP T r B F a hx hm hx hm := ⟨q, FX.rf, FM.rf, rfl⟩
theorem OP.tr {B1 F1 B2 F2 : Nat} {h1 m1 h2 m2 : qH} (x : OP T r B1 F1 a hx hm h1 m1) (y : OP T r B2 F2 a h1 m1 h2 m2) : OP T r B2 F2 a hx hm h2 m2 := ⟨y.1, x.2.1.tr y.2.1, x.2.2.1.tr y.2.2.1, y.2.2.2.trans x.2.2.2⟩
theorem QQ.putAwayO (q : QQ T r B F hx a hm) (ka : kStage a) {t d : Nat} (ht : t < T) (hd : hx.1 (a + 1) t = nI d) (hd2 : d < 2 ^ 31) : ∃ hx' hm', f7_putAway a (nI t) hx = some (nI d, hx') ∧ f9_unmounts (nI t) hm = some hm' ∧ OP T r B F a hx hm hx' hm' ∧ hx'.1 (a + 1) = upd (hx.1 (a + 1)) t (-1) := by
  obtain ⟨p, hp, h1, h2, h3⟩ := q.putAway ka ht hd hd2
  have hT := q.t31
  refine ⟨_, _, h1, h2, ⟨h3, hxU_fx, (FM.now fun k hk => rowU_ne (by omega) (by omega) (by omega) (by omega)), ?_⟩, hxU_1⟩
  rw [hxU_0, upd_ne (by omega), upd_ne (by omega), qrow_ne (by omega)]
def wm (x : Int32) : Int32 := if (99 : Int32) < x + 1 then 99 else x + 1
theorem wm_eq (x : Int32) : (if x + 1 < (99 : Int32) then x + 1 else 99) = wm x := by
  unfold wm
  by_cases h1 : x + 1 < (99 : Int32)
  · rw [if_pos h1, if_neg (fun h => Int32.lt_irrefl (Int32.lt_trans h1 h))]
  · rw [if_neg h1]
    by_cases h2 : (99 : Int32) < x + 1
    · rw [if_pos h2]
    · rw [if_neg h2]
      exact Int32.le_antisymm (Int32.not_lt.mp h1) (Int32.not_lt.mp h2)
noncomputable def cMt (a : Nat) (p1 x3 : Int32) (h4 : qH) : Option (Int32 × qH) :=
  qlt ((h4.1 7 0) + x3) fun (x7 : Int32) =>
  (f4_armTime 6 (h4.1 a 3) p1 h4).bind fun (z8 : Int32) =>
  (f4_armTime 6 p1 x7 h4).bind fun (z9 : Int32) =>
  qlt (qw h4 a 2 ((h4.1 a 2) + ((z8 + z9) + (h4.1 7 4)))) fun (h10 : qH) =>
  qlt (qw h10 a 3 x7) fun (h11 : qH) =>
  qg (qin p1 8) <|
  qlt (qw h11 (a + 1) (ix p1) x3) fun (h12 : qH) =>
  qg (qin p1 8) <|
  qlt (qw h12 (a + 2) (ix p1) (0 : Int32)) fun (h13 : qH) =>
  qg (qin p1 8) <|
  qg (qin p1 8) <|
  qlt (qw h13 (a + 4) (ix p1) (if (99 : Int32) < ((h13.1 (a + 4) (ix p1)) + (1 : Int32)) then (99 : Int32) else ((h13.1 (a + 4) (ix p1)) + (1 : Int32)))) fun (h14 : qH) =>
  qg (qin p1 8) <|
  qlt (qw h14 (a + 6) (ix p1) (h14.1 a 2)) fun (h15 : qH) =>
  qlt (qw h15 a 6 ((h15.1 a 6) + (1 : Int32))) fun (h16 : qH) =>
  some (x3, h16)
theorem f7_bringIn_eq (p1 : Int32) (h : qH) : f7_bringIn a p1 h = qg (qin p1 8) (if (h.1 (a + 1) (ix p1)) = (-1 : Int32) then ((f7_lowestEmptyDrive a h).bind fun z2 => if z2 = (-1 : Int32) then ((f7_longestUnused a h).bind fun z18 => qb2 (f7_putAway a z18 h) fun z19 h20 => cMt a p1 z19 h20) else cMt a p1 z2 h) else qg (qin p1 8) (some ((h.1 (a + 1) (ix p1)), h))) := rfl
noncomputable def mMt (p1 z5 : Int32) (h2 : qH) : Option qH :=
  (f9_armTo p1 h2).bind fun (h6 : qH) =>
  (f9_armTo ((h6.1 5 0) + z5) h6).bind fun (h7 : qH) =>
  qlt (qw h7 9 170 ((h7.1 9 170) + (h7.1 5 4))) fun (h8 : qH) =>
  qg (qin ((0 : Int32) + p1) 353) <|
  qlt (qw h8 9 (ix ((0 : Int32) + p1)) ((h8.1 5 0) + z5)) fun (h9 : qH) =>
  qg (qin ((8 : Int32) + p1) 353) <|
  qlt (qw h9 9 (ix ((8 : Int32) + p1)) (0 : Int32)) fun (h10 : qH) =>
  qg (qin ((24 : Int32) + p1) 353) <|
  qg (qin ((24 : Int32) + p1) 353) <|
  qlt (qw h10 9 (ix ((24 : Int32) + p1)) (if ((h10.1 9 (ix ((24 : Int32) + p1))) + (1 : Int32)) < (99 : Int32) then ((h10.1 9 (ix ((24 : Int32) + p1))) + (1 : Int32)) else (99 : Int32))) fun (h11 : qH) =>
  qg (qin ((40 : Int32) + p1) 353) <|
  qlt (qw h11 9 (ix ((40 : Int32) + p1)) (h11.1 9 170)) fun (h12 : qH) =>
  qlt (qw h12 0 18 ((h12.1 0 18) + (1 : Int32))) fun (h13 : qH) =>
  some h13
theorem f9_mounts_eq (p1 : Int32) (h : qH) : f9_mounts p1 h = ((f9_emptyDrive h).bind fun z1 => if z1 = (-1 : Int32) then ((f9_oldest h).bind fun z15 => (f9_unmounts z15 h).bind fun h16 => (f9_emptyDrive h16).bind fun z5 => mMt p1 z5 h16) else ((f9_emptyDrive h).bind fun z5 => mMt p1 z5 h)) := rfl
/-- the time behind a mounting -/
def tmM (r : Nat → Nat) (N : Nat → Int32) (t k : Nat) : Int32 := ((N 170 + wy r (nI t) (N 169)) + wy r (nI (r 0 + k)) (nI t)) + nI (r 4)
def rowM (r : Nat → Nat) (N : Nat → Int32) (t k : Nat) : Nat → Int32 := upd (upd (upd (upd (upd (upd N 170 (tmM r N t k)) 169 (nI (r 0 + k))) t (nI (r 0 + k))) (8 + t) 0) (24 + t) (wm (N (24 + t)))) (40 + t) (tmM r N t k)
theorem mMt_eq {t k : Nat} (h0 : hm.1 5 0 = nI (r 0)) (h4 : hm.1 5 4 = nI (r 4)) (h5 : hm.1 5 5 = nI (r 5)) (ht : t < 8) : mMt (nI t) (nI k) hm = some (qw (qrow hm 9 (rowM r (hm.1 9) t k)) 0 18 (hm.1 0 18 + 1)) := by
  unfold mMt
  rw [armTo_eq (r := r) h5, bind_s]
  rw [armTo_eq (r := r) (by rw [qrow_ne (by omega)]; exact h5), bind_s]
  simp only [la_8, la_0, la_24, la_40, q353 (show t < 353 by omega), i353 (show t < 353 by omega), q353 (show 8 + t < 353 by omega), i353 (show 8 + t < 353 by omega), q353 (show 24 + t < 353 by omega), i353 (show 24 + t < 353 by omega), q353 (show 40 + t < 353 by omega), i353 (show 40 + t < 353 by omega), qg_t, qlt_e, qw, qrow_at, qrow_qrow, qrow_ne (show (5 : Nat) ≠ 9 by omega), qrow_ne (show (0 : Nat) ≠ 9 by omega), h0, h4, nI_add, wm_eq]
  congr 1
  congr 1
  congr 1
  unfold rowM tmM
  funext j
  by_cases e1 : j = 40 + t
  · subst e1
    simp only [upd_at, upd_ne (show (170 : Nat) ≠ 24 + t by omega), upd_ne (show (170 : Nat) ≠ 8 + t by omega), upd_ne (show (170 : Nat) ≠ t by omega), upd_ne (show (170 : Nat) ≠ 169 by omega), upd_ne (show (169 : Nat) ≠ 170 by omega)]
  · rw [upd_ne e1, upd_ne e1]
    by_cases e2 : j = 24 + t
    · subst e2
      simp only [upd_at, upd_ne (show 24 + t ≠ 8 + t by omega), upd_ne (show 24 + t ≠ t by omega), upd_ne (show 24 + t ≠ 170 by omega), upd_ne (show 24 + t ≠ 169 by omega)]
    · rw [upd_ne e2, upd_ne e2]
      by_cases e3 : j = 8 + t
      · subst e3; simp only [upd_at]
      · rw [upd_ne e3, upd_ne e3]
        by_cases e4 : j = t
        · subst e4; simp only [upd_at]
        · rw [upd_ne e4, upd_ne e4]
          by_cases e5 : j = 170
          · subst e5
            simp only [upd_at, upd_ne (show (170 : Nat) ≠ 169 by omega), upd_ne (show (169 : Nat) ≠ 170 by omega)]
          · by_cases e6 : j = 169
            · subst e6; simp only [upd_at, upd_ne (show (169 : Nat) ≠ 170 by omega)]
            · simp only [upd_ne e5, upd_ne e6]
/-- the class's store behind a mounting -/
def hxM (r : Nat → Nat) (a : Nat) (h : qH) (t k : Nat) (τ : Int32) : qH := qrow (qrow (qrow (qrow (qrow h a (upd (upd (upd (h.1 a) 2 τ) 3 (nI (r 0 + k))) 6 (h.1 a 6 + 1))) (a + 1) (upd (h.1 (a + 1)) t (nI k))) (a + 2) (upd (h.1 (a + 2)) t 0)) (a + 4) (upd (h.1 (a + 4)) t (wm (h.1 (a + 4) t)))) (a + 6) (upd (h.1 (a + 6)) t τ)
theorem qrow_comm {h : qH} {b c : Nat} {f g : Nat → Int32} (hne : b ≠ c) : qrow (qrow h b f) c g = qrow (qrow h c g) b f := by
  show (_, _) = (_, _)
  congr 1
  funext d
  by_cases h1 : d = b <;> by_cases h2 : d = c
  · omega
  · subst h1; simp [qrow, hne]
  · subst h2; simp [qrow, Ne.symm hne]
  · simp [qrow, h1, h2]
theorem cMt_eq {t k : Nat} {τ arm : Int32} (h0 : hx.1 7 0 = nI (r 0)) (h4 : hx.1 7 4 = nI (r 4)) (h5 : hx.1 7 5 = nI (r 5)) (ht : t < 8) (ka : kStage a) (hτ : hx.1 a 2 + ((wy r (hx.1 a 3) (nI t) + wy r (nI t) (nI (r 0 + k))) + nI (r 4)) = τ) : cMt a (nI t) (nI k) hx = some (nI k, hxM r a hx t k τ) := by
  have hlo := ka.lo
  unfold cMt
  simp only [qlt_e, h0, h4, nI_add]
  rw [arm_eq (r := r) h5, arm_eq (r := r) h5, bind_s, bind_s]
  simp only [q8 ht, ix_nI (show t < 2 ^ 31 by omega), qg_t, qw, qrow_at, qrow_qrow]
  congr 1
  congr 1
  unfold hxM
  simp only [qrow_ne (show a + 1 ≠ a by omega), qrow_ne (show a + 2 ≠ a by omega), qrow_ne (show a + 2 ≠ a + 1 by omega), qrow_ne (show a + 4 ≠ a by omega), qrow_ne (show a + 4 ≠ a + 1 by omega), qrow_ne (show a + 4 ≠ a + 2 by omega), qrow_ne (show a + 6 ≠ a by omega), qrow_ne (show a + 6 ≠ a + 1 by omega), qrow_ne (show a + 6 ≠ a + 2 by omega), qrow_ne (show a + 6 ≠ a + 4 by omega), qrow_ne (show a ≠ a + 1 by omega), qrow_ne (show a ≠ a + 2 by omega), qrow_ne (show a ≠ a + 4 by omega), qrow_ne (show a ≠ a + 6 by omega), qrow_at, hτ, upd_at, upd_ne (show (2 : Nat) ≠ 3 by omega), upd_ne (show (6 : Nat) ≠ 3 by omega), upd_ne (show (6 : Nat) ≠ 2 by omega)]
  rw [qrow_comm (show a + 6 ≠ a by omega), qrow_comm (show a + 4 ≠ a by omega), qrow_comm (show a + 2 ≠ a by omega), qrow_comm (show a + 1 ≠ a by omega), qrow_qrow]
  rfl
end PG
