section PI1
variable {T B F : Nat} {r : Nat → Nat} {hx hm : qH}
theorem layOut_eq {h : qH} (hB : HB T r) (h2 : h.1 7 2 = nI (r 2)) (h3 : h.1 7 3 = nI (r 3)) : ∃ w1 w2, (∀ b, b < r 2 * r 3 → w1 b = nI (spot r b) ∧ w2 b = nI (b / r 2)) ∧ f4_layOut 6 h = some (qrow (qrow (qrow h 6 (upd (h.1 6) 7 (nI (r 2 * r 3)))) 12 w1) 13 w2) := by
  obtain ⟨b1, b2, b3, b4, b5, b6, b7, b8, b9, b10, b11, -⟩ := hB
  have hL : r 2 * r 3 ≤ 96 := Nat.le_trans (Nat.mul_le_mul b9 b11) (by omega)
  unfold f4_layOut
  have e7 : (6 : Nat) + 1 = 7 := rfl
  rw [e7, qlt_e, qlt_e, h2, h3, nI_mul, if_neg (show ¬ (96 : Int32) < nI (r 2 * r 3) from nI_nlt (a := 96) hL (by omega))]
  obtain ⟨s, hs, e⟩ := lq10 (σ := (Nat → Int32) × (Nat → Int32)) (fun m s x => f4_layOut_L26 6 (nI (r 2)) (fun _ h14 => some h14) m x (qrow (qrow (qrow h 6 (upd (h.1 6) 7 (nI (r 2 * r 3)))) 12 s.1) 13 s.2)) (fun s _ => some (qrow (qrow (qrow h 6 (upd (h.1 6) 7 (nI (r 2 * r 3)))) 12 s.1) 13 s.2)) (fun i s => ∀ b, b < i → s.1 b = nI (spot r b) ∧ s.2 b = nI (b / r 2)) (r 2 * r 3) (by omega) (h.1 12, h.1 13) (fun b hb => by omega) (fun i s hi hs => by
    obtain ⟨w1, w2⟩ := s
    have hs : ∀ b, b < i → w1 b = nI (spot r b) ∧ w2 b = nI (b / r 2) := hs
    have g1 := nI_ge hi (show r 2 * r 3 < 2 ^ 31 by omega)
    have hq : i / r 2 ≤ i := Nat.div_le_self _ _
    have hm := Nat.mod_lt i (show 0 < r 2 by omega)
    have ed : nI i / nI (r 2) = nI (i / r 2) := pk_div (by omega) (by omega) (by omega)
    have er : nI i - nI (i / r 2) * nI (r 2) = nI (i % r 2) := by
      have := pk_rem (a := i) (d := r 2) (by omega) (by omega) (by omega)
      rw [ed] at this
      exact this
    have e2 : nI (i / r 2) - nI (i / r 2) / (2 : Int32) * (2 : Int32) = nI (i / r 2 % 2) := pk_rem (a := i / r 2) (d := 2) (by omega) (by omega) (by omega)
    have n0 : ¬ nI (r 2) ≤ 0 := nI_nle (by omega) (by omega)
    have nd : decide (¬ nI (r 2) = 0) = true := decide_eq_true (nI_ne0 (by omega) (by omega))
    have n2 : decide (¬ (2 : Int32) = 0) = true := by decide
    have q96 : qin (nI i) 96 = true := qin_nI (by omega) (by omega)
    have h3' : i / r 2 % 2 < 2 := Nat.mod_lt _ (by omega)
    have esp : (if nI (i / r 2 % 2) = 0 then nI (i % r 2) else nI (r 2) - 1 - nI (i % r 2)) = nI (spot r i) := by
      unfold spot
      by_cases hc : i / r 2 % 2 = 1
      · have p1 := pk_sub (a := r 2) (b := 1) (by omega)
        have p1 : nI (r 2) - 1 = nI (r 2 - 1) := p1
        rw [if_pos hc, if_neg (by rw [hc]; decide), p1, pk_sub (by omega)]
      · rw [if_neg hc, if_pos]
        rw [show i / r 2 % 2 = 0 by omega]
        rfl
    refine ⟨(upd w1 i (nI (spot r i)), upd w2 i (nI (i / r 2))), fun b hb => ?_, fun m => ?_⟩
    · show upd w1 i (nI (spot r i)) b = _ ∧ upd w2 i (nI (i / r 2)) b = _
      by_cases e : b = i
      · subst e; rw [upd_at, upd_at]; exact ⟨rfl, rfl⟩
      · rw [upd_ne e, upd_ne e]; exact hs b (by omega)
    · show f4_layOut_L26 6 (nI (r 2)) _ (m + 1) (nI i) (qrow (qrow (qrow h 6 _) 12 w1) 13 w2) = f4_layOut_L26 6 (nI (r 2)) _ m (nI (i + 1)) (qrow (qrow (qrow h 6 _) 12 (upd w1 i (nI (spot r i)))) 13 (upd w2 i (nI (i / r 2))))
      have c6 : ∀ w1 w2, (qrow (qrow (qrow h 6 (upd (h.1 6) 7 (nI (r 2 * r 3)))) 12 w1) 13 w2).1 6 7 = nI (r 2 * r 3) := fun w1 w2 => by rw [qrow_ne (by omega), qrow_ne (by omega), qrow_at, upd_at]
      have sw : ∀ (g : qH) (f1 f2 f3 : Nat → Int32), qrow (qrow (qrow g 12 f1) 13 f2) 12 f3 = qrow (qrow g 12 f3) 13 f2 := fun g f1 f2 f3 => by rw [qrow_comm (by omega), qrow_qrow]
      have c12 : ∀ w1 w2, (qrow (qrow (qrow h 6 (upd (h.1 6) 7 (nI (r 2 * r 3)))) 12 w1) 13 w2).1 12 = w1 := fun w1 w2 => by rw [qrow_ne (by omega), qrow_at]
      simp only [f4_layOut_L26, c6, g1, if_false, n0, nd, qg_t, ed, er, qlt_e, q96, ix_nI (show i < 2 ^ 31 by omega), qw, show (6 : Nat) + 7 = 13 from rfl, show (6 : Nat) + 6 = 12 from rfl, qrow_at, qrow_qrow, upd_at, n2, e2, esp, c12, sw, nI_1]) (fun m s _ => by
    show f4_layOut_L26 6 (nI (r 2)) _ (m + 1) (nI (r 2 * r 3)) _ = _
    rw [f4_layOut_L26, qrow_ne (by omega), qrow_ne (by omega), qrow_at, upd_at, if_pos (nI_le (Nat.le_refl _) (by omega))])
  refine ⟨s.1, s.2, hs, ?_⟩
  have e' : f4_layOut_L26 6 (nI (r 2)) (fun _ h14 => some h14) qN 0 (qrow (qrow (qrow h 6 (upd (h.1 6) 7 (nI (r 2 * r 3)))) 12 (h.1 12)) 13 (h.1 13)) = some (qrow (qrow (qrow h 6 (upd (h.1 6) 7 (nI (r 2 * r 3)))) 12 s.1) 13 s.2) := e
  have s1 : qrow (qrow (qrow h 6 (upd (h.1 6) 7 (nI (r 2 * r 3)))) 12 (h.1 12)) 13 (h.1 13) = qw h 6 7 (nI (r 2 * r 3)) := by
    have a1 : qrow (qrow h 6 (upd (h.1 6) 7 (nI (r 2 * r 3)))) 12 (h.1 12) = qrow h 6 (upd (h.1 6) 7 (nI (r 2 * r 3))) := by
      have := qrow_self (qrow h 6 (upd (h.1 6) 7 (nI (r 2 * r 3)))) 12
      rw [qrow_ne (show (12 : Nat) ≠ 6 by omega)] at this
      exact this
    rw [a1]
    have := qrow_self (qrow h 6 (upd (h.1 6) 7 (nI (r 2 * r 3)))) 13
    rw [qrow_ne (show (13 : Nat) ≠ 6 by omega)] at this
    exact this
  rw [s1] at e'
  exact e'
/-- a hall that was read, both sides -/
def DR (T : Nat) (r : Nat → Nat) (FT : Nat) (hx hm : qH) : Prop := HB T r ∧ (hx.1 14 1 = nI T ∧ hm.1 0 8 = nI T) ∧ (hx.1 14 4 = nI FT ∧ hm.1 0 9 = nI FT ∧ FT ≤ 24) ∧ (∀ k, k < 8 → hx.1 15 k = nI (r k) ∧ hm.1 2 k = nI (r k)) ∧ (∀ t, t < T → hx.1 16 t = hm.1 3 (2 * t) ∧ hx.1 17 t = hm.1 3 (2 * t + 1)) ∧ ∀ i, i < FT → ∃ u c, u ≤ 7 ∧ 1 ≤ c ∧ c ≤ 9 ∧ hx.1 18 i = nI u ∧ hm.1 4 (2 * i) = nI u ∧ hx.1 19 i = nI c ∧ hm.1 4 (2 * i + 1) = nI c
theorem become4_eq {FT : Nat} (d : DR T r FT hx hm) : ∃ h', f4_become 6 14 hx = some h' ∧ HX T r h' ∧ h'.1 6 4 = nI FT ∧ (∀ t, t < T → h'.1 8 t = hx.1 16 t ∧ h'.1 9 t = hx.1 17 t) ∧ (∀ i, i < FT → h'.1 10 i = hx.1 18 i ∧ h'.1 11 i = hx.1 19 i) ∧ (∀ b, ¬ (6 ≤ b ∧ b ≤ 13) → h'.1 b = hx.1 b) ∧ h'.2 = hx.2 := by
  obtain ⟨hB, ⟨d1, -⟩, ⟨d2, -, d3⟩, d4, -, -⟩ := d
  have b2 := hB.2.1
  unfold f4_become
  rw [show qcp (0 : Int32) 0 8 8 8 = true from by decide, show qcp (0 : Int32) 0 24 24 24 = true from by decide]
  simp only [qlt_e, qg_t, qw, ix_0, ix_8, ix_24, show (6 : Nat) + 1 = 7 from rfl, show (6 : Nat) + 2 = 8 from rfl, show (6 : Nat) + 3 = 9 from rfl, show (6 : Nat) + 4 = 10 from rfl, show (6 : Nat) + 5 = 11 from rfl, show (14 : Nat) + 1 = 15 from rfl, show (14 : Nat) + 2 = 16 from rfl, show (14 : Nat) + 3 = 17 from rfl, show (14 : Nat) + 4 = 18 from rfl, show (14 : Nat) + 5 = 19 from rfl, qrow_at, qrow_qrow, qrow_ne (show (14 : Nat) ≠ 6 by omega), qrow_ne (show (15 : Nat) ≠ 6 by omega), qrow_ne (show (7 : Nat) ≠ 6 by omega), qrow_ne (show (16 : Nat) ≠ 7 by omega), qrow_ne (show (16 : Nat) ≠ 6 by omega), qrow_ne (show (8 : Nat) ≠ 7 by omega), qrow_ne (show (8 : Nat) ≠ 6 by omega), qrow_ne (show (17 : Nat) ≠ 8 by omega), qrow_ne (show (17 : Nat) ≠ 7 by omega), qrow_ne (show (17 : Nat) ≠ 6 by omega), qrow_ne (show (9 : Nat) ≠ 8 by omega), qrow_ne (show (9 : Nat) ≠ 7 by omega), qrow_ne (show (9 : Nat) ≠ 6 by omega), qrow_ne (show (18 : Nat) ≠ 9 by omega), qrow_ne (show (18 : Nat) ≠ 8 by omega), qrow_ne (show (18 : Nat) ≠ 7 by omega), qrow_ne (show (18 : Nat) ≠ 6 by omega), qrow_ne (show (10 : Nat) ≠ 9 by omega), qrow_ne (show (10 : Nat) ≠ 8 by omega), qrow_ne (show (10 : Nat) ≠ 7 by omega), qrow_ne (show (10 : Nat) ≠ 6 by omega), qrow_ne (show (19 : Nat) ≠ 10 by omega), qrow_ne (show (19 : Nat) ≠ 9 by omega), qrow_ne (show (19 : Nat) ≠ 8 by omega), qrow_ne (show (19 : Nat) ≠ 7 by omega), qrow_ne (show (19 : Nat) ≠ 6 by omega), qrow_ne (show (11 : Nat) ≠ 10 by omega), qrow_ne (show (11 : Nat) ≠ 9 by omega), qrow_ne (show (11 : Nat) ≠ 8 by omega), qrow_ne (show (11 : Nat) ≠ 7 by omega), qrow_ne (show (11 : Nat) ≠ 6 by omega), d1, d2]
  let g : qH := qrow (qrow (qrow (qrow (qrow (qrow hx 6 (upd (upd (hx.1 6) 1 (nI T)) 4 (nI FT))) 7 (va_cpy (hx.1 15) (hx.1 7) 0 0 8)) 8 (va_cpy (hx.1 16) (hx.1 8) 0 0 8)) 9 (va_cpy (hx.1 17) (hx.1 9) 0 0 8)) 10 (va_cpy (hx.1 18) (hx.1 10) 0 0 24)) 11 (va_cpy (hx.1 19) (hx.1 11) 0 0 24)
  have go : ∀ b, ¬ (6 ≤ b ∧ b ≤ 11) → g.1 b = hx.1 b := fun b hb => by
    show (qrow (qrow (qrow (qrow (qrow (qrow hx 6 _) 7 _) 8 _) 9 _) 10 _) 11 _).1 b = _
    rw [qrow_ne (by omega), qrow_ne (by omega), qrow_ne (by omega), qrow_ne (by omega), qrow_ne (by omega), qrow_ne (by omega)]
  have g6 : g.1 6 = upd (upd (hx.1 6) 1 (nI T)) 4 (nI FT) := by
    show (qrow (qrow (qrow (qrow (qrow (qrow hx 6 _) 7 _) 8 _) 9 _) 10 _) 11 _).1 6 = _
    rw [qrow_ne (by omega), qrow_ne (by omega), qrow_ne (by omega), qrow_ne (by omega), qrow_ne (by omega), qrow_at]
  have g7 : g.1 7 = va_cpy (hx.1 15) (hx.1 7) 0 0 8 := by
    show (qrow (qrow (qrow (qrow (qrow (qrow hx 6 _) 7 _) 8 _) 9 _) 10 _) 11 _).1 7 = _
    rw [qrow_ne (by omega), qrow_ne (by omega), qrow_ne (by omega), qrow_ne (by omega), qrow_at]
  have g8 : g.1 8 = va_cpy (hx.1 16) (hx.1 8) 0 0 8 := by
    show (qrow (qrow (qrow (qrow (qrow (qrow hx 6 _) 7 _) 8 _) 9 _) 10 _) 11 _).1 8 = _
    rw [qrow_ne (by omega), qrow_ne (by omega), qrow_ne (by omega), qrow_at]
  have g9 : g.1 9 = va_cpy (hx.1 17) (hx.1 9) 0 0 8 := by
    show (qrow (qrow (qrow (qrow (qrow (qrow hx 6 _) 7 _) 8 _) 9 _) 10 _) 11 _).1 9 = _
    rw [qrow_ne (by omega), qrow_ne (by omega), qrow_at]
  have g10 : g.1 10 = va_cpy (hx.1 18) (hx.1 10) 0 0 24 := by
    show (qrow (qrow (qrow (qrow (qrow (qrow hx 6 _) 7 _) 8 _) 9 _) 10 _) 11 _).1 10 = _
    rw [qrow_ne (by omega), qrow_at]
  have g11 : g.1 11 = va_cpy (hx.1 19) (hx.1 11) 0 0 24 := by
    show (qrow (qrow (qrow (qrow (qrow (qrow hx 6 _) 7 _) 8 _) 9 _) 10 _) 11 _).1 11 = _
    rw [qrow_at]
  have cp : ∀ (f f' : Nat → Int32) (n i : Nat), i < n → va_cpy f f' 0 0 n i = f i := fun f f' n i hi => by
    show (if 0 ≤ i ∧ i < 0 + n then f (0 + (i - 0)) else f' i) = _
    rw [if_pos (by omega)]
    exact congrArg f (by omega)
  have gr : ∀ k, k < 8 → g.1 7 k = nI (r k) := fun k hk => by rw [g7, cp _ _ _ _ hk]; exact (d4 k hk).1
  obtain ⟨w1, w2, hw, lo⟩ := layOut_eq (h := g) hB (gr 2 (by omega)) (gr 3 (by omega))
  have lo' : f4_layOut 6 (qrow (qrow (qrow (qrow (qrow (qrow hx 6 (upd (upd (hx.1 6) 1 (nI T)) 4 (nI FT))) 7 (va_cpy (hx.1 15) (hx.1 7) 0 0 8)) 8 (va_cpy (hx.1 16) (hx.1 8) 0 0 8)) 9 (va_cpy (hx.1 17) (hx.1 9) 0 0 8)) 10 (va_cpy (hx.1 18) (hx.1 10) 0 0 24)) 11 (va_cpy (hx.1 19) (hx.1 11) 0 0 24)) = some (qrow (qrow (qrow g 6 (upd (g.1 6) 7 (nI (r 2 * r 3)))) 12 w1) 13 w2) := lo
  refine ⟨qrow (qrow (qrow g 6 (upd (g.1 6) 7 (nI (r 2 * r 3)))) 12 w1) 13 w2, ?_, ⟨?_, fun k hk => ?_, ?_, fun b hb => ?_⟩, ?_, fun t ht => ?_, fun i hi => ?_, fun b hb => ?_, rfl⟩
  · rw [lo', bind_s]
  · rw [qrow_ne (by omega), qrow_ne (by omega), qrow_at, upd_ne (by omega), g6, upd_ne (by omega), upd_at]
  · rw [qrow_ne (by omega), qrow_ne (by omega), qrow_ne (by omega)]
    exact gr k hk
  · rw [qrow_ne (by omega), qrow_ne (by omega), qrow_at, upd_at]
  · rw [qrow_ne (show (12 : Nat) ≠ 13 by omega), qrow_at, qrow_at]
    exact hw b hb
  · rw [qrow_ne (by omega), qrow_ne (by omega), qrow_at, upd_ne (by omega), g6, upd_at]
  · rw [qrow_ne (show (8 : Nat) ≠ 13 by omega), qrow_ne (show (8 : Nat) ≠ 12 by omega), qrow_ne (show (8 : Nat) ≠ 6 by omega), qrow_ne (show (9 : Nat) ≠ 13 by omega), qrow_ne (show (9 : Nat) ≠ 12 by omega), qrow_ne (show (9 : Nat) ≠ 6 by omega), g8, g9, cp _ _ _ _ (by omega), cp _ _ _ _ (by omega)]
    exact ⟨rfl, rfl⟩
  · rw [qrow_ne (show (10 : Nat) ≠ 13 by omega), qrow_ne (show (10 : Nat) ≠ 12 by omega), qrow_ne (show (10 : Nat) ≠ 6 by omega), qrow_ne (show (11 : Nat) ≠ 13 by omega), qrow_ne (show (11 : Nat) ≠ 12 by omega), qrow_ne (show (11 : Nat) ≠ 6 by omega), g10, g11, cp _ _ _ _ (by omega), cp _ _ _ _ (by omega)]
    exact ⟨rfl, rfl⟩
  · rw [qrow_ne (by omega), qrow_ne (by omega), qrow_ne (by omega)]
    exact go b (by omega)
end PI1
