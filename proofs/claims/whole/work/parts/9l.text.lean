section PN4
variable {B S L : Nat} {hx hm hx' hm' : qH}
/-- a draft becomes a script that is kept -/
theorem become6_eq {s c : Nat} (hs : s < 4) : ∃ x, f6_become (23 + 4 * s) 39 hx = some x ∧ x.1 (23 + 4 * s) 3 = hx.1 39 3 ∧ (∀ i, i < 16 → x.1 (24 + 4 * s) i = hx.1 40 i ∧ x.1 (25 + 4 * s) i = hx.1 41 i ∧ x.1 (26 + 4 * s) i = hx.1 42 i) ∧ ∀ b, ¬ (23 + 4 * s ≤ b ∧ b ≤ 26 + 4 * s) → x.1 b = hx.1 b := by
  unfold f6_become
  rw [show qcp (0 : Int32) 0 16 16 16 = true from by decide, qlt_e, qg_t, qlt_e, qg_t, qlt_e, qg_t, qlt_e]
  have cp : ∀ (f f' : Nat → Int32) (i : Nat), i < 16 → va_cpy f f' (ix 0) (ix 0) (ix 16) i = f i := fun f f' i hi => by
    show (if 0 ≤ i ∧ i < 0 + 16 then f (0 + (i - 0)) else _) = _
    rw [if_pos ⟨by omega, by omega⟩, show 0 + (i - 0) = i by omega]
  refine ⟨_, rfl, ?_, fun i hi => ⟨?_, ?_, ?_⟩, fun b hb => ?_⟩
  · rw [qrow_ne (by omega), qrow_ne (by omega), qrow_ne (by omega), qrow_at, upd_at]
  · rw [show 24 + 4 * s = 23 + 4 * s + 1 by omega, qrow_ne (by omega), qrow_ne (by omega), qrow_at, cp _ _ i hi, qrow_ne (by omega)]
  · rw [show 25 + 4 * s = 23 + 4 * s + 2 by omega, qrow_ne (by omega), qrow_at, cp _ _ i hi, qrow_ne (by omega), qrow_ne (by omega)]
  · rw [show 26 + 4 * s = 23 + 4 * s + 3 by omega, qrow_at, cp _ _ i hi, qrow_ne (by omega), qrow_ne (by omega), qrow_ne (by omega)]
  · rw [qrow_ne (by omega), qrow_ne (by omega), qrow_ne (by omega), qrow_ne (by omega)]
theorem WH.cg (hh : WN hx hm ∨ WO B hx hm) (f1 : ∀ b, (6 ≤ b ∧ b ≤ 13) ∨ (51 ≤ b ∧ b ≤ 62) ∨ (77 ≤ b ∧ b ≤ 83) → hx'.1 b = hx.1 b) (f2 : hx'.1 0 17 = hx.1 0 17) (m1 : ∀ b, b = 5 ∨ b = 6 ∨ b = 9 ∨ b = 13 ∨ b = 18 → hm'.1 b = hm.1 b) (m2 : ∀ j, j = 12 ∨ j = 23 ∨ j = 34 → hm'.1 0 j = hm.1 0 j) : WN hx' hm' ∨ WO B hx' hm' := by
  rcases hh with hh | ⟨T, r, F, LT, k, nx, H, lb, im⟩
  · left
    unfold WN at hh ⊢
    rw [f1 6 (by omega), f1 51 (by omega), f1 79 (by omega), f1 77 (by omega), f2, m1 9 (by omega), m2 12 (by omega), m2 23 (by omega), m2 34 (by omega)]
    exact hh
  · right
    exact ⟨T, r, F, LT, k, nx, H.cg (fun b hb => f1 b (by omega)) (m2 12 (by omega)) (m2 23 (by omega)) (m1 5 (by omega)) (m1 9 (by omega)) (m1 13 (by omega)), fun t ht => by rw [f1 8 (by omega), m1 6 (by omega)]; exact lb t ht, im.cg f2 (m2 34 (by omega)) (f1 81 (by omega)) (f1 82 (by omega)) (f1 83 (by omega)) (m1 18 (by omega))⟩
theorem WW.text (h : WW B hx hm) (x : Int32) : OK2 B (f8_text x hx) (f9_text x hm) := by
  obtain ⟨⟨L, b⟩, k⟩ := h
  unfold f8_text f9_text
  rw [qj_e, qj_e]
  by_cases e0 : x = 0
  · rw [if_pos e0, if_pos e0]
    rcases hall_eq b with ⟨T, r, FT, a, c, dr, e1, e2, gx, gm⟩ | ⟨q, a, c, hq, e1, e2, gx, gm⟩
    · rw [e1, e2, qb2_s, qb2_s, if_pos rfl, if_pos rfl, qlt_e]
      have k1 := k.gd gx gm
      have dr2 : DR T r FT a (qw c 0 2 0) := by
        unfold DR at dr ⊢
        rw [qrow_ne (show (2 : Nat) ≠ 0 by omega), qrow_ne (show (3 : Nat) ≠ 0 by omega), qrow_ne (show (4 : Nat) ≠ 0 by omega), qrow_at, upd_ne (by omega), upd_ne (by omega)]
        exact dr
      obtain ⟨F', x', y', o1, o2, H, lb, o3, o4, o5, o6, o7, o8, o9⟩ := open_eq (B := B) dr2
      rw [o1, o2, qb2_s, qb2_s]
      obtain ⟨⟨S, s⟩, st, -⟩ := k1
      refine ⟨nI T, x', y', rfl, rfl, ⟨0, by rw [o5]; rfl, ?_, by omega, fun i hi => absurd hi (by omega)⟩, ⟨S, s.cg (fun b b1 b2 => o6 b (by omega)) (o7 6 (by omega)) ?_ (fun j _ => ?_) (fun j _ => ?_)⟩, fun j hj => ?_, Or.inr ⟨T, r, F', 0, 0, 0, H, lb, Or.inl ⟨o3, o4⟩⟩⟩
      · rw [o9 2 (by omega) (by omega) (by omega) (by omega) (by omega), qrow_at, upd_at]; rfl
      · rw [o9 15 (by omega) (by omega) (by omega) (by omega) (by omega), qrow_at, upd_ne (by omega)]
      · rw [o8 8 (by omega), qrow_ne (by omega)]
      · rw [o8 7 (by omega), qrow_ne (by omega)]
      · rw [o6 84 (by omega), o8 10 (by omega), qrow_ne (by omega)]; exact st j hj
    · have x1 : ¬ x = 1 := by rw [e0]; decide
      rw [e1, e2, qb2_s, qb2_s, if_neg (nI_m1 (by omega)), if_neg (nI_m1 (by omega))]
      show OK2 B (if x = 1 then _ else _) (if x = 1 then _ else _)
      rw [if_neg x1, if_neg x1]
      exact ⟨-1, a, c, rfl, rfl, ⟨L, b.gd gx gm⟩, k.gd gx gm⟩
  · rw [if_neg e0, if_neg e0]
    show OK2 B (if x = 1 then _ else _) (if x = 1 then _ else _)
    by_cases e1 : x = 1
    · obtain ⟨⟨S, s⟩, st, hh⟩ := k
      have s4 := s.1
      rw [if_pos e1, if_pos e1, s.2.1, s.2.2.1]
      by_cases hS : S = 4
      · subst hS
        rw [if_pos (by decide), if_pos (by decide)]
        exact ⟨-1, hx, hm, rfl, rfl, ⟨L, b⟩, ⟨4, s⟩, st, hh⟩
      · rw [if_neg (show ¬ (4 : Int32) ≤ nI S from nI_ge (b := 4) (by omega) (by omega)), if_neg (show ¬ (4 : Int32) ≤ nI S from nI_ge (b := 4) (by omega) (by omega))]
        have uS : ∀ S', SS S' hx hm → S' ≤ S := fun S' s' => by
          have := nI_inj (by have := s'.1; omega) (by omega) (s'.2.1.symm.trans s.2.1)
          omega
        have k : WK B hx hm := ⟨⟨S, s⟩, st, hh⟩
        rcases script_eq (n := S) b s4 with ⟨n, a, c, n1, n16, e1, e2, sd, dx, dm⟩ | ⟨q, a, c, hq, e1, e2, dx, dm⟩
        · rw [e1, e2, qb2_s, qb2_s, if_pos rfl, if_pos rfl, qlt_e, qlt_e]
          have k2 := k.dd dx dm uS
          have a06 : a.1 0 6 = nI S := by rw [dx.1 0 (by omega) (by omega)]; exact s.2.1
          have c015 : c.1 0 15 = nI S := by rw [dm.2.1 15 (by omega) (by omega)]; exact s.2.2.1
          obtain ⟨x1, f1, f2, f3, f4⟩ := become6_eq (hx := a) (s := S) (c := n) (by omega)
          unfold f8_keepScript
          have e06 : x1.1 0 6 = nI S := by rw [f4 0 (by omega)]; exact a06
          have m1 : nI (S + 1) - 1 = nI S := by rw [← nI_1]; exact Int32.add_sub_cancel ..
          rw [a06, qin_nI (show S < 4 by omega) (by omega), qg_t, getD4 (by omega), f1, bind_s, qlt_e, qlt_e, e06, nI_1, qb2_s]
          let x2 : qH := qw (qw x1 0 6 (nI (S + 1))) 1 1 0
          let y2 : qH := qw (qw c 0 2 0) 0 15 (nI (S + 1))
          have y15 : (qw c 0 2 0).1 0 15 = nI S := by rw [qrow_at, upd_ne (by omega)]; exact c015
          rw [y15, nI_1]
          have x206 : x2.1 0 6 = nI (S + 1) := by rw [qrow_ne (by omega), qrow_at, upd_at]
          have y215 : y2.1 0 15 = nI (S + 1) := by rw [qrow_at, upd_at]
          have x2o : ∀ b, b ≠ 0 → b ≠ 1 → x2.1 b = x1.1 b := fun b b1 b2 => by rw [qrow_ne b2, qrow_ne b1]
          have y2o : ∀ b, b ≠ 0 → y2.1 b = c.1 b := fun b b1 => by rw [qrow_ne b1, qrow_ne b1]
          have y20 : ∀ j, j ≠ 2 → j ≠ 15 → y2.1 0 j = c.1 0 j := fun j j1 j2 => by rw [qrow_at, upd_ne j2, qrow_at, upd_ne j1]
          obtain ⟨⟨S', s'⟩, st', hh'⟩ := k2
          have eS : S' = S := nI_inj (by have := s'.1; omega) (by omega) (s'.2.1.symm.trans a06)
          subst eS
          refine ⟨nI S', x2, y2, ?_, ?_, ⟨0, ?_, ?_, by omega, fun i hi => absurd hi (by omega)⟩, ⟨S' + 1, by omega, x206, y215, fun t ht => ?_⟩, fun j hj => ?_, ?_⟩
          · show some (x2.1 0 6 - 1, x2) = _
            rw [x206, m1]
          · show some (y2.1 0 15 - 1, y2) = _
            rw [y215, m1]
          · rw [qrow_at, upd_at]; rfl
          · rw [qrow_at, upd_ne (by omega), qrow_at, upd_at]; rfl
          · by_cases et : t = S'
            · subst et
              refine ⟨n, n1, n16, ?_, ?_, fun i hi => ?_⟩
              · rw [x2o _ (by omega) (by omega), f2]; exact sd.1
              · rw [y2o 8 (by omega)]; exact sd.2.1
              · obtain ⟨act, d⟩ := sd.2.2 i hi
                refine ⟨act, ?_⟩
                rw [x2o _ (by omega) (by omega), x2o _ (by omega) (by omega), x2o _ (by omega) (by omega), y2o 7 (by omega), (f3 i (by omega)).1, (f3 i (by omega)).2.1, (f3 i (by omega)).2.2]
                exact d
            · obtain ⟨n', d1, d2, d3, d4, d5⟩ := s'.2.2.2 t (by omega)
              refine ⟨n', d1, d2, ?_, ?_, fun i hi => ?_⟩
              · rw [x2o _ (by omega) (by omega), f4 _ (by omega)]; exact d3
              · rw [y2o 8 (by omega)]; exact d4
              · obtain ⟨act, d⟩ := d5 i hi
                refine ⟨act, ?_⟩
                rw [x2o _ (by omega) (by omega), x2o _ (by omega) (by omega), x2o _ (by omega) (by omega), y2o 7 (by omega), f4 _ (by omega), f4 _ (by omega), f4 _ (by omega)]
                exact d
          · rw [x2o 84 (by omega) (by omega), f4 84 (by omega), y2o 10 (by omega)]; exact st' j hj
          · exact WH.cg hh' (fun b hb => by rw [x2o b (by omega) (by omega), f4 b (by omega)]) (by rw [qrow_ne (by omega), qrow_at, upd_ne (by omega), f4 0 (by omega)]) (fun b hb => y2o b (by omega)) (fun j hj => y20 j (by omega) (by omega))
        · rw [e1, e2, qb2_s, qb2_s, if_neg (nI_m1 (by omega)), if_neg (nI_m1 (by omega))]
          exact ⟨-1, a, c, rfl, rfl, ⟨L, b.dd dx dm⟩, k.dd dx dm uS⟩
    · rw [if_neg e1, if_neg e1]
      exact ⟨-1, hx, hm, rfl, rfl, ⟨L, b⟩, k⟩
end PN4
