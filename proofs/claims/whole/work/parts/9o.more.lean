section PN7
variable {B : Nat} {hx hm hx' hm' : qH}
theorem WW.served (h : WW B hx hm) (x : Int32) : OK2 B (f8_served x hx) (f9_served x hm) := by
  rcases h.2.2.2 with w | ⟨T, r, F, LT, k, nx, H, -, -⟩
  · obtain ⟨h1, b1, b2, b3, -, -⟩ := begin_eq (hx := hx)
    obtain ⟨n, hn⟩ := qN_4
    have a5 : (qw h1 0 12 0).1 63 5 = 0 := by
      rw [qrow_ne (by omega), b2.1 5 (by omega) (by omega)]
      exact w.2.1.1
    have af : f7_askedFiles 63 (qw h1 0 12 0) = some 0 := by
      unfold f7_askedFiles
      rw [hn, f7_askedFiles_L4, a5, if_pos (by decide)]
    have ts : f8_tryServing hx = some (qw h1 0 12 0) := by
      unfold f8_tryServing
      rw [b1, bind_s, qlt_e, hn, f8_tryServing_L11, if_neg (by decide), af, bind_s, if_pos (by decide)]
    have e12 : (qw h1 0 12 0).1 0 12 = 0 := by rw [qrow_at, upd_at]
    have v : f8_served x hx = some (-1, qw h1 0 12 0) := by
      unfold f8_served
      rw [ts, bind_s, qj_e, e12]
      by_cases c : x < 0
      · rw [if_pos c]
      · rw [if_neg c, if_neg c]
    have v2 : f9_served x hm = some (-1, hm) := by
      unfold f9_served
      rw [w.hall, bind_s, if_pos rfl]
    refine ⟨-1, _, _, v, v2, h.tf ⟨fun b c1 c2 c3 => ?_, fun j hj => ?_, fun _ _ _ _ _ _ _ => rfl, fun _ _ _ _ => rfl⟩⟩
    · rw [qrow_ne c3, b3 b (by omega)]
    · rw [qrow_at, upd_ne hj, b3 0 (by omega)]
  · obtain ⟨v, a, c, e1, e2, t⟩ := H.served x
    exact ⟨v, a, c, e1, e2, h.tf t⟩
/-- is it a script -/
theorem isS {S : Nat} (s : SS S hx hm) (x : Int32) : (∃ i, i < S ∧ x = nI i ∧ f8_isScript x hx = some 1 ∧ f9_isScript x hm = some 1) ∨ (f8_isScript x hx = some 0 ∧ f9_isScript x hm = some 0) := by
  have s4 := s.1
  unfold f8_isScript f9_isScript
  rw [s.2.1, s.2.2.1]
  rcases in0 (hm := hm) (n := S) x (by omega) with ⟨i, hi, e, g1, g2, g3, g4⟩ | ⟨g1, g3⟩
  · left
    refine ⟨i, hi, e, ?_, ?_⟩
    · rw [if_neg g1, if_neg g3]
      rfl
    · rw [g4]
      rfl
  · right
    refine ⟨?_, ?_⟩
    · rcases g1 with g1 | ⟨g1, g2, -⟩
      · rw [if_pos g1]
        rfl
      · rw [if_neg g1, if_pos g2]
        rfl
    · rw [g3]
      rfl
theorem WW.run (h : WW B hx hm) (hB : B + 40 < 2 ^ 29) (x y : Int32) : OK2 B (f8_run x y hx) (f9_run x y hm) := by
  obtain ⟨S, s⟩ := h.2.1
  have s4 := s.1
  rcases isS s x with ⟨i, hi, rfl, g1, g2⟩ | ⟨g1, g2⟩
  · rcases h.2.2.2 with w | ⟨T, r, F, LT, k, nx, H, -, -⟩
    · unfold f8_run f9_run
      rw [g1, g2, bind_s, bind_s, if_neg q1f, if_neg q1f, w.told, w.hall, bind_s, bind_s, if_pos rfl, if_pos rfl]
      exact ⟨_, _, _, rfl, rfl, h⟩
    · obtain ⟨c, sc⟩ := s.2.2.2 i hi
      obtain ⟨v, a, c', e1, e2, t⟩ := H.run (by omega) (s := i) (by omega) sc g1 g2 y
      exact ⟨v, a, c', e1, e2, h.tf t⟩
  · unfold f8_run f9_run
    rw [g1, g2, bind_s, bind_s, if_pos rfl, if_pos rfl]
    exact ⟨_, _, _, rfl, rfl, h⟩
theorem WW.perform (h : WW B hx hm) (hB : B + 40 < 2 ^ 29) (x : Int32) : OK2 (B + 40) (f8_perform x hx) (f9_perform x hm) := by
  obtain ⟨S, s⟩ := h.2.1
  have s4 := s.1
  rcases isS s x with ⟨i, hi, rfl, g1, g2⟩ | ⟨g1, g2⟩
  · rcases h.2.2.2 with w | ⟨T, r, F, LT, k, nx, H, lb, im⟩
    · unfold f8_perform f9_perform
      rw [g1, g2, bind_s, bind_s, if_neg q1f, qj_e, if_neg q1f, w.told, w.hall, bind_s, bind_s, if_pos rfl, if_pos rfl]
      exact ⟨_, _, _, rfl, rfl, h.mono (by omega)⟩
    · obtain ⟨c, sc⟩ := s.2.2.2 i hi
      obtain ⟨v, F', LT', k', nx', a, c', e1, e2, H', f⟩ := H.perform hB (s := i) (by omega) sc g1 g2
      exact ⟨v, a, c', e1, e2, h.afs lb im (by omega) H' f.y⟩
  · unfold f8_perform f9_perform
    rw [g1, g2, bind_s, bind_s, if_pos rfl, qj_e, if_pos rfl]
    exact ⟨_, _, _, rfl, rfl, h.mono (by omega)⟩
theorem WW.step (h : WW B hx hm) (x y z : Int32) : OK1 (f8_step x y z hx) (f9_step x y z hm) := by
  obtain ⟨S, s⟩ := h.2.1
  have s4 := s.1
  unfold f8_step f9_step
  rcases isS s x with ⟨i, hi, rfl, g1, g2⟩ | ⟨g1, g2⟩
  · obtain ⟨c, c1, c16, sx, sm, sa⟩ := s.2.2.2 i hi
    rw [g1, g2, bind_s, bind_s, if_neg q1f, qj_e, if_neg q1f, qin_nI (show i < 4 by omega) (by omega), qin_nI (show i < 5 by omega) (by omega), qg_t, qg_t, getD4 (by omega), sx, ix_nI (show i < 2 ^ 31 by omega), sm]
    rcases in0 (hm := hm) (n := c) y (by omega) with ⟨j, hj, rfl, k1, k2, k3, k4⟩ | ⟨k1, k3⟩
    · obtain ⟨act, a1, a2, a3, a4, a5, -⟩ := sa j hj
      rw [k4, bind_s, if_neg k1, if_pos k2, if_neg q1f, qin_nI (show j < 16 by omega) (by omega)]
      simp only [qg_t]
      rw [ix_nI (show j < 2 ^ 31 by omega), show 23 + 4 * i + 1 = 24 + 4 * i by omega, show 23 + 4 * i + 2 = 25 + 4 * i by omega, show 23 + 4 * i + 3 = 26 + 4 * i by omega]
      have e3 : (3 : Int32) * ((16 : Int32) * nI i + nI j) = nI (3 * (16 * i + j)) := by rw [lm_16, nI_add, lm_3]
      rw [e3]
      rcases in0 (hm := hm) (n := 3) z (by omega) with ⟨q, hq, rfl, l1, l2, l3, l4⟩ | ⟨l1, l3⟩
      · have l4 : f9_in (nI q) 0 2 hm = some 1 := l4
        rw [l4, bind_s, if_neg q1f, nI_add, qin_nI (show 3 * (16 * i + j) + q < 240 by omega) (by omega), qg_t, ix_nI (show 3 * (16 * i + j) + q < 2 ^ 31 by omega)]
        rcases (show q = 0 ∨ q = 1 ∨ q = 2 by omega) with rfl | rfl | rfl
        · rw [if_pos (by decide)]
          exact ⟨_, rfl, by rw [Nat.add_zero, a2, a3]⟩
        · rw [if_neg (by decide), if_pos (by decide)]
          exact ⟨_, rfl, by rw [a4]⟩
        · rw [if_neg (by decide), if_neg (by decide), if_pos (by decide)]
          exact ⟨_, rfl, by rw [a5]⟩
      · have l3 : f9_in z 0 2 hm = some 0 := l3
        have nz : ∀ q, q < 3 → ¬ z = nI q := by
          intro q hq e
          subst e
          rcases l1 with l1 | ⟨-, l2, -⟩
          · exact nI_pos (by omega) l1
          · exact nI_ge (b := 3) hq (by omega) l2
        rw [l3, bind_s, if_pos rfl, if_neg (show ¬ z = 0 from nz 0 (by omega)), if_neg (show ¬ z = 1 from nz 1 (by omega)), if_neg (show ¬ z = 2 from nz 2 (by omega))]
        exact ⟨_, rfl, rfl⟩
    · rw [k3, bind_s, if_pos rfl]
      rcases k1 with k1 | ⟨k1, -, k2⟩
      · rw [if_pos k1]
        exact ⟨_, rfl, rfl⟩
      · rw [if_neg k1, if_neg k2]
        exact ⟨_, rfl, rfl⟩
  · rw [g1, g2, bind_s, bind_s, if_pos rfl, qj_e, if_pos rfl]
    exact ⟨_, rfl, rfl⟩
theorem WW.count (h : WW B hx hm) (hB : B + 40 < 2 ^ 29) (x : Int32) : OK1 (f8_count x hx) (f9_count x hm) := by
  obtain ⟨L, b⟩ := h.1
  obtain ⟨S, s⟩ := h.2.1
  have c0 : hx.1 6 1 = hm.1 0 12 ∧ hx.1 51 5 = hm.1 9 168 ∧ hx.1 77 1 = hm.1 0 23 ∧ f1_length 79 hx = some (hm.1 9 172) := by
    rcases h.2.2.2 with w | ⟨T, r, F, LT, k, nx, H, -, -⟩
    · refine ⟨by rw [w.1.1, w.1.2], by rw [w.2.1.1, w.2.1.2], by rw [w.2.2.2.1.1, w.2.2.2.1.2], ?_⟩
      unfold f1_length
      rw [w.2.2.1.1, w.2.2.1.2, if_neg (show ¬ (60 : Int32) < 0 by decide)]
    · refine ⟨by rw [H.1.Tx, H.1.Tm], ?_, by rw [H.2.2.1.1, H.2.2.1.2.1], ?_⟩
      · rw [H.1.Fx, H.1.Fm]
      · rw [len_eq H.2.1.1 (by have := H.2.1.2.1; omega), H.2.1.2.2.1]
  unfold f8_count f9_count
  rw [c0.1, c0.2.1, c0.2.2.1, c0.2.2.2, s.2.1, s.2.2.1, b.1, b.2.1, bind_s]
  by_cases e0 : x = 0
  · rw [if_pos e0]; exact ⟨_, rfl, rfl⟩
  rw [if_neg e0]
  by_cases e1 : x = 1
  · rw [if_pos e1]; exact ⟨_, rfl, rfl⟩
  rw [if_neg e1]
  by_cases e2 : x = 2
  · rw [if_pos e2]; exact ⟨_, rfl, rfl⟩
  rw [if_neg e2]
  by_cases e3 : x = 3
  · rw [if_pos e3]; exact ⟨_, rfl, rfl⟩
  rw [if_neg e3]
  by_cases e4 : x = 4
  · rw [if_pos e4]; exact ⟨_, rfl, rfl⟩
  rw [if_neg e4]
  by_cases e5 : x = 5
  · rw [if_pos e5]; exact ⟨_, rfl, rfl⟩
  rw [if_neg e5]
  exact ⟨_, rfl, rfl⟩
end PN7
