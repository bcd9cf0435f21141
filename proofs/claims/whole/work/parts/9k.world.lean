/-! ===== the whole world, both sides ===== -/
/-- the scripts kept -/
def SS (S : Nat) (hx hm : qH) : Prop := S ≤ 4 ∧ hx.1 0 6 = nI S ∧ hm.1 0 15 = nI S ∧ ∀ s, s < S → ∃ c, SC1 hx hm s c
/-- no hall yet -/
def WN (hx hm : qH) : Prop := (hx.1 6 1 = 0 ∧ hm.1 0 12 = 0) ∧ (hx.1 51 5 = 0 ∧ hm.1 9 168 = 0) ∧ (hx.1 79 1 = 0 ∧ hm.1 9 172 = 0) ∧ (hx.1 77 1 = 0 ∧ hm.1 0 23 = 0) ∧ (hx.1 0 17 = 0 ∧ hm.1 0 34 = 0) ∧ hx.1 6 7 = 0
/-- the hall that is open -/
def WO (B : Nat) (hx hm : qH) : Prop := ∃ (T : Nat) (r : Nat → Nat) (F LT k nx : Nat), HS T r B F LT k nx hx hm ∧ (∀ t, t < T → hx.1 8 t = hm.1 6 t) ∧ IM T r B hx hm
def WK (B : Nat) (hx hm : qH) : Prop := (∃ S, SS S hx hm) ∧ (∀ j, j < 4 → hx.1 84 j = hm.1 10 j) ∧ (WN hx hm ∨ WO B hx hm)
def WW (B : Nat) (hx hm : qH) : Prop := (∃ L, BY L hx hm) ∧ WK B hx hm
section PN3
variable {B S L : Nat} {hx hm hx' hm' : qH}
theorem SS.cg (h : SS S hx hm) (f1 : ∀ b, 23 ≤ b → b ≤ 38 → hx'.1 b = hx.1 b) (f2 : hx'.1 0 6 = hx.1 0 6) (m1 : hm'.1 0 15 = hm.1 0 15) (m2 : ∀ j, j < S → hm'.1 8 j = hm.1 8 j) (m3 : ∀ k, k < 48 * S → hm'.1 7 k = hm.1 7 k) : SS S hx' hm' := by
  obtain ⟨h1, h2, h3, h4⟩ := h
  refine ⟨h1, f2.trans h2, m1.trans h3, fun s hs => ?_⟩
  obtain ⟨c, c1, c2, c3, c4, c5⟩ := h4 s hs
  refine ⟨c, c1, c2, by rw [f1 _ (by omega) (by omega)]; exact c3, by rw [m2 s hs]; exact c4, fun i hi => ?_⟩
  obtain ⟨act, d⟩ := c5 i hi
  refine ⟨act, ?_⟩
  rw [f1 (24 + 4 * s) (by omega) (by omega), f1 (25 + 4 * s) (by omega) (by omega), f1 (26 + 4 * s) (by omega) (by omega), m3 _ (show 3 * (16 * s + i) < 48 * S by omega), m3 _ (show 3 * (16 * s + i) + 1 < 48 * S by omega), m3 _ (show 3 * (16 * s + i) + 2 < 48 * S by omega)]
  exact d
theorem WK.cg (h : WK B hx hm) (f1 : ∀ b, (6 ≤ b ∧ b ≤ 13) ∨ (23 ≤ b ∧ b ≤ 38) ∨ (51 ≤ b ∧ b ≤ 62) ∨ (77 ≤ b ∧ b ≤ 84) → hx'.1 b = hx.1 b) (f2 : ∀ j, j = 6 ∨ j = 17 → hx'.1 0 j = hx.1 0 j) (m1 : ∀ b, b = 5 ∨ b = 6 ∨ b = 9 ∨ b = 10 ∨ b = 13 ∨ b = 18 → hm'.1 b = hm.1 b) (m2 : ∀ j, j = 12 ∨ j = 15 ∨ j = 23 ∨ j = 34 → hm'.1 0 j = hm.1 0 j) (m3 : ∀ S, SS S hx hm → (∀ j, j < S → hm'.1 8 j = hm.1 8 j) ∧ ∀ k, k < 48 * S → hm'.1 7 k = hm.1 7 k) : WK B hx' hm' := by
  obtain ⟨⟨S, s⟩, st, hh⟩ := h
  refine ⟨⟨S, s.cg (fun b b1 b2 => f1 b (by omega)) (f2 6 (by omega)) (m2 15 (by omega)) (m3 S s).1 (m3 S s).2⟩, fun j hj => by rw [f1 84 (by omega), m1 10 (by omega)]; exact st j hj, ?_⟩
  rcases hh with hh | ⟨T, r, F, LT, k, nx, H, lb, im⟩
  · left
    unfold WN at hh ⊢
    rw [f1 6 (by omega), f1 51 (by omega), f1 79 (by omega), f1 77 (by omega), f2 17 (by omega), m1 9 (by omega), m2 12 (by omega), m2 23 (by omega), m2 34 (by omega)]
    exact hh
  · right
    exact ⟨T, r, F, LT, k, nx, H.cg (fun b hb => f1 b (by omega)) (m2 12 (by omega)) (m2 23 (by omega)) (m1 5 (by omega)) (m1 9 (by omega)) (m1 13 (by omega)), fun t ht => by rw [f1 8 (by omega), m1 6 (by omega)]; exact lb t ht, im.cg (f2 17 (by omega)) (m2 34 (by omega)) (f1 81 (by omega)) (f1 82 (by omega)) (f1 83 (by omega)) (m1 18 (by omega))⟩
theorem WO.mono {B' : Nat} (h : WO B hx hm) (hB : B ≤ B') : WO B' hx hm := by
  obtain ⟨T, r, F, LT, k, nx, H, lb, im⟩ := h
  exact ⟨T, r, F, LT, k, nx, H.mono hB, lb, im.mono hB⟩
theorem WK.mono {B' : Nat} (h : WK B hx hm) (hB : B ≤ B') : WK B' hx hm := by
  obtain ⟨s, st, hh⟩ := h
  rcases hh with hh | hh
  · exact ⟨s, st, Or.inl hh⟩
  · exact ⟨s, st, Or.inr (hh.mono hB)⟩
theorem WW.mono {B' : Nat} (h : WW B hx hm) (hB : B ≤ B') : WW B' hx hm := ⟨h.1, h.2.mono hB⟩
theorem WK.ed (h : WK B hx hm) (x : EX hx hx') (y : EM hm hm') : WK B hx' hm' := h.cg (fun b hb => x.1 b (by omega) (by omega)) (fun j _ => by rw [x.1 0 (by omega) (by omega)]) (fun b hb => y.1 b (by omega) (by omega)) (fun j hj => y.2 j (by omega)) (fun S _ => ⟨fun j _ => by rw [y.1 8 (by omega) (by omega)], fun k _ => by rw [y.1 7 (by omega) (by omega)]⟩)
theorem WK.gd (h : WK B hx hm) (x : GX hx hx') (y : GM hm hm') : WK B hx' hm' := h.cg (fun b hb => x b (by omega) (by omega) (by omega) (by omega)) (fun j _ => by rw [x 0 (by omega) (by omega) (by omega) (by omega)]) (fun b hb => by
  rcases hb with rfl | rfl | rfl | rfl | rfl | rfl <;> exact y.1 _ (by omega) (by omega) (by omega) (by omega)) (fun j hj => y.2 j (by omega) (by omega) (by omega) (by omega)) (fun S _ => ⟨fun j _ => by rw [y.1 8 (by omega) (by omega) (by omega) (by omega)], fun k _ => by rw [y.1 7 (by omega) (by omega) (by omega) (by omega)]⟩)
theorem WK.dd {n : Nat} (h : WK B hx hm) (x : DX hx hx') (y : DM n hm hm') (hn : ∀ S, SS S hx hm → S ≤ n) : WK B hx' hm' := h.cg (fun b hb => x.1 b (by omega) (by omega)) (fun j _ => by rw [x.1 0 (by omega) (by omega)]) (fun b hb => y.1 b (by omega) (by omega) (by omega)) (fun j hj => y.2.1 j (by omega) (by omega)) (fun S s => ⟨fun j hj => y.2.2.1 j (by have := hn S s; omega), fun k hk => y.2.2.2 k (by have := hn S s; omega)⟩)
theorem BY.gd (h : BY L hx hm) (x : GX hx hx') (y : GM hm hm') : BY L hx' hm' := h.cg (by rw [x 1 (by omega) (by omega) (by omega) (by omega)]) (x 2 (by omega) (by omega) (by omega) (by omega)) (y.2 2 (by omega) (by omega) (by omega) (by omega)) (y.1 1 (by omega) (by omega) (by omega) (by omega))
theorem BY.dd {n : Nat} (h : BY L hx hm) (x : DX hx hx') (y : DM n hm hm') : BY L hx' hm' := h.cg (by rw [x.1 1 (by omega) (by omega)]) (x.1 2 (by omega) (by omega)) (y.2.1 2 (by omega) (by omega)) (y.1 1 (by omega) (by omega) (by omega))
/-- one call of the law that writes -/
def OK2 (B : Nat) (ox om : Option (Int32 × qH)) : Prop := ∃ (v : Int32) (hx' hm' : qH), ox = some (v, hx') ∧ om = some (v, hm') ∧ WW B hx' hm'
theorem OK2.mono {B' : Nat} {ox om : Option (Int32 × qH)} (h : OK2 B ox om) (hB : B ≤ B') : OK2 B' ox om := by
  obtain ⟨v, a, b, h1, h2, h3⟩ := h
  exact ⟨v, a, b, h1, h2, h3.mono hB⟩
theorem WW.feed (h : WW B hx hm) (p1 p2 p3 p4 p5 : Int32) : OK2 B (f8_feed p1 p2 p3 p4 p5 hx) (f9_feed p1 p2 p3 p4 p5 hm) := by
  obtain ⟨⟨L, b⟩, k⟩ := h
  obtain ⟨v, L', x, y, e1, e2, b', ex, em⟩ := feed_eq (p1 := p1) (p2 := p2) (p3 := p3) (p4 := p4) (p5 := p5) b
  exact ⟨v, x, y, e1, e2, ⟨L', b'⟩, k.ed ex em⟩
theorem WW.end (h : WW B hx hm) (x : Int32) : OK2 B (f8_end x hx) (f9_end x hm) := by
  obtain ⟨⟨L, b⟩, k⟩ := h
  have hL := b.2.2.1
  unfold f8_end f9_end
  rw [b.1, b.2.1]
  rcases inB (hm := hm) x L (by omega) with ⟨i, hi, rfl, g1, g2, g3⟩ | ⟨g1, g3⟩
  · rw [g3, bind_s, if_neg g1, if_pos g2, if_neg (by decide), qlt_e, qlt_e]
    refine ⟨1, _, _, rfl, rfl, ⟨i, by rw [qrow_at, upd_at], by rw [qrow_at, upd_at], by omega, fun j hj => ?_⟩, k.ed ⟨fun b b1 b2 => qrow_ne b1, fun j j1 => by rw [qrow_at, upd_ne j1]⟩ ⟨fun b b1 b2 => qrow_ne b1, fun j j1 => by rw [qrow_at, upd_ne j1]⟩⟩
    rw [qrow_ne (by omega), qrow_ne (by omega)]
    exact b.2.2.2 j (by omega)
  · rw [g3, bind_s, if_pos rfl]
    rcases g1 with g1 | ⟨g1, g2⟩
    · rw [if_pos g1]
      exact ⟨0, _, _, rfl, rfl, ⟨L, b⟩, k⟩
    · rw [if_neg g1, if_neg g2]
      exact ⟨0, _, _, rfl, rfl, ⟨L, b⟩, k⟩
theorem WW.fault (h : WW B hx hm) (x : Int32) : OK2 B (f8_fault x hx) (f9_fault x hm) := by
  obtain ⟨⟨L, b⟩, k⟩ := h
  unfold f8_fault f9_fault
  rw [qj_e]
  by_cases e0 : x = 0
  · rw [if_pos e0, if_pos e0]
    rcases hall_eq b with ⟨T, r, FT, a, c, -, e1, e2, gx, gm⟩ | ⟨q, a, c, -, e1, e2, gx, gm⟩
    · rw [e1, e2, qb2_s, qb2_s]
      exact ⟨-1, a, c, rfl, rfl, ⟨L, b.gd gx gm⟩, k.gd gx gm⟩
    · rw [e1, e2, qb2_s, qb2_s]
      exact ⟨nI q, a, c, rfl, rfl, ⟨L, b.gd gx gm⟩, k.gd gx gm⟩
  · rw [if_neg e0, if_neg e0]
    by_cases e1 : x = 1
    · rw [if_pos e1, if_pos e1]
      rcases script_eq (n := 4) b (by omega) with ⟨n, a, c, -, -, e1, e2, -, dx, dm⟩ | ⟨q, a, c, -, e1, e2, dx, dm⟩
      · have e2 : f9_readScript 4 hm = some (-1, c) := e2
        rw [e1, e2, qb2_s, qb2_s]
        exact ⟨-1, a, c, rfl, rfl, ⟨L, b.dd dx dm⟩, k.dd dx dm (fun S s => s.1)⟩
      · have e2 : f9_readScript 4 hm = some (nI q, c) := e2
        rw [e1, e2, qb2_s, qb2_s]
        exact ⟨nI q, a, c, rfl, rfl, ⟨L, b.dd dx dm⟩, k.dd dx dm (fun S s => s.1)⟩
    · rw [if_neg e1, if_neg e1]
      exact ⟨-2, hx, hm, rfl, rfl, ⟨L, b⟩, k⟩
theorem WW.status (h : WW B hx hm) (x : Int32) : ∃ v, f8_status x hx = some v ∧ f9_status x hm = some v := by
  obtain ⟨-, k⟩ := h
  unfold f8_status f9_status
  rcases in0 (hm := hm) (n := 4) x (by omega) with ⟨i, hi, rfl, g1, g2, g3, g4⟩ | ⟨g1, g3⟩
  · have g4 : f9_in (nI i) 0 3 hm = some 1 := g4
    have g2 : nI i < (4 : Int32) := g2
    rw [g4, bind_s, qj_e, qj_e, if_neg g1, if_pos g2, if_neg (by decide), qin_nI hi (by omega), qg_t, qg_t, ix_nI (by omega), k.2.1 i hi]
    exact ⟨_, rfl, rfl⟩
  · have g3 : f9_in x 0 3 hm = some 0 := g3
    rw [g3, bind_s, qj_e, qj_e, if_pos rfl]
    rcases g1 with g1 | ⟨g1, -, g2⟩
    · rw [if_pos g1]
      exact ⟨_, rfl, rfl⟩
    · have g2 : ¬ x < (4 : Int32) := g2
      rw [if_neg g1, if_neg g2]
      exact ⟨_, rfl, rfl⟩
end PN3
