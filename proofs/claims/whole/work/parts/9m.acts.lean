section PN5
variable {B : Nat} {hx hm hx' hm' : qH}
theorem WN.told (w : WN hx hm) : f4_isTold 6 hx = some 0 := by
  unfold f4_isTold
  rw [w.1.1, if_pos (by decide)]
  rfl
theorem WN.hall (w : WN hx hm) : f9_isHall hm = some 0 := by
  unfold f9_isHall
  rw [w.1.2, if_pos (by decide)]
  rfl
theorem n0 {x : Int32} (h : ¬ x < 0) : (0 : Int32) ≤ x := Int32.not_lt.mp h
theorem WN.tapeX (w : WN hx hm) {x : Int32} : f4_isTape 6 x hx = some 0 := by
  unfold f4_isTape
  rw [w.1.1]
  by_cases c : x < 0
  · rw [if_pos c]
    rfl
  · rw [if_neg c, if_pos (n0 c)]
    rfl
theorem WN.tapeM (w : WN hx hm) {x : Int32} : f9_isTape x hm = some 0 := by
  unfold f9_isTape
  rcases in0 (hm := hm) (n := 0) x (by omega) with ⟨i, hi, -⟩ | ⟨-, g⟩
  · omega
  · have g : f9_in x 0 (0 - 1) hm = some 0 := g
    rw [w.1.2, g]
    rfl
theorem WN.fileX (w : WN hx hm) {x : Int32} : f7_isFile 51 x hx = some 0 := by
  unfold f7_isFile
  rw [w.2.1.1]
  by_cases c : x < 0
  · rw [if_pos c]
    rfl
  · rw [if_neg c, if_pos (n0 c)]
    rfl
theorem WN.thereX (w : WN hx hm) {x : Int32} : f7_isThere 51 x hx = some 0 := by
  unfold f7_isThere
  rw [w.fileX, bind_s, qj_e, if_pos rfl]
  rfl
theorem WN.fileM (w : WN hx hm) {x : Int32} : f9_isFile x hm = some 0 := by
  unfold f9_isFile
  rw [w.hall, bind_s, qj_e, if_pos rfl]
  rfl
theorem WN.heldM (w : WN hx hm) {x : Int32} : f9_isHeld x hm = some 0 := by
  unfold f9_isHeld
  rw [w.fileM, bind_s, qj_e, if_pos rfl]
  rfl
theorem WN.refX (w : WN hx hm) {s : Nat} (hs : s ≤ 10) (x y : Int32) : f7_refusal 51 (nI s) x y hx = some 0 := by
  unfold f7_refusal
  rcases (show s = 0 ∨ s = 1 ∨ s = 2 ∨ s = 3 ∨ s = 4 ∨ s = 5 ∨ s = 6 ∨ s = 7 ∨ s = 8 ∨ s = 9 ∨ s = 10 by omega) with rfl | rfl | rfl | rfl | rfl | rfl | rfl | rfl | rfl | rfl | rfl
  · rw [if_pos (by decide)]
    unfold f7_askingRefusal
    rw [w.thereX, bind_s, if_pos rfl, bind_s]
  · rw [if_neg (by decide), if_neg (by decide), if_neg (by decide), if_neg (by decide), if_neg (by decide), if_neg (by decide), if_neg (by decide), w.told, bind_s, qj_e, if_pos rfl]
  · rw [if_neg (by decide), if_pos (by decide)]
    unfold f7_writingRefusal
    rw [w.tapeX, bind_s, if_pos rfl, bind_s]
  · rw [if_neg (by decide), if_neg (by decide), if_pos (by decide), w.thereX, bind_s, qlt_e, if_pos rfl]
  · rw [if_neg (by decide), if_neg (by decide), if_neg (by decide), if_pos (by decide), w.tapeX, bind_s, qj_e, if_pos rfl]
  · rw [if_neg (by decide), if_neg (by decide), if_neg (by decide), if_neg (by decide), if_pos (by decide), w.tapeX, bind_s, qj_e, if_pos rfl]
  · rw [if_neg (by decide), if_neg (by decide), if_neg (by decide), if_neg (by decide), if_neg (by decide), if_pos (by decide)]
    unfold f7_copyingRefusal
    rw [w.tapeX, bind_s, if_pos rfl, bind_s]
  · rw [if_neg (by decide), if_neg (by decide), if_neg (by decide), if_neg (by decide), if_neg (by decide), if_neg (by decide), if_neg (by decide), w.told, bind_s, qj_e, if_pos rfl]
  · rw [if_neg (by decide), if_neg (by decide), if_neg (by decide), if_neg (by decide), if_neg (by decide), if_neg (by decide), if_pos (by decide), w.tapeX, bind_s, qlt_e, if_pos rfl]
  · rw [if_neg (by decide), if_neg (by decide), if_neg (by decide), if_neg (by decide), if_neg (by decide), if_neg (by decide), if_neg (by decide), w.told, bind_s, qj_e, if_pos rfl]
  · rw [if_neg (by decide), if_neg (by decide), if_neg (by decide), if_neg (by decide), if_neg (by decide), if_neg (by decide), if_neg (by decide), w.told, bind_s, qj_e, if_pos rfl]
theorem WN.refM (w : WN hx hm) {s : Nat} (hs : s ≤ 10) (x y : Int32) : f9_whyNot (nI s) x y hm = some 0 := by
  unfold f9_whyNot
  rcases (show s = 0 ∨ s = 1 ∨ s = 2 ∨ s = 3 ∨ s = 4 ∨ s = 5 ∨ s = 6 ∨ s = 7 ∨ s = 8 ∨ s = 9 ∨ s = 10 by omega) with rfl | rfl | rfl | rfl | rfl | rfl | rfl | rfl | rfl | rfl | rfl
  · rw [if_pos (by decide)]
    unfold f9_whyAsk
    rw [w.heldM, bind_s, if_pos rfl, bind_s]
  · rw [if_neg (by decide), if_pos (by decide), w.hall, bind_s, qj_e, if_pos rfl]
  · rw [if_neg (by decide), if_neg (by decide), if_pos (by decide)]
    unfold f9_whyWrite
    rw [w.tapeM, bind_s, qj_e, if_pos rfl, bind_s]
  · rw [if_neg (by decide), if_neg (by decide), if_neg (by decide), if_pos (by decide), w.heldM, bind_s, qlt_e, if_pos rfl]
  · rw [if_neg (by decide), if_neg (by decide), if_neg (by decide), if_neg (by decide), if_pos (by decide), w.tapeM, bind_s, qj_e, if_pos rfl]
  · rw [if_neg (by decide), if_neg (by decide), if_neg (by decide), if_neg (by decide), if_neg (by decide), if_pos (by decide), w.tapeM, bind_s, qj_e, if_pos rfl]
  · rw [if_neg (by decide), if_neg (by decide), if_neg (by decide), if_neg (by decide), if_neg (by decide), if_neg (by decide), if_pos (by decide)]
    unfold f9_whyCopy
    rw [w.tapeM, bind_s, qj_e, if_pos rfl, bind_s]
  · rw [if_neg (by decide), if_neg (by decide), if_neg (by decide), if_neg (by decide), if_neg (by decide), if_neg (by decide), if_neg (by decide), if_pos (by decide), w.hall, bind_s, qj_e, if_pos rfl]
  · rw [if_neg (by decide), if_neg (by decide), if_neg (by decide), if_neg (by decide), if_neg (by decide), if_neg (by decide), if_neg (by decide), if_neg (by decide), if_pos (by decide), w.tapeM, bind_s, qlt_e, if_pos rfl]
  · rw [if_neg (by decide), if_neg (by decide), if_neg (by decide), if_neg (by decide), if_neg (by decide), if_neg (by decide), if_neg (by decide), if_neg (by decide), if_neg (by decide), if_pos (by decide), w.hall, bind_s, qj_e, if_pos rfl]
  · rw [if_neg (by decide), if_neg (by decide), if_neg (by decide), if_neg (by decide), if_neg (by decide), if_neg (by decide), if_neg (by decide), if_neg (by decide), if_neg (by decide), if_neg (by decide)]
    unfold f9_whyRescue
    rw [w.hall, bind_s, if_pos rfl, bind_s]
/-- a new state of an open hall -/
theorem WW.hs {T : Nat} {r : Nat → Nat} {B' F' LT' k' nx' : Nat} (b : ∃ L, BY L hx hm) (s : ∃ S, SS S hx hm) (lb : ∀ t, t < T → hx.1 8 t = hm.1 6 t) (im : IM T r B hx hm) (hB : B ≤ B') (H' : HS T r B' F' LT' k' nx' hx' hm') (f1 : ∀ b, b < 43 ∨ (81 ≤ b ∧ b ≤ 83) → hx'.1 b = hx.1 b) (m1 : ∀ b, b ≠ 0 → b ≠ 9 → b ≠ 10 → b ≠ 11 → b ≠ 12 → b ≠ 13 → hm'.1 b = hm.1 b) (m2 : ∀ j, j ≠ 18 → j ≠ 20 → j ≠ 23 → hm'.1 0 j = hm.1 0 j) (st' : ∀ j, j < 4 → hx'.1 84 j = hm'.1 10 j) : WW B' hx' hm' := by
  obtain ⟨L, b⟩ := b
  obtain ⟨S, s⟩ := s
  have f0 : hx'.1 0 = hx.1 0 := f1 0 (by omega)
  refine ⟨⟨L, b.cg (by rw [f1 1 (by omega)]) (f1 2 (by omega)) (m2 2 (by omega) (by omega) (by omega)) (m1 1 (by omega) (by omega) (by omega) (by omega) (by omega) (by omega))⟩, ⟨S, s.cg (fun b b1 b2 => f1 b (by omega)) (by rw [f0]) (m2 15 (by omega) (by omega) (by omega)) (fun j _ => by rw [m1 8 (by omega) (by omega) (by omega) (by omega) (by omega) (by omega)]) (fun j _ => by rw [m1 7 (by omega) (by omega) (by omega) (by omega) (by omega) (by omega)])⟩, st', Or.inr ⟨T, r, F', LT', k', nx', H', fun t ht => by rw [f1 8 (by omega), m1 6 (by omega) (by omega) (by omega) (by omega) (by omega) (by omega)]; exact lb t ht, ?_⟩⟩
  exact (im.mono hB).cg (by rw [f0]) (m2 34 (by omega) (by omega) (by omega)) (f1 81 (by omega)) (f1 82 (by omega)) (f1 83 (by omega)) (m1 18 (by omega) (by omega) (by omega) (by omega) (by omega) (by omega))
/-- an act by hand -/
theorem WW.hand (h : WW B hx hm) (hB : B + 40 < 2 ^ 29) {s : Nat} {x y x' y' : Int32} (hs : s ≤ 10) (ha : Arg s x y x' y') (h7 : s = 7 → x = -1) : OK2 (B + 40) (f8_attempt (nI s) x y 1 hx) (f9_hand (nI s) x' y' hm) := by
  obtain ⟨b, ss, st, hh⟩ := h
  rcases hh with w | ⟨T, r, F, LT, k, nx, H, lb, im⟩
  · have f8e : f8_attempt (nI s) x y 1 hx = some (-1, qw hx 84 0 (hx.1 84 0 + 1)) := by
      unfold f8_attempt
      rw [w.refX hs, bind_s, if_neg (by decide), qj_e, if_neg (by decide), show qin (0 : Int32) 4 = true from rfl, qg_t, qg_t, qlt_e]
      rfl
    have f9e : f9_hand (nI s) x' y' hm = some (-1, qw hm 10 0 (hm.1 10 0 + 1)) := by
      unfold f9_hand
      rw [w.refM hs, bind_s, if_neg (by decide), show qin (0 : Int32) 4 = true from rfl, qg_t, qg_t, qlt_e]
      rfl
    rw [f8e, f9e]
    obtain ⟨L, b⟩ := b
    obtain ⟨S, ss⟩ := ss
    refine ⟨-1, _, _, rfl, rfl, ⟨L, b.cg (by rw [qrow_ne (by omega)]) (qrow_ne (by omega)) (by rw [qrow_ne (by omega)]) (qrow_ne (by omega))⟩, ⟨S, ss.cg (fun b b1 b2 => qrow_ne (by omega)) (by rw [qrow_ne (by omega)]) (by rw [qrow_ne (by omega)]) (fun j _ => by rw [qrow_ne (by omega)]) (fun j _ => by rw [qrow_ne (by omega)])⟩, fun j hj => ?_, WH.cg (Or.inl w) (fun b hb => qrow_ne (by omega)) (by rw [qrow_ne (by omega)]) (fun b hb => qrow_ne (by omega)) (fun j _ => by rw [qrow_ne (by omega)])⟩
    rw [qrow_at, qrow_at]
    by_cases e : j = 0
    · subst e
      rw [upd_at, upd_at, st 0 (by omega)]
    · rw [upd_ne e, upd_ne e]
      exact st j hj
  · obtain ⟨v, F', LT', k', nx', a, c, e1, e2, H', st', f1, m1, m2⟩ := H.hand (by omega) st hs ha h7
    exact ⟨v, a, c, e1, e2, WW.hs b ss lb im (by omega) (H'.mono (by omega)) (fun b hb => f1 b (by omega)) m1 m2 st'⟩
theorem WW.ask (h : WW B hx hm) (hB : B + 40 < 2 ^ 29) (x : Int32) : OK2 (B + 40) (f8_ask x hx) (f9_ask x hm) := by
  obtain ⟨v, a, c, e1, e2, w⟩ := h.hand hB (s := 0) (x := x) (y := (-1)) (x' := x) (y' := 0) (by omega) ⟨fun _ _ _ => rfl, fun z => by omega⟩ (fun z => by omega)
  have e1 : f8_attempt 0 x (-1) 1 hx = some (v, a) := e1
  have e2 : f9_hand 0 x 0 hm = some (v, c) := e2
  unfold f8_ask f9_ask
  rw [e1, e2, qb2_s, qb2_s]
  exact ⟨v, a, c, rfl, rfl, w⟩
theorem WW.serve (h : WW B hx hm) (hB : B + 40 < 2 ^ 29) : OK2 (B + 40) (f8_serve hx) (f9_serve hm) := by
  obtain ⟨v, a, c, e1, e2, w⟩ := h.hand hB (s := 1) (x := (-1)) (y := (-1)) (x' := 0) (y' := 0) (by omega) ⟨fun _ _ _ => by omega, fun z => by omega⟩ (fun z => by omega)
  have e1 : f8_attempt 1 (-1) (-1) 1 hx = some (v, a) := e1
  have e2 : f9_hand 1 0 0 hm = some (v, c) := e2
  unfold f8_serve f9_serve
  rw [e1, e2, qb2_s, qb2_s]
  exact ⟨v, a, c, rfl, rfl, w⟩
theorem WW.write (h : WW B hx hm) (hB : B + 40 < 2 ^ 29) (x y : Int32) : OK2 (B + 40) (f8_write x y hx) (f9_write x y hm) := by
  obtain ⟨v, a, c, e1, e2, w⟩ := h.hand hB (s := 2) (x := x) (y := y) (x' := x) (y' := y) (by omega) ⟨fun _ _ _ => rfl, fun z => rfl⟩ (fun z => by omega)
  have e1 : f8_attempt 2 x y 1 hx = some (v, a) := e1
  have e2 : f9_hand 2 x y hm = some (v, c) := e2
  unfold f8_write f9_write
  rw [e1, e2, qb2_s, qb2_s]
  exact ⟨v, a, c, rfl, rfl, w⟩
theorem WW.drop (h : WW B hx hm) (hB : B + 40 < 2 ^ 29) (x : Int32) : OK2 (B + 40) (f8_drop x hx) (f9_drop x hm) := by
  obtain ⟨v, a, c, e1, e2, w⟩ := h.hand hB (s := 3) (x := x) (y := (-1)) (x' := x) (y' := 0) (by omega) ⟨fun _ _ _ => rfl, fun z => by omega⟩ (fun z => by omega)
  have e1 : f8_attempt 3 x (-1) 1 hx = some (v, a) := e1
  have e2 : f9_hand 3 x 0 hm = some (v, c) := e2
  unfold f8_drop f9_drop
  rw [e1, e2, qb2_s, qb2_s]
  exact ⟨v, a, c, rfl, rfl, w⟩
theorem WW.mount (h : WW B hx hm) (hB : B + 40 < 2 ^ 29) (x : Int32) : OK2 (B + 40) (f8_mount x hx) (f9_mount x hm) := by
  obtain ⟨v, a, c, e1, e2, w⟩ := h.hand hB (s := 4) (x := x) (y := (-1)) (x' := x) (y' := 0) (by omega) ⟨fun _ _ _ => rfl, fun z => by omega⟩ (fun z => by omega)
  have e1 : f8_attempt 4 x (-1) 1 hx = some (v, a) := e1
  have e2 : f9_hand 4 x 0 hm = some (v, c) := e2
  unfold f8_mount f9_mount
  rw [e1, e2, qb2_s, qb2_s]
  exact ⟨v, a, c, rfl, rfl, w⟩
theorem WW.unmount (h : WW B hx hm) (hB : B + 40 < 2 ^ 29) (x : Int32) : OK2 (B + 40) (f8_unmount x hx) (f9_unmount x hm) := by
  obtain ⟨v, a, c, e1, e2, w⟩ := h.hand hB (s := 5) (x := x) (y := (-1)) (x' := x) (y' := 0) (by omega) ⟨fun _ _ _ => rfl, fun z => by omega⟩ (fun z => by omega)
  have e1 : f8_attempt 5 x (-1) 1 hx = some (v, a) := e1
  have e2 : f9_hand 5 x 0 hm = some (v, c) := e2
  unfold f8_unmount f9_unmount
  rw [e1, e2, qb2_s, qb2_s]
  exact ⟨v, a, c, rfl, rfl, w⟩
theorem WW.copy (h : WW B hx hm) (hB : B + 40 < 2 ^ 29) (x y : Int32) : OK2 (B + 40) (f8_copy x y hx) (f9_copy x y hm) := by
  obtain ⟨v, a, c, e1, e2, w⟩ := h.hand hB (s := 6) (x := x) (y := y) (x' := x) (y' := y) (by omega) ⟨fun _ _ _ => rfl, fun z => rfl⟩ (fun z => by omega)
  have e1 : f8_attempt 6 x y 1 hx = some (v, a) := e1
  have e2 : f9_hand 6 x y hm = some (v, c) := e2
  unfold f8_copy f9_copy
  rw [e1, e2, qb2_s, qb2_s]
  exact ⟨v, a, c, rfl, rfl, w⟩
theorem WW.lose (h : WW B hx hm) (hB : B + 40 < 2 ^ 29) : OK2 (B + 40) (f8_lose hx) (f9_lose hm) := by
  obtain ⟨v, a, c, e1, e2, w⟩ := h.hand hB (s := 7) (x := (-1)) (y := (-1)) (x' := 0) (y' := 0) (by omega) ⟨fun _ _ _ => by omega, fun z => by omega⟩ (fun z => rfl)
  have e1 : f8_attempt 7 (-1) (-1) 1 hx = some (v, a) := e1
  have e2 : f9_hand 7 0 0 hm = some (v, c) := e2
  unfold f8_lose f9_lose
  rw [e1, e2, qb2_s, qb2_s]
  exact ⟨v, a, c, rfl, rfl, w⟩
theorem WW.scan (h : WW B hx hm) (hB : B + 40 < 2 ^ 29) (x : Int32) : OK2 (B + 40) (f8_scan x hx) (f9_scan x hm) := by
  obtain ⟨v, a, c, e1, e2, w⟩ := h.hand hB (s := 8) (x := x) (y := (-1)) (x' := x) (y' := 0) (by omega) ⟨fun _ _ _ => rfl, fun z => by omega⟩ (fun z => by omega)
  have e1 : f8_attempt 8 x (-1) 1 hx = some (v, a) := e1
  have e2 : f9_hand 8 x 0 hm = some (v, c) := e2
  unfold f8_scan f9_scan
  rw [e1, e2, qb2_s, qb2_s]
  exact ⟨v, a, c, rfl, rfl, w⟩
theorem WW.pause (h : WW B hx hm) (hB : B + 40 < 2 ^ 29) (x : Int32) : OK2 (B + 40) (f8_pause x hx) (f9_pause x hm) := by
  obtain ⟨v, a, c, e1, e2, w⟩ := h.hand hB (s := 9) (x := x) (y := (-1)) (x' := x) (y' := 0) (by omega) ⟨fun _ _ _ => rfl, fun z => by omega⟩ (fun z => by omega)
  have e1 : f8_attempt 9 x (-1) 1 hx = some (v, a) := e1
  have e2 : f9_hand 9 x 0 hm = some (v, c) := e2
  unfold f8_pause f9_pause
  rw [e1, e2, qb2_s, qb2_s]
  exact ⟨v, a, c, rfl, rfl, w⟩
theorem WW.rescue (h : WW B hx hm) (hB : B + 40 < 2 ^ 29) : OK2 (B + 40) (f8_rescue hx) (f9_rescue hm) := by
  obtain ⟨v, a, c, e1, e2, w⟩ := h.hand hB (s := 10) (x := (-1)) (y := (-1)) (x' := 0) (y' := 0) (by omega) ⟨fun _ _ _ => by omega, fun z => by omega⟩ (fun z => by omega)
  have e1 : f8_attempt 10 (-1) (-1) 1 hx = some (v, a) := e1
  have e2 : f9_hand 10 0 0 hm = some (v, c) := e2
  unfold f8_rescue f9_rescue
  rw [e1, e2, qb2_s, qb2_s]
  exact ⟨v, a, c, rfl, rfl, w⟩
end PN5
