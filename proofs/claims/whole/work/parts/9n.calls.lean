section PN6
variable {B : Nat} {hx hm hx' hm' : qH}
theorem WW.tf (h : WW B hx hm) (t : TF hx hx' hm hm') : WW B hx' hm' := by
  obtain ⟨⟨L, b⟩, k⟩ := h
  refine ⟨⟨L, b.cg (by rw [t.1 1 (by omega) (by omega) (by omega)]) (t.1 2 (by omega) (by omega) (by omega)) (t.2.2.2 2 (by omega) (by omega) (by omega)) (t.2.2.1 1 (by omega) (by omega) (by omega) (by omega) (by omega) (by omega))⟩, k.cg (fun b hb => t.1 b (by omega) (by omega) (by omega)) (fun j hj => t.2.1 j (by omega)) (fun b hb => ?_) (fun j hj => t.2.2.2 j (by omega) (by omega) (by omega)) (fun S _ => ⟨fun j _ => by rw [t.2.2.1 8 (by omega) (by omega) (by omega) (by omega) (by omega) (by omega)], fun k _ => by rw [t.2.2.1 7 (by omega) (by omega) (by omega) (by omega) (by omega) (by omega)]⟩)⟩
  rcases hb with rfl | rfl | rfl | rfl | rfl | rfl <;> exact t.2.2.1 _ (by omega) (by omega) (by omega) (by omega) (by omega) (by omega)
theorem WN.blockX (w : WN hx hm) {x : Int32} : f4_isBlock 6 x hx = some 0 := by
  unfold f4_isBlock
  rw [w.2.2.2.2.2]
  by_cases c : x < 0
  · rw [if_pos c]
    rfl
  · rw [if_neg c, if_pos (n0 c)]
    rfl
theorem WN.placeX (w : WN hx hm) {x : Int32} : f4_isPlace 6 x hx = some 0 := by
  unfold f4_isPlace
  rw [w.told, bind_s, qj_e, if_pos rfl]
  rfl
theorem WN.placeM (w : WN hx hm) {x : Int32} : f9_isPlace x hm = some 0 := by
  unfold f9_isPlace
  rw [w.hall, bind_s, qj_e, if_pos rfl]
  rfl
theorem WN.blockM (w : WN hx hm) {x : Int32} : f9_isBlock x hm = some 0 := by
  unfold f9_isBlock
  rw [w.hall, bind_s, qj_e, if_pos rfl]
  rfl
/-- a call of the law that only reads -/
def OK1 (ox om : Option Int32) : Prop := ∃ v, ox = some v ∧ om = some v
theorem WW.rule (h : WW B hx hm) (x : Int32) : OK1 (f8_rule x hx) (f9_rule x hm) := by
  rcases h.2.2.2 with w | ⟨T, r, F, LT, k, nx, H, -, -⟩
  · unfold f8_rule f9_rule
    rw [w.told, w.hall, bind_s, bind_s, if_pos rfl, qj_e, if_pos rfl]
    exact ⟨_, rfl, rfl⟩
  · exact H.1.vRule x
theorem WW.file (h : WW B hx hm) (x y : Int32) : OK1 (f8_file x y hx) (f9_file x y hm) := by
  rcases h.2.2.2 with w | ⟨T, r, F, LT, k, nx, H, -, -⟩
  · unfold f8_file f9_file
    rw [w.fileX, w.fileM, bind_s, bind_s, if_pos rfl, if_pos rfl]
    exact ⟨_, rfl, rfl⟩
  · exact H.1.vFile x y
theorem WW.drive (h : WW B hx hm) (x : Int32) : OK1 (f8_drive x hx) (f9_drive x hm) := by
  rcases h.2.2.2 with w | ⟨T, r, F, LT, k, nx, H, -, -⟩
  · have t : f7_tapeIn 51 x hx = some (-1) := by
      obtain ⟨n, hn⟩ := qN_4
      unfold f7_tapeIn
      rw [hn, f7_tapeIn_L2, w.1.1, if_pos (by decide)]
    unfold f8_drive f9_drive
    rw [w.hall, bind_s, qj_e, qj_e, if_pos rfl, t, bind_s, ite_self]
    exact ⟨_, rfl, rfl⟩
  · exact H.1.vDrive x
theorem WW.labelled (h : WW B hx hm) (x : Int32) : OK1 (f8_labelled x hx) (f9_labelled x hm) := by
  rcases h.2.2.2 with w | ⟨T, r, F, LT, k, nx, H, lb, -⟩
  · exact lab_eq (T := 0) (by omega) w.1.1 w.1.2 (fun t ht => absurd ht (by omega)) x
  · exact lab_eq (T := T) H.1.1.2.1 H.1.Tx H.1.Tm lb x
theorem WW.way (h : WW B hx hm) (x y : Int32) : OK1 (f8_way x y hx) (f9_way x y hm) := by
  rcases h.2.2.2 with w | ⟨T, r, F, LT, k, nx, H, -, -⟩
  · unfold f8_way f9_way
    rw [w.placeX, w.placeM, bind_s, bind_s, qj_e, qj_e, if_pos rfl, if_pos rfl]
    exact ⟨_, rfl, rfl⟩
  · exact H.1.vWay x y
theorem WW.seek (h : WW B hx hm) (x y : Int32) : OK1 (f8_seek x y hx) (f9_seek x y hm) := by
  rcases h.2.2.2 with w | ⟨T, r, F, LT, k, nx, H, -, -⟩
  · unfold f8_seek f9_seek
    rw [w.blockX, w.blockM, bind_s, bind_s, qj_e, qj_e, if_pos rfl, if_pos rfl]
    exact ⟨_, rfl, rfl⟩
  · exact H.1.vSeek x y
theorem WW.path (h : WW B hx hm) (x y z : Int32) : OK1 (f8_path x y z hx) (f9_path x y z hm) := by
  rcases h.2.2.2 with w | ⟨T, r, F, LT, k, nx, H, -, -⟩
  · unfold f8_path f9_path
    rw [w.thereX, w.heldM, bind_s, bind_s, if_pos rfl, if_pos rfl]
    exact ⟨_, rfl, rfl⟩
  · exact H.1.vPath x y z
theorem WW.target (h : WW B hx hm) (x : Int32) : OK1 (f8_target x hx) (f9_target x hm) := by
  rcases h.2.2.2 with w | ⟨T, r, F, LT, k, nx, H, -, -⟩
  · unfold f8_target f9_target
    rw [w.tapeX, w.tapeM, bind_s, bind_s, qj_e, qj_e, if_pos rfl, if_pos rfl]
    exact ⟨_, rfl, rfl⟩
  · exact H.1.vTarget x
theorem WW.idle (h : WW B hx hm) (x : Int32) : OK1 (f8_idle x hx) (f9_idle x hm) := by
  rcases h.2.2.2 with w | ⟨T, r, F, LT, k, nx, H, -, -⟩
  · have e : f7_refusal 51 9 x (-1) hx = some 0 := w.refX (s := 9) (by omega) x (-1)
    unfold f8_idle f9_idle
    rw [e, w.hall, bind_s, bind_s, qj_e, qj_e, if_neg (by decide), if_pos rfl]
    exact ⟨_, rfl, rfl⟩
  · exact H.1.vIdle x
theorem WW.shares (h : WW B hx hm) (x y : Int32) : OK1 (f8_shares x y hx) (f9_shares x y hm) := by
  rcases h.2.2.2 with w | ⟨T, r, F, LT, k, nx, H, -, -⟩
  · unfold f8_shares f9_shares
    rw [w.tapeX, w.tapeM, bind_s, bind_s, if_pos rfl, if_pos rfl]
    exact ⟨_, rfl, rfl⟩
  · exact H.1.vShares x y
theorem WW.most (h : WW B hx hm) (x : Int32) : OK1 (f8_most x hx) (f9_most x hm) := by
  rcases h.2.2.2 with w | ⟨T, r, F, LT, k, nx, H, -, -⟩
  · unfold f8_most f9_most
    rw [w.told, w.hall, bind_s, bind_s, if_pos rfl, if_pos rfl]
    exact ⟨_, rfl, rfl⟩
  · exact H.1.vMost x
theorem WW.log (h : WW B hx hm) (hB : B + 40 < 2 ^ 29) (x y : Int32) : OK1 (f8_log x y hx) (f9_log x y hm) := by
  rcases h.2.2.2 with w | ⟨T, r, F, LT, k, nx, H, -, -⟩
  · unfold f8_log f9_log f1_length
    rcases in0 (hm := hm) (n := 0) x (by omega) with ⟨i, hi, -⟩ | ⟨-, g⟩
    · omega
    · have g : f9_in x 0 (0 - 1) hm = some 0 := g
      rw [w.2.2.1.1, w.2.2.1.2, g, bind_s, bind_s, qj_e, if_pos rfl, if_neg (show ¬ (60 : Int32) < 0 by decide)]
      by_cases c : x < 0
      · rw [if_pos c]
        exact ⟨_, rfl, rfl⟩
      · rw [if_neg c, if_pos (n0 c)]
        exact ⟨_, rfl, rfl⟩
  · exact H.log (by omega) x y
theorem WW.takes (h : WW B hx hm) (x y : Int32) : OK2 B (f8_takes x y hx) (f9_takes x y hm) := by
  rcases h.2.2.2 with w | ⟨T, r, F, LT, k, nx, H, -, -⟩
  · unfold f8_takes f9_takes
    rw [w.tapeX, w.tapeM, bind_s, bind_s, qj_e, if_pos rfl, if_pos rfl]
    exact ⟨_, _, _, rfl, rfl, h⟩
  · obtain ⟨v, a, c, e1, e2, t⟩ := H.1.vTakes x y
    exact ⟨v, a, c, e1, e2, h.tf t⟩
theorem WW.all (h : WW B hx hm) (x : Int32) : OK2 B (f8_all x hx) (f9_all x hm) := by
  rcases h.2.2.2 with w | ⟨T, r, F, LT, k, nx, H, -, -⟩
  · unfold f8_all f9_all
    rw [w.told, w.hall, bind_s, bind_s, if_pos rfl, if_pos rfl]
    exact ⟨_, _, _, rfl, rfl, h⟩
  · obtain ⟨v, a, c, e1, e2, t⟩ := H.all x
    exact ⟨v, a, c, e1, e2, h.tf t⟩
theorem WW.soon (h : WW B hx hm) (x : Int32) : OK2 B (f8_soon x hx) (f9_soon x hm) := by
  rcases h.2.2.2 with w | ⟨T, r, F, LT, k, nx, H, -, -⟩
  · unfold f8_soon f9_soon
    rw [w.thereX, w.heldM, bind_s, bind_s, if_pos rfl, if_pos rfl]
    exact ⟨_, _, _, rfl, rfl, h⟩
  · obtain ⟨v, a, c, e1, e2, t⟩ := H.soon x
    exact ⟨v, a, c, e1, e2, h.tf t⟩
theorem WW.cheap (h : WW B hx hm) (x : Int32) : OK2 B (f8_cheap x hx) (f9_cheap x hm) := by
  rcases h.2.2.2 with w | ⟨T, r, F, LT, k, nx, H, -, -⟩
  · obtain ⟨n, hn⟩ := qN_4
    unfold f8_cheap f9_cheap
    rw [hn, f8_cheap_L7, f9_cheap_L7, w.1.1, w.1.2, if_pos (by decide), if_pos (by decide)]
    exact ⟨_, _, _, rfl, rfl, h⟩
  · obtain ⟨v, a, c, e1, e2, t⟩ := H.cheap x
    exact ⟨v, a, c, e1, e2, h.tf t⟩
theorem WW.afs {T : Nat} {r : Nat → Nat} {B' F' LT' k' nx' : Nat} (h : WW B hx hm) (lb : ∀ t, t < T → hx.1 8 t = hm.1 6 t) (im : IM T r B hx hm) (hB : B ≤ B') (H' : HS T r B' F' LT' k' nx' hx' hm') (y : YF hx hx' hm hm') : WW B' hx' hm' := WW.hs h.1 h.2.1 lb im hB H' (fun b hb => y.1 b (by omega)) (fun b b0 b9 _ b11 b12 b13 => y.2.1 b b0 b9 b11 b12 b13) y.2.2 (fun j hj => by rw [y.1 84 (by omega), y.2.1 10 (by omega) (by omega) (by omega) (by omega) (by omega)]; exact h.2.2.1 j hj)
theorem AF.y (f : AF hx hx' hm hm') : YF hx hx' hm hm' := ⟨f.1, f.2.1, f.2.2.1⟩
theorem WW.undo (h : WW B hx hm) (hB : B + 40 < 2 ^ 29) : OK2 (B + 40) (f8_undo hx) (f9_undo hm) := by
  rcases h.2.2.2 with w | ⟨T, r, F, LT, k, nx, H, lb, im⟩
  · unfold f8_undo f9_undo
    rw [w.2.2.2.1.1, w.2.2.2.1.2, if_pos rfl, if_pos rfl]
    exact ⟨_, _, _, rfl, rfl, h.mono (by omega)⟩
  · obtain ⟨v, F', LT', k', nx', a, c, e1, e2, H', f⟩ := H.undo (by omega)
    exact ⟨v, a, c, e1, e2, h.afs lb im (by omega) (H'.mono (by omega)) f.y⟩
theorem WW.back (h : WW B hx hm) : OK2 (B + 40) (f8_back hx) (f9_back hm) := by
  rcases h.2.2.2 with w | ⟨T, r, F, LT, k, nx, H, lb, im⟩
  · unfold f8_back f9_back
    rw [w.2.2.2.2.1.1, w.2.2.2.2.1.2, if_pos rfl, if_pos rfl]
    exact ⟨_, _, _, rfl, rfl, h.mono (by omega)⟩
  · obtain ⟨v, F', LT', k', nx', a, c, e1, e2, H', f⟩ := H.back im
    exact ⟨v, a, c, e1, e2, h.afs lb im (by omega) (H'.mono (by omega)) f.y⟩
theorem WW.years (h : WW B hx hm) (hB : B + 40 < 2 ^ 29) (x : Int32) (sd : Int64) : OK2 (B + 40) (f8_years x sd hx) (f9_years x sd hm) := by
  rcases h.2.2.2 with w | ⟨T, r, F, LT, k, nx, H, lb, im⟩
  · unfold f8_years f9_years
    rw [w.told, w.hall, bind_s, bind_s, if_pos rfl, if_pos rfl]
    exact ⟨_, _, _, rfl, rfl, h.mono (by omega)⟩
  · obtain ⟨v, F', LT', k', nx', a, c, e1, e2, H', f⟩ := H.years hB x sd
    exact ⟨v, a, c, e1, e2, h.afs lb im (by omega) H' f⟩
theorem WW.image (h : WW B hx hm) : OK2 B (f8_image hx) (f9_image hm) := by
  obtain ⟨⟨L, b⟩, ⟨S, s⟩, st, hh⟩ := h
  rcases hh with w | ⟨T, r, F, LT, k, nx, H, lb, im⟩
  · unfold f8_image f9_image
    rw [w.told, w.hall, bind_s, bind_s, if_pos rfl, if_pos rfl]
    exact ⟨_, _, _, rfl, rfl, ⟨L, b⟩, ⟨S, s⟩, st, Or.inl w⟩
  · obtain ⟨v, a, c, e1, e2, H', im', f1, f2, m1, m2⟩ := H.image
    refine ⟨v, a, c, e1, e2, ⟨L, b.cg (by rw [f1 1 (by omega) (by omega) (by omega) (by omega)]) (f1 2 (by omega) (by omega) (by omega) (by omega)) (m2 2 (by omega)) (m1 1 (by omega) (by omega))⟩, ⟨S, s.cg (fun b b1 b2 => f1 b (by omega) (by omega) (by omega) (by omega)) (f2 6 (by omega)) (m2 15 (by omega)) (fun j _ => by rw [m1 8 (by omega) (by omega)]) (fun j _ => by rw [m1 7 (by omega) (by omega)])⟩, fun j hj => by rw [f1 84 (by omega) (by omega) (by omega) (by omega), m1 10 (by omega) (by omega)]; exact st j hj, Or.inr ⟨T, r, F, LT, k, nx, H', fun t ht => by rw [f1 8 (by omega) (by omega) (by omega) (by omega), m1 6 (by omega) (by omega)]; exact lb t ht, im'⟩⟩
end PN6
