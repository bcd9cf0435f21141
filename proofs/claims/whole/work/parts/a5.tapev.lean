/-! ===== tape and least, both sides ===== -/
section PU1
variable {T B F a : Nat} {r : Nat → Nat} {hx hm hx' hm' : qH}
theorem w00_9 (x : Int32) : (qw hm 0 0 x).1 9 = hm.1 9 := qrow_ne (by decide)
theorem w00_5 (x : Int32) : (qw hm 0 0 x).1 5 = hm.1 5 := qrow_ne (by decide)
theorem w00_6 (x : Int32) : (qw hm 0 0 x).1 6 = hm.1 6 := qrow_ne (by decide)
theorem w00_0 (x : Int32) : (qw hm 0 0 x).1 0 0 = x := by
  show (qrow hm 0 _).1 0 0 = _
  rw [qrow_at, upd_at]
theorem w00_j (x : Int32) {j : Nat} (hj : j ≠ 0) : (qw hm 0 0 x).1 0 j = hm.1 0 j := by
  show (qrow hm 0 _).1 0 j = _
  rw [qrow_at, upd_ne hj]
theorem QQ.w00 (q : QQ T r B F hx a hm) (x : Int32) : QQ T r B F hx a (qw hm 0 0 x) := by
  refine ⟨q.1, q.2.1, ⟨?_, fun k hk => ?_⟩, ?_, ?_⟩
  · rw [w00_j x (by decide)]; exact q.2.2.1.1
  · rw [w00_5]; exact q.2.2.1.2 k hk
  · rw [w00_9]; exact q.2.2.2.1
  · rw [w00_9]; exact q.2.2.2.2
theorem WW.w00 (h : WW B hx hm) (x : Int32) : WW B hx (qw hm 0 0 x) := by
  obtain ⟨⟨L, b⟩, k⟩ := h
  refine ⟨⟨L, b.cg rfl rfl (w00_j x (by decide)) (qrow_ne (by decide))⟩, k.cg (fun _ _ => rfl) (fun _ _ => rfl) (fun b hb => qrow_ne (by omega)) (fun j hj => w00_j x (by omega)) (fun S _ => ⟨fun j _ => by rw [qrow_ne (by decide)], fun k _ => by rw [qrow_ne (by decide)]⟩)⟩
theorem f9_tape_no (x y : Int32) (hno : f9_isTape x hm = some 0 ∨ (f9_isTape x hm = some 1 ∧ f9_in y 0 10 hm = some 0)) : f9_tape x y hm = some (0, qw hm 0 0 1) := by
  unfold f9_tape
  rcases hno with h1 | ⟨h1, h2⟩
  · rw [h1, bind_s, qj_e, if_pos rfl]
    simp only [qlt_e, w00_0, if_true]
  · rw [h1, bind_s, qj_e, if_neg q1f, h2, bind_s, if_pos rfl]
    simp only [qlt_e, w00_0, if_true]

theorem QQ.vTape (q : QQ T r B F hx 51 hm) (lb : ∀ t, t < T → hx.1 8 t = hm.1 6 t) {t i : Nat} (ht : t < T) (hi : i < 11) : ∃ v, f8_tape (nI t) (nI i) hx = some v ∧ f9_tape (nI t) (nI i) hm = some (v, qw hm 0 0 0) := by
  have hT := q.t31
  have hb := q.1
  have h8 : qin (nI t) 8 = true := q8 (show t < 8 by omega)
  have et : ix (nI t) = t := ix_nI (show t < 2 ^ 31 by omega)
  obtain ⟨h1, h2⟩ : f4_isTape 6 (nI t) hx = some 1 ∧ f9_isTape (nI t) hm = some 1 := by
    rcases q.isTape (nI t) with ⟨k, -, -, h1, h2⟩ | ⟨h1, h2⟩
    · exact ⟨h1, h2⟩
    · exfalso
      unfold f4_isTape at h1
      rw [q.2.1.1, if_neg (show ¬ nI t < 0 from nI_nlt (a := t) (b := 0) (by omega) (by omega)), if_neg (nI_ge ht (by omega)), qlt_e] at h1
      cases h1
  have hin : f9_in (nI i) 0 10 hm = some 1 := by
    rcases in0 (hm := hm) (n := 11) (nI i) (by omega) with ⟨k, -, -, -, -, -, g⟩ | ⟨g, -⟩
    · exact g
    · exfalso
      rcases g with g | ⟨-, g, -⟩
      · exact nI_nlt (a := i) (b := 0) (by omega) (by omega) g
      · exact nI_ge hi (by omega) g
  have q' := q.w00 0
  have hr1 := hb.2.2.2.2.2.2.1
  obtain ⟨rp, r3, r4, r5, r6⟩ := q.2.2.2.1.2.1 t ht
  obtain ⟨s2, s3, s4, s5⟩ := q.2.2.2.1.1
  have n1 : ¬ (0 : Int32) = 1 := by decide
  unfold f8_tape f9_tape
  simp only [qj_e]
  rw [h1, bind_s, if_neg q1f, if_neg (show ¬ nI i < 0 from nI_nlt (a := i) (b := 0) (by omega) (by omega)), if_pos (show nI i ≤ 10 from nI_le (b := 10) (by omega) (by omega)), h8, qg_t, qlt_e, h2, bind_s, if_neg q1f, hin, bind_s, if_neg q1f]
  simp only [qlt_e, w00_0, n1, if_false, et]
  have m9 : ∀ k, k < 353 → qin (nI k) 353 = true := fun k hk => qin_nI hk (by omega)

  rcases (show i = 0 ∨ i = 1 ∨ i = 2 ∨ i = 3 ∨ i = 4 ∨ i = 5 ∨ i = 6 ∨ i = 7 ∨ i = 8 ∨ i = 9 ∨ i = 10 by omega) with rfl | rfl | rfl | rfl | rfl | rfl | rfl | rfl | rfl | rfl | rfl
  · -- 0
    rw [if_pos (by decide), qg_t, if_pos (by decide), w00_6, lb t ht]
    exact ⟨_, rfl, rfl⟩
  · -- 1
    rw [if_neg (by decide), if_pos (by decide), if_neg (by decide), if_neg (by decide), if_neg (by decide), if_neg (by decide), if_neg (by decide), if_neg (by decide)]
    have ei : ((8 : Int32) * (nI 1 - 1)) + nI t = nI t := by rw [show (8 : Int32) * (nI 1 - 1) = nI 0 by decide, nI_add, Nat.zero_add]
    rw [ei, m9 t (by omega), qg_t, et, w00_9]
    unfold f7_placeOf
    rw [h8, qg_t, qj_e, et]
    rcases rp with ⟨d1, d2, d3, d4⟩ | ⟨d, hd, d1, d3, d4⟩
    · rw [if_pos d1, bind_s, d3]; exact ⟨_, rfl, rfl⟩
    · rw [if_neg (by rw [d1]; exact nI_m1 (by omega)), qg_t, d1, q.2.1.2.1 0 (by omega), nI_add, bind_s, d3]; exact ⟨_, rfl, rfl⟩
  · -- 2
    rw [if_neg (by decide), if_neg (by decide), if_pos (by decide)]
    have ei : ((8 : Int32) * (nI 2 - 1)) + nI t = nI (8 + t) := by rw [show (8 : Int32) * (nI 2 - 1) = nI 8 by decide, nI_add]
    rcases rp with ⟨d1, d2, d3, d4⟩ | ⟨d, hd, d1, d3, d4⟩
    · rw [if_pos (show hx.1 52 t = -1 from d1), if_pos rfl, if_neg (by decide), if_neg (by decide), if_neg (by decide), if_neg (by decide), if_neg (by decide), if_neg (by decide), ei, m9 (8 + t) (by omega), qg_t, ix_nI (show 8 + t < 2 ^ 31 by omega), w00_9, d4]
      exact ⟨_, rfl, rfl⟩
    · rw [if_neg (show ¬ hx.1 52 t = -1 by rw [show hx.1 52 t = nI d from d1]; exact nI_m1 (by omega)), if_neg q1f, qg_t, if_neg (by decide), if_neg (by decide), if_neg (by decide), if_neg (by decide), if_neg (by decide), if_neg (by decide), ei, m9 (8 + t) (by omega), qg_t, ix_nI (show 8 + t < 2 ^ 31 by omega), w00_9, d4]
      exact ⟨_, rfl, rfl⟩
  · -- 3
    rw [if_neg (by decide), if_neg (by decide), if_neg (by decide), if_pos (by decide), qg_t, if_neg (by decide), if_neg (by decide), if_neg (by decide), if_neg (by decide), if_neg (by decide), if_neg (by decide)]
    have ei : ((8 : Int32) * (nI 3 - 1)) + nI t = nI (16 + t) := by rw [show (8 : Int32) * (nI 3 - 1) = nI 16 by decide, nI_add]
    rw [ei, m9 (16 + t) (by omega), qg_t, ix_nI (show 16 + t < 2 ^ 31 by omega), w00_9, ← r3]
    exact ⟨_, rfl, rfl⟩
  · -- 4
    rw [if_neg (by decide), if_neg (by decide), if_neg (by decide), if_neg (by decide), if_pos (by decide), qg_t, if_neg (by decide), if_neg (by decide), if_neg (by decide), if_neg (by decide), if_neg (by decide), if_neg (by decide)]
    have ei : ((8 : Int32) * (nI 4 - 1)) + nI t = nI (24 + t) := by rw [show (8 : Int32) * (nI 4 - 1) = nI 24 by decide, nI_add]
    rw [ei, m9 (24 + t) (by omega), qg_t, ix_nI (show 24 + t < 2 ^ 31 by omega), w00_9, ← r4]
    exact ⟨_, rfl, rfl⟩
  · -- 5
    rw [if_neg (by decide), if_neg (by decide), if_neg (by decide), if_neg (by decide), if_neg (by decide), if_pos (by decide), qg_t, if_neg (by decide), if_neg (by decide), if_neg (by decide), if_neg (by decide), if_neg (by decide), if_neg (by decide)]
    have ei : ((8 : Int32) * (nI 5 - 1)) + nI t = nI (32 + t) := by rw [show (8 : Int32) * (nI 5 - 1) = nI 32 by decide, nI_add]
    rw [ei, m9 (32 + t) (by omega), qg_t, ix_nI (show 32 + t < 2 ^ 31 by omega), w00_9, ← r5]
    exact ⟨_, rfl, rfl⟩
  · -- 6
    obtain ⟨c, -, e1, e2⟩ := q'.filesOn (nI t)
    rw [if_neg (by decide), if_neg (by decide), if_neg (by decide), if_neg (by decide), if_neg (by decide), if_neg (by decide), if_pos (by decide), if_neg (by decide), if_pos (by decide), e1, e2, bind_s, bind_s]
    exact ⟨_, rfl, rfl⟩
  · -- 7
    obtain ⟨c, e1, e2⟩ := q'.blocksOn (nI t)
    rw [if_neg (by decide), if_neg (by decide), if_neg (by decide), if_neg (by decide), if_neg (by decide), if_neg (by decide), if_neg (by decide), if_pos (by decide), if_neg (by decide), if_neg (by decide), if_pos (by decide), e1, e2, bind_s, bind_s]
    exact ⟨_, rfl, rfl⟩
  · -- 8
    obtain ⟨c, e1, e2⟩ := q'.blocksOn (nI t)
    rw [if_neg (by decide), if_neg (by decide), if_neg (by decide), if_neg (by decide), if_neg (by decide), if_neg (by decide), if_neg (by decide), if_neg (by decide), if_pos (by decide), qg_t, if_neg (by decide), if_neg (by decide), if_neg (by decide), if_pos (by decide), e1, bind_s]
    unfold f9_deadOf
    rw [show (16 : Int32) + nI t = nI (16 + t) from nI_add 16 t, m9 (16 + t) (by omega), qg_t, e2, bind_s, bind_s, ix_nI (show 16 + t < 2 ^ 31 by omega), w00_9, ← r3]
    exact ⟨_, rfl, rfl⟩
  · -- 9
    obtain ⟨c, -, e1, e2⟩ := q'.askedOn (nI t)
    rw [if_neg (by decide), if_neg (by decide), if_neg (by decide), if_neg (by decide), if_neg (by decide), if_neg (by decide), if_neg (by decide), if_neg (by decide), if_neg (by decide), if_pos (by decide), if_neg (by decide), if_neg (by decide), if_neg (by decide), if_neg (by decide), if_pos (by decide), e1, e2, bind_s, bind_s]
    exact ⟨_, rfl, rfl⟩
  · -- 10
    have ed := q'.dr ht
    rw [if_neg (by decide), if_neg (by decide), if_neg (by decide), if_neg (by decide), if_neg (by decide), if_neg (by decide), if_neg (by decide), if_neg (by decide), if_neg (by decide), if_neg (by decide)]
    by_cases hd : hx.1 52 t = -1
    · rw [if_pos hd, if_pos rfl, if_neg (by decide), if_neg (by decide), if_neg (by decide), if_neg (by decide), if_neg (by decide), if_pos (by decide), ed, bind_s, if_pos (show hx.1 (51 + 1) t = -1 from hd), if_pos rfl]
      exact ⟨_, rfl, rfl⟩
    · rw [if_neg hd, if_neg q1f, qg_t, if_neg (by decide), if_neg (by decide), if_neg (by decide), if_neg (by decide), if_neg (by decide), if_pos (by decide), ed, bind_s, if_neg (show ¬ hx.1 (51 + 1) t = -1 from hd), if_neg q1f, show (40 : Int32) + nI t = nI (40 + t) from nI_add 40 t, m9 (40 + t) (by omega), qg_t, ix_nI (show 40 + t < 2 ^ 31 by omega), w00_9, ← r6, ← s2]
      exact ⟨_, rfl, rfl⟩
/-- tape: both answer, or the class throws -/
theorem WW.tape (h : WW B hx hm) (x y : Int32) : (∃ v hm', f8_tape x y hx = some v ∧ f9_tape x y hm = some (v, hm') ∧ hm'.1 0 0 = 0 ∧ WW B hx hm') ∨ ((f4_isTape 6 x hx = some 0 ∨ (f4_isTape 6 x hx = some 1 ∧ (y < 0 ∨ ¬ y ≤ 10))) ∧ ∃ hm', f9_tape x y hm = some (0, hm') ∧ hm'.1 0 0 = 1 ∧ WW B hx hm') := by
  rcases h.2.2.2 with w | ⟨T, r, F, LT, k, nx, H, lb, -⟩
  · right
    exact ⟨Or.inl w.tapeX, _, f9_tape_no x y (Or.inl w.tapeM), w00_0 1, h.w00 1⟩
  · rcases H.1.isTape x with ⟨t, ht, rfl, h1, h2⟩ | ⟨h1, h2⟩
    · rcases in0 (hm := hm) (n := 11) y (by omega) with ⟨i, hi, rfl, -, -, -, -⟩ | ⟨g, g2⟩
      · left
        obtain ⟨v, e1, e2⟩ := H.1.vTape lb ht hi
        exact ⟨v, _, e1, e2, w00_0 0, h.w00 0⟩
      · right
        refine ⟨Or.inr ⟨h1, ?_⟩, _, f9_tape_no _ y (Or.inr ⟨h2, g2⟩), w00_0 1, h.w00 1⟩
        rcases g with g | ⟨-, -, g⟩
        · exact Or.inl g
        · right
          intro z
          exact g (Int32.lt_of_le_of_lt z (by decide))
    · right
      exact ⟨Or.inl h1, _, f9_tape_no x y (Or.inl h2), w00_0 1, h.w00 1⟩
end PU1
