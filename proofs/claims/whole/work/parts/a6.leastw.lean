section PU2
variable {T B F a : Nat} {r : Nat → Nat} {hx hm hx' hm' : qH}
/-- the lengths that a table may have -/
def TL (n : Nat) : Prop := ∃ k, k ≤ 12 ∧ n = 2 ^ k * k
theorem TL.le {n : Nat} (h : TL n) : n ≤ 49152 := by
  obtain ⟨k, hk, rfl⟩ := h
  exact Nat.mul_le_mul (pw_le hk) hk
theorem TL.two {n C : Nat} (h : TL n) (hC : n < 2 ^ C * C) : 2 * n ≤ 2 ^ C * C := by
  obtain ⟨k, hk, rfl⟩ := h
  have hkC : k < C := by
    rcases Nat.lt_or_ge k C with h | h
    · exact h
    · exfalso
      have := Nat.mul_le_mul (Nat.pow_le_pow_right (show 0 < 2 by omega) h) h
      omega
  have h1 : 2 ^ (k + 1) ≤ 2 ^ C := Nat.pow_le_pow_right (by omega) hkC
  have h2 : 2 * (2 ^ k * k) = 2 ^ (k + 1) * k := by rw [Nat.pow_succ, ← Nat.mul_assoc, Nat.mul_comm 2 (2 ^ k)]
  rw [h2]
  exact Nat.mul_le_mul h1 (by omega)
theorem ix_pos {x : Int32} (h : 0 < ix x) : x = nI (ix x) := by
  have h1 : ix x = x.toInt.toNat := rfl
  have h0 : 0 ≤ x.toInt := by omega
  apply Int32.toInt_inj.mp
  have hl : x.toInt < 2 ^ 31 := Int32.toInt_lt x
  have h2 : (nI (ix x)).toInt = (ix x : Int) := by
    show (Int32.ofNat (ix x)).toInt = _
    rw [Int32.toInt_ofNat_of_lt (by omega)]
  rw [h2, h1]
  omega
theorem HX.rows {T : Nat} {r : Nat → Nat} {h h' : qH} (hX : HX T r h) (f : ∀ b, b = 6 ∨ b = 7 ∨ b = 12 ∨ b = 13 → h'.1 b = h.1 b) : HX T r h' := by
  unfold HX at hX ⊢
  rw [f 6 (by omega), f 7 (by omega), f 12 (by omega), f 13 (by omega)]
  exact hX
/-- what least leaves as it was -/
theorem WW.lf (h : WW B hx hm) (f : ∀ b, ¬ (43 ≤ b ∧ b ≤ 50) → b ≠ 100 → hx'.1 b = hx.1 b) (m1 : ∀ b, b ≠ 0 → b ≠ 11 → b ≠ 15 → hm'.1 b = hm.1 b) (m2 : ∀ j, j ≠ 20 → hm'.1 0 j = hm.1 0 j) : WW B hx' hm' := by
  obtain ⟨⟨L, b⟩, k⟩ := h
  refine ⟨⟨L, b.cg (by rw [f 1 (by omega) (by omega)]) (f 2 (by omega) (by omega)) (m2 2 (by omega)) (m1 1 (by omega) (by omega) (by omega))⟩, k.cg (fun b hb => f b (by omega) (by omega)) (fun j hj => by rw [f 0 (by omega) (by omega)]) (fun b hb => m1 b (by omega) (by omega) (by omega)) (fun j hj => m2 j (by omega)) (fun S _ => ⟨fun j _ => by rw [m1 8 (by omega) (by omega) (by omega)], fun k _ => by rw [m1 7 (by omega) (by omega) (by omega)]⟩)⟩
theorem WW.least (h : WW B hx hm) (x : Int32) (tl : TL (ix (hx.1 100 0))) : OK2 B (f8_least x hx) (f9_least x hm) ∨ ∃ N, TL N ∧ 2 * ix (hx.1 100 0) ≤ N ∧ ∃ v hx' hm', f8_lsn N x hx = some (v, hx') ∧ f9_least x hm = some (v, hm') ∧ WW B hx' hm' ∧ ix (hx'.1 100 0) = N := by
  rcases h.2.2.2 with w | ⟨T, r, F, LT, k, nx, H, lb, -⟩
  · left
    unfold f8_least f9_least
    rw [w.tapeX, w.tapeM, bind_s, bind_s, qj_e, if_pos rfl, if_pos rfl]
    exact ⟨_, _, _, rfl, rfl, h⟩
  · have q := H.1
    have ka : kStage 51 := Or.inl rfl
    have hT := q.t31
    rcases q.isTape x with ⟨t, ht, rfl, h1, h2⟩ | ⟨h1, h2⟩
    · obtain ⟨g, h3, c1, ga, c2, c3, c4⟩ := q.gather ka ht
      obtain ⟨p0, w, x', tbm, hp0, e53, lm⟩ := q.leastM ht
      have hC := q.ak12 ht
      have hF : F ≤ 24 := q.2.2.2.2.1.2.1
      generalize hCe : ak (hm.1 9) (nI t) F = C at ga hC
      have hX3 : HX T r h3 := q.2.1.rows fun b hb => c3 b (by omega)
      have e100 : h3.1 100 = hx.1 100 := c3 100 (by omega)
      have eM : f9_least (nI t) hm = some (nI (lsV (hm.1 9) r F t p0), qrow (hL hm w x') 15 tbm) := by
        unfold f9_least
        rw [h2, bind_s, qj_e, if_neg q1f, lm, qb2_s]
      have m1 : ∀ b, b ≠ 0 → b ≠ 11 → b ≠ 15 → (qrow (hL hm w x') 15 tbm).1 b = hm.1 b := fun b b0 b1 b2 => by rw [qrow_ne b2, hL_o b0 b1]
      have m2 : ∀ j, j ≠ 20 → (qrow (hL hm w x') 15 tbm).1 0 j = hm.1 0 j := fun j hj => by rw [qrow_ne (by omega), hL_0, upd_ne hj]
      by_cases hC0 : C = 0
      · subst hC0
        left
        have l0 : lsV (hm.1 9) r F t p0 = 0 := by rw [ga.least hF]; rfl
        refine ⟨0, h3, _, ?_, by rw [eM, l0]; rfl, h.lf (fun b b1 _ => c3 b (by omega)) m1 m2⟩
        unfold f8_least f2_leastTime
        rw [h1, bind_s, if_neg q1f, c1, bind_s, if_pos (show h3.1 43 1 = 0 from ga.1), qb2_s]
      · have hp2 := (pw2 C (by omega)).1
        have hCp : 0 < C := by omega
        have h4 := pw_le hC
        have hNC : 2 ^ C * C ≤ 49152 := Nat.mul_le_mul h4 hC
        have hne : ¬ h3.1 43 1 = 0 := by
          rw [ga.1]
          exact fun z => hC0 (nI_inj (b := 0) (by omega) (by omega) z)
        have hsm : ix (hx.1 100 0) ≤ 49152 := tl.le
        by_cases hs : 2 ^ C * C ≤ ix (hx.1 100 0)
        · left
          have h0N : 0 < 2 ^ C * C := Nat.mul_pos (Nat.two_pow_pos C) hCp
          have el : h3.1 100 0 = nI (ix (hx.1 100 0)) := by rw [e100]; exact ix_pos (by omega)
          obtain ⟨w', tb, l⟩ := lt42 hX3 q.1 q.2.2.2.2 hF ga (show t < 2 ^ 31 by omega) hC hCp hp0 (c2.trans e53) el hs (by omega)
          refine ⟨_, _, _, ?_, eM, h.lf (hx' := qrow (qrow h3 49 w') 50 tb) (fun b b1 _ => by rw [qrow_ne (by omega), qrow_ne (by omega)]; exact c3 b (by omega)) m1 m2⟩
          unfold f8_least f2_leastTime
          rw [h1, bind_s, if_neg q1f, c1, bind_s, if_neg hne, ga.1, hp2, qlt_e, nI_mul, e100, if_pos (nI_le hs (by omega)), l, qb2_s]
        · right
          refine ⟨2 ^ C * C, ⟨C, hC, rfl⟩, tl.two (by omega), ?_⟩
          have r5 : ∀ b, b ≠ 50 → b < 85 → (q50 (2 ^ C * C) h3).1 b = h3.1 b := fun b b1 b2 => q50_row b1 b2
          have e5 : (q50 (2 ^ C * C) h3).1 100 0 = nI (2 ^ C * C) := rfl
          obtain ⟨w', tb, l⟩ := lt42 (h := q50 (2 ^ C * C) h3) (hX3.rows fun b hb => r5 b (by omega) (by omega)) q.1 q.2.2.2.2 hF (ga.cg (r5 43 (by omega) (by omega)) (r5 44 (by omega) (by omega)) (r5 45 (by omega) (by omega)) (r5 46 (by omega) (by omega)) (r5 47 (by omega) (by omega))) (show t < 2 ^ 31 by omega) hC hCp hp0 (by rw [r5 43 (by omega) (by omega)]; exact c2.trans e53) e5 (Nat.le_refl _) (by omega)
          have hq : ∀ b, b ≠ 50 → b ≠ 100 → (q50 (2 ^ C * C) h3).1 b = h3.1 b := fun b b1 b2 => by
            show (if b = 50 then _ else if b = 100 then _ else h3.1 b) = _
            rw [if_neg b1, if_neg b2]
          refine ⟨_, qrow (qrow (q50 (2 ^ C * C) h3) 49 w') 50 tb, _, ?_, eM, h.lf (fun b b1 b2 => by rw [qrow_ne (by omega), qrow_ne (by omega), hq b (by omega) b2]; exact c3 b (by omega)) m1 m2, ?_⟩
          · unfold f8_lsn f2_ltn
            have hnw : qnw (nI (2 ^ C * C)) (2 ^ C * C) = true := by
              unfold qnw
              rw [decide_eq_true (show ¬ nI (2 ^ C * C) < 0 from nI_nlt (a := 2 ^ C * C) (b := 0) (by omega) (by omega)), decide_eq_true (show (nI (2 ^ C * C)).toNatClampNeg = 2 ^ C * C from ix_nI (by omega))]
              rfl
            rw [h1, bind_s, if_neg q1f, c1, bind_s, if_neg hne, ga.1, hp2, qlt_e, nI_mul, e100, if_neg (nI_ge (show ix (hx.1 100 0) < 2 ^ C * C by omega) (by omega)), hnw, qg_t, l, bind_s]
          · rw [qrow_ne (by omega), qrow_ne (by omega), e5]
            exact ix_nI (by omega)
    · left
      unfold f8_least f9_least
      rw [h1, h2, bind_s, bind_s, qj_e, if_pos rfl, if_pos rfl]
      exact ⟨_, _, _, rfl, rfl, h⟩
/-- the first world -/
theorem WW.first : WW 0 q00 q00 := by
  refine ⟨⟨0, ?_⟩, ⟨0, by omega, rfl, rfl, fun s hs => by omega⟩, fun j _ => rfl, Or.inl ⟨⟨rfl, rfl⟩, ⟨rfl, rfl⟩, ⟨rfl, rfl⟩, ⟨rfl, rfl⟩, ⟨rfl, rfl⟩, rfl⟩⟩
  refine ⟨rfl, rfl, by omega, ?_⟩
  intro k hk
  omega
end PU2
