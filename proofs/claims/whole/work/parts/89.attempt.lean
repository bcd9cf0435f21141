section PB1
variable {T B F a LT k nx : Nat} {r : Nat → Nat} {hx hm : qH}
theorem QQ.cg {hx' hm' : qH} (q : QQ T r B F hx a hm) (h1 : ∀ b, b = 6 ∨ b = 7 ∨ b = 12 ∨ b = 13 ∨ (a ≤ b ∧ b ≤ a + 11) → hx'.1 b = hx.1 b) (h2 : hm'.1 0 12 = hm.1 0 12) (h3 : hm'.1 5 = hm.1 5) (h4 : hm'.1 9 = hm.1 9) : QQ T r B F hx' a hm' := by
  obtain ⟨q1, q2, q3, q4, q5⟩ := q
  refine ⟨q1, ?_, ?_, ?_, by rw [h4]; exact q5⟩
  · unfold HX
    rw [h1 6 (by omega), h1 7 (by omega), h1 12 (by omega), h1 13 (by omega)]
    exact q2
  · unfold HM
    rw [h2, h3]
    exact q3
  · rw [h4]
    unfold RS RP
    rw [h1 a (by omega), h1 (a + 1) (by omega), h1 (a + 2) (by omega), h1 (a + 3) (by omega), h1 (a + 4) (by omega), h1 (a + 5) (by omega), h1 (a + 6) (by omega), h1 (a + 7) (by omega), h1 (a + 8) (by omega), h1 (a + 9) (by omega), h1 (a + 10) (by omega), h1 (a + 11) (by omega)]
    exact q4
theorem QQ.mono {B' : Nat} (q : QQ T r B F hx a hm) (hB : B ≤ B') : QQ T r B' F hx a hm := ⟨q.1, q.2.1, q.2.2.1, q.2.2.2.1, q.2.2.2.2.mono hB⟩
theorem PA.mono {B' : Nat} {rows ring kept : Nat → Int32} (h : PA T r B k nx LT rows ring kept) (hB : B ≤ B') : PA T r B' k nx LT rows ring kept := fun j hj => (h j hj).mono hB
/-- a hall, both sides -/
def HS (T : Nat) (r : Nat → Nat) (B F LT k nx : Nat) (hx hm : qH) : Prop := QQ T r B F hx 51 hm ∧ (hx.1 79 1 = nI LT ∧ LT ≤ B ∧ LG LT (hx.1 80) (hm.1 9)) ∧ (hx.1 77 1 = nI k ∧ hm.1 0 23 = nI k ∧ k ≤ 40 ∧ k ≤ LT ∧ hx.1 77 2 = nI nx ∧ nx < 40) ∧ PA T r B k nx LT (hx.1 78) (hx.1 80) (hm.1 13)
theorem HS.mono {B' : Nat} (h : HS T r B F LT k nx hx hm) (hB : B ≤ B') : HS T r B' F LT k nx hx hm := ⟨h.1.mono hB, ⟨h.2.1.1, by have := h.2.1.2.1; omega, h.2.1.2.2⟩, h.2.2.1, h.2.2.2.mono hB⟩
theorem HS.cg {hx' hm' : qH} (h : HS T r B F LT k nx hx hm) (h1 : ∀ b, (6 ≤ b ∧ b ≤ 13) ∨ (51 ≤ b ∧ b ≤ 62) ∨ (77 ≤ b ∧ b ≤ 80) → hx'.1 b = hx.1 b) (h2 : hm'.1 0 12 = hm.1 0 12) (h23 : hm'.1 0 23 = hm.1 0 23) (h3 : hm'.1 5 = hm.1 5) (h4 : hm'.1 9 = hm.1 9) (h5 : hm'.1 13 = hm.1 13) : HS T r B F LT k nx hx' hm' := by
  obtain ⟨q, h6, h7, h8⟩ := h
  refine ⟨q.cg (fun b hb => h1 b (by omega)) h2 h3 h4, ?_, ?_, ?_⟩
  · rw [h1 79 (by omega), h1 80 (by omega), h4]; exact h6
  · rw [h1 77 (by omega), h23]; exact h7
  · rw [h1 78 (by omega), h1 80 (by omega), h5]; exact h8
theorem HS.keep (H : HS T r B F LT k nx hx hm) : ∃ (k' nx' : Nat) (hx' hm' : qH), f3_keep 51 hx = some hx' ∧ f9_keep hm = some hm' ∧ (∀ b, b ≠ 77 → b ≠ 78 → hx'.1 b = hx.1 b) ∧ hx'.2 = hx.2 ∧ (∀ b, b ≠ 0 → b ≠ 13 → hm'.1 b = hm.1 b) ∧ (∀ j, j ≠ 23 → hm'.1 0 j = hm.1 0 j) ∧ hm'.2 = hm.2 ∧ (hx'.1 77 1 = nI k' ∧ hm'.1 0 23 = nI k' ∧ k' ≤ 40 ∧ k' ≤ LT + 1 ∧ hx'.1 77 2 = nI nx' ∧ nx' < 40) ∧ PA T r B k' nx' (LT + 1) (hx'.1 78) (hx'.1 80) (hm'.1 13) := by
  obtain ⟨q, ⟨l1, l2, l3⟩, ⟨k1, k2, k3, k4, k5, k6⟩, pa⟩ := H
  have hT := q.t31
  obtain ⟨w, s1, s2, s3⟩ := store_eq (a := 51) (c := 78) (p := 172 * nx) (np := 6880) (h := hx) (by omega) (by omega) (by omega)
  have cx : f3_keep 51 hx = some (qrow (qrow hx 78 w) 77 (upd (upd (hx.1 77) 2 (nI ((nx + 1) % 40))) 1 (nI (if k < 40 then k + 1 else 40)))) := by
    unfold f3_keep
    have e1 : nI nx * (172 : Int32) = nI (172 * nx) := by rw [Nat.mul_comm]; exact nI_mul nx 172
    have e2 : nI (nx + 1) - nI (nx + 1) / (40 : Int32) * (40 : Int32) = nI ((nx + 1) % 40) := pk_rem (a := nx + 1) (d := 40) (by omega) (by omega) (by omega)
    have e3 : (if (40 : Int32) < nI (k + 1) then (40 : Int32) else nI (k + 1)) = nI (if k < 40 then k + 1 else 40) := by
      by_cases h9 : k < 40
      · rw [if_pos h9, if_neg (show ¬ (40 : Int32) < nI (k + 1) from nI_nlt (a := 40) (b := k + 1) (by omega) (by omega))]
      · rw [if_neg h9, if_pos (show (40 : Int32) < nI (k + 1) from nI_lt (a := 40) (b := k + 1) (by omega) (by omega))]; rfl
    rw [k5, e1, s1, bind_s, show decide (¬ (40 : Int32) = 0) = true from by decide, qg_t]
    simp only [qlt_e, qw, qrow_ne (show (77 : Nat) ≠ 78 by omega), k5, nI_1, e2, qrow_at, qrow_qrow, upd_ne (show (1 : Nat) ≠ 2 by omega), k1, e3]
  have row : ∀ (kk : Nat) (kept' : Nat → Int32), (∀ i, i < 353 → kept' (353 * kk + i) = hm.1 9 i) → KR T r B LT w (172 * nx) (hx.1 80) (fun i => kept' (353 * kk + i)) := fun kk kept' hk => by
    refine ⟨F, q.2.2.2.2.cg hT.1 (fun i hi => hk i (by omega)), ?_, l3.cg (fun i _ hi => hk i hi)⟩
    exact (q.2.2.2.1.cg hT.1 hT.2 (fun i hi => hk i (by omega))).se s2 hT.1 hT.2
  have paN : ∀ (k' : Nat) (kept' : Nat → Int32), 1 ≤ k' → k' ≤ 40 → k' ≤ k + 1 → (∀ i, i < 353 → kept' (353 * (k' - 1) + i) = hm.1 9 i) → (∀ j i, 1 ≤ j → j < k' → i < 353 → kept' (353 * (k' - 1 - j) + i) = hm.1 13 (353 * (k - j) + i)) → PA T r B k' ((nx + 1) % 40) (LT + 1) w (hx.1 80) kept' := by
    intro k' kept' hk1 hk40 hkk h0 hj' j hj
    by_cases e : j = 0
    · subst e
      have hr := row (k' - 1) kept' h0
      rw [show 172 * (((nx + 1) % 40 + 39 - 0) % 40) = 172 * nx by omega, show LT + 1 - 1 - 0 = LT by omega, show k' - 1 - 0 = k' - 1 by omega]
      exact hr
    · have hr := pa (j - 1) (by omega)
      rw [show LT + 1 - 1 - j = LT - 1 - (j - 1) by omega]
      refine hr.cg hT.1 (fun i hi => ?_) (fun i hi => ?_)
      · show kept' (353 * (k' - 1 - j) + i) = hm.1 13 (353 * (k - 1 - (j - 1)) + i)
        rw [hj' j i (by omega) hj hi, show k - 1 - (j - 1) = k - j by omega]
      · have e9 : 172 * (((nx + 1) % 40 + 39 - j) % 40) = 172 * ((nx + 39 - (j - 1)) % 40) := by omega
        rw [e9]
        exact s3 _ (by omega)
  by_cases h9 : k < 40
  · obtain ⟨w2, t1, t2, t3⟩ := keepL (hm := hm) k2 h9 (fun (x9 : Int32) (h10 : qH) => qlt (qw h10 0 23 ((h10.1 0 23) + (1 : Int32))) fun (h11 : qH) => some h11)
    have cm : f9_keep hm = some (qrow (qrow hm 13 w2) 0 (upd (hm.1 0) 23 (nI (k + 1)))) := by
      unfold f9_keep
      have n40 : ¬ nI k = 40 := fun e => by
        have := (nI_eq (a := k) (b := 40) (by omega) (by omega)).mp e
        omega
      rw [qj_e, k2, if_neg n40]
      refine t3.trans ?_
      simp only [qlt_e, qw, qrow_ne (show (0 : Nat) ≠ 13 by omega), k2, nI_1]
    refine ⟨k + 1, (nx + 1) % 40, _, _, cx, cm, fun b h1 h2 => by rw [qrow_ne h1, qrow_ne h2], rfl, fun b h1 h2 => by rw [qrow_ne h1, qrow_ne h2], fun j hj => by rw [qrow_at, upd_ne hj], rfl, ⟨by rw [qrow_at, upd_at, if_pos h9], by rw [qrow_at, upd_at], by omega, by omega, by rw [qrow_at, upd_ne (by omega), upd_at], by omega⟩, ?_⟩
    rw [qrow_ne (show (78 : Nat) ≠ 77 by omega), qrow_at, qrow_ne (show (80 : Nat) ≠ 77 by omega), qrow_ne (show (80 : Nat) ≠ 78 by omega), qrow_ne (show (13 : Nat) ≠ 0 by omega), qrow_at]
    refine paN (k + 1) w2 (by omega) (by omega) (by omega) (fun i hi => by rw [show k + 1 - 1 = k by omega]; exact t1 i hi) (fun j i h1 h2 hi => ?_)
    rw [show k + 1 - 1 - j = k - j by omega, t2 _ (by omega)]
  · have hk40 : k = 40 := by omega
    subst hk40
    obtain ⟨w1, u1, u3⟩ := shiftL (hm := hm) (fun (x18 : Int32) (h19 : qH) => qlt (qw h19 0 23 ((h19.1 0 23) - (1 : Int32))) fun (h20 : qH) => (fun (h1 : qH) => f9_keep_L54 (fun (x9 : Int32) (h10 : qH) => qlt (qw h10 0 23 ((h10.1 0 23) + (1 : Int32))) fun (h11 : qH) => some h11) qN (0 : Int32) h1) h20)
    have e39 : (qrow (qrow hm 13 w1) 0 (upd (hm.1 0) 23 (nI 39))).1 0 23 = nI 39 := by rw [qrow_at, upd_at]
    obtain ⟨w2, t1, t2, t3⟩ := keepL (hm := qrow (qrow hm 13 w1) 0 (upd (hm.1 0) 23 (nI 39))) e39 (by omega) (fun (x9 : Int32) (h10 : qH) => qlt (qw h10 0 23 ((h10.1 0 23) + (1 : Int32))) fun (h11 : qH) => some h11)
    have r9 : (qrow (qrow hm 13 w1) 0 (upd (hm.1 0) 23 (nI 39))).1 9 = hm.1 9 := by rw [qrow_ne (by omega), qrow_ne (by omega)]
    have r13 : (qrow (qrow hm 13 w1) 0 (upd (hm.1 0) 23 (nI 39))).1 13 = w1 := by rw [qrow_ne (by omega), qrow_at]
    rw [r9] at t1
    rw [r13] at t2
    have cm : f9_keep hm = some (qrow (qrow (qrow (qrow hm 13 w1) 0 (upd (hm.1 0) 23 (nI 39))) 13 w2) 0 (upd (upd (hm.1 0) 23 (nI 39)) 23 (nI 40))) := by
      unfold f9_keep
      rw [qj_e, k2, if_pos (by decide)]
      refine u3.trans ?_
      simp only [qlt_e, qw, qrow_ne (show (0 : Nat) ≠ 13 by omega), k2, show nI 40 - 1 = nI 39 by decide]
      refine Eq.trans t3 ?_
      simp only [qlt_e, qw, qrow_ne (show (0 : Nat) ≠ 13 by omega), qrow_at, upd_at, show nI 39 + 1 = nI 40 by decide]
    refine ⟨40, (nx + 1) % 40, _, _, cx, cm, fun b h1 h2 => by rw [qrow_ne h1, qrow_ne h2], rfl, fun b h1 h2 => by rw [qrow_ne h1, qrow_ne h2, qrow_ne h1, qrow_ne h2], fun j hj => by rw [qrow_at, upd_ne hj, upd_ne hj], rfl, ⟨by rw [qrow_at, upd_at, if_neg h9], by rw [qrow_at, upd_at], by omega, by omega, by rw [qrow_at, upd_ne (by omega), upd_at], by omega⟩, ?_⟩
    rw [qrow_ne (show (78 : Nat) ≠ 77 by omega), qrow_at, qrow_ne (show (80 : Nat) ≠ 77 by omega), qrow_ne (show (80 : Nat) ≠ 78 by omega), qrow_ne (show (13 : Nat) ≠ 0 by omega), qrow_at]
    refine paN 40 w2 (by omega) (by omega) (by omega) (fun i hi => t1 i hi) (fun j i h1 h2 hi => ?_)
    rw [t2 _ (by omega), u1 _ (by omega)]
    exact congrArg (hm.1 13) (by omega)
/-- what an act leaves as it is -/
def AF (hx hx' hm hm' : qH) : Prop := (∀ b, b < 43 ∨ b = 50 ∨ (63 ≤ b ∧ b ≤ 76) ∨ 81 ≤ b → hx'.1 b = hx.1 b) ∧ (∀ b, b ≠ 0 → b ≠ 9 → b ≠ 11 → b ≠ 12 → b ≠ 13 → hm'.1 b = hm.1 b) ∧ (∀ j, j ≠ 18 → j ≠ 20 → j ≠ 23 → hm'.1 0 j = hm.1 0 j) ∧ hx'.2 = hx.2 ∧ hm'.2 = hm.2
theorem AF.rf : AF hx hx hm hm := ⟨fun _ _ => rfl, fun _ _ _ _ _ _ => rfl, fun _ _ _ _ => rfl, rfl, rfl⟩
theorem AF.tr {hx1 hx2 hm1 hm2 : qH} (x : AF hx hx1 hm hm1) (y : AF hx1 hx2 hm1 hm2) : AF hx hx2 hm hm2 := ⟨fun b p => (y.1 b p).trans (x.1 b p), fun b p1 p2 p3 p4 p5 => (y.2.1 b p1 p2 p3 p4 p5).trans (x.2.1 b p1 p2 p3 p4 p5), fun j p1 p2 p3 => (y.2.2.1 j p1 p2 p3).trans (x.2.2.1 j p1 p2 p3), y.2.2.2.1.trans x.2.2.2.1, y.2.2.2.2.trans x.2.2.2.2⟩
theorem HS.att (H : HS T r B F LT k nx hx hm) (hB : B < 2 ^ 29) {s : Nat} {x y x' y' : Int32} (hs : s ≤ 10) (ha : Arg s x y x' y') (h7 : s = 7 → x = -1) : ∃ w, f7_refusal 51 (nI s) x y hx = some w ∧ f9_whyNot (nI s) x' y' hm = some w ∧ isW w ∧ (w = -1 → ∃ (v : Int32) (F' k' nx' : Nat) (hx' hm' : qH), ¬ v = -1 ∧ (∀ c, f8_attempt (nI s) x y c hx = some (v, hx')) ∧ f9_act (nI s) x' y' hm = some (v, hm') ∧ HS T r (B + 1) F' (LT + 1) k' nx' hx' hm' ∧ AF hx hx' hm hm') := by
  have ka : kStage 51 := Or.inl rfl
  obtain ⟨w, w1, w2, w3, w4⟩ := H.1.refuse hs ha
  refine ⟨w, w1, w2, w3, fun hw => ?_⟩
  obtain ⟨k', nx', h1, m1, c1, c2, f1, f2, f3, f4, f5, kk, pa1⟩ := H.keep
  obtain ⟨q, ⟨l1, l2, l3⟩, -, -⟩ := H
  have q1 : QQ T r B F h1 51 m1 := q.cg (fun b hb => f1 b (by omega) (by omega)) (f4 12 (by omega)) (f3 5 (by omega) (by omega)) (f3 9 (by omega) (by omega))
  have e9 : m1.1 9 = hm.1 9 := f3 9 (by omega) (by omega)
  obtain ⟨v, F', h2, m2, hv, d1, d2, o1⟩ := q1.carry ka (by omega) hs ha (by rw [e9]; exact w4 hw)
  obtain ⟨q2, fx, fm, -⟩ := o1
  have l3' : LG LT (h2.1 80) (m2.1 9) := by
    rw [fx.1 80 (by omega) (by omega), f1 80 (by omega) (by omega)]
    refine l3.cg (fun k hk _ => ?_)
    rw [fm.2.2.2 k hk, e9]
  have t79 : h2.1 79 1 = nI LT := by rw [fx.1 79 (by omega) (by omega), f1 79 (by omega) (by omega)]; exact l1
  -- the number that is logged
  have hnum : ∃ z, f8_numberToLog (nI s) x v h2 = some z ∧ (if nI s = (1 : Int32) then v else (if nI s = (10 : Int32) then v else (if nI s = (7 : Int32) then (-1 : Int32) else x'))) = z := by
    unfold f8_numberToLog
    rw [qlt_e]
    by_cases s1 : s = 1
    · subst s1
      rw [if_pos (by decide), if_pos (by decide)]
      exact ⟨v, rfl, rfl⟩
    · have n1 : ¬ nI s = 1 := fun e => s1 ((nI_eq (a := s) (b := 1) (by omega) (by omega)).mp e)
      rw [if_neg n1, if_neg n1]
      by_cases s10 : s = 10
      · subst s10
        rw [if_pos (by decide), if_pos (by decide)]
        exact ⟨v, rfl, rfl⟩
      · have n10 : ¬ nI s = 10 := fun e => s10 ((nI_eq (a := s) (b := 10) (by omega) (by omega)).mp e)
        rw [if_neg n10, if_neg n10]
        by_cases s7 : s = 7
        · have := h7 s7
          subst s7
          rw [if_pos (by decide), this]
          exact ⟨_, rfl, rfl⟩
        · have n7 : ¬ nI s = 7 := fun e => s7 ((nI_eq (a := s) (b := 7) (by omega) (by omega)).mp e)
          rw [if_neg n7, ha.1 s1 s7 s10]
          exact ⟨_, rfl, rfl⟩
  obtain ⟨z, z1, z2⟩ := hnum
  have e170 : m2.1 9 170 - m1.1 9 170 = h2.1 51 2 - h1.1 51 2 := by
    rw [q2.2.2.2.1.1.1, q1.2.2.2.1.1.1]
  obtain ⟨N', n1, n2, n3⟩ := note_eq (x := nI s) (y := z) (z := h2.1 51 2 - h1.1 51 2) l3'
  have ad := add_eq (h := h2) (c := 79) (x := nI s) (y := z) (z := h2.1 51 2 - h1.1 51 2) t79 (by omega)
  refine ⟨v, F', k', nx', qrow (qrow h2 80 (rg (h2.1 80) LT (nI s) z (h2.1 51 2 - h1.1 51 2))) 79 (upd (h2.1 79) 1 (nI (LT + 1))), qrow m2 9 N', hv, fun c => ?_, ?_, ⟨?_, ⟨?_, by omega, ?_⟩, ?_, ?_⟩, ?_⟩
  · unfold f8_attempt
    rw [w1, bind_s, if_pos hw, c1, bind_s, qlt_e, d1, qb2_s, z1, bind_s, ad, bind_s]
  · unfold f9_act
    rw [c2, bind_s, qlt_e, d2, qb2_s, qlt_e, z2, e170, n1, bind_s]
  · refine ⟨q2.1, ?_, ?_, ?_, ?_⟩
    · unfold HX
      rw [qrow_ne (by omega), qrow_ne (by omega), qrow_ne (by omega), qrow_ne (by omega), qrow_ne (by omega), qrow_ne (by omega), qrow_ne (by omega), qrow_ne (by omega)]
      exact q2.2.1
    · unfold HM
      rw [qrow_ne (by omega), qrow_ne (by omega)]
      exact q2.2.2.1
    · rw [qrow_at]
      refine (q2.2.2.2.1.cg q2.t31.1 q2.t31.2 n2).se ⟨fun k _ _ => ?_, fun j i _ _ _ => ?_, fun j i _ _ _ => ?_⟩ q2.t31.1 q2.t31.2
      · rw [qrow_ne (by omega), qrow_ne (by omega)]
      · rw [qrow_ne (by omega), qrow_ne (by omega)]
      · rw [qrow_ne (by omega), qrow_ne (by omega)]
    · rw [qrow_at]
      exact q2.2.2.2.2.cg q2.t31.1 n2
  · rw [qrow_at, upd_at]
  · rw [qrow_ne (by omega), qrow_at, qrow_at]
    exact n3
  · rw [qrow_ne (by omega), qrow_ne (by omega), fx.1 77 (by omega) (by omega), qrow_ne (by omega), fm.2.1 23 (by omega) (by omega)]
    exact kk
  · rw [qrow_ne (show (78 : Nat) ≠ 79 by omega), qrow_ne (show (78 : Nat) ≠ 80 by omega), fx.1 78 (by omega) (by omega), qrow_ne (show (80 : Nat) ≠ 79 by omega), qrow_at, fx.1 80 (by omega) (by omega), qrow_ne (show (13 : Nat) ≠ 9 by omega), fm.1 13 (by omega) (by omega) (by omega) (by omega)]
    exact (pa1.old kk.2.2.1 kk.2.2.2.1).mono (by omega)
  · refine ⟨fun b hb => ?_, fun b b1 b2 b3 b4 b5 => ?_, fun j j1 j2 j3 => ?_, ?_, ?_⟩
    · rw [qrow_ne (by omega), qrow_ne (by omega), fx.1 b (by omega) (by omega), f1 b (by omega) (by omega)]
    · rw [qrow_ne b2, fm.1 b b1 b2 b3 b4, f3 b b1 b5]
    · rw [qrow_ne (by omega), fm.2.1 j j1 j2, f4 j j3]
    · show h2.2 = hx.2
      rw [fx.2, f2]
    · show m2.2 = hm.2
      rw [fm.2.2.1, f5]
theorem HS.hand (H : HS T r B F LT k nx hx hm) (hB : B < 2 ^ 29) (st : ∀ j, j < 4 → hx.1 84 j = hm.1 10 j) {s : Nat} {x y x' y' : Int32} (hs : s ≤ 10) (ha : Arg s x y x' y') (h7 : s = 7 → x = -1) : ∃ (v : Int32) (F' LT' k' nx' : Nat) (hx' hm' : qH), f8_attempt (nI s) x y 1 hx = some (v, hx') ∧ f9_hand (nI s) x' y' hm = some (v, hm') ∧ HS T r (B + 1) F' LT' k' nx' hx' hm' ∧ (∀ j, j < 4 → hx'.1 84 j = hm'.1 10 j) ∧ (∀ b, b < 43 ∨ b = 50 ∨ (63 ≤ b ∧ b ≤ 76) ∨ (81 ≤ b ∧ b ≠ 84) → hx'.1 b = hx.1 b) ∧ (∀ b, b ≠ 0 → b ≠ 9 → b ≠ 10 → b ≠ 11 → b ≠ 12 → b ≠ 13 → hm'.1 b = hm.1 b) ∧ (∀ j, j ≠ 18 → j ≠ 20 → j ≠ 23 → hm'.1 0 j = hm.1 0 j) := by
  obtain ⟨w, w1, w2, w3, w4⟩ := H.att hB hs ha h7
  by_cases hw : w = -1
  · obtain ⟨v, F', k', nx', hx', hm', hv, c1, c2, H', af⟩ := w4 hw
    refine ⟨v, F', LT + 1, k', nx', hx', hm', c1 1, ?_, H', fun j hj => ?_, fun b hb => af.1 b (by omega), fun b b1 b2 b3 b4 b5 b6 => af.2.1 b b1 b2 b4 b5 b6, af.2.2.1⟩
    · unfold f9_hand
      rw [w2, bind_s, if_pos hw, c2, qb2_s]
    · rw [af.1 84 (by omega), af.2.1 10 (by omega) (by omega) (by omega) (by omega) (by omega)]
      exact st j hj
  · have hwk : ∃ c, c < 4 ∧ w = nI c := by
      rcases w3 with e | e | e | e | e
      · exact absurd e hw
      · exact ⟨0, by omega, e⟩
      · exact ⟨1, by omega, e⟩
      · exact ⟨2, by omega, e⟩
      · exact ⟨3, by omega, e⟩
    obtain ⟨c, hc, rfl⟩ := hwk
    have q4 : qin (nI c) 4 = true := qin_nI hc (by omega)
    refine ⟨-1, F, LT, k, nx, qw hx 84 c (hx.1 84 c + 1), qw hm 10 c (hm.1 10 c + 1), ?_, ?_, (H.mono (by omega)).cg (fun b hb => qrow_ne (by omega)) (by rw [qrow_ne (by omega)]) (by rw [qrow_ne (by omega)]) (qrow_ne (by omega)) (qrow_ne (by omega)) (qrow_ne (by omega)), fun j hj => ?_, fun b hb => qrow_ne (by omega), fun b b1 b2 b3 b4 b5 b6 => qrow_ne b3, fun j j1 j2 j3 => by rw [qrow_ne (by omega)]⟩
    · unfold f8_attempt
      rw [w1, bind_s, if_neg hw, qj_e, if_neg q1f, q4, qg_t, qg_t, qlt_e, ix_nI (by omega)]
    · unfold f9_hand
      rw [w2, bind_s, if_neg hw, q4, qg_t, qg_t, qlt_e, ix_nI (by omega)]
    · rw [qrow_at, qrow_at]
      by_cases e : j = c
      · subst e; rw [upd_at, upd_at, st j hj]
      · rw [upd_ne e, upd_ne e, st j hj]
end PB1
