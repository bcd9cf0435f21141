/-! rows of the family 'wb' that are used here -/
theorem wb_tb (n : Nat) : (lN n).toBitVec = BitVec.ofNat 64 n := rfl
theorem wb_inj {a b : Int64} (h : a.toBitVec = b.toBitVec) : a = b := Int64.toBitVec_inj.mp h
theorem wb_tn {n : Nat} (h : n < 2 ^ 64) : (lN n).toBitVec.toNat = n := by rw [wb_tb, BitVec.toNat_ofNat, Nat.mod_eq_of_lt h]
theorem wb_of (x : Int64) : ∃ n, n < 2 ^ 64 ∧ x = lN n := ⟨x.toBitVec.toNat, x.toBitVec.isLt, wb_inj (by rw [wb_tb]; simp)⟩
theorem wb_cu : ∀ k, k < 64 → ((nI k).toInt64.toUInt64 &&& Int64.toUInt64 63) = UInt64.ofNat k := by decide +kernel
theorem wb_shr {n k : Nat} (hn : n < 2 ^ 64) (hk : k < 64) : ((lN n).toUInt64 >>> ((nI k).toInt64.toUInt64 &&& Int64.toUInt64 63)).toInt64 = lN (n / 2 ^ k) := by
  rw [wb_cu k hk]
  apply wb_inj
  apply BitVec.eq_of_toNat_eq
  show ((lN n).toUInt64 >>> UInt64.ofNat k).toNat = (BitVec.ofNat 64 _).toNat
  have h1 : (UInt64.ofNat k).toNat = k := by
    show (BitVec.ofNat 64 k).toNat = k
    rw [BitVec.toNat_ofNat, Nat.mod_eq_of_lt (by omega)]
  have h2 : (lN n).toUInt64.toNat = n := wb_tn hn
  rw [UInt64.toNat_shiftRight, h1, h2, Nat.mod_eq_of_lt hk, Nat.shiftRight_eq_div_pow, BitVec.toNat_ofNat, Nat.mod_eq_of_lt (Nat.lt_of_le_of_lt (Nat.div_le_self _ _) hn)]
theorem qlg_1 (h : qH) (x : Int64) : (qlg h 0 x).1 = h.1 := rfl
theorem qlg_2 (h : qH) (x : Int64) : (qlg h 0 x).2 0 = x := by
  show (if (0 : Nat) = 0 then x else h.2 0) = x
  exact if_pos rfl
theorem draw_eq {x y : qH} {b : Nat} (h : x.2 0 = y.2 0) (hb : 1 ≤ b) (hb2 : b < 2 ^ 31) : ∃ (z : Nat) (d : Int64), z < b ∧ f8_drawBelow (nI b) x = some (nI z, qlg x 0 d) ∧ f9_draw (nI b) y = some (nI z, qlg y 0 d) := by
  obtain ⟨n, hn, e⟩ := wb_of (y.2 0 * (6364136223846793005 : Int64) + (1442695040888963407 : Int64))
  refine ⟨n / 2 ^ 33 % b, lN n, Nat.mod_lt _ (by omega), ?_, ?_⟩
  all_goals
    have e33 : ((lN n).toUInt64 >>> ((33 : Int32).toInt64.toUInt64 &&& Int64.toUInt64 63)).toInt64 = lN (n / 2 ^ 33) := wb_shr (k := 33) hn (by omega)
    have hn' : n / 2 ^ 33 < 2 ^ 63 := by omega
    have er : lN (n / 2 ^ 33) - lN (n / 2 ^ 33) / (nI b).toInt64 * (nI b).toInt64 = lN (n / 2 ^ 33 % b) := by
      rw [nI_l hb2]
      exact pk_lRem hn' (by omega) (by omega)
    have ed : decide (¬ (nI b).toInt64 = 0) = true := by
      rw [nI_l hb2]
      refine decide_eq_true fun h9 => ?_
      have := (lN_eq (a := b) (b := 0) hb2 (by omega)).mp h9
      omega
  · unfold f8_drawBelow
    rw [h, e, qlt_e, qj_e, if_pos (show (1 : Int32) ≤ nI b from nI_le (a := 1) hb hb2), ed, qg_t, qlg_2, e33, er, lN_i]
  · unfold f9_draw
    rw [e, qlt_e, ed, qg_t, qlg_2, e33, er, lN_i]
section PF1
variable {T B F LT k nx : Nat} {r : Nat → Nat} {hx hm : qH}
theorem HS.try (H : HS T r B F LT k nx hx hm) (hB : B < 2 ^ 29) {s : Nat} {x y x' y' : Int32} (hs : s ≤ 10) (ha : Arg s x y x' y') (h7 : s = 7 → x = -1) : ∃ (v : Int32) (F' LT' k' nx' : Nat) (hx' hm' : qH), f8_attempt (nI s) x y 0 hx = some (v, hx') ∧ f9_tryOne (nI s) x' y' hm = some hm' ∧ HS T r (B + 1) F' LT' k' nx' hx' hm' ∧ AF hx hx' hm hm' := by
  obtain ⟨w, w1, w2, w3, w4⟩ := H.att hB hs ha h7
  by_cases hw : w = -1
  · obtain ⟨v, F', k', nx', hx', hm', hv, c1, c2, H', af⟩ := w4 hw
    refine ⟨v, F', LT + 1, k', nx', hx', hm', c1 0, ?_, H', af⟩
    unfold f9_tryOne
    rw [w2, bind_s, qj_e, if_pos hw, c2, qb2_s]
  · refine ⟨-1, F, LT, k, nx, hx, hm, ?_, ?_, H.mono (by omega), AF.rf⟩
    · unfold f8_attempt
      rw [w1, bind_s, if_neg hw, qj_e, if_pos rfl]
    · unfold f9_tryOne
      rw [w2, bind_s, qj_e, if_neg hw]
theorem HS.tryC (H : HS T r B F LT k nx hx hm) (hB : B < 2 ^ 29) {s : Nat} {c x y x' y' : Int32} (hc : c = nI s) (hs : s ≤ 10) (ha : Arg s x y x' y') (h7 : s = 7 → x = -1) : ∃ (v : Int32) (F' LT' k' nx' : Nat) (hx' hm' : qH), f8_attempt c x y 0 hx = some (v, hx') ∧ f9_tryOne c x' y' hm = some hm' ∧ HS T r (B + 1) F' LT' k' nx' hx' hm' ∧ AF hx hx' hm hm' := by
  subst hc
  exact H.try hB hs ha h7
theorem draw_eqC {x y : qH} {b : Nat} {c : Int32} (hc : c = nI b) (h : x.2 0 = y.2 0) (hb : 1 ≤ b) (hb2 : b < 2 ^ 31) : ∃ (z : Nat) (d : Int64), z < b ∧ f8_drawBelow c x = some (nI z, qlg x 0 d) ∧ f9_draw c y = some (nI z, qlg y 0 d) := by
  subst hc
  exact draw_eq h hb hb2
/-- what is left as it is, but for the draws -/
def YF (hx hx' hm hm' : qH) : Prop := (∀ b, b < 43 ∨ b = 50 ∨ (63 ≤ b ∧ b ≤ 76) ∨ 81 ≤ b → hx'.1 b = hx.1 b) ∧ (∀ b, b ≠ 0 → b ≠ 9 → b ≠ 11 → b ≠ 12 → b ≠ 13 → hm'.1 b = hm.1 b) ∧ (∀ j, j ≠ 18 → j ≠ 20 → j ≠ 23 → hm'.1 0 j = hm.1 0 j)
theorem YF.af {hx1 hm1 hx2 hm2 : qH} (x : YF hx hx1 hm hm1) (y : AF hx1 hx2 hm1 hm2) : YF hx hx2 hm hm2 := ⟨fun b p => (y.1 b p).trans (x.1 b p), fun b p1 p2 p3 p4 p5 => (y.2.1 b p1 p2 p3 p4 p5).trans (x.2.1 b p1 p2 p3 p4 p5), fun j p1 p2 p3 => (y.2.2.1 j p1 p2 p3).trans (x.2.2 j p1 p2 p3)⟩
theorem HS.lg (H : HS T r B F LT k nx hx hm) (d e : Int64) : HS T r B F LT k nx (qlg hx 0 d) (qlg hm 0 e) := H.cg (fun _ _ => rfl) rfl rfl rfl rfl rfl
theorem QQ.noCopy {a : Nat} (q : QQ T r B F hx a hm) {t : Nat} (ht : t < T) (h0 : fon (hm.1 9) (nI t) F = 0) (y : Int32) : ∃ w, f9_whyCopy (nI t) y hm = some w ∧ ¬ w = -1 := by
  have hT := q.t31
  obtain ⟨w, -, w2, -, w4⟩ := q.rCopy (nI t) y
  refine ⟨w, w2, fun hw => ?_⟩
  obtain ⟨t', o, ht', ho, e1, rfl, hne, he⟩ := w4 hw
  have e1 : t = t' := (nI_eq (by omega) (by omega)).mp e1
  subst e1
  have f1 := (q.filesOnC (nI t)).2
  rw [h0] at f1
  have f1 : f9_filesOn (nI t) hm = some 0 := f1
  have hne' : ¬ nI t = nI o := fun e => hne ((nI_eq (by omega) (by omega)).mp e)
  have l0 : ¬ (0 : Int32) < hm.1 9 (16 + o) := by rw [he]; decide
  unfold f9_whyCopy at w2
  rw [(q.isT ht).2, (q.isT ho).2, bind_s, qj_e, if_neg q1f, bind_s, if_neg q1f, if_neg hne', la_16, q353 (show 16 + o < 353 by omega), qg_t, i353 (show 16 + o < 353 by omega), if_neg l0, f1, bind_s, if_pos rfl] at w2
  rw [hw] at w2
  exact absurd (Option.some.inj w2) n2m
theorem YF.lgs (x : YF hx hx hm hm) (d e : Int64) : YF hx (qlg hx 0 d) hm (qlg hm 0 e) := ⟨fun _ _ => rfl, fun _ _ _ _ _ _ => rfl, fun _ _ _ _ => rfl⟩
theorem YF.rf : YF hx hx hm hm := ⟨fun _ _ => rfl, fun _ _ _ _ _ _ => rfl, fun _ _ _ _ => rfl⟩
theorem YF.lg {hx1 hm1 : qH} (x : YF hx hx1 hm hm1) (d e : Int64) : YF hx (qlg hx1 0 d) hm (qlg hm1 0 e) := ⟨fun b p => x.1 b p, fun b p1 p2 p3 p4 p5 => x.2.1 b p1 p2 p3 p4 p5, fun j p1 p2 p3 => x.2.2 j p1 p2 p3⟩
theorem YF.fin {x1 y1 x2 y2 : qH} (a : YF hx x1 hm y1) (b : x1.2 0 = y1.2 0) (c : AF x1 x2 y1 y2) : x2.2 0 = y2.2 0 ∧ YF hx x2 hm y2 := ⟨by rw [c.2.2.2.1, c.2.2.2.2]; exact b, a.af c⟩
/-- a year of the kind z -/
def YR (T : Nat) (r : Nat → Nat) (B z : Nat) (x1 y1 : qH) : Prop := ∃ (F' LT' k' nx' : Nat) (x2 y2 : qH), HS T r (B + 1) F' LT' k' nx' x2 y2 ∧ YF x1 x2 y1 y2 ∧ x2.2 0 = y2.2 0 ∧ (∀ (hx : qH) (p1 : Int32) (kx : Int32 → qH → Option (Int32 × qH)) (m i : Nat), f8_drawBelow 8 hx = some (nI z, x1) → ¬ p1 ≤ nI i → f8_years_L31 p1 kx (m + 1) (nI i) hx = f8_years_L31 p1 kx m (nI (i + 1)) x2) ∧ ∀ hm : qH, f9_draw 8 hm = some (nI z, y1) → f9_drawYear hm = some y2
theorem YR.a {x1 y1 : qH} {z : Nat} (hz3 : z < 3) (H1 : HS T r B F LT k nx x1 y1) (hB : B < 2 ^ 29) (e2 : x1.2 0 = y1.2 0) : YR T r B z x1 y1 := by
  have hT := H1.1.t31
  have hb1 := H1.1.1.1
  have hx6 : x1.1 6 1 = nI T := H1.1.Tx
  have hm12 : y1.1 0 12 = nI T := H1.1.Tm
  have nle : ∀ {a b : Nat}, a < b → b < 2 ^ 31 → ¬ nI b ≤ nI a := fun h1 h2 => nI_ge h1 h2
  obtain ⟨u, d2, hu, g1, g2⟩ := draw_eq e2 (show 1 ≤ 24 by omega) (by omega)
  have g1 : f8_drawBelow 24 x1 = some (nI u, qlg x1 0 d2) := g1
  have g2 : f9_draw 24 y1 = some (nI u, qlg y1 0 d2) := g2
  obtain ⟨v, F', LT', k', nx', x2, y2, t1, t2, H2, af⟩ := (H1.lg d2 d2).try hB (s := 0) (x := nI u) (y := -1) (x' := nI u) (y' := 0) (by omega) ⟨fun _ _ _ => rfl, by omega⟩ (by omega)
  have t1 : f8_attempt 0 (nI u) (-1) 0 (qlg x1 0 d2) = some (v, x2) := t1
  have t2 : f9_tryOne 0 (nI u) 0 (qlg y1 0 d2) = some y2 := t2
  obtain ⟨r1, r2⟩ := (YF.rf.lg d2 d2).fin (by rw [qlg_2, qlg_2]) af
  have n3 : ¬ nI z = 3 := fun e => by have := (nI_eq (a := z) (b := 3) (by omega) (by omega)).mp e; omega
  have n4 : ¬ nI z = 4 := fun e => by have := (nI_eq (a := z) (b := 4) (by omega) (by omega)).mp e; omega
  have n5 : ¬ nI z = 5 := fun e => by have := (nI_eq (a := z) (b := 5) (by omega) (by omega)).mp e; omega
  have n6 : ¬ nI z = 6 := fun e => by have := (nI_eq (a := z) (b := 6) (by omega) (by omega)).mp e; omega
  have n7 : ¬ nI z = 7 := fun e => by have := (nI_eq (a := z) (b := 7) (by omega) (by omega)).mp e; omega
  have l3 : ¬ (3 : Int32) ≤ nI z := nle (b := 3) hz3 (by omega)
  refine ⟨F', LT', k', nx', x2, y2, H2, r2, r1, fun hx p1 kx m i c1 hp => ?_, fun hm c2 => ?_⟩
  · simp only [f8_years_L31, hp, if_false, c1, qb2_s, qj_e, n3, n4, n5, n6, n7, g1, t1, qlt_e, nI_1]
  · unfold f9_drawYear
    simp only [c2, qb2_s, qj_e, l3, if_false, g2, t2, bind_s]
theorem YR.k3 {x1 y1 : qH} (H1 : HS T r B F LT k nx x1 y1) (hB : B < 2 ^ 29) (e2 : x1.2 0 = y1.2 0) : YR T r B 3 x1 y1 := by
  have hT := H1.1.t31
  have hb1 := H1.1.1.1
  have hx6 : x1.1 6 1 = nI T := H1.1.Tx
  have hm12 : y1.1 0 12 = nI T := H1.1.Tm
  have nle : ∀ {a b : Nat}, a < b → b < 2 ^ 31 → ¬ nI b ≤ nI a := fun h1 h2 => nI_ge h1 h2
  obtain ⟨v, F', LT', k', nx', x2, y2, t1, t2, H2, af⟩ := H1.try hB (s := 1) (x := -1) (y := -1) (x' := 0) (y' := 0) (by omega) ⟨fun h => absurd rfl h, by omega⟩ (by omega)
  have t1 : f8_attempt 1 (-1) (-1) 0 x1 = some (v, x2) := t1
  have t2 : f9_tryOne 1 0 0 y1 = some y2 := t2
  obtain ⟨r1, r2⟩ := YF.rf.fin e2 af
  refine ⟨F', LT', k', nx', x2, y2, H2, r2, r1, fun hx p1 kx m i c1 hp => ?_, fun hm c2 => ?_⟩
  · simp only [f8_years_L31, hp, if_false, c1, qb2_s, qj_e, show nI 3 = (3 : Int32) from rfl, if_true, t1, qlt_e, nI_1]
  · unfold f9_drawYear
    simp only [c2, qb2_s, qj_e, show ((3 : Int32) ≤ nI 3) = True from by decide, show ((5 : Int32) ≤ nI 3) = False from by decide, if_true, if_false, t2, bind_s]
theorem YR.k4 {x1 y1 : qH} (H1 : HS T r B F LT k nx x1 y1) (hB : B < 2 ^ 29) (e2 : x1.2 0 = y1.2 0) : YR T r B 4 x1 y1 := by
  have hT := H1.1.t31
  have hb1 := H1.1.1.1
  have hx6 : x1.1 6 1 = nI T := H1.1.Tx
  have hm12 : y1.1 0 12 = nI T := H1.1.Tm
  have nle : ∀ {a b : Nat}, a < b → b < 2 ^ 31 → ¬ nI b ≤ nI a := fun h1 h2 => nI_ge h1 h2
  obtain ⟨v, F', LT', k', nx', x2, y2, t1, t2, H2, af⟩ := H1.try hB (s := 1) (x := -1) (y := -1) (x' := 0) (y' := 0) (by omega) ⟨fun h => absurd rfl h, by omega⟩ (by omega)
  have t1 : f8_attempt 1 (-1) (-1) 0 x1 = some (v, x2) := t1
  have t2 : f9_tryOne 1 0 0 y1 = some y2 := t2
  obtain ⟨r1, r2⟩ := YF.rf.fin e2 af
  refine ⟨F', LT', k', nx', x2, y2, H2, r2, r1, fun hx p1 kx m i c1 hp => ?_, fun hm c2 => ?_⟩
  · simp only [f8_years_L31, hp, if_false, c1, qb2_s, qj_e, show (nI 4 = (3 : Int32)) = False from by decide, show (nI 4 = (4 : Int32)) = True from by decide, if_true, t1, qlt_e, nI_1]
  · unfold f9_drawYear
    simp only [c2, qb2_s, qj_e, show ((3 : Int32) ≤ nI 4) = True from by decide, show ((5 : Int32) ≤ nI 4) = False from by decide, if_true, if_false, t2, bind_s]
theorem YR.k5 {x1 y1 : qH} (H1 : HS T r B F LT k nx x1 y1) (hB : B < 2 ^ 29) (e2 : x1.2 0 = y1.2 0) : YR T r B 5 x1 y1 := by
  have hT := H1.1.t31
  have hb1 := H1.1.1.1
  have hx6 : x1.1 6 1 = nI T := H1.1.Tx
  have hm12 : y1.1 0 12 = nI T := H1.1.Tm
  have nle : ∀ {a b : Nat}, a < b → b < 2 ^ 31 → ¬ nI b ≤ nI a := fun h1 h2 => nI_ge h1 h2
  obtain ⟨u, d2, hu, g1, g2⟩ := draw_eq e2 hb1 (show T < 2 ^ 31 by omega)
  obtain ⟨u3, d3, hu3, g3, g4⟩ := draw_eq (x := qlg x1 0 d2) (y := qlg y1 0 d2) (by rw [qlg_2, qlg_2]) (show 1 ≤ 9 by omega) (by omega)
  have g3 : f8_drawBelow 9 (qlg x1 0 d2) = some (nI u3, qlg (qlg x1 0 d2) 0 d3) := g3
  have g4 : f9_draw 9 (qlg y1 0 d2) = some (nI u3, qlg (qlg y1 0 d2) 0 d3) := g4
  obtain ⟨v, F', LT', k', nx', x2, y2, t1, t2, H2, af⟩ := ((H1.lg d2 d2).lg d3 d3).try hB (s := 2) (x := nI u) (y := nI u3 + 1) (x' := nI u) (y' := nI u3 + 1) (by omega) ⟨fun _ _ _ => rfl, fun _ => rfl⟩ (by omega)
  have t1 : f8_attempt 2 (nI u) (nI u3 + 1) 0 (qlg (qlg x1 0 d2) 0 d3) = some (v, x2) := t1
  have t2 : f9_tryOne 2 (nI u) (nI u3 + 1) (qlg (qlg y1 0 d2) 0 d3) = some y2 := t2
  obtain ⟨r1, r2⟩ := ((YF.rf.lg d2 d2).lg d3 d3).fin (by rw [qlg_2, qlg_2]) af
  refine ⟨F', LT', k', nx', x2, y2, H2, r2, r1, fun hx p1 kx m i c1 hp => ?_, fun hm c2 => ?_⟩
  · simp only [f8_years_L31, hp, if_false, c1, qb2_s, qj_e, show (nI 5 = (3 : Int32)) = False from by decide, show (nI 5 = (4 : Int32)) = False from by decide, show (nI 5 = (5 : Int32)) = True from by decide, if_true, hx6, g1, g3, t1, qlt_e, nI_1 i]
  · unfold f9_drawYear
    simp only [c2, qb2_s, qj_e, show ((3 : Int32) ≤ nI 5) = True from by decide, show ((5 : Int32) ≤ nI 5) = True from by decide, show (nI 5 = (5 : Int32)) = True from by decide, if_true, hm12, g2, g4, t2, bind_s]
theorem k6x {hx x1 xx x2 : qH} {p1 v : Int32} {kx : Int32 → qH → Option (Int32 × qH)} {m i u : Nat} (c1 : f8_drawBelow 8 hx = some (nI 6, x1)) (hp : ¬ p1 ≤ nI i) (g1 : f8_drawBelow 24 x1 = some (nI u, xx)) (t1 : f8_attempt 3 (nI u) (-1) 0 xx = some (v, x2)) : f8_years_L31 p1 kx (m + 1) (nI i) hx = f8_years_L31 p1 kx m (nI (i + 1)) x2 := by
  rw [f8_years_L31, if_neg hp, c1, qb2_s, qj_e, if_neg (by decide), if_neg (by decide), if_neg (by decide), if_pos (by decide), g1, qb2_s, t1, qb2_s]
  simp only [qlt_e, nI_1]
theorem k6m {hm y1 yy y2 : qH} {u : Nat} (c2 : f9_draw 8 hm = some (nI 6, y1)) (g2 : f9_draw 24 y1 = some (nI u, yy)) (t2 : f9_tryOne 3 (nI u) 0 yy = some y2) : f9_drawYear hm = some y2 := by
  unfold f9_drawYear
  rw [c2, qb2_s, qj_e, if_pos (by decide), if_pos (by decide), if_neg (by decide), if_pos (by decide), g2, qb2_s, t2, bind_s]
theorem YR.k6 {x1 y1 : qH} (H1 : HS T r B F LT k nx x1 y1) (hB : B < 2 ^ 29) (e2 : x1.2 0 = y1.2 0) : YR T r B 6 x1 y1 := by
  have hT := H1.1.t31
  have hb1 := H1.1.1.1
  have hx6 : x1.1 6 1 = nI T := H1.1.Tx
  have hm12 : y1.1 0 12 = nI T := H1.1.Tm
  have nle : ∀ {a b : Nat}, a < b → b < 2 ^ 31 → ¬ nI b ≤ nI a := fun h1 h2 => nI_ge h1 h2
  obtain ⟨u, d2, hu, g1, g2⟩ := draw_eqC (b := 24) (c := 24) (by decide) e2 (by omega) (by omega)
  obtain ⟨v, F', LT', k', nx', x2, y2, t1, t2, H2, af⟩ := (H1.lg d2 d2).tryC hB (c := 3) (s := 3) (x := nI u) (y := -1) (x' := nI u) (y' := 0) (by decide) (by omega) ⟨fun _ _ _ => rfl, by omega⟩ (by omega)
  obtain ⟨r1, r2⟩ := (YF.rf.lg d2 d2).fin (by rw [qlg_2, qlg_2]) af
  refine ⟨F', LT', k', nx', x2, y2, H2, r2, r1, fun hx p1 kx m i c1 hp => ?_, fun hm c2 => ?_⟩
  · exact k6x c1 hp g1 t1
  · exact k6m c2 g2 t2
theorem YR.k7 {x1 y1 : qH} (H1 : HS T r B F LT k nx x1 y1) (hB : B < 2 ^ 29) (e2 : x1.2 0 = y1.2 0) : YR T r B 7 x1 y1 := by
  have hT := H1.1.t31
  have hb1 := H1.1.1.1
  have hx6 : x1.1 6 1 = nI T := H1.1.Tx
  have hm12 : y1.1 0 12 = nI T := H1.1.Tm
  have nle : ∀ {a b : Nat}, a < b → b < 2 ^ 31 → ¬ nI b ≤ nI a := fun h1 h2 => nI_ge h1 h2
  obtain ⟨u, d2, hu, g1, g2⟩ := draw_eq e2 hb1 (show T < 2 ^ 31 by omega)
  have H2' := H1.lg d2 d2
  have q2 := H2'.1
  obtain ⟨c, s, hc, hs, t1, t2, t3, t4⟩ := q2.target (nI u)
  by_cases hc0 : c = 0
  · rw [if_pos hc0] at t4
    have hf0 : fon ((qlg y1 0 d2).1 9) (nI u) F = 0 := by
      have h9 := (q2.filesOnC (nI u)).2
      rw [t2] at h9
      have := nI_inj (by omega) (by have := fon_le ((qlg y1 0 d2).1 9) (nI u) F; omega) (Option.some.inj h9)
      omega
    obtain ⟨w, w1, w2⟩ := q2.noCopy hu hf0 s
    obtain ⟨w', v1, -, -, v4⟩ := q2.refuse (s := 6) (x := nI u) (y := -1) (x' := nI u) (y' := -1) (by omega) ⟨fun _ _ _ => rfl, fun _ => rfl⟩
    have v1 : f7_refusal 51 6 (nI u) (-1) (qlg x1 0 d2) = some w' := v1
    have v5 : ¬ w' = -1 := fun e => by
      obtain ⟨t', o', ht', ho', -, eo, -⟩ := (v4 e).2.2.2.2.2.2.1 rfl
      exact nI_m1 (by omega) eo.symm
    have a1 : f8_attempt 6 (nI u) (-1) 0 (qlg x1 0 d2) = some (-1, qlg x1 0 d2) := by
      unfold f8_attempt
      rw [v1, bind_s, if_neg v5, qj_e, if_pos rfl]
    have a2 : f9_tryOne 6 (nI u) s (qlg y1 0 d2) = some (qlg y1 0 d2) := by
      unfold f9_tryOne f9_whyNot
      rw [if_neg (by decide), if_neg (by decide), if_neg (by decide), if_neg (by decide), if_neg (by decide), if_neg (by decide), if_pos (by decide), w1, bind_s, bind_s, qj_e, if_neg w2]
    refine ⟨F, LT, k, nx, qlg x1 0 d2, qlg y1 0 d2, H2'.mono (by omega), YF.rf.lg d2 d2, by rw [qlg_2, qlg_2], fun hx p1 kx m i c1 hp => ?_, fun hm c2 => ?_⟩
    · simp only [f8_years_L31, hp, if_false, c1, qb2_s, qj_e, show (nI 7 = (3 : Int32)) = False from by decide, show (nI 7 = (4 : Int32)) = False from by decide, show (nI 7 = (5 : Int32)) = False from by decide, show (nI 7 = (6 : Int32)) = False from by decide, show (nI 7 = (7 : Int32)) = True from by decide, if_true, hx6, g1, t4, bind_s, a1, qlt_e, nI_1]
    · unfold f9_drawYear
      simp only [c2, qb2_s, qj_e, show ((3 : Int32) ≤ nI 7) = True from by decide, show ((5 : Int32) ≤ nI 7) = True from by decide, show (nI 7 = (5 : Int32)) = False from by decide, show (nI 7 = (6 : Int32)) = False from by decide, if_true, if_false, hm12, g2, t3, a2, bind_s]
  · rw [if_neg hc0] at t4
    obtain ⟨v, F', LT', k', nx', x2, y2, a1, a2, H2, af⟩ := H2'.try hB (s := 6) (x := nI u) (y := s) (x' := nI u) (y' := s) (by omega) ⟨fun _ _ _ => rfl, fun _ => rfl⟩ (by omega)
    have a1 : f8_attempt 6 (nI u) s 0 (qlg x1 0 d2) = some (v, x2) := a1
    have a2 : f9_tryOne 6 (nI u) s (qlg y1 0 d2) = some y2 := a2
    obtain ⟨r1, r2⟩ := (YF.rf.lg d2 d2).fin (by rw [qlg_2, qlg_2]) af
    refine ⟨F', LT', k', nx', x2, y2, H2, r2, r1, fun hx p1 kx m i c1 hp => ?_, fun hm c2 => ?_⟩
    · simp only [f8_years_L31, hp, if_false, c1, qb2_s, qj_e, show (nI 7 = (3 : Int32)) = False from by decide, show (nI 7 = (4 : Int32)) = False from by decide, show (nI 7 = (5 : Int32)) = False from by decide, show (nI 7 = (6 : Int32)) = False from by decide, show (nI 7 = (7 : Int32)) = True from by decide, if_true, hx6, g1, t4, bind_s, a1, qlt_e, nI_1]
    · unfold f9_drawYear
      simp only [c2, qb2_s, qj_e, show ((3 : Int32) ≤ nI 7) = True from by decide, show ((5 : Int32) ≤ nI 7) = True from by decide, show (nI 7 = (5 : Int32)) = False from by decide, show (nI 7 = (6 : Int32)) = False from by decide, if_true, if_false, hm12, g2, t3, a2, bind_s]
theorem HS.year (H : HS T r B F LT k nx hx hm) (hB : B < 2 ^ 29) (h2 : hx.2 0 = hm.2 0) : ∃ (F' LT' k' nx' : Nat) (hx' hm' : qH), HS T r (B + 1) F' LT' k' nx' hx' hm' ∧ YF hx hx' hm hm' ∧ hx'.2 0 = hm'.2 0 ∧ (∀ (p1 : Int32) kx m i, ¬ p1 ≤ nI i → f8_years_L31 p1 kx (m + 1) (nI i) hx = f8_years_L31 p1 kx m (nI (i + 1)) hx') ∧ f9_drawYear hm = some hm' := by
  obtain ⟨z, d, hz, c1, c2⟩ := draw_eq h2 (show 1 ≤ 8 by omega) (by omega)
  have c1 : f8_drawBelow 8 hx = some (nI z, qlg hx 0 d) := c1
  have c2 : f9_draw 8 hm = some (nI z, qlg hm 0 d) := c2
  have e2 : (qlg hx 0 d).2 0 = (qlg hm 0 d).2 0 := by rw [qlg_2, qlg_2]
  have key : YR T r B z (qlg hx 0 d) (qlg hm 0 d) := by
    rcases (show z < 3 ∨ z = 3 ∨ z = 4 ∨ z = 5 ∨ z = 6 ∨ z = 7 by omega) with hz3 | rfl | rfl | rfl | rfl | rfl
    · exact YR.a hz3 (H.lg d d) hB e2
    · exact YR.k3 (H.lg d d) hB e2
    · exact YR.k4 (H.lg d d) hB e2
    · exact YR.k5 (H.lg d d) hB e2
    · exact YR.k6 (H.lg d d) hB e2
    · exact YR.k7 (H.lg d d) hB e2
  obtain ⟨F', LT', k', nx', x2, y2, H2, yf, e3, s1, s2⟩ := key
  exact ⟨F', LT', k', nx', x2, y2, H2, ⟨fun b p => yf.1 b p, fun b p1 p2 p3 p4 p5 => yf.2.1 b p1 p2 p3 p4 p5, fun j p1 p2 p3 => yf.2.2 j p1 p2 p3⟩, e3, fun p1 kx m i hp => s1 hx p1 kx m i c1 hp, s2 hm c2⟩
theorem HS.years (H : HS T r B F LT k nx hx hm) (hB : B + 40 < 2 ^ 29) (n : Int32) (sd : Int64) : ∃ (v : Int32) (F' LT' k' nx' : Nat) (hx' hm' : qH), f8_years n sd hx = some (v, hx') ∧ f9_years n sd hm = some (v, hm') ∧ HS T r (B + 40) F' LT' k' nx' hx' hm' ∧ YF hx hx' hm hm' := by
  have q := H.1
  unfold f8_years f9_years
  rw [q.told.1, q.told.2, bind_s, bind_s, if_neg q1f, if_neg q1f, f9_in_eq, bind_s]
  rcases f9_in19 n 40 (by omega) with ⟨c, c1, c2, rfl, g1, g2, g3⟩ | g1 | ⟨g1, g2, g3⟩
  · have g2 : nI c ≤ (40 : Int32) := g2
    have g3 : ¬ (40 : Int32) < nI c := g3
    rw [if_neg g1, if_pos g2, if_neg g1, if_neg g3, if_neg q1f, qlt_e, qlt_e]
    have H1 := H.lg sd sd
    have yf1 : YF hx (qlg hx 0 sd) hm (qlg hm 0 sd) := YF.rf.lg sd sd
    have e2 : (qlg hx 0 sd).2 0 = (qlg hm 0 sd).2 0 := by rw [qlg_2, qlg_2]
    generalize qlg hx 0 sd = x0 at *
    generalize qlg hm 0 sd = y0 at *
    obtain ⟨s, ⟨⟨F', LT', k', nx', H'⟩, yf, -⟩, h1⟩ := lq10 (σ := qH × qH) (fun m s x => (f8_years_L31 (nI c) (fun _ h44 => some ((h44.1 51 2), h44)) m x s.1, f9_years_L27 (nI c) (fun _ h12 => some ((h12.1 9 170), h12)) m x s.2)) (fun s _ => (some ((s.1.1 51 2), s.1), some ((s.2.1 9 170), s.2))) (fun i s => (∃ F' LT' k' nx', HS T r (B + i) F' LT' k' nx' s.1 s.2) ∧ YF hx s.1 hm s.2 ∧ s.1.2 0 = s.2.2 0) c (by omega) (x0, y0) ⟨⟨F, LT, k, nx, H1⟩, yf1, e2⟩ (fun i s hi hs => by
      obtain ⟨x, y⟩ := s
      have hs : (∃ F' LT' k' nx', HS T r (B + i) F' LT' k' nx' x y) ∧ YF hx x hm y ∧ x.2 0 = y.2 0 := hs
      obtain ⟨⟨F1, LT1, k1, nx1, H2⟩, yf2, e3⟩ := hs
      have p1 := nI_ge hi (show c < 2 ^ 31 by omega)
      obtain ⟨F3, LT3, k3, nx3, x3, y3, H3, yf3, e4, s1, s2⟩ := H2.year (by omega) e3
      refine ⟨(x3, y3), ⟨⟨F3, LT3, k3, nx3, H3⟩, ⟨fun b p => (yf3.1 b p).trans (yf2.1 b p), fun b p1 p2 p3 p4 p5 => (yf3.2.1 b p1 p2 p3 p4 p5).trans (yf2.2.1 b p1 p2 p3 p4 p5), fun j p1 p2 p3 => (yf3.2.2 j p1 p2 p3).trans (yf2.2.2 j p1 p2 p3)⟩, e4⟩, fun m => ?_⟩
      show (f8_years_L31 (nI c) _ (m + 1) (nI i) x, f9_years_L27 (nI c) _ (m + 1) (nI i) y) = (f8_years_L31 (nI c) _ m (nI (i + 1)) x3, f9_years_L27 (nI c) _ m (nI (i + 1)) y3)
      congr 1
      · exact s1 (nI c) _ m i p1
      · rw [f9_years_L27, if_neg p1, s2, bind_s, qlt_e, nI_1]) (fun m s _ => by
      show (f8_years_L31 (nI c) _ (m + 1) (nI c) s.1, f9_years_L27 (nI c) _ (m + 1) (nI c) s.2) = _
      congr 1
      · rw [f8_years_L31, if_pos (nI_le (Nat.le_refl _) (by omega))]
      · rw [f9_years_L27, if_pos (nI_le (Nat.le_refl _) (by omega))])
    have h2 := congrArg Prod.snd h1
    have h2 : f9_years_L27 (nI c) (fun _ h12 => some ((h12.1 9 170), h12)) qN 0 y0 = some ((s.2.1 9 170), s.2) := h2
    refine ⟨s.1.1 51 2, F', LT', k', nx', s.1, s.2, congrArg Prod.fst h1, ?_, H'.mono (by omega), yf⟩
    rw [h2, H'.1.2.2.2.1.1.1]
  · rw [if_pos g1, if_pos g1, if_pos rfl]
    exact ⟨-1, F, LT, k, nx, hx, hm, rfl, rfl, H.mono (by omega), YF.rf⟩
  · have g2 : (40 : Int32) < n := g2
    have g3 : ¬ n ≤ 40 := g3
    rw [if_neg g1, if_neg g3, if_neg g1, if_pos g2, if_pos rfl]
    exact ⟨-1, F, LT, k, nx, hx, hm, rfl, rfl, H.mono (by omega), YF.rf⟩
theorem HS.perform (H : HS T r B F LT k nx hx hm) (hB : B + 40 < 2 ^ 29) {s c : Nat} (hs : s < 4) (sc : SC1 hx hm s c) (isx : f8_isScript (nI s) hx = some 1) (ism : f9_isScript (nI s) hm = some 1) : ∃ (v : Int32) (F' LT' k' nx' : Nat) (hx' hm' : qH), f8_perform (nI s) hx = some (v, hx') ∧ f9_perform (nI s) hm = some (v, hm') ∧ HS T r (B + 40) F' LT' k' nx' hx' hm' ∧ AF hx hx' hm hm' := by
  have q := H.1
  obtain ⟨sc1, sc2, sc3, sc4, sc5⟩ := sc
  have q4 : qin (nI s) 4 = true := qin_nI hs (by omega)
  have q5 : qin (nI s) 5 = true := qin_nI (by omega) (by omega)
  unfold f8_perform f9_perform
  rw [isx, ism, bind_s, bind_s, qj_e, if_neg q1f, if_neg q1f, q.told.1, q.told.2, bind_s, bind_s, if_neg q1f, if_neg q1f, q4, qg_t]
  have key := lpx0 (σ := qH × qH) (fun m z x => (f8_perform_L29 (nI s) (fun (x13 : Int32) (h14 : qH) => some ((h14.1 ([23, 27, 31, 35].getD (ix (nI s)) 0) 3), h14)) m x z.1, f9_goSteps_L2 (nI s) 1 (fun (x17 : Int32) (h18 : qH) => qg (qin (nI s) 5) <| some ((h18.1 8 (ix (nI s))), h18)) m x z.2)) (fun o => ∃ (v : Int32) (F' LT' k' nx' : Nat) (x y : qH), o.1 = some (v, x) ∧ o.2 = some (v, y) ∧ HS T r (B + 40) F' LT' k' nx' x y ∧ AF hx x hm y) (fun i z => (∃ F' LT' k' nx', HS T r (B + i) F' LT' k' nx' z.1 z.2) ∧ AF hx z.1 hm z.2) c (by omega) (hx, hm) ⟨⟨F, LT, k, nx, H⟩, AF.rf⟩ (fun i z hi hz => by
    obtain ⟨x, y⟩ := z
    have hz : (∃ F' LT' k' nx', HS T r (B + i) F' LT' k' nx' x y) ∧ AF hx x hm y := hz
    obtain ⟨⟨F1, LT1, k1, nx1, H1⟩, af⟩ := hz
    obtain ⟨act, a1, a2, a3, a4, a5, a6⟩ := sc5 i hi
    have g1 := nI_ge hi (show c < 2 ^ 31 by omega)
    have x3 : x.1 (23 + 4 * s) 3 = nI c := by rw [af.1 _ (by omega)]; exact sc3
    have y8 : y.1 8 s = nI c := by rw [af.2.1 8 (by omega) (by omega) (by omega) (by omega) (by omega)]; exact sc4
    have xa : x.1 (23 + 4 * s + 1) i = nI act := by rw [af.1 _ (by omega), show 23 + 4 * s + 1 = 24 + 4 * s by omega]; exact a2
    have y7 : y.1 7 = hm.1 7 := af.2.1 7 (by omega) (by omega) (by omega) (by omega) (by omega)
    have ya : y.1 7 (3 * (16 * s + i)) = nI act := by rw [y7]; exact a3
    have xb : x.1 (23 + 4 * s + 2) i = y.1 7 (3 * (16 * s + i) + 1) := by rw [af.1 _ (by omega), show 23 + 4 * s + 2 = 25 + 4 * s by omega, y7]; exact a4
    have xc : x.1 (23 + 4 * s + 3) i = y.1 7 (3 * (16 * s + i) + 2) := by rw [af.1 _ (by omega), show 23 + 4 * s + 3 = 26 + 4 * s by omega, y7]; exact a5
    have a6' : act = 7 → y.1 7 (3 * (16 * s + i) + 1) = -1 := fun e => by rw [y7, ← a4]; exact a6 e
    have e4 : (3 : Int32) * ((16 : Int32) * nI s + nI i) = nI (3 * (16 * s + i)) := by rw [lm_16, nI_add, lm_3]
    have ha : Arg act (y.1 7 (3 * (16 * s + i) + 1)) (y.1 7 (3 * (16 * s + i) + 2)) (y.1 7 (3 * (16 * s + i) + 1)) (y.1 7 (3 * (16 * s + i) + 2)) := ⟨fun _ _ _ => rfl, fun _ => rfl⟩
    obtain ⟨w, w1, w2, w3, w4⟩ := H1.att (by omega) a1 ha a6'
    have q16 : qin (nI i) 16 = true := qin_nI (by omega) (by omega)
    have p0 : qin (nI (3 * (16 * s + i))) 240 = true := qin_nI (by omega) (by omega)
    have p1 : qin (nI (3 * (16 * s + i) + 1)) 240 = true := qin_nI (by omega) (by omega)
    have p2 : qin (nI (3 * (16 * s + i) + 2)) 240 = true := qin_nI (by omega) (by omega)
    by_cases hw : w = -1
    · right
      obtain ⟨v, F2, k2, nx2, x2, y2, hv, d1, d2, H2, af2⟩ := w4 hw
      have d1' := d1 0
      refine ⟨(x2, y2), ⟨⟨F2, _, k2, nx2, H2⟩, af.tr af2⟩, fun m => ?_⟩
      show (f8_perform_L29 (nI s) _ (m + 1) (nI i) x, f9_goSteps_L2 (nI s) 1 _ (m + 1) (nI i) y) = (f8_perform_L29 (nI s) _ m (nI (i + 1)) x2, f9_goSteps_L2 (nI s) 1 _ m (nI (i + 1)) y2)
      congr 1
      · simp only [f8_perform_L29, getD4 hs, x3, g1, if_false, q16, qg_t, ix_nI (show i < 2 ^ 31 by omega), xa, xb, xc, d1', qb2_s, hv, qlt_e, nI_1]
      · simp only [f9_goSteps_L2, q5, qg_t, ix_nI (show s < 2 ^ 31 by omega), y8, g1, if_false, e4, qlt_e, p0, ix_nI (show 3 * (16 * s + i) < 2 ^ 31 by omega), ya, actOf_eq a1, bind_s, nI_1, ra_2, p1, p2, ix_nI (show 3 * (16 * s + i) + 1 < 2 ^ 31 by omega), ix_nI (show 3 * (16 * s + i) + 2 < 2 ^ 31 by omega), w2, hw, if_true, qj_e, q1f, d2, qb2_s]
    · left
      intro m
      have d1' : f8_attempt (nI act) (y.1 7 (3 * (16 * s + i) + 1)) (y.1 7 (3 * (16 * s + i) + 2)) 0 x = some (-1, x) := by
        unfold f8_attempt
        rw [w1, bind_s, if_neg hw, qj_e, if_pos rfl]
      refine ⟨nI i, F1, LT1, k1, nx1, x, y, ?_, ?_, H1.mono (by omega), af⟩
      · show f8_perform_L29 (nI s) _ (m + 1) (nI i) x = _
        simp only [f8_perform_L29, getD4 hs, x3, g1, if_false, q16, qg_t, ix_nI (show i < 2 ^ 31 by omega), xa, xb, xc, d1', qb2_s, if_true]
      · show f9_goSteps_L2 (nI s) 1 _ (m + 1) (nI i) y = _
        simp only [f9_goSteps_L2, q5, qg_t, ix_nI (show s < 2 ^ 31 by omega), y8, g1, if_false, e4, qlt_e, p0, ix_nI (show 3 * (16 * s + i) < 2 ^ 31 by omega), ya, actOf_eq a1, bind_s, nI_1, ra_2, p1, p2, ix_nI (show 3 * (16 * s + i) + 1 < 2 ^ 31 by omega), ix_nI (show 3 * (16 * s + i) + 2 < 2 ^ 31 by omega), w2, hw]) (fun m z hz => by
    obtain ⟨x, y⟩ := z
    have hz : (∃ F' LT' k' nx', HS T r (B + c) F' LT' k' nx' x y) ∧ AF hx x hm y := hz
    obtain ⟨⟨F1, LT1, k1, nx1, H1⟩, af⟩ := hz
    have x3 : x.1 (23 + 4 * s) 3 = nI c := by rw [af.1 _ (by omega)]; exact sc3
    have y8 : y.1 8 s = nI c := by rw [af.2.1 8 (by omega) (by omega) (by omega) (by omega) (by omega)]; exact sc4
    refine ⟨nI c, F1, LT1, k1, nx1, x, y, ?_, ?_, H1.mono (by omega), af⟩
    · show f8_perform_L29 (nI s) _ (m + 1) (nI c) x = _
      rw [f8_perform_L29, getD4 hs, x3, if_pos (nI_le (Nat.le_refl _) (by omega))]
    · show f9_goSteps_L2 (nI s) 1 _ (m + 1) (nI c) y = _
      rw [f9_goSteps_L2, q5, qg_t, ix_nI (by omega), y8, if_pos (nI_le (Nat.le_refl _) (by omega)), qg_t])
  obtain ⟨v, F', LT', k', nx', x, y, k1, k2, H', af⟩ := key
  refine ⟨v, F', LT', k', nx', x, y, k1, ?_, H', af⟩
  have k2' : f9_goSteps (nI s) 1 hm = some (v, y) := k2
  rw [k2', qb2_s]
end PF1
