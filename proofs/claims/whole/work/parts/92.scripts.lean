/-- a script, both sides -/
def SC1 (hx hm : qH) (s c : Nat) : Prop := 1 ≤ c ∧ c ≤ 16 ∧ hx.1 (23 + 4 * s) 3 = nI c ∧ hm.1 8 s = nI c ∧ ∀ i, i < c → ∃ act, act ≤ 10 ∧ hx.1 (24 + 4 * s) i = nI act ∧ hm.1 7 (3 * (16 * s + i)) = nI act ∧ hx.1 (25 + 4 * s) i = hm.1 7 (3 * (16 * s + i) + 1) ∧ hx.1 (26 + 4 * s) i = hm.1 7 (3 * (16 * s + i) + 2) ∧ (act = 7 → hx.1 (25 + 4 * s) i = -1)
theorem SC1.cg {hx hm hx' hm' : qH} {s c : Nat} (h : SC1 hx hm s c) (hs : s < 4) (h1 : ∀ b, 23 ≤ b → b ≤ 38 → hx'.1 b = hx.1 b) (h2 : hm'.1 7 = hm.1 7) (h3 : ∀ i, i < 4 → hm'.1 8 i = hm.1 8 i) : SC1 hx' hm' s c := by
  unfold SC1 at h ⊢
  rw [h1 (23 + 4 * s) (by omega) (by omega), h1 (24 + 4 * s) (by omega) (by omega), h1 (25 + 4 * s) (by omega) (by omega), h1 (26 + 4 * s) (by omega) (by omega), h2, h3 s hs]
  exact h
theorem actOf_eq {a : Nat} {h : qH} (ha : a ≤ 10) : f9_actOf (nI a) h = some (nI a) := by
  unfold f9_actOf
  rcases (show a = 0 ∨ a = 1 ∨ a = 2 ∨ a = 3 ∨ a = 4 ∨ a = 5 ∨ a = 6 ∨ a = 7 ∨ a = 8 ∨ a = 9 ∨ a = 10 by omega) with rfl | rfl | rfl | rfl | rfl | rfl | rfl | rfl | rfl | rfl | rfl <;> rfl
theorem getD4 {s : Nat} (hs : s < 4) : [23, 27, 31, 35].getD (ix (nI s)) 0 = 23 + 4 * s := by
  rw [ix_nI (by omega)]
  rcases (show s = 0 ∨ s = 1 ∨ s = 2 ∨ s = 3 by omega) with rfl | rfl | rfl | rfl <;> rfl
section PE1
variable {T B F LT k nx : Nat} {r : Nat → Nat} {hx hm : qH}
theorem trial_end {B' F' : Nat} {h1 m1 h2 m2 : qH} (q : QQ T r B F hx 51 hm) (b3 : ∀ b, ¬ (63 ≤ b ∧ b ≤ 75) → h1.1 b = hx.1 b) {w : Nat → Int32} (w1 : ∀ j, j < 172 → w j = hm.1 9 j) (em : m1 = qrow hm 14 w) (o : OP T r B' F' 63 h1 m1 h2 m2) : ∃ m3, f9_bringBack m2 = some m3 ∧ TF hx h2 hm m3 ∧ h2.1 63 2 - h2.1 51 2 = m2.1 9 170 - m2.1 14 170 := by
  obtain ⟨qe, fx, fm, -⟩ := o
  obtain ⟨w3, v1, v2, v3⟩ := bringBack_eq (hm := m2)
  have e14 : m2.1 14 = w := by rw [fm.1 14 (by omega) (by omega) (by omega) (by omega), em, qrow_at]
  have ew : w3 = hm.1 9 := by
    funext j
    by_cases hj : j < 172
    · rw [v1 j hj, e14, w1 j hj]
    · rw [v2 j hj, fm.2.2.2 j (by omega), em, qrow_ne (by omega)]
  rw [ew] at v3
  refine ⟨_, v3, ⟨fun b p1 p2 p3 => ?_, fun j hj => ?_, fun b p1 p2 p3 p4 p5 p6 => ?_, fun j p1 p2 p3 => ?_⟩, ?_⟩
  · rw [fx.1 b (by omega) p1, b3 b (by omega)]
  · rw [fx.1 0 (by omega) (by omega), b3 0 (by omega)]
  · by_cases hb : b = 9
    · subst hb; rw [qrow_at]
    · rw [qrow_ne hb, fm.1 b p1 hb p2 p3, em, qrow_ne p4]
  · rw [qrow_ne (by omega), fm.2.1 j p1 p2, em, qrow_ne (by omega)]
  · rw [qe.2.2.2.1.1.1, e14, w1 170 (by omega), fx.1 51 (by omega) (by omega), b3 51 (by omega), q.2.2.2.1.1.1]
theorem HS.cheap (H : HS T r B F LT k nx hx hm) (c : Int32) : ∃ v hx' hm', f8_cheap c hx = some (v, hx') ∧ f9_cheap c hm = some (v, hm') ∧ TF hx hx' hm hm' := by
  have ka : kStage 63 := Or.inr rfl
  have hT := H.1.t31
  unfold f8_cheap f9_cheap
  obtain ⟨s, ⟨-, tf, -⟩, h1⟩ := lq10 (σ := Int32 × Int32 × qH × qH) (fun m s x => (f8_cheap_L7 c (fun x20 _ _ h23 => some (x20, h23)) m s.1 s.2.1 x s.2.2.1, f9_cheap_L7 c (fun x20 _ _ h23 => some (x20, h23)) m s.1 s.2.1 x s.2.2.2)) (fun s _ => (some (s.1, s.2.2.1), some (s.1, s.2.2.2))) (fun _ s => HS T r B F LT k nx s.2.2.1 s.2.2.2 ∧ TF hx s.2.2.1 hm s.2.2.2 ∧ True) T (by omega) (-1, 0, hx, hm) ⟨H, TF.rf, trivial⟩ (fun i s hi hs => by
    obtain ⟨b, t, x, y⟩ := s
    have hs : HS T r B F LT k nx x y ∧ TF hx x hm y ∧ True := hs
    obtain ⟨H1, tf1, -⟩ := hs
    have q := H1.1
    have g1 := nI_ge hi (show T < 2 ^ 31 by omega)
    obtain ⟨w, r1, r2, r3, r4⟩ := q.rWrite (nI i) c
    have rf : f7_refusal 51 2 (nI i) c x = some w := by
      unfold f7_refusal
      rw [if_neg (by decide), if_pos (by decide), r1, bind_s]
    by_cases hw : w = -1
    · obtain ⟨t0, c0, ht0, e1, e2, k1, k2, k3, k4⟩ := r4 hw
      have eit : i = t0 := (nI_eq (by omega) (by omega)).mp e1
      subst eit
      obtain ⟨h1, b1, b2, b3, b4, b5⟩ := begin_eq (hx := x)
      obtain ⟨w0, w1, w2⟩ := putAside_eq (hm := y)
      have q1 : QQ T r B F h1 63 (qrow y 14 w0) := q.begin b2 b3 (by rw [qrow_ne (by omega)]) (qrow_ne (by omega)) (qrow_ne (by omega))
      obtain ⟨x2, y2, d1, d2, o1⟩ := q1.writeNew ka hi k1 k2 k3 (by rw [qrow_ne (by omega)]; exact k4)
      obtain ⟨m3, v1, tf2, et⟩ := trial_end q b3 w1 rfl o1
      have co : f7_carryOut 63 2 (nI i) c h1 = some (nI F, x2) := by
        unfold f7_carryOut
        rw [if_neg (by decide), if_neg (by decide), if_pos (by decide), e2, d1, qb2_s]
      have d2' : f9_writesNow (nI i) c (qrow y 14 w0) = some (nI F, y2) := by rw [e2]; exact d2
      have H2 := H1.tf tf2
      by_cases hb : b = -1
      · refine ⟨(nI i, x2.1 63 2 - x2.1 51 2, x2, m3), ⟨H2, tf1.tr tf2, trivial⟩, fun m => ?_⟩
        show (f8_cheap_L7 c _ (m + 1) b t (nI i) x, f9_cheap_L7 c _ (m + 1) b t (nI i) y) = (f8_cheap_L7 c _ m (nI i) _ (nI (i + 1)) x2, f9_cheap_L7 c _ m (nI i) _ (nI (i + 1)) m3)
        congr 1
        · simp only [f8_cheap_L7, q.Tx, g1, if_false, rf, bind_s, hw, if_true, b1, co, qb2_s, qlt_e, qj_e, hb, nI_1]
        · simp only [f9_cheap_L7, q.Tm, g1, if_false, r2, bind_s, hw, if_true, w2, d2', qb2_s, qlt_e, qj_e, hb, v1, et, nI_1]
      · by_cases hle : t ≤ x2.1 63 2 - x2.1 51 2
        · refine ⟨(b, t, x2, m3), ⟨H2, tf1.tr tf2, trivial⟩, fun m => ?_⟩
          show (f8_cheap_L7 c _ (m + 1) b t (nI i) x, f9_cheap_L7 c _ (m + 1) b t (nI i) y) = (f8_cheap_L7 c _ m b t (nI (i + 1)) x2, f9_cheap_L7 c _ m b t (nI (i + 1)) m3)
          congr 1
          · simp only [f8_cheap_L7, q.Tx, g1, if_false, rf, bind_s, hw, if_true, b1, co, qb2_s, qlt_e, qj_e, hb, hle, nI_1]
          · simp only [f9_cheap_L7, q.Tm, g1, if_false, r2, bind_s, hw, if_true, w2, d2', qb2_s, qlt_e, qj_e, hb, v1, ← et, hle, nI_1]
        · refine ⟨(nI i, x2.1 63 2 - x2.1 51 2, x2, m3), ⟨H2, tf1.tr tf2, trivial⟩, fun m => ?_⟩
          show (f8_cheap_L7 c _ (m + 1) b t (nI i) x, f9_cheap_L7 c _ (m + 1) b t (nI i) y) = (f8_cheap_L7 c _ m (nI i) _ (nI (i + 1)) x2, f9_cheap_L7 c _ m (nI i) _ (nI (i + 1)) m3)
          congr 1
          · simp only [f8_cheap_L7, q.Tx, g1, if_false, rf, bind_s, hw, if_true, b1, co, qb2_s, qlt_e, qj_e, hb, hle, nI_1]
          · simp only [f9_cheap_L7, q.Tm, g1, if_false, r2, bind_s, hw, if_true, w2, d2', qb2_s, qlt_e, qj_e, hb, v1, ← et, hle, nI_1]
    · refine ⟨(b, t, x, y), ⟨H1, tf1, trivial⟩, fun m => ?_⟩
      show (f8_cheap_L7 c _ (m + 1) b t (nI i) x, f9_cheap_L7 c _ (m + 1) b t (nI i) y) = (f8_cheap_L7 c _ m b t (nI (i + 1)) x, f9_cheap_L7 c _ m b t (nI (i + 1)) y)
      congr 1
      · simp only [f8_cheap_L7, q.Tx, g1, if_false, rf, bind_s, hw, qlt_e, qj_e, nI_1]
      · simp only [f9_cheap_L7, q.Tm, g1, if_false, r2, bind_s, hw, qlt_e, qj_e, nI_1]) (fun m s hs => by
    obtain ⟨b, t, x, y⟩ := s
    have hs : HS T r B F LT k nx x y ∧ TF hx x hm y ∧ True := hs
    show (f8_cheap_L7 c _ (m + 1) b t (nI T) x, f9_cheap_L7 c _ (m + 1) b t (nI T) y) = _
    congr 1
    · rw [f8_cheap_L7, hs.1.1.Tx, if_pos (nI_le (Nat.le_refl _) (by omega))]
    · rw [f9_cheap_L7, hs.1.1.Tm, if_pos (nI_le (Nat.le_refl _) (by omega))])
  exact ⟨s.1, s.2.2.1, s.2.2.2, congrArg Prod.fst h1, congrArg Prod.snd h1, tf⟩
theorem lm_16 (n : Nat) : (16 : Int32) * nI n = nI (16 * n) := nI_mul 16 n
/-- a script's steps, on trial -/
theorem QQ.steps {h1 m1 : qH} {s c : Nat} (q : QQ T r B F h1 63 m1) (hB : B < 2 ^ 29) (hs : s < 4) (sc : SC1 h1 m1 s c) : ∃ (v : Int32) (B' F' : Nat) (x y : qH), f8_tryScript_L6 (23 + 4 * s) (fun (x10 : Int32) (h11 : qH) => some ((h11.1 (23 + 4 * s) 3), h11)) qN 0 h1 = some (v, x) ∧ f9_goSteps (nI s) 0 m1 = some (v, y) ∧ OP T r B' F' 63 h1 m1 x y := by
  have ka : kStage 63 := Or.inr rfl
  obtain ⟨sc1, sc2, sc3, sc4, sc5⟩ := sc
  have key := lpx0 (σ := Nat × qH × qH) (fun m z x => (f8_tryScript_L6 (23 + 4 * s) (fun (x10 : Int32) (h11 : qH) => some ((h11.1 (23 + 4 * s) 3), h11)) m x z.2.1, f9_goSteps_L2 (nI s) 0 (fun (x17 : Int32) (h18 : qH) => qg (qin (nI s) 5) <| some ((h18.1 8 (ix (nI s))), h18)) m x z.2.2)) (fun o => ∃ (v : Int32) (B' F' : Nat) (x y : qH), o.1 = some (v, x) ∧ o.2 = some (v, y) ∧ OP T r B' F' 63 h1 m1 x y) (fun i z => OP T r (B + i) z.1 63 h1 m1 z.2.1 z.2.2) c (by omega) (F, h1, m1) (OP.rf q) (fun i z hi hz => by
    obtain ⟨F1, x, y⟩ := z
    have hz : OP T r (B + i) F1 63 h1 m1 x y := hz
    obtain ⟨act, a1, a2, a3, a4, a5, a6⟩ := sc5 i hi
    have g1 := nI_ge hi (show c < 2 ^ 31 by omega)
    have x3 : x.1 (23 + 4 * s) 3 = nI c := by rw [hz.2.1.1 _ (by omega) (by omega)]; exact sc3
    have y8 : y.1 8 s = nI c := by rw [hz.2.2.1.1 8 (by omega) (by omega) (by omega) (by omega)]; exact sc4
    have xa : x.1 (23 + 4 * s + 1) i = nI act := by rw [hz.2.1.1 _ (by omega) (by omega), show 23 + 4 * s + 1 = 24 + 4 * s by omega]; exact a2
    have y7 : y.1 7 = m1.1 7 := hz.2.2.1.1 7 (by omega) (by omega) (by omega) (by omega)
    have ya : y.1 7 (3 * (16 * s + i)) = nI act := by rw [y7]; exact a3
    have xb : x.1 (23 + 4 * s + 2) i = y.1 7 (3 * (16 * s + i) + 1) := by rw [hz.2.1.1 _ (by omega) (by omega), show 23 + 4 * s + 2 = 25 + 4 * s by omega, y7]; exact a4
    have xc : x.1 (23 + 4 * s + 3) i = y.1 7 (3 * (16 * s + i) + 2) := by rw [hz.2.1.1 _ (by omega) (by omega), show 23 + 4 * s + 3 = 26 + 4 * s by omega, y7]; exact a5
    have e4 : (3 : Int32) * ((16 : Int32) * nI s + nI i) = nI (3 * (16 * s + i)) := by rw [lm_16, nI_add, lm_3]
    have ha : Arg act (y.1 7 (3 * (16 * s + i) + 1)) (y.1 7 (3 * (16 * s + i) + 2)) (y.1 7 (3 * (16 * s + i) + 1)) (y.1 7 (3 * (16 * s + i) + 2)) := ⟨fun _ _ _ => rfl, fun _ => rfl⟩
    obtain ⟨w, w1, w2, w3, w4⟩ := hz.1.refuse a1 ha
    have q5 : qin (nI s) 5 = true := qin_nI (by omega) (by omega)
    have q16 : qin (nI i) 16 = true := qin_nI (by omega) (by omega)
    have p0 : qin (nI (3 * (16 * s + i))) 240 = true := qin_nI (by omega) (by omega)
    have p1 : qin (nI (3 * (16 * s + i) + 1)) 240 = true := qin_nI (by omega) (by omega)
    have p2 : qin (nI (3 * (16 * s + i) + 2)) 240 = true := qin_nI (by omega) (by omega)
    by_cases hw : w = -1
    · right
      obtain ⟨v, F2, x2, y2, hv, d1, d2, o2⟩ := hz.1.carry ka (by omega) a1 ha (w4 hw)
      refine ⟨(F2, x2, y2), hz.tr o2, fun m => ?_⟩
      show (f8_tryScript_L6 (23 + 4 * s) _ (m + 1) (nI i) x, f9_goSteps_L2 (nI s) 0 _ (m + 1) (nI i) y) = (f8_tryScript_L6 (23 + 4 * s) _ m (nI (i + 1)) x2, f9_goSteps_L2 (nI s) 0 _ m (nI (i + 1)) y2)
      congr 1
      · simp only [f8_tryScript_L6, x3, g1, if_false, q16, qg_t, ix_nI (show i < 2 ^ 31 by omega), xa, xb, xc, w1, bind_s, hw, if_true, d1, qb2_s, qlt_e, nI_1]
      · simp only [f9_goSteps_L2, q5, qg_t, ix_nI (show s < 2 ^ 31 by omega), y8, g1, if_false, e4, qlt_e, p0, ix_nI (show 3 * (16 * s + i) < 2 ^ 31 by omega), ya, actOf_eq a1, bind_s, nI_1, ra_2, p1, p2, ix_nI (show 3 * (16 * s + i) + 1 < 2 ^ 31 by omega), ix_nI (show 3 * (16 * s + i) + 2 < 2 ^ 31 by omega), w2, hw, if_true, qj_e, d2, qb2_s]
    · left
      intro m
      refine ⟨nI i, B + i, F1, x, y, ?_, ?_, hz⟩
      · show f8_tryScript_L6 (23 + 4 * s) _ (m + 1) (nI i) x = _
        simp only [f8_tryScript_L6, x3, g1, if_false, q16, qg_t, ix_nI (show i < 2 ^ 31 by omega), xa, xb, xc, w1, bind_s, hw]
      · show f9_goSteps_L2 (nI s) 0 _ (m + 1) (nI i) y = _
        simp only [f9_goSteps_L2, q5, qg_t, ix_nI (show s < 2 ^ 31 by omega), y8, g1, if_false, e4, qlt_e, p0, ix_nI (show 3 * (16 * s + i) < 2 ^ 31 by omega), ya, actOf_eq a1, bind_s, nI_1, ra_2, p1, p2, ix_nI (show 3 * (16 * s + i) + 1 < 2 ^ 31 by omega), ix_nI (show 3 * (16 * s + i) + 2 < 2 ^ 31 by omega), w2, hw]) (fun m z hz => by
    obtain ⟨F1, x, y⟩ := z
    have hz : OP T r (B + c) F1 63 h1 m1 x y := hz
    have x3 : x.1 (23 + 4 * s) 3 = nI c := by rw [hz.2.1.1 _ (by omega) (by omega)]; exact sc3
    have y8 : y.1 8 s = nI c := by rw [hz.2.2.1.1 8 (by omega) (by omega) (by omega) (by omega)]; exact sc4
    have q5 : qin (nI s) 5 = true := qin_nI (by omega) (by omega)
    refine ⟨nI c, B + c, F1, x, y, ?_, ?_, hz⟩
    · show f8_tryScript_L6 (23 + 4 * s) _ (m + 1) (nI c) x = _
      rw [f8_tryScript_L6, x3, if_pos (nI_le (Nat.le_refl _) (by omega))]
    · show f9_goSteps_L2 (nI s) 0 _ (m + 1) (nI c) y = _
      rw [f9_goSteps_L2, q5, qg_t, ix_nI (by omega), y8, if_pos (nI_le (Nat.le_refl _) (by omega)), qg_t])
  exact key
theorem runL {p1 p2 z8 x10 : Int32} (kk : Int32 → qH → Option (Int32 × qH)) : ∃ w, (∀ j, j < 172 → w j = hm.1 17 j) ∧ (∀ j, ¬ j < 172 → w j = hm.1 9 j) ∧ f9_run_L52 p1 p2 z8 x10 kk qN 0 hm = kk (nI 172) (qrow hm 9 w) := by
  obtain ⟨w, ⟨h1, h2⟩, h3⟩ := lq10 (σ := Nat → Int32) (fun m w x => f9_run_L52 p1 p2 z8 x10 kk m x (qrow hm 9 w)) (fun w x => kk x (qrow hm 9 w)) (fun i w => (∀ j, j < i → w j = hm.1 17 j) ∧ ∀ j, ¬ j < i → w j = hm.1 9 j) 172 (by omega) (hm.1 9) ⟨fun j hj => by omega, fun _ _ => rfl⟩ (fun i w hi hw => by
    have g1 : ¬ (172 : Int32) ≤ nI i := nI_ge (b := 172) hi (by omega)
    have es : (qrow hm 9 w).1 17 = hm.1 17 := qrow_ne (by omega)
    refine ⟨upd w (i) (hm.1 17 (i)), ⟨fun j hj => ?_, fun j hj => ?_⟩, fun m => ?_⟩
    · by_cases e : j = i
      · subst e; rw [upd_at]
      · rw [upd_ne (by omega)]; exact hw.1 j (by omega)
    · rw [upd_ne (by omega)]; exact hw.2 j (by omega)
    · show f9_run_L52 p1 p2 z8 x10 kk (m + 1) (nI i) (qrow hm 9 w) = f9_run_L52 p1 p2 z8 x10 kk m (nI (i + 1)) (qrow hm 9 (upd w (i) (hm.1 17 (i))))
      simp only [f9_run_L52, g1, if_false, qin_nI (show i < 353 by omega) (by omega), qin_nI (show i < 172 by omega) (by omega), qg_t, qlt_e, ix_nI (show i < 2 ^ 31 by omega), es, qw, qrow_at, qrow_qrow, nI_1]) (fun m w _ => by
    show f9_run_L52 p1 p2 z8 x10 kk (m + 1) (nI 172) (qrow hm 9 w) = _
    rw [f9_run_L52, if_pos (by decide)])
  have h3' : f9_run_L52 p1 p2 z8 x10 kk qN 0 (qrow hm 9 (hm.1 9)) = kk (nI 172) (qrow hm 9 w) := h3
  rw [qrow_self] at h3'
  exact ⟨w, h1, h2, h3'⟩
theorem HS.run (H : HS T r B F LT k nx hx hm) (hB : B < 2 ^ 29) {s c : Nat} (hs : s < 4) (sc : SC1 hx hm s c) (isx : f8_isScript (nI s) hx = some 1) (ism : f9_isScript (nI s) hm = some 1) (y : Int32) : ∃ v hx' hm', f8_run (nI s) y hx = some (v, hx') ∧ f9_run (nI s) y hm = some (v, hm') ∧ TF hx hx' hm hm' := by
  have q := H.1
  unfold f8_run f9_run
  rw [isx, ism, bind_s, bind_s, if_neg q1f, if_neg q1f, q.told.1, q.told.2, bind_s, bind_s, if_neg q1f, if_neg q1f]
  rcases in0 (hm := hm) (n := 2) y (by omega) with ⟨i, hi, rfl, g1, g2, g3, g4⟩ | ⟨g1, g4⟩
  · have g4 : f9_in (nI i) 0 1 hm = some 1 := g4
    have g2' : nI i ≤ (1 : Int32) := nI_le (b := 1) (by omega) (by omega)
    obtain ⟨h1, b1, b2, b3, b4, b5⟩ := begin_eq (hx := hx)
    obtain ⟨w0, w1, -, w2⟩ := ranL (hm := hm) (fun (x6 : Int32) (h7 : qH) => some h7)
    have w2' : f9_putRunAside hm = some (qrow hm 17 w0) := w2
    have q1 : QQ T r B F h1 63 (qrow hm 17 w0) := q.begin b2 b3 (by rw [qrow_ne (by omega)]) (qrow_ne (by omega)) (qrow_ne (by omega))
    have sc1 : SC1 h1 (qrow hm 17 w0) s c := sc.cg hs (fun b _ _ => b3 b (by omega)) (qrow_ne (by omega)) (fun j _ => by rw [qrow_ne (by omega)])
    obtain ⟨v, B', F', x2, y2, d1, d2, qe, fx, fm, -⟩ := q1.steps hB hs sc1
    obtain ⟨w3, v1, v2, v3⟩ := runL (hm := y2) (p1 := nI s) (p2 := nI i) (z8 := v) (x10 := y2.1 9 170) (fun (x16 : Int32) (h17 : qH) => qj (fun (x18 : Int32) => some (x18, h17)) fun j19 => if nI i = (1 : Int32) then (j19 (y2.1 9 170)) else (qg (qin (nI s) 5) <| if v = (h17.1 8 (ix (nI s))) then (j19 (-1 : Int32)) else (j19 v)))
    have e17 : y2.1 17 = w0 := by rw [fm.1 17 (by omega) (by omega) (by omega) (by omega), qrow_at]
    have ew : w3 = hm.1 9 := by
      funext j
      by_cases hj : j < 172
      · rw [v1 j hj, e17, w1 j hj]
      · rw [v2 j hj, fm.2.2.2 j (by omega), qrow_ne (by omega)]
    rw [ew] at v3
    have tf : TF hx x2 hm (qrow y2 9 (hm.1 9)) := by
      refine ⟨fun b p1 p2 p3 => ?_, fun j hj => ?_, fun b p1 p2 p3 p4 p5 p6 => ?_, fun j p1 p2 p3 => ?_⟩
      · rw [fx.1 b (by omega) p1, b3 b (by omega)]
      · rw [fx.1 0 (by omega) (by omega), b3 0 (by omega)]
      · by_cases hb : b = 9
        · subst hb; rw [qrow_at]
        · rw [qrow_ne hb, fm.1 b p1 hb p2 p3, qrow_ne p6]
      · rw [qrow_ne (by omega), fm.2.1 j p1 p2, qrow_ne (by omega)]
    have ts : f8_tryScript (23 + 4 * s) hx = some (v, x2) := by
      unfold f8_tryScript
      rw [b1, bind_s]
      exact d1
    have q4 : qin (nI s) 4 = true := qin_nI hs (by omega)
    have q5 : qin (nI s) 5 = true := qin_nI (by omega) (by omega)
    have x3 : x2.1 (23 + 4 * s) 3 = nI c := by rw [fx.1 _ (by omega) (by omega), b3 _ (by omega)]; exact sc.2.2.1
    have y8 : (qrow y2 9 (hm.1 9)).1 8 s = nI c := by rw [qrow_ne (by omega), fm.1 8 (by omega) (by omega) (by omega) (by omega), qrow_ne (by omega)]; exact sc.2.2.2.1
    rw [g4, bind_s, if_neg q1f, if_neg g1, if_pos g2', q4, qg_t, getD4 hs, ts, qb2_s, w2', bind_s, d2, qb2_s, qlt_e, qlt_e, v3, qj_e, q5]
    by_cases e : nI i = 1
    · rw [if_pos e, if_pos e]
      exact ⟨_, x2, _, rfl, by rw [qe.2.2.2.1.1.1], tf⟩
    · rw [if_neg e, if_neg e, qg_t, qg_t, ix_nI (by omega), x3, y8]
      by_cases e2 : v = nI c
      · rw [if_pos e2, if_pos e2]
        exact ⟨_, x2, _, rfl, rfl, tf⟩
      · rw [if_neg e2, if_neg e2]
        exact ⟨_, x2, _, rfl, rfl, tf⟩
  · have g4 : f9_in y 0 1 hm = some 0 := g4
    rw [g4, bind_s, if_pos rfl]
    refine ⟨_, hx, hm, ?_, rfl, TF.rf⟩
    rcases g1 with g1 | ⟨g1, g2, g3⟩
    · rw [if_pos g1]
    · have g3' : ¬ y ≤ 1 := by
        intro h9
        obtain ⟨i, hi, rfl⟩ := nI_of g1
        have g2 : nI 2 ≤ nI i := g2
        have h9 : nI i ≤ nI 1 := h9
        rw [nI_leI (by omega) hi] at g2
        rw [nI_leI hi (by omega)] at h9
        omega
      rw [if_neg g1, if_neg g3']
end PE1
