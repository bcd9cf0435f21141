section PN
variable {T B F a : Nat} {r : Nat → Nat} {hx hm : qH}
theorem QQ.addTime (q : QQ T r B F hx a hm) (ka : kStage a) (n : Int32) : OP T r B F a hx hm (qw hx a 2 (hx.1 a 2 + n)) (qw hm 9 170 (hm.1 9 170 + n)) := by
  have hT := q.t31
  have hlo := ka.lo
  obtain ⟨⟨s1, s2, s3, s4⟩, s5, s6⟩ := q.2.2.2.1
  have fx : FX a hx (qw hx a 2 (hx.1 a 2 + n)) := FX.row (by omega)
  have fm : FM hm (qw hm 9 170 (hm.1 9 170 + n)) := (FM.now fun k hk => upd_ne (by omega))
  have e9 : (qw hm 9 170 (hm.1 9 170 + n)).1 9 = upd (hm.1 9) 170 (hm.1 9 170 + n) := qrow_at _ _ _
  have ea : (qw hx a 2 (hx.1 a 2 + n)).1 a = upd (hx.1 a) 2 (hx.1 a 2 + n) := qrow_at _ _ _
  have eo : ∀ b, b ≠ a → (qw hx a 2 (hx.1 a 2 + n)).1 b = hx.1 b := fun b h => qrow_ne h
  refine ⟨q.mk ka fx fm ?_ ?_, fx, fm, ?_⟩
  · rw [e9]
    refine ⟨⟨?_, ?_, ?_, ?_⟩, fun t ht => ?_, fun f hf => ?_⟩
    · rw [ea, upd_at, upd_at, s1]
    · rw [ea, upd_ne (by omega), upd_ne (by omega), s2]
    · rw [ea, upd_ne (by omega), upd_ne (by omega), s3]
    · rw [ea, upd_ne (by omega), upd_ne (by omega), s4]
    · obtain ⟨p1, p2, p3, p4, p5⟩ := s5 t ht
      refine ⟨?_, ?_, ?_, ?_, ?_⟩
      · unfold RP at p1 ⊢
        rw [eo _ (by omega), eo _ (by omega), upd_ne (by omega), upd_ne (by omega)]
        exact p1
      · rw [eo _ (by omega), upd_ne (by omega)]; exact p2
      · rw [eo _ (by omega), upd_ne (by omega)]; exact p3
      · rw [eo _ (by omega), upd_ne (by omega)]; exact p4
      · rw [eo _ (by omega), upd_ne (by omega)]; exact p5
    · obtain ⟨p1, p2, p3, p4, p5⟩ := s6 f hf
      refine ⟨?_, ?_, ?_, ?_, ?_⟩
      · rw [eo _ (by omega), upd_ne (by omega)]; exact p1
      · rw [eo _ (by omega), upd_ne (by omega)]; exact p2
      · rw [eo _ (by omega), upd_ne (by omega)]; exact p3
      · rw [eo _ (by omega), upd_ne (by omega)]; exact p4
      · rw [eo _ (by omega), upd_ne (by omega)]; exact p5
  · rw [e9]
    exact q.2.2.2.2.tp (fun k hk => upd_ne (by omega)) hT.1 (fun t ht => by rw [upd_ne (by omega), upd_ne (by omega)]; exact (q.2.2.2.2.2.1 t ht).2.2) (fun t u ht hu => by rw [upd_ne (by omega), upd_ne (by omega)]; exact q.2.2.2.2.2.2.1 t u ht hu)
  · rw [ea, upd_ne (by omega)]
    exact congrArg (fun z => hx.1 a 6 - z) (congrFun (qrow_ne (by omega)) 18)
theorem QQ.driven (q : QQ T r B F hx a hm) {t : Nat} (ht : t < T) (h : ¬ hx.1 (a + 1) t = -1) : ∃ d, d < r 1 ∧ hx.1 (a + 1) t = nI d := by
  rcases (q.tp ht).1 with ⟨h1, -⟩ | ⟨d, hd, h1, -⟩
  · exact absurd h1 h
  · exact ⟨d, hd, h1⟩
theorem QQ.waitFor (q : QQ T r B F hx a hm) (ka : kStage a) (n : Int32) : ∃ v hx' hm', ¬ v = -1 ∧ f7_waitFor a n hx = some (v, hx') ∧ f9_pausesNow n hm = some (v, hm') ∧ OP T r B F a hx hm hx' hm' := by
  have o1 := q.addTime ka n
  have hT := q.t31
  have b7 := q.1.2.2.2.2.2.2.1
  unfold f7_waitFor f9_pausesNow
  rw [qlt_e, qlt_e]
  generalize qw hx a 2 (hx.1 a 2 + n) = h1 at o1 ⊢
  generalize qw hm 9 170 (hm.1 9 170 + n) = m1 at o1 ⊢
  have q1 := o1.1
  obtain ⟨v, hv, i1, i2⟩ := q1.idleS (m1.1 9 170)
  rw [q1.2.2.2.1.1.1, i1, i2, bind_s, bind_s]
  obtain ⟨s, ⟨hI, -⟩, c1, c2⟩ := up_loop20 (σ := qH × qH) (fun m s x => f7_waitFor_L21 a v (fun _ h14 => (f6_bitCount_0f7a4 v h14).bind fun z15 => some (z15, h14)) m x s.1) (fun m s x => f9_pausesNow_L27 v (fun _ h14 => (f9_bits v h14).bind fun z15 => some (z15, h14)) m x s.2) (fun s _ => (f6_bitCount_0f7a4 v s.1).bind fun z15 => some (z15, s.1)) (fun s _ => (f9_bits v s.2).bind fun z15 => some (z15, s.2)) (fun i s => OP T r B F a h1 m1 s.1 s.2 ∧ ∀ u, i ≤ u → u < T → s.1.1 (a + 1) u = h1.1 (a + 1) u) T (by omega) (h1, m1) ⟨OP.rf q1, fun _ _ _ => rfl⟩ (fun i s hi hs => by
    obtain ⟨x, y⟩ := s
    have hs : OP T r B F a h1 m1 x y ∧ ∀ u, i ≤ u → u < T → x.1 (a + 1) u = h1.1 (a + 1) u := hs
    obtain ⟨o2, k2⟩ := hs
    have q2 := o2.1
    have g1 := nI_ge hi (show T < 2 ^ 31 by omega)
    have hbit := isSet_has hv hT.1 hi
    by_cases hp : ¬ h1.1 (a + 1) i = -1 ∧ ¬ m1.1 9 170 - m1.1 9 (40 + i) ≤ nI (r 7)
    · obtain ⟨d, hd, ed⟩ := q2.driven hi (by rw [k2 i (Nat.le_refl _) hi]; exact hp.1)
      obtain ⟨x', y', e1, e2, o3, k3⟩ := q2.putAwayO ka hi ed (by omega)
      have hb := hbit.2 hp
      have hh : f9_has v (nI i) y = some 1 := by
        unfold f9_has
        simp only [hb, if_true, qlt_e, qbo_1, qg_t]
      refine ⟨(x', y'), ⟨o2.tr o3, fun u h1' h2' => ?_⟩, fun m => ?_, fun m => ?_⟩
      · show x'.1 (a + 1) u = _
        rw [k3, upd_ne (by omega)]
        exact k2 u (by omega) h2'
      · show f7_waitFor_L21 a v _ (m + 1) (nI i) x = f7_waitFor_L21 a v _ m (nI (i + 1)) x'
        simp only [f7_waitFor_L21, q2.Tx, g1, if_false, hb, if_true, e1, qb2_s, qj_e, qlt_e, nI_1]
      · show f9_pausesNow_L27 v _ (m + 1) (nI i) y = f9_pausesNow_L27 v _ m (nI (i + 1)) y'
        simp only [f9_pausesNow_L27, q2.Tm, g1, if_false, hh, e2, bind_s, qj_e, qlt_e, q1f, nI_1]
    · have hb : ¬ ((v >>> (nI i &&& 31)) &&& 1 = 1) := fun h => hp (hbit.1 h)
      have hh : f9_has v (nI i) y = some 0 := by
        unfold f9_has
        simp only [hb, if_false, qlt_e, qbo_0, qg_t]
      refine ⟨(x, y), ⟨o2, fun u h1' h2' => k2 u (by omega) h2'⟩, fun m => ?_, fun m => ?_⟩
      · show f7_waitFor_L21 a v _ (m + 1) (nI i) x = f7_waitFor_L21 a v _ m (nI (i + 1)) x
        simp only [f7_waitFor_L21, q2.Tx, g1, if_false, hb, qj_e, qlt_e, nI_1]
      · show f9_pausesNow_L27 v _ (m + 1) (nI i) y = f9_pausesNow_L27 v _ m (nI (i + 1)) y
        simp only [f9_pausesNow_L27, q2.Tm, g1, if_false, hh, bind_s, qj_e, qlt_e, if_true, nI_1]) (fun m s hs => by
    refine ⟨?_, ?_⟩
    · show f7_waitFor_L21 a v _ (m + 1) (nI T) s.1 = _
      rw [f7_waitFor_L21, hs.1.1.Tx, if_pos (nI_le (Nat.le_refl _) (by omega))]
    · show f9_pausesNow_L27 v _ (m + 1) (nI T) s.2 = _
      rw [f9_pausesNow_L27, hs.1.1.Tm, if_pos (nI_le (Nat.le_refl _) (by omega))])
  obtain ⟨w, hw, rfl, -⟩ := hv
  obtain ⟨z, zn, z1, z2⟩ := bits_eq (hx := s.1) (hm := s.2) (w := w) (Nat.lt_of_lt_of_le hw (Nat.pow_le_pow_right (by omega) (by omega : T ≤ 8)))
  rw [z2, bind_s] at c1
  rw [z1, bind_s] at c2
  exact ⟨z, s.1, s.2, zn, c1, c2, o1.tr hI⟩
theorem QQ.askFor (q : QQ T r B F hx a hm) (ka : kStage a) {f : Nat} (hf : f < F) (hk1 : hm.1 9 (120 + f) = 1) (h0 : hm.1 9 (144 + f) = 0) (hn : nask (hm.1 9) F < 12) {w : Int32} (hB : B < 2 ^ 30) : ∃ (v : Nat) (hx' hm' : qH), f7_askFor a (nI f) hx = some (nI v, hx') ∧ f9_doNow 0 (nI f) w hm = some (nI v, hm') ∧ OP T r (B + 1) F a hx hm hx' hm' := by
  have hT := q.t31
  have hlo := ka.lo
  obtain ⟨e7, e8, e9, e10, e11⟩ := q.fl hf
  obtain ⟨⟨s1, s2, s3, s4⟩, s5, s6⟩ := q.2.2.2.1
  obtain ⟨t1, -, t3⟩ := q.turns
  have ht : hm.1 9 171 + 1 = nI (ix (hm.1 9 171) + 1) := by
    rw [← nI_1, ← t1]
  refine ⟨ix (hm.1 9 171) + 1, qrow (qrow hx a (upd (hx.1 a) 4 (nI (ix (hm.1 9 171) + 1)))) (a + 11) (upd (hx.1 (a + 11)) f (nI (ix (hm.1 9 171) + 1))), qrow hm 9 (upd (upd (hm.1 9) 171 (nI (ix (hm.1 9 171) + 1))) (144 + f) (nI (ix (hm.1 9 171) + 1))), ?_, ?_, ?_⟩
  · unfold f7_askFor
    simp only [q24 (show f < 24 by omega), ix_nI (show f < 2 ^ 31 by omega), qg_t, qlt_e, qw, s3, ht, qrow_at, upd_at, qrow_ne (show a + 11 ≠ a by omega), qrow_ne (show a ≠ a + 11 by omega)]
  · unfold f9_doNow
    simp only [if_true, la_144, q353 (show 144 + f < 353 by omega), i353 (show 144 + f < 353 by omega), qg_t, qlt_e, qw, qrow_at, qrow_qrow, ht, upd_at, upd_ne (show 171 ≠ 144 + f by omega)]
  · have hne : ∀ g, g < F → ¬ hm.1 9 (144 + g) = nI (ix (hm.1 9 171) + 1) := fun g hg e => by
      have h9 := (q.2.2.2.2.2.2.2.1 g hg).2.2.2
      rw [e, ix_nI (by omega)] at h9
      omega
    refine q.upF (ω := hm.1 9 (48 + f)) (κ := 1) (θ := nI (ix (hm.1 9 171) + 1)) (u' := nI (ix (hm.1 9 171) + 1)) ka hf ?_ ?_ ?_ ?_ (fun b h1 h2 h3 h4 => by rw [qrow_ne h4, qrow_ne h1]) rfl (qrow_at _ _ _) ?_ ?_ (upd_at _ _ _) ?_ (fun k h1 h2 h3 h4 => by rw [upd_ne h3, upd_ne h4]) (FM.now fun k hk => by rw [upd_ne (by omega), upd_ne (by omega)]) (by rw [qrow_ne (by omega)]) ⟨isN_nI (by omega), by rw [ix_nI (by omega)]; omega, by rw [ix_nI (by omega)]; omega⟩ ?_ ⟨isN_nI (by omega), Nat.le_refl _⟩ (Or.inr fun g hg _ => hne g hg) ?_
    · rw [qrow_ne (by omega), qrow_at]
    · rw [qrow_ne (by omega), qrow_ne (by omega), ← e7, upd_self]
    · rw [qrow_ne (by omega), qrow_ne (by omega)]
      conv => rhs; rw [← hk1, ← e10, upd_self]
    · rw [qrow_at]
    · rw [upd_ne (by omega), upd_ne (by omega)]
    · rw [upd_ne (by omega), upd_ne (by omega), hk1]
    · rw [upd_ne (by omega), upd_at]
    · refine Or.inr ⟨rfl, fun e => ?_, Or.inr rfl⟩
      rcases q.kn hf with ⟨-, h9⟩ | ⟨h9, -⟩
      · rw [hk1] at h9
        exact q1f h9
      · exact h9 e
    · rw [h0, if_pos rfl]
      split <;> omega
end PN
