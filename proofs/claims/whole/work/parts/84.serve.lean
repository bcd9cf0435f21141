theorem qN_4 : ∃ n, qN = n + 4 := ⟨qN - 4, by have := qN_ge; omega⟩
/-- the best of three orders -/
def bo (S : Nat → Int32) : Nat := if S (if S 0 ≤ S 1 then 0 else 1) ≤ S 2 then (if S 0 ≤ S 1 then 0 else 1) else 2
theorem bo_lt (S : Nat → Int32) : bo S < 3 := by
  unfold bo
  repeat' split
  all_goals omega
def So (N : Nat → Int32) (r : Nat → Nat) (F t p0 : Nat) (o : Nat) : Int32 := (sq N r F t o p0 (ak N (nI t) F)).2.1
theorem FC.ex {c : Nat} {h : qH} {b : Nat} {f : Nat → Int32} {o : Option qH} (hc : c ≠ b) (x : FC c (qrow h b f) o) : FC c h o := fun h' e => by
  rw [x h' e]
  exact qrow_ne hc
section PX
variable {T B F a : Nat} {r : Nat → Nat} {hx hm : qH}
theorem FC.wrt {c : Nat} {x y z : Int32} {h : qH} (hc : c < a) : FC c h (f7_writeRow a x y z h) := by
  unfold f7_writeRow
  exact FC.qg (FC.bv fun z => FC.lt (by omega) (FC.qg (FC.lt (by omega) (FC.qg (FC.lt (by omega) FC.sm)))))
theorem FC.rdr {c : Nat} {x y z : Int32} {h : qH} (hc : c < a) : FC c h (f7_readRow a x y z h) := by
  unfold f7_readRow
  exact FC.bh (FC.wrt hc) fun h1 => FC.qg (FC.ite FC.sm (FC.qg (FC.qg (FC.lt (by omega) FC.sm))))
/-- what is gathered changes nothing else -/
theorem QQ.gx (q : QQ T r B F hx a hm) (ka : kStage a) {hx' : qH} (ho : ∀ b, ¬ (43 ≤ b ∧ b ≤ 49) → hx'.1 b = hx.1 b) (hl : hx'.2 = hx.2) : OP T r B F a hx hm hx' hm := by
  have hlo := ka.lo
  have fx : FX a hx hx' := ⟨fun b _ h2 => ho b h2, hl⟩
  refine ⟨q.mk ka fx FM.rf ?_ q.2.2.2.2, fx, FM.rf, by rw [ho a (by omega)]⟩
  unfold RS RP
  rw [ho a (by omega), ho (a + 1) (by omega), ho (a + 2) (by omega), ho (a + 3) (by omega), ho (a + 4) (by omega), ho (a + 5) (by omega), ho (a + 6) (by omega), ho (a + 7) (by omega), ho (a + 8) (by omega), ho (a + 9) (by omega), ho (a + 10) (by omega), ho (a + 11) (by omega)]
  exact q.2.2.2.1
theorem QQ.headOf (q : QQ T r B F hx a hm) {t : Nat} (ht : t < T) : ∃ p0, p0 < r 2 * r 3 ∧ f9_headOf (nI t) hm = some (nI p0) ∧ hx.1 (a + 2) t = nI p0 := by
  have hT := q.t31
  have hL := q.L96
  unfold f9_headOf
  rw [q.dr ht, bind_s, qj_e]
  by_cases hd : hx.1 (a + 1) t = -1
  · rcases (q.tp ht).1 with ⟨-, h2, -, -⟩ | ⟨d, hd1, h1, -⟩
    · exact ⟨0, by omega, by rw [if_pos hd, if_pos rfl]; rfl, h2⟩
    · rw [hd] at h1
      exact absurd h1.symm (nI_m1 (by have := q.1.2.2.2.2.2.2.1; omega))
  · obtain ⟨d, hd1, hd2⟩ := q.driven ht hd
    obtain ⟨-, -, k3, p, hp, hh⟩ := q.place ht hd2 (by have := q.1.2.2.2.2.2.2.1; omega)
    refine ⟨p, hp, ?_, hh⟩
    rw [if_neg hd, if_neg q1f, la_8, q353 (show 8 + t < 353 by omega), qg_t, i353 (show 8 + t < 353 by omega), k3, hh]
theorem QQ.best (q : QQ T r B F hx a hm) {t p0 : Nat} (ht : t < T) (hp0 : p0 < r 2 * r 3) (hh : hx.1 (a + 2) t = nI p0) : ∃ w x, f9_bestOrder (nI t) hm = some (nI (bo (So (hm.1 9) r F t p0)), hL hm w x) := by
  have hL96 := q.L96
  have hd : ∀ {y : qH}, QQ T r B F hx a y → f9_headOf (nI t) y = some (nI p0) := fun {y} q' => by
    obtain ⟨p1, h1, h2, h3⟩ := q'.headOf ht
    rw [hh] at h3
    rw [h2, nI_inj (by omega) (by omega) h3]
  have hl : ∀ (o : Nat) (w : Nat → Int32) (x : Int32), o < 3 → ∃ w', f9_laysOrder (nI t) (nI o) (nI p0) (hL hm w x) = some (So (hm.1 9) r F t p0 o, hL hm w' (nI (ak (hm.1 9) (nI t) F))) := fun o w x ho => by
    obtain ⟨w', h1, -⟩ := (q.hL9 w x).lays ht ho hp0
    rw [hL_o (by omega) (by omega), hL_hL] at h1
    exact ⟨w', h1⟩
  obtain ⟨n, hn⟩ := qN_4
  unfold f9_bestOrder
  rw [hn]
  obtain ⟨w1, l1, -⟩ := q.lays ht (show 1 < 3 by omega) hp0
  have l1 : f9_laysOrder (nI t) 1 (nI p0) hm = some (So (hm.1 9) r F t p0 1, hL hm w1 (nI (ak (hm.1 9) (nI t) F))) := l1
  obtain ⟨w2, l2⟩ := hl 0 w1 (nI (ak (hm.1 9) (nI t) F)) (by omega)
  have l2 : f9_laysOrder (nI t) 0 (nI p0) (hL hm w1 (nI (ak (hm.1 9) (nI t) F))) = some (So (hm.1 9) r F t p0 0, hL hm w2 (nI (ak (hm.1 9) (nI t) F))) := l2
  rw [f9_bestOrder_L4, if_neg (by decide), hd q, bind_s, l1, qb2_s, hd (q.hL9 _ _), bind_s, l2, qb2_s, qlt_e, qlt_e, show (1 : Int32) + 1 = 2 by decide]
  obtain ⟨w3, l3⟩ := hl 2 w2 (nI (ak (hm.1 9) (nI t) F)) (by omega)
  have l3 : f9_laysOrder (nI t) 2 (nI p0) (hL hm w2 (nI (ak (hm.1 9) (nI t) F))) = some (So (hm.1 9) r F t p0 2, hL hm w3 (nI (ak (hm.1 9) (nI t) F))) := l3
  obtain ⟨w4, l4⟩ := hl (if So (hm.1 9) r F t p0 0 ≤ So (hm.1 9) r F t p0 1 then 0 else 1) w3 (nI (ak (hm.1 9) (nI t) F)) (by split <;> omega)
  have eb : (if So (hm.1 9) r F t p0 0 ≤ So (hm.1 9) r F t p0 1 then (0 : Int32) else 1) = nI (if So (hm.1 9) r F t p0 0 ≤ So (hm.1 9) r F t p0 1 then 0 else 1) := by split <;> rfl
  rw [eb, f9_bestOrder_L4, if_neg (by decide), hd (q.hL9 _ _), bind_s, l3, qb2_s, hd (q.hL9 _ _), bind_s, l4, qb2_s, qlt_e, qlt_e, show (2 : Int32) + 1 = 3 by decide, f9_bestOrder_L4, if_pos (by decide)]
  refine ⟨w4, nI (ak (hm.1 9) (nI t) F), ?_⟩
  congr 2
  unfold bo
  split <;> split <;> rfl
theorem arrange {N : Nat → Int32} {h : qH} (hX : HX T r h) (hB : HB T r) (hI : IN T r B F N) {t p0 : Nat} {g : Nat → Nat} (ga : GA N F t (ak N (nI t) F) g h) (ht : t < 2 ^ 31) (hC : ak N (nI t) F ≤ 12) (hp0 : p0 < r 2 * r 3) (hh : h.1 43 2 = nI p0) : ∃ w, f2_arrangeBest h = some (qrow h 48 w) ∧ ∀ j, j < ak N (nI t) F → ∃ k, k < ak N (nI t) F ∧ w j = nI k ∧ g k = sb N r F t (bo (So N r F t p0)) (sq N r F t (bo (So N r F t p0)) p0 j) := by
  have tm : ∀ (o : Nat) (w : Nat → Int32), o < 3 → ∃ w', f2_timeOf (nI o) (qrow h 48 w) = some (So N r F t p0 o, qrow h 48 w') ∧ ∀ j, j < ak N (nI t) F → ∃ k, k < ak N (nI t) F ∧ w' j = nI k ∧ g k = sb N r F t o (sq N r F t o p0 j) := fun o w ho => by
    obtain ⟨w', h1, h2⟩ := timeOf (hX.r48 (w := w) (c := 48) (by omega)) hB hI ga.r48 ht hC ho hp0 (by rw [qrow_ne (by omega)]; exact hh)
    rw [qrow_qrow] at h1
    exact ⟨w', h1, h2⟩
  obtain ⟨n, hn⟩ := qN_4
  obtain ⟨w1, l1, -⟩ := tm 0 (h.1 48) (by omega)
  rw [qrow_self] at l1
  have l1 : f2_timeOf 0 h = some (So N r F t p0 0, qrow h 48 w1) := l1
  obtain ⟨w2, l2, -⟩ := tm 1 w1 (by omega)
  have l2 : f2_timeOf 1 (qrow h 48 w1) = some (So N r F t p0 1, qrow h 48 w2) := l2
  obtain ⟨w3, l3, -⟩ := tm 2 w2 (by omega)
  have l3 : f2_timeOf 2 (qrow h 48 w2) = some (So N r F t p0 2, qrow h 48 w3) := l3
  obtain ⟨w4, l4, l5⟩ := tm (bo (So N r F t p0)) w3 (bo_lt _)
  refine ⟨w4, ?_, l5⟩
  unfold f2_arrangeBest
  rw [l1, qb2_s, hn, f2_arrangeBest_L10, if_neg (by decide), l2, qb2_s, qj_e]
  unfold bo at l4
  by_cases c1 : So N r F t p0 0 ≤ So N r F t p0 1
  · simp only [if_pos c1] at l4
    rw [if_pos c1]
    simp only [qlt_e, show (1 : Int32) + 1 = 2 by decide]
    rw [f2_arrangeBest_L10, if_neg (by decide), l3, qb2_s, qj_e]
    by_cases c2 : So N r F t p0 0 ≤ So N r F t p0 2
    · simp only [if_pos c2] at l4
      have l4 : f2_timeOf 0 (qrow h 48 w3) = some (_, qrow h 48 w4) := l4
      rw [if_pos c2]
      simp only [qlt_e, show (2 : Int32) + 1 = 3 by decide]
      rw [f2_arrangeBest_L10, if_pos (by decide), l4, qb2_s]
    · simp only [if_neg c2] at l4
      have l4 : f2_timeOf 2 (qrow h 48 w3) = some (_, qrow h 48 w4) := l4
      rw [if_neg c2]
      simp only [qlt_e, show (2 : Int32) + 1 = 3 by decide]
      rw [f2_arrangeBest_L10, if_pos (by decide), l4, qb2_s]
  · simp only [if_neg c1] at l4
    rw [if_neg c1]
    simp only [qlt_e, show (1 : Int32) + 1 = 2 by decide]
    rw [f2_arrangeBest_L10, if_neg (by decide), l3, qb2_s, qj_e]
    by_cases c2 : So N r F t p0 1 ≤ So N r F t p0 2
    · simp only [if_pos c2] at l4
      have l4 : f2_timeOf 1 (qrow h 48 w3) = some (_, qrow h 48 w4) := l4
      rw [if_pos c2]
      simp only [qlt_e, show (2 : Int32) + 1 = 3 by decide]
      rw [f2_arrangeBest_L10, if_pos (by decide), l4, qb2_s]
    · simp only [if_neg c2] at l4
      have l4 : f2_timeOf 2 (qrow h 48 w3) = some (_, qrow h 48 w4) := l4
      rw [if_neg c2]
      simp only [qlt_e, show (2 : Int32) + 1 = 3 by decide]
      rw [f2_arrangeBest_L10, if_pos (by decide), l4, qb2_s]
/-- a row of files that are asked for is read -/
theorem QQ.serveL (q : QQ T r B F hx a hm) (ka : kStage a) {t d C : Nat} {m : Nat → Nat} (ht : t < T) (hd : hx.1 (a + 1) t = nI d) (hd2 : d < 2 ^ 31) (hC : C ≤ 12) (hm1 : ∀ j, j < C → m j < F ∧ ia (hm.1 9) t (m j) = true) (hinj : ∀ i j, i < j → j < C → m i ≠ m j) (x43 : hx.1 43 1 = nI C) (xf : ∀ j, j < C → ∃ k, k < 12 ∧ hx.1 48 j = nI k ∧ hx.1 44 k = nI (m j)) (m20 : hm.1 0 20 = nI C) (m11 : ∀ j, j < C → hm.1 11 j = nI (m j)) (kx km : Int32 → qH → Option (Int32 × qH)) : ∃ s : qH × qH, (OP T r B F a hx hm s.1 s.2 ∧ (∀ f, f < F → s.2.1 9 (48 + f) = hm.1 9 (48 + f)) ∧ ∀ f, f < F → ((∃ j, j < C ∧ m j = f) → s.2.1 9 (144 + f) = 0) ∧ ((∀ j, j < C → m j ≠ f) → s.2.1 9 (144 + f) = hm.1 9 (144 + f))) ∧ f7_serveNext_L36 a (nI t) kx qN 0 hx = kx (nI C) s.1 ∧ f9_servesNow_L28 (nI t) km qN 0 hm = km (nI C) s.2 := by
  have hT := q.t31
  have hlo := ka.lo
  obtain ⟨s, ⟨hI, -, -, -, -, hK, h144, -⟩, h1⟩ := lq10 (σ := qH × qH) (fun m s x => (f7_serveNext_L36 a (nI t) kx m x s.1, f9_servesNow_L28 (nI t) km m x s.2)) (fun s x => (kx x s.1, km x s.2)) (fun i s => OP T r B F a hx hm s.1 s.2 ∧ s.1.1 (a + 1) = hx.1 (a + 1) ∧ (∀ b, b < 51 → s.1.1 b = hx.1 b) ∧ s.2.1 11 = hm.1 11 ∧ s.2.1 0 = hm.1 0 ∧ (∀ k, 48 ≤ k → k < 120 → s.2.1 9 k = hm.1 9 k) ∧ (∀ f, f < F → ((∃ j, j < i ∧ m j = f) → s.2.1 9 (144 + f) = 0) ∧ ((∀ j, j < i → m j ≠ f) → s.2.1 9 (144 + f) = hm.1 9 (144 + f))) ∧ True) C (by omega) (hx, hm) ⟨OP.rf q, rfl, fun _ _ => rfl, rfl, rfl, fun _ _ _ => rfl, fun f _ => ⟨fun ⟨j, hj, _⟩ => by omega, fun _ => rfl⟩, trivial⟩ (fun i s hi hs => by
    obtain ⟨x, y⟩ := s
    have hs : OP T r B F a hx hm x y ∧ x.1 (a + 1) = hx.1 (a + 1) ∧ (∀ b, b < 51 → x.1 b = hx.1 b) ∧ y.1 11 = hm.1 11 ∧ y.1 0 = hm.1 0 ∧ (∀ k, 48 ≤ k → k < 120 → y.1 9 k = hm.1 9 k) ∧ (∀ f, f < F → ((∃ j, j < i ∧ m j = f) → y.1 9 (144 + f) = 0) ∧ ((∀ j, j < i → m j ≠ f) → y.1 9 (144 + f) = hm.1 9 (144 + f))) ∧ True := hs
    obtain ⟨o1, d1, b1, w1, z0, k1, t1, -⟩ := hs
    have q1 := o1.1
    obtain ⟨m1, m2⟩ := hm1 i hi
    rw [ia_iff] at m2
    obtain ⟨k, hk, xk1, xk2⟩ := xf i hi
    have c48 : y.1 9 (48 + m i) = nI t := by rw [k1 _ (by omega) (by omega)]; exact m2.1
    obtain ⟨n1, n2, n3, n4⟩ := q1.fN m1
    obtain ⟨-, z5, z6⟩ := q1.2.2.2.2.fit hT.1 m1 (show t < 2 ^ 31 by omega) c48
    obtain ⟨x2, y2, r1, r2, o2, k2, d2, w2⟩ := q1.reads (b := ix (y.1 9 (72 + m i))) (c := ix (y.1 9 (96 + m i))) ka ht (by rw [d1]; exact hd) hd2 n3 (by omega)
    have n1' : y.1 9 (72 + m i) = nI (ix (y.1 9 (72 + m i))) := n1
    have n2' : y.1 9 (96 + m i) = nI (ix (y.1 9 (96 + m i))) := n2
    rw [← n1', ← n2'] at r1 r2
    have q2 := o2.1
    obtain ⟨⟨s1, s2, s3, s4⟩, s5, s6⟩ := q2.2.2.2.1
    obtain ⟨e7, e8, e9, e10, e11⟩ := q2.fl m1
    have g1 := nI_ge hi (show C < 2 ^ 31 by omega)
    have f8 := (q1.fl m1).2.1
    have f9 := (q1.fl m1).2.2.1
    have fb : ∀ b, b < 51 → x2.1 b = hx.1 b := fun b hb => (FC.rdr (show b < a by omega) x2 r1).trans (b1 b hb)
    refine ⟨(qrow x2 (a + 11) (upd (x2.1 (a + 11)) (m i) 0), qrow y2 9 (upd (y2.1 9) (144 + m i) 0)), ⟨(o1.tr o2).tr ?_, ?_, fun b hb => ?_, ?_, ?_, fun k' h1 h2 => ?_, fun f hf => ⟨fun ⟨j, hj, ej⟩ => ?_, fun hne => ?_⟩, trivial⟩, fun m' => ?_⟩
    · refine q2.upF (ω := y2.1 9 (48 + m i)) (κ := y2.1 9 (120 + m i)) (θ := 0) (u' := y2.1 9 171) ka m1 ?_ ?_ ?_ ?_ (fun b h1 h2 h3 h4 => by rw [qrow_ne h4]) rfl (qrow_at _ _ _) ?_ ?_ (upd_at _ _ _) ?_ (fun k h1 h2 h3 h4 => by rw [upd_ne h3]) (FM.now fun k hk => by rw [upd_ne (by omega)]) (by rw [qrow_ne (by omega)]) q2.turns ?_ ⟨rfl, Nat.zero_le _⟩ (Or.inl rfl) ?_
      · rw [qrow_ne (by omega), ← s3, upd_self]
      · rw [qrow_ne (by omega), ← e7, upd_self]
      · rw [qrow_ne (by omega), ← e10, upd_self]
      · rw [qrow_at]
      · rw [upd_ne (by omega)]
      · rw [upd_ne (by omega)]
      · rw [upd_ne (by omega)]
      · rcases q2.kn m1 with ⟨h1, h2⟩ | ⟨h1, h2 | h2⟩
        · exact Or.inl ⟨h1, h2, rfl⟩
        · exact Or.inr ⟨rfl, h1, Or.inl ⟨h2, rfl⟩⟩
        · exact Or.inr ⟨rfl, h1, Or.inr h2⟩
      · have := q2.2.2.2.2.2.2.2.2.2.2
        rw [if_pos rfl]
        omega
    · show (qrow x2 (a + 11) _).1 (a + 1) = _
      rw [qrow_ne (by omega), d2, d1]
    · show (qrow x2 (a + 11) _).1 b = _
      rw [qrow_ne (by omega)]
      exact fb b hb
    · show (qrow y2 9 _).1 11 = _
      rw [qrow_ne (by omega), w2 11 (by omega), w1]
    · show (qrow y2 9 _).1 0 = _
      rw [qrow_ne (by omega), w2 0 (by omega), z0]
    · show (qrow y2 9 (upd (y2.1 9) (144 + m i) 0)).1 9 k' = _
      rw [qrow_at, upd_ne (by omega), k2 _ (by omega), k1 _ h1 h2]
    · show (qrow y2 9 (upd (y2.1 9) (144 + m i) 0)).1 9 (144 + f) = 0
      rw [qrow_at]
      by_cases e : f = m i
      · subst e; rw [upd_at]
      · rw [upd_ne (by omega), k2 _ (by omega)]
        have hji : j ≠ i := fun e2 => e (by rw [← ej, e2])
        exact (t1 f hf).1 ⟨j, by omega, ej⟩
    · show (qrow y2 9 (upd (y2.1 9) (144 + m i) 0)).1 9 (144 + f) = _
      have := hne i (by omega)
      rw [qrow_at, upd_ne (by omega), k2 _ (by omega)]
      exact (t1 f hf).2 (fun j hj => hne j (by omega))
    · show (f7_serveNext_L36 a (nI t) kx (m' + 1) (nI i) x, f9_servesNow_L28 (nI t) km (m' + 1) (nI i) y) = (f7_serveNext_L36 a (nI t) kx m' (nI (i + 1)) _, f9_servesNow_L28 (nI t) km m' (nI (i + 1)) _)
      have e43 : x.1 43 1 = nI C := by rw [b1 43 (by omega)]; exact x43
      have e48 : x.1 48 i = nI k := by rw [b1 48 (by omega)]; exact xk1
      have e44 : x.1 44 k = nI (m i) := by rw [b1 44 (by omega)]; exact xk2
      have y20 : y.1 0 20 = nI C := by rw [z0]; exact m20
      have y11 : y.1 11 i = nI (m i) := by rw [w1]; exact m11 i hi
      congr 1
      · simp only [f7_serveNext_L36, e43, g1, if_false, f2_fileAt, q12 (show i < 12 by omega), ix_nI (show i < 2 ^ 31 by omega), e48, q12 hk, ix_nI (show k < 2 ^ 31 by omega), e44, qg_t, bind_s, q24 (show m i < 24 by omega), ix_nI (show m i < 2 ^ 31 by omega), f8, f9, r1, qlt_e, qw, nI_1]
      · simp only [f9_servesNow_L28, y20, g1, if_false, q24 (show i < 24 by omega), ix_nI (show i < 2 ^ 31 by omega), y11, qlt_e, la_72, la_96, la_144, q353 (show 72 + m i < 353 by omega), i353 (show 72 + m i < 353 by omega), q353 (show 96 + m i < 353 by omega), i353 (show 96 + m i < 353 by omega), q353 (show 144 + m i < 353 by omega), i353 (show 144 + m i < 353 by omega), qg_t, r2, bind_s, qw, nI_1]) (fun m' s hs => by
    obtain ⟨x, y⟩ := s
    have hs : OP T r B F a hx hm x y ∧ x.1 (a + 1) = hx.1 (a + 1) ∧ (∀ b, b < 51 → x.1 b = hx.1 b) ∧ y.1 11 = hm.1 11 ∧ y.1 0 = hm.1 0 ∧ _ := hs
    obtain ⟨-, -, b1, -, z0, -⟩ := hs
    show (f7_serveNext_L36 a (nI t) kx (m' + 1) (nI C) x, f9_servesNow_L28 (nI t) km (m' + 1) (nI C) y) = _
    congr 1
    · rw [f7_serveNext_L36, b1 43 (by omega), x43, if_pos (nI_le (Nat.le_refl _) (by omega))]
    · rw [f9_servesNow_L28, z0, m20, if_pos (nI_le (Nat.le_refl _) (by omega))])
  exact ⟨s, ⟨hI, fun f hf => hK _ (by omega) (by omega), h144⟩, congrArg Prod.fst h1, congrArg Prod.snd h1⟩
end PX
