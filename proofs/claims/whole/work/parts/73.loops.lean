section PM
variable {T B F a : Nat} {r : Nat → Nat} {hx hm : qH}
theorem QQ.lose (q : QQ T r B F hx a hm) (ka : kStage a) : ∃ (c : Nat) (hx' hm' : qH), f7_loseCatalog a hx = some (nI c, hx') ∧ f9_losesNow hm = some (nI c, hm') ∧ OP T r B F a hx hm hx' hm' := by
  have hT := q.t31
  obtain ⟨c, hc, k1, k2⟩ := q.known
  unfold f7_loseCatalog f9_losesNow
  rw [k1, k2, bind_s, bind_s]
  obtain ⟨s, hI, h1, h2⟩ := up_loop20 (σ := qH × qH) (fun m s x => f7_loseCatalog_L7 a (nI c) (fun _ h9 => some (nI c, h9)) m x s.1) (fun m s x => f9_losesNow_L7 (nI c) (fun _ h9 => some (nI c, h9)) m x s.2) (fun s _ => some (nI c, s.1)) (fun s _ => some (nI c, s.2)) (fun _ s => OP T r B F a hx hm s.1 s.2) F (by omega) (hx, hm) (OP.rf q) (fun i s hi hv => by
    obtain ⟨x, y⟩ := s
    have hv : OP T r B F a hx hm x y := hv
    have q1 := hv.1
    have g1 := nI_ge hi (show F < 2 ^ 31 by omega)
    obtain ⟨e7, e8, e9, e10, e11⟩ := q1.fl hi
    obtain ⟨⟨s1, s2, s3, s4⟩, s5, s6⟩ := q1.2.2.2.1
    refine ⟨(qrow (qrow x (a + 10) (upd (x.1 (a + 10)) i 0)) (a + 11) (upd (x.1 (a + 11)) i 0), qrow y 9 (upd (upd (y.1 9) (120 + i) 0) (144 + i) 0)), ?_, fun m => ?_, fun m => ?_⟩
    · refine hv.tr ?_
      refine q1.upF (ω := y.1 9 (48 + i)) (κ := 0) (θ := 0) (u' := y.1 9 171) ka hi ?_ ?_ ?_ ?_ (fun b h1 h2 h3 h4 => by rw [qrow_ne h4, qrow_ne h3]) rfl (qrow_at _ _ _) ?_ ?_ (upd_at _ _ _) ?_ (fun k h1 h2 h3 h4 => by rw [upd_ne h3, upd_ne h2]) (FM.now fun k hk => by rw [upd_ne (by omega), upd_ne (by omega)]) (by rw [qrow_ne (by omega)]) q1.turns ?_ ⟨rfl, Nat.zero_le _⟩ (Or.inl rfl) ?_
      · rw [qrow_ne (by omega), qrow_ne (by omega), ← s3, upd_self]
      · rw [qrow_ne (by omega), qrow_ne (by omega), ← e7, upd_self]
      · rw [qrow_ne (by omega), qrow_at]
      · rw [qrow_at]
      · rw [upd_ne (by omega), upd_ne (by omega)]
      · rw [upd_ne (by omega), upd_at]
      · rw [upd_ne (by omega), upd_ne (by omega)]
      · by_cases hm1 : y.1 9 (48 + i) = -1
        · exact Or.inl ⟨hm1, rfl, rfl⟩
        · exact Or.inr ⟨rfl, hm1, Or.inl ⟨rfl, rfl⟩⟩
      · have := q1.2.2.2.2.2.2.2.2.2.2
        rw [if_pos rfl]
        omega
    · show f7_loseCatalog_L7 a (nI c) _ (m + 1) (nI i) x = f7_loseCatalog_L7 a (nI c) _ m (nI (i + 1)) _
      simp only [f7_loseCatalog_L7, q1.Fx, g1, if_false, q24 (show i < 24 by omega), ix_nI (show i < 2 ^ 31 by omega), qg_t, qlt_e, qw, qrow_ne (show a + 11 ≠ a + 10 by omega), nI_1]
    · show f9_losesNow_L7 (nI c) _ (m + 1) (nI i) y = f9_losesNow_L7 (nI c) _ m (nI (i + 1)) _
      simp only [f9_losesNow_L7, q1.Fm, g1, if_false, la_120, la_144, q353 (show 120 + i < 353 by omega), i353 (show 120 + i < 353 by omega), q353 (show 144 + i < 353 by omega), i353 (show 144 + i < 353 by omega), qg_t, qlt_e, qw, qrow_at, qrow_qrow, nI_1]) (fun m s hv => by
    refine ⟨?_, ?_⟩
    · show f7_loseCatalog_L7 a (nI c) _ (m + 1) (nI F) s.1 = _
      rw [f7_loseCatalog_L7, hv.1.Fx, if_pos (nI_le (Nat.le_refl _) (by omega))]
    · show f9_losesNow_L7 (nI c) _ (m + 1) (nI F) s.2 = _
      rw [f9_losesNow_L7, hv.1.Fm, if_pos (nI_le (Nat.le_refl _) (by omega))])
  exact ⟨c, s.1, s.2, h1, h2, hI⟩
theorem QQ.scanL (q : QQ T r B F hx a hm) (ka : kStage a) (t : Nat) (ht : t < T) : ∃ (v : Int32) (hx' hm' : qH), ¬ v = -1 ∧ f7_readThrough_L31 a (nI t) (fun x18 _ h20 => some (x18, h20)) qN 0 0 hx = some (v, hx') ∧ f9_scansNow_L36 (nI t) (fun x18 _ h20 => some (x18, h20)) qN 0 0 hm = some (v, hm') ∧ OP T r B F a hx hm hx' hm' := by
  have hT := q.t31
  obtain ⟨s, hI, h1, h2⟩ := up_loop20 (σ := Int32 × qH × qH) (fun m s x => f7_readThrough_L31 a (nI t) (fun x18 _ h20 => some (x18, h20)) m s.1 x s.2.1) (fun m s x => f9_scansNow_L36 (nI t) (fun x18 _ h20 => some (x18, h20)) m s.1 x s.2.2) (fun s _ => some (s.1, s.2.1)) (fun s _ => some (s.1, s.2.2)) (fun i s => OP T r B F a hx hm s.2.1 s.2.2 ∧ ∃ c : Nat, c ≤ i ∧ s.1 = nI c) F (by omega) (0, hx, hm) ⟨OP.rf q, 0, Nat.le_refl _, rfl⟩ (fun i s hi hv => by
    obtain ⟨v, x, y⟩ := s
    have hv : OP T r B F a hx hm x y ∧ ∃ c : Nat, c ≤ i ∧ v = nI c := hv
    obtain ⟨hv, c, hc, ec⟩ := hv
    have q1 := hv.1
    have g1 := nI_ge hi (show F < 2 ^ 31 by omega)
    obtain ⟨e7, e8, e9, e10, e11⟩ := q1.fl hi
    obtain ⟨⟨s1, s2, s3, s4⟩, s5, s6⟩ := q1.2.2.2.1
    by_cases hon : y.1 9 (48 + i) = nI t
    · refine ⟨(v + (1 - y.1 9 (120 + i)), qrow x (a + 10) (upd (x.1 (a + 10)) i 1), qrow y 9 (upd (y.1 9) (120 + i) 1)), ⟨?_, ?_⟩, fun m => ?_, fun m => ?_⟩
      rotate_left
      · show ∃ c : Nat, c ≤ i + 1 ∧ v + (1 - y.1 9 (120 + i)) = nI c
        rw [ec]
        rcases q1.kn hi with ⟨-, h9⟩ | ⟨-, h9 | h9⟩
        · exact ⟨c + 1, by omega, by rw [h9, ← nI_1]; rfl⟩
        · exact ⟨c + 1, by omega, by rw [h9, ← nI_1]; rfl⟩
        · exact ⟨c, by omega, by rw [h9]; simp⟩
      rotate_left
      rotate_left
      · refine hv.tr ?_
        refine q1.upF (ω := y.1 9 (48 + i)) (κ := 1) (θ := y.1 9 (144 + i)) (u' := y.1 9 171) ka hi ?_ ?_ ?_ ?_ (fun b h1 h2 h3 h4 => by rw [qrow_ne h3]) rfl (qrow_at _ _ _) ?_ (upd_at _ _ _) ?_ ?_ (fun k h1 h2 h3 h4 => by rw [upd_ne h2]) (FM.now fun k hk => by rw [upd_ne (by omega)]) (by rw [qrow_ne (by omega)]) q1.turns ?_ ?_ ?_ ?_
        · rw [qrow_ne (by omega), ← s3, upd_self]
        · rw [qrow_ne (by omega), ← e7, upd_self]
        · rw [qrow_at]
        · rw [qrow_ne (by omega), ← e11, upd_self]
        · rw [upd_ne (by omega)]
        · rw [upd_ne (by omega)]
        · rw [upd_ne (by omega)]
        · exact Or.inr ⟨rfl, by rw [hon]; exact nI_m1 (by omega), Or.inr rfl⟩
        · exact (q1.2.2.2.2.2.2.2.1 i hi).2.2
        · by_cases h0 : y.1 9 (144 + i) = 0
          · exact Or.inl h0
          · refine Or.inr fun g hg hne e => ?_
            rcases q1.2.2.2.2.2.2.2.2.2.1 g i hg hi e with h9 | h9
            · exact h0 (e.symm.trans h9)
            · exact hne h9
        · have := q1.2.2.2.2.2.2.2.2.2.2
          omega
      · show f7_readThrough_L31 a (nI t) _ (m + 1) v (nI i) x = f7_readThrough_L31 a (nI t) _ m _ (nI (i + 1)) _
        simp only [f7_readThrough_L31, q1.Fx, g1, if_false, q24 (show i < 24 by omega), ix_nI (show i < 2 ^ 31 by omega), qg_t, qlt_e, qj_e, qw, e7, e10, hon, if_true, nI_1]
      · show f9_scansNow_L36 (nI t) _ (m + 1) v (nI i) y = f9_scansNow_L36 (nI t) _ m _ (nI (i + 1)) _
        simp only [f9_scansNow_L36, q1.Fm, g1, if_false, f9_isOn_eq (show i < 24 by omega), hon, if_true, bind_s, q1f, la_120, q353 (show 120 + i < 353 by omega), i353 (show 120 + i < 353 by omega), qg_t, qlt_e, qj_e, qw, nI_1]
    · refine ⟨(v, x, y), ⟨hv, c, by omega, ec⟩, fun m => ?_, fun m => ?_⟩
      · show f7_readThrough_L31 a (nI t) _ (m + 1) v (nI i) x = f7_readThrough_L31 a (nI t) _ m _ (nI (i + 1)) _
        simp only [f7_readThrough_L31, q1.Fx, g1, if_false, q24 (show i < 24 by omega), ix_nI (show i < 2 ^ 31 by omega), qg_t, qlt_e, qj_e, e7, hon, nI_1]
      · show f9_scansNow_L36 (nI t) _ (m + 1) v (nI i) y = f9_scansNow_L36 (nI t) _ m _ (nI (i + 1)) _
        simp only [f9_scansNow_L36, q1.Fm, g1, if_false, f9_isOn_eq (show i < 24 by omega), hon, bind_s, if_true, qlt_e, qj_e, nI_1]) (fun m s hv => by
    refine ⟨?_, ?_⟩
    · show f7_readThrough_L31 a (nI t) _ (m + 1) s.1 (nI F) s.2.1 = _
      rw [f7_readThrough_L31, hv.1.1.Fx, if_pos (nI_le (Nat.le_refl _) (by omega))]
    · show f9_scansNow_L36 (nI t) _ (m + 1) s.1 (nI F) s.2.2 = _
      rw [f9_scansNow_L36, hv.1.1.Fm, if_pos (nI_le (Nat.le_refl _) (by omega))])
  obtain ⟨hI, c, hc, ec⟩ := hI
  exact ⟨s.1, s.2.1, s.2.2, by rw [ec]; exact nI_m1 (by omega), h1, h2, hI⟩
theorem isN_le0 {x : Int32} (h : isN x) : (x ≤ 0) = (ix x = 0) := by
  have hlt := isN_lt x
  rw [h]
  rw [ix_nI hlt]
  generalize ix x = k at hlt
  apply propext
  constructor
  · intro h
    by_cases h0 : k = 0
    · exact h0
    · exact absurd h (nI_nle (by omega) hlt)
  · intro h
    subst h
    decide
theorem QQ.scan (q : QQ T r B F hx a hm) (ka : kStage a) {t : Nat} (ht : t < T) : ∃ (v : Int32) (hx' hm' : qH), ¬ v = -1 ∧ f7_readThrough a (nI t) hx = some (v, hx') ∧ f9_scansNow (nI t) hm = some (v, hm') ∧ OP T r B F a hx hm hx' hm' := by
  have hT := q.t31
  have b7 := q.1.2.2.2.2.2.2.1
  obtain ⟨d, h1, m1, hd, b1, b2, o1, k1, d1⟩ := q.brings ka ht
  have q1 := o1.1
  have een := (q1.2.2.2.2.2.1 t ht).1
  have ele := (q1.2.2.2.2.2.1 t ht).2.1
  unfold f7_readThrough f9_scansNow
  rw [b1, b2, qb2_s, bind_s, q8 (show t < 8 by omega), qg_t, ix_nI (by omega), la_16, q353 (show 16 + t < 353 by omega), qg_t, i353 (show 16 + t < 353 by omega), qj_e, qj_e, (q1.tp ht).2.1]
  by_cases h0 : m1.1 9 (16 + t) ≤ 0
  · obtain ⟨v, x, y, vn, c1, c2, o2⟩ := q1.scanL ka t ht
    rw [if_pos h0, if_pos h0]
    exact ⟨v, x, y, vn, c1, c2, o1.tr o2⟩
  · have hpos : 1 ≤ ix (m1.1 9 (16 + t)) := by
      rw [isN_le0 een] at h0
      omega
    obtain ⟨h2, m2, c1, c2, o2, k2, d2, -⟩ := q1.reads (b := 0) (c := ix (m1.1 9 (16 + t))) ka ht d1 (by omega) hpos (by omega)
    obtain ⟨v, x, y, vn, e1, e2, o3⟩ := o2.1.scanL ka t ht
    rw [if_neg h0, if_neg h0, qg_t, qg_t]
    have c1' : f7_readRow a (nI t) 0 (m1.1 9 (16 + t)) h1 = some h2 := by
      conv => lhs; rw [een]
      exact c1
    have c2' : f9_reads (nI t) 0 (m1.1 9 (16 + t)) m1 = some m2 := by
      conv => lhs; rw [een]
      exact c2
    rw [c1', c2', bind_s, bind_s]
    exact ⟨v, x, y, vn, e1, e2, (o1.tr o2).tr o3⟩
/-- how many bits -/
theorem bits_ne : ∀ w : Fin 256, ¬ qsum (fun k => (nI w.val >>> (nI k &&& 31)) &&& 1) 8 = -1 := by decide +kernel
theorem bits_eq {w : Nat} (hw : w < 256) : ∃ v, ¬ v = -1 ∧ f9_bits (nI w) hm = some v ∧ f6_bitCount_0f7a4 (nI w) hx = some v := by
  have h1 : f9_bits (nI w) hm = some (qsum (fun k => (nI w >>> (nI k &&& 31)) &&& 1) 8) := by
    unfold f9_bits
    refine ((up_loop0 (fun m s x => f9_bits_L4 (nI w) hm (fun y _ => some y) m s x) (fun s _ => some s) (fun k s => s + ((nI w >>> (nI k &&& 31)) &&& 1)) (fun _ _ => True) 8 (by omega) (fun m i s hi _ => ⟨?_, trivial⟩) (fun m s _ => ?_) 0 trivial).1).trans ?_
    · show f9_bits_L4 (nI w) hm _ (m + 1) s (nI i) = f9_bits_L4 (nI w) hm _ m _ (nI (i + 1))
      have g1 : ¬ (8 : Int32) ≤ nI i := nI_ge (b := 8) hi (by omega)
      simp only [f9_bits_L4, g1, if_false, qlt_e, nI_1]
    · show f9_bits_L4 (nI w) hm _ (m + 1) s (nI 8) = _
      rw [f9_bits_L4, if_pos (show (8 : Int32) ≤ nI 8 from by decide)]
    · exact congrArg some (qit_sum _ _)
  refine ⟨_, bits_ne ⟨w, hw⟩, h1, ?_⟩
  unfold f6_bitCount_0f7a4
  simp only [qlt_e]
  congr 1
  have key : ∀ w : Fin 256, (fun (p1 : Int32) => (fun (x1 : Int32) => (fun (x2 : Int32) => (fun (x3 : Int32) => (fun (x4 : Int32) => (fun (x5 : Int32) => x5 &&& (63 : Int32)) (x4 + ((x4.toUInt32 >>> ((16 : Int32).toUInt32 &&& Int32.toUInt32 31)).toInt32))) (x3 + ((x3.toUInt32 >>> ((8 : Int32).toUInt32 &&& Int32.toUInt32 31)).toInt32))) ((x2 + ((x2.toUInt32 >>> ((4 : Int32).toUInt32 &&& Int32.toUInt32 31)).toInt32)) &&& (252645135 : Int32))) ((x1 &&& (858993459 : Int32)) + (((x1.toUInt32 >>> ((2 : Int32).toUInt32 &&& Int32.toUInt32 31)).toInt32) &&& (858993459 : Int32)))) (p1 - (((p1.toUInt32 >>> ((1 : Int32).toUInt32 &&& Int32.toUInt32 31)).toInt32) &&& (1431655765 : Int32)))) (nI w.val) = qsum (fun k => (nI w.val >>> (nI k &&& 31)) &&& 1) 8 := by decide +kernel
  exact key ⟨w, hw⟩
end PM
