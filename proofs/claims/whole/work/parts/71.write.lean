section PK
variable {T B F a : Nat} {r : Nat → Nat} {hx hm : qH}
/-- the class's store where a file goes behind a tape -/
def hxB (a : Nat) (h : qH) (f t : Nat) : qH := qrow (qrow (qrow (qrow h (a + 7) (upd (h.1 (a + 7)) f (nI t))) (a + 8) (upd (h.1 (a + 8)) f (h.1 (a + 3) t))) (a + 10) (upd (h.1 (a + 10)) f 1)) (a + 3) (upd (h.1 (a + 3)) t (h.1 (a + 3) t + h.1 (a + 9) f))
theorem hxB_7 {h : qH} {f t : Nat} : (hxB a h f t).1 (a + 7) = upd (h.1 (a + 7)) f (nI t) := by
  unfold hxB
  rw [qrow_ne (by omega), qrow_ne (by omega), qrow_ne (by omega), qrow_at]
theorem hxB_8 {h : qH} {f t : Nat} : (hxB a h f t).1 (a + 8) = upd (h.1 (a + 8)) f (h.1 (a + 3) t) := by
  unfold hxB
  rw [qrow_ne (by omega), qrow_ne (by omega), qrow_at]
theorem hxB_10 {h : qH} {f t : Nat} : (hxB a h f t).1 (a + 10) = upd (h.1 (a + 10)) f 1 := by
  unfold hxB
  rw [qrow_ne (by omega), qrow_at]
theorem hxB_3 {h : qH} {f t : Nat} : (hxB a h f t).1 (a + 3) = upd (h.1 (a + 3)) t (h.1 (a + 3) t + h.1 (a + 9) f) := by
  unfold hxB
  rw [qrow_at]
theorem hxB_ne {h : qH} {f t b : Nat} (h7 : b ≠ a + 7) (h8 : b ≠ a + 8) (h10 : b ≠ a + 10) (h3 : b ≠ a + 3) : (hxB a h f t).1 b = h.1 b := by
  unfold hxB
  rw [qrow_ne h3, qrow_ne h10, qrow_ne h8, qrow_ne h7]
theorem f7_putBehind_eq {h : qH} {f t : Nat} (hf : f < 24) (ht : t < 8) : f7_putBehind a (nI f) (nI t) h = some (hxB a h f t) := by
  unfold f7_putBehind
  simp only [q24 hf, q8 ht, ix_nI (show f < 2 ^ 31 by omega), ix_nI (show t < 2 ^ 31 by omega), qg_t, qlt_e, qw]
  congr 1
  unfold hxB
  simp only [qrow_ne (show a + 3 ≠ a + 7 by omega), qrow_ne (show a + 3 ≠ a + 8 by omega), qrow_ne (show a + 3 ≠ a + 10 by omega), qrow_ne (show a + 8 ≠ a + 7 by omega), qrow_ne (show a + 10 ≠ a + 7 by omega), qrow_ne (show a + 10 ≠ a + 8 by omega), qrow_ne (show a + 9 ≠ a + 7 by omega), qrow_ne (show a + 9 ≠ a + 8 by omega), qrow_ne (show a + 9 ≠ a + 10 by omega)]
/-- a new file, the class -/
def hxA (a : Nat) (h : qH) (F t c : Nat) : qH := qw (hxB a (qw (qw h (a + 9) F (nI c)) (a + 11) F 0) F t) a 5 (nI (F + 1))
theorem f7_addFile_eq {h : qH} {t c : Nat} (hF : h.1 a 5 = nI F) (hF24 : F < 24) (ht : t < 8) : f7_addFile a (nI t) (nI c) h = some (hxA a h F t c) := by
  unfold f7_addFile
  have e1 : (qw h (a + 9) F (nI c)).1 a 5 = nI F := by rw [qrow_ne (by omega)]; exact hF
  have e2 : (qw (qw h (a + 9) F (nI c)) (a + 11) F 0).1 a 5 = nI F := by rw [qrow_ne (by omega)]; exact e1
  have e3 : (hxB a (qw (qw h (a + 9) F (nI c)) (a + 11) F 0) F t).1 a 5 = nI F := by rw [hxB_ne (by omega) (by omega) (by omega) (by omega)]; exact e2
  rw [qj_e, hF, if_neg (by rw [show (24 : Int32) = nI 24 from rfl]; exact nI_ge hF24 (by omega)), q24 hF24, qg_t, qlt_e, ix_nI (by omega), e1, q24 hF24, qg_t, qlt_e, ix_nI (by omega), e2, f7_putBehind_eq hF24 ht, bind_s, qlt_e, e3, nI_1]
  rfl
/-- a new file, the reference -/
def rowN (N : Nat → Int32) (F t c : Nat) : Nat → Int32 := upd (upd (upd (upd (upd (upd (upd N 168 (nI (F + 1))) (48 + F) (nI t)) (72 + F) (N (16 + t))) (96 + F) (nI c)) (120 + F) 1) (144 + F) 0) (16 + t) (N (16 + t) + nI c)
theorem f9_newFile_eq {t c : Nat} (hF : hm.1 9 168 = nI F) (hF24 : F < 24) (ht : t < 8) : f9_newFile (nI t) (nI c) hm = some (nI F, qrow hm 9 (rowN (hm.1 9) F t c)) := by
  unfold f9_newFile
  simp only [hF, qlt_e, la_48, la_16, la_72, la_96, la_120, la_144, q353 (show 48 + F < 353 by omega), i353 (show 48 + F < 353 by omega), q353 (show 16 + t < 353 by omega), i353 (show 16 + t < 353 by omega), q353 (show 72 + F < 353 by omega), i353 (show 72 + F < 353 by omega), q353 (show 96 + F < 353 by omega), i353 (show 96 + F < 353 by omega), q353 (show 120 + F < 353 by omega), i353 (show 120 + F < 353 by omega), q353 (show 144 + F < 353 by omega), i353 (show 144 + F < 353 by omega), qg_t, qw, qrow_at, qrow_qrow, nI_1]
  congr 1
  congr 1
  unfold rowN
  simp only [upd_ne (show 16 + t ≠ 48 + F by omega), upd_ne (show 16 + t ≠ 168 by omega), upd_ne (show 16 + t ≠ 72 + F by omega), upd_ne (show 16 + t ≠ 96 + F by omega), upd_ne (show 16 + t ≠ 120 + F by omega), upd_ne (show 16 + t ≠ 144 + F by omega)]
theorem rowN_ne {N : Nat → Int32} {t c k : Nat} (h1 : k ≠ 168) (h2 : k ≠ 48 + F) (h3 : k ≠ 72 + F) (h4 : k ≠ 96 + F) (h5 : k ≠ 120 + F) (h6 : k ≠ 144 + F) (h7 : k ≠ 16 + t) : rowN N F t c k = N k := by
  unfold rowN
  rw [upd_ne h7, upd_ne h6, upd_ne h5, upd_ne h4, upd_ne h3, upd_ne h2, upd_ne h1]
theorem QQ.newFile (q : QQ T r B F hx a hm) (ka : kStage a) {t c : Nat} (ht : t < T) (hF24 : F < 24) (hc : 1 ≤ c) (hc9 : c ≤ 9) (he : ix (hm.1 9 (16 + t)) + c ≤ r 2 * r 3) : f7_addFile a (nI t) (nI c) hx = some (hxA a hx F t c) ∧ f9_newFile (nI t) (nI c) hm = some (nI F, qrow hm 9 (rowN (hm.1 9) F t c)) ∧ OP T r B (F + 1) a hx hm (hxA a hx F t c) (qrow hm 9 (rowN (hm.1 9) F t c)) ∧ (hxA a hx F t c).1 a 5 = nI (F + 1) := by
  have hT := q.t31
  have hL := q.L96
  have hlo := ka.lo
  obtain ⟨⟨s1, s2, s3, s4⟩, s5, s6⟩ := q.2.2.2.1
  have hI := q.2.2.2.2
  have een := (hI.2.1 t ht).1
  have n16 : rowN (hm.1 9) F t c (16 + t) = nI (ix (hm.1 9 (16 + t)) + c) := by
    unfold rowN
    rw [upd_at]
    conv => lhs; rw [een]
    exact nI_add _ _
  have n168 : rowN (hm.1 9) F t c 168 = nI (F + 1) := by
    unfold rowN
    rw [upd_ne (by omega), upd_ne (by omega), upd_ne (by omega), upd_ne (by omega), upd_ne (by omega), upd_ne (by omega), upd_at]
  have n48 : rowN (hm.1 9) F t c (48 + F) = nI t := by
    unfold rowN
    rw [upd_ne (by omega), upd_ne (by omega), upd_ne (by omega), upd_ne (by omega), upd_ne (by omega), upd_at]
  have n72 : rowN (hm.1 9) F t c (72 + F) = hm.1 9 (16 + t) := by
    unfold rowN
    rw [upd_ne (by omega), upd_ne (by omega), upd_ne (by omega), upd_ne (by omega), upd_at]
  have n96 : rowN (hm.1 9) F t c (96 + F) = nI c := by
    unfold rowN
    rw [upd_ne (by omega), upd_ne (by omega), upd_ne (by omega), upd_at]
  have n120 : rowN (hm.1 9) F t c (120 + F) = 1 := by
    unfold rowN
    rw [upd_ne (by omega), upd_ne (by omega), upd_at]
  have n144 : rowN (hm.1 9) F t c (144 + F) = 0 := by
    unfold rowN
    rw [upd_ne (by omega), upd_at]
  have x0 : (hxA a hx F t c).1 a = upd (hx.1 a) 5 (nI (F + 1)) := by
    unfold hxA
    rw [qrow_at, hxB_ne (by omega) (by omega) (by omega) (by omega), qrow_ne (by omega), qrow_ne (by omega)]
  have x3 : (hxA a hx F t c).1 (a + 3) = upd (hx.1 (a + 3)) t (hx.1 (a + 3) t + nI c) := by
    unfold hxA
    rw [qrow_ne (by omega), hxB_3, qrow_ne (by omega), qrow_ne (by omega), qrow_ne (by omega), qrow_at, upd_at]
  have x7 : (hxA a hx F t c).1 (a + 7) = upd (hx.1 (a + 7)) F (nI t) := by
    unfold hxA
    rw [qrow_ne (by omega), hxB_7, qrow_ne (by omega), qrow_ne (by omega)]
  have x8 : (hxA a hx F t c).1 (a + 8) = upd (hx.1 (a + 8)) F (hx.1 (a + 3) t) := by
    unfold hxA
    rw [qrow_ne (by omega), hxB_8, qrow_ne (by omega), qrow_ne (by omega), qrow_ne (by omega), qrow_ne (by omega)]
  have x9 : (hxA a hx F t c).1 (a + 9) = upd (hx.1 (a + 9)) F (nI c) := by
    unfold hxA
    rw [qrow_ne (by omega), hxB_ne (by omega) (by omega) (by omega) (by omega), qrow_ne (by omega), qrow_at]
  have x10 : (hxA a hx F t c).1 (a + 10) = upd (hx.1 (a + 10)) F 1 := by
    unfold hxA
    rw [qrow_ne (by omega), hxB_10, qrow_ne (by omega), qrow_ne (by omega)]
  have x11 : (hxA a hx F t c).1 (a + 11) = upd (hx.1 (a + 11)) F 0 := by
    unfold hxA
    rw [qrow_ne (by omega), hxB_ne (by omega) (by omega) (by omega) (by omega), qrow_at, qrow_ne (by omega)]
  have xo : ∀ b, b ≠ a → b ≠ a + 3 → b ≠ a + 7 → b ≠ a + 8 → b ≠ a + 9 → b ≠ a + 10 → b ≠ a + 11 → (hxA a hx F t c).1 b = hx.1 b := by
    intro b h0 h3 h7 h8 h9 h10 h11
    unfold hxA
    rw [qrow_ne h0, hxB_ne h7 h8 h10 h3, qrow_ne h11, qrow_ne h9]
  have fx : FX a hx (hxA a hx F t c) := ⟨fun b h1 _ => xo b (by omega) (by omega) (by omega) (by omega) (by omega) (by omega) (by omega), rfl⟩
  have e3 := (s5 t ht).2.1
  refine ⟨f7_addFile_eq q.Fx hF24 (by omega), f9_newFile_eq q.Fm hF24 (by omega), ⟨q.mk ka fx (FM.now fun k hk => rowN_ne (by omega) (by omega) (by omega) (by omega) (by omega) (by omega) (by omega)) ?_ ?_, fx, (FM.now fun k hk => rowN_ne (by omega) (by omega) (by omega) (by omega) (by omega) (by omega) (by omega)), ?_⟩, by rw [x0, upd_at]⟩
  · rw [qrow_at]
    refine ⟨⟨?_, ?_, ?_, ?_⟩, fun u hu => ?_, fun f hf => ?_⟩
    · rw [x0, upd_ne (by omega), s1, rowN_ne (by omega) (by omega) (by omega) (by omega) (by omega) (by omega) (by omega)]
    · rw [x0, upd_ne (by omega), s2, rowN_ne (by omega) (by omega) (by omega) (by omega) (by omega) (by omega) (by omega)]
    · rw [x0, upd_ne (by omega), s3, rowN_ne (by omega) (by omega) (by omega) (by omega) (by omega) (by omega) (by omega)]
    · rw [x0, upd_at, n168]
    · obtain ⟨p1, p3, p4, p5, p6⟩ := s5 u hu
      unfold RP
      rw [xo (a + 1) (by omega) (by omega) (by omega) (by omega) (by omega) (by omega) (by omega), xo (a + 2) (by omega) (by omega) (by omega) (by omega) (by omega) (by omega) (by omega), xo (a + 4) (by omega) (by omega) (by omega) (by omega) (by omega) (by omega) (by omega), xo (a + 5) (by omega) (by omega) (by omega) (by omega) (by omega) (by omega) (by omega), xo (a + 6) (by omega) (by omega) (by omega) (by omega) (by omega) (by omega) (by omega)]
      rw [rowN_ne (k := u) (by omega) (by omega) (by omega) (by omega) (by omega) (by omega) (by omega), rowN_ne (k := 8 + u) (by omega) (by omega) (by omega) (by omega) (by omega) (by omega) (by omega), rowN_ne (k := 24 + u) (by omega) (by omega) (by omega) (by omega) (by omega) (by omega) (by omega), rowN_ne (k := 32 + u) (by omega) (by omega) (by omega) (by omega) (by omega) (by omega) (by omega), rowN_ne (k := 40 + u) (by omega) (by omega) (by omega) (by omega) (by omega) (by omega) (by omega)]
      refine ⟨p1, ?_, p4, p5, p6⟩
      rw [x3]
      by_cases e : u = t
      · subst e
        rw [upd_at, p3]
        unfold rowN
        rw [upd_at]
      · rw [upd_ne e, p3, rowN_ne (by omega) (by omega) (by omega) (by omega) (by omega) (by omega) (by omega)]
    · rw [x7, x8, x9, x10, x11]
      by_cases e : f = F
      · subst e
        rw [upd_at, upd_at, upd_at, upd_at, upd_at, n48, n72, n96, n120, n144, e3]
        exact ⟨rfl, rfl, rfl, rfl, rfl⟩
      · rw [upd_ne e, upd_ne e, upd_ne e, upd_ne e, upd_ne e]
        rw [rowN_ne (k := 48 + f) (by omega) (by omega) (by omega) (by omega) (by omega) (by omega) (by omega), rowN_ne (k := 72 + f) (by omega) (by omega) (by omega) (by omega) (by omega) (by omega) (by omega), rowN_ne (k := 96 + f) (by omega) (by omega) (by omega) (by omega) (by omega) (by omega) (by omega), rowN_ne (k := 120 + f) (by omega) (by omega) (by omega) (by omega) (by omega) (by omega) (by omega), rowN_ne (k := 144 + f) (by omega) (by omega) (by omega) (by omega) (by omega) (by omega) (by omega)]
        exact s6 f (by omega)
  · rw [qrow_at]
    exact hI.new hT.1 hL.1 hF24 ht hc hc9 he n168 n48 n72 n96 n120 n144 n16 (fun k h1 h2 h3 h4 h5 h6 h7 => rowN_ne h1 h2 h3 h4 h5 h6 h7)
  · rw [x0, upd_ne (by omega), qrow_ne (by omega)]
theorem QQ.writeNew (q : QQ T r B F hx a hm) (ka : kStage a) {t c : Nat} (ht : t < T) (hF24 : F < 24) (hc : 1 ≤ c) (hc9 : c ≤ 9) (he : ix (hm.1 9 (16 + t)) + c ≤ r 2 * r 3) : ∃ hx' hm', f7_writeNew a (nI t) (nI c) hx = some (nI F, hx') ∧ f9_writesNow (nI t) (nI c) hm = some (nI F, hm') ∧ OP T r B (F + 1) a hx hm hx' hm' := by
  have hT := q.t31
  obtain ⟨d, h1, m1, hd, b1, b2, o1, k1, d1⟩ := q.brings ka ht
  have b7 := q.1.2.2.2.2.2.2.1
  have e16 : m1.1 9 (16 + t) = hm.1 9 (16 + t) := k1 _ (by omega)
  have een := (o1.1.2.2.2.2.2.1 t ht).1
  rw [← e16] at he
  obtain ⟨h2, m2, c1, c2, o2, k2, d2, -, -⟩ := o1.1.runs (b := ix (m1.1 9 (16 + t))) (c := c) ka ht d1 (by omega) hc he
  have e16' : m2.1 9 (16 + t) = m1.1 9 (16 + t) := k2 _ (by omega)
  rw [← e16'] at he
  obtain ⟨n1, n2, o3, n5⟩ := o2.1.newFile ka ht hF24 hc hc9 he
  refine ⟨_, _, ?_, ?_, (o1.tr o2).tr o3⟩
  · unfold f7_writeNew
    rw [b1, qb2_s, q8 (show t < 8 by omega), qg_t, ix_nI (by omega), (o1.1.tp ht).2.1]
    conv => lhs; rw [een]
    rw [c1, bind_s, n1, bind_s, n5, nI_pred]
  · unfold f9_writesNow
    rw [b2, bind_s, la_16, q353 (show 16 + t < 353 by omega), qg_t, i353 (show 16 + t < 353 by omega)]
    conv => lhs; rw [een]
    rw [c2, bind_s, n2, qb2_s]
end PK
