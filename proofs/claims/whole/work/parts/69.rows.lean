section PI
variable {T B F a : Nat} {r : Nat → Nat} {hx hm : qH}
/-- a tape in a drive is run: time, its head, its mended, its last use -/
theorem QQ.upT (q : QQ T r B F hx a hm) (ka : kStage a) {hx' hm' : qH} {N' : Nat → Int32} {t d p' : Nat} {τ μ υ : Int32} (ht : t < T) (hd : hx.1 (a + 1) t = nI d) (hd2 : d < 2 ^ 31) (hp' : p' < r 2 * r 3)
    (h0 : hx'.1 a = upd (hx.1 a) 2 τ) (h2 : hx'.1 (a + 2) = upd (hx.1 (a + 2)) t (nI p')) (h5 : ∀ u, hx'.1 (a + 5) u = if u = t then μ else hx.1 (a + 5) u) (h6 : hx'.1 (a + 6) = upd (hx.1 (a + 6)) t υ) (ho : ∀ b, b ≠ a → b ≠ a + 2 → b ≠ a + 5 → b ≠ a + 6 → hx'.1 b = hx.1 b) (hl : hx'.2 = hx.2)
    (hN : hm'.1 9 = N') (n0 : N' 170 = τ) (n8 : N' (8 + t) = nI p') (n32 : N' (32 + t) = μ) (n40 : N' (40 + t) = υ) (no : ∀ k, k ≠ 170 → k ≠ 8 + t → k ≠ 32 + t → k ≠ 40 + t → N' k = hm.1 9 k) (fm : FM hm hm') (h18 : hm'.1 0 18 = hm.1 0 18) : OP T r B F a hx hm hx' hm' ∧ KP (hm.1 9) (hm'.1 9) ∧ hx'.1 (a + 1) = hx.1 (a + 1) := by
  have hT := q.t31
  have hL := q.L96
  have hb := q.1
  have b3 := hb.2.2.1
  have b5 := hb.2.2.2.2.1
  have b7 := hb.2.2.2.2.2.2.1
  have hlo := ka.lo
  obtain ⟨⟨s1, s2, s3, s4⟩, s5, s6⟩ := q.2.2.2.1
  have hI := q.2.2.2.2
  obtain ⟨hd1, k2, k3, p, hp, hh⟩ := q.place ht hd hd2
  have fx : FX a hx hx' := ⟨fun b h1 _ => ho b (by omega) (by omega) (by omega) (by omega), hl⟩
  have kp : KP (hm.1 9) (hm'.1 9) := by rw [hN]; exact fun k hk => no k (by omega) (by omega) (by omega) (by omega)
  have e1 : hx'.1 (a + 1) = hx.1 (a + 1) := ho _ (by omega) (by omega) (by omega) (by omega)
  refine ⟨⟨q.mk ka fx fm ?_ ?_, fx, fm, ?_⟩, kp, e1⟩
  · rw [hN]
    refine ⟨⟨?_, ?_, ?_, ?_⟩, fun u hu => ?_, fun f hf => ?_⟩
    · rw [h0, upd_at, n0]
    · rw [h0, upd_ne (by omega), s2, no _ (by omega) (by omega) (by omega) (by omega)]
    · rw [h0, upd_ne (by omega), s3, no _ (by omega) (by omega) (by omega) (by omega)]
    · rw [h0, upd_ne (by omega), s4, no _ (by omega) (by omega) (by omega) (by omega)]
    · obtain ⟨p1, p3, p4, p5, p6⟩ := s5 u hu
      rw [ho (a + 3) (by omega) (by omega) (by omega) (by omega), ho (a + 4) (by omega) (by omega) (by omega) (by omega), h5 u, h6]
      unfold RP
      rw [e1, h2, no (16 + u) (by omega) (by omega) (by omega) (by omega), no (24 + u) (by omega) (by omega) (by omega) (by omega), no u (by omega) (by omega) (by omega) (by omega)]
      by_cases e : u = t
      · subst e
        rw [upd_at, upd_at, if_pos rfl, n8, n32, n40]
        exact ⟨Or.inr ⟨d, hd1, hd, k2, rfl⟩, p3, p4, rfl, rfl⟩
      · rw [upd_ne e, upd_ne e, if_neg e, no (8 + u) (by omega) (by omega) (by omega) (by omega), no (32 + u) (by omega) (by omega) (by omega) (by omega), no (40 + u) (by omega) (by omega) (by omega) (by omega)]
        exact ⟨p1, p3, p4, p5, p6⟩
    · rw [ho (a + 7) (by omega) (by omega) (by omega) (by omega), ho (a + 8) (by omega) (by omega) (by omega) (by omega), ho (a + 9) (by omega) (by omega) (by omega) (by omega), ho (a + 10) (by omega) (by omega) (by omega) (by omega), ho (a + 11) (by omega) (by omega) (by omega) (by omega)]
      rw [no (48 + f) (by omega) (by omega) (by omega) (by omega), no (72 + f) (by omega) (by omega) (by omega) (by omega), no (96 + f) (by omega) (by omega) (by omega) (by omega), no (120 + f) (by omega) (by omega) (by omega) (by omega), no (144 + f) (by omega) (by omega) (by omega) (by omega)]
      exact s6 f hf
  · rw [hN]
    refine hI.tp (fun k hk => no k (by omega) (by omega) (by omega) (by omega)) hT.1 (fun u hu => ?_) (fun u v hu hv huv => ?_)
    · rw [no u (by omega) (by omega) (by omega) (by omega)]
      by_cases e : u = t
      · subst e
        rw [n8]
        exact Or.inr ⟨d, hd1, k2, isN_nI (by omega), by rw [ix_nI (by omega)]; exact hp'⟩
      · rw [no (8 + u) (by omega) (by omega) (by omega) (by omega)]
        exact (hI.2.1 u hu).2.2
    · rw [no u (by omega) (by omega) (by omega) (by omega), no v (by omega) (by omega) (by omega) (by omega)] at huv
      exact hI.2.2.1 u v hu hv huv
  · rw [h0, upd_ne (by omega), h18]
theorem QQ.runs (q : QQ T r B F hx a hm) (ka : kStage a) {t d b c : Nat} (ht : t < T) (hd : hx.1 (a + 1) t = nI d) (hd2 : d < 2 ^ 31) (hc : 1 ≤ c) (hbc : b + c ≤ r 2 * r 3) : ∃ hx' hm', f7_writeRow a (nI t) (nI b) (nI c) hx = some hx' ∧ f9_runs (nI t) (nI b) (nI c) hm = some hm' ∧ OP T r B F a hx hm hx' hm' ∧ KP (hm.1 9) (hm'.1 9) ∧ hx'.1 (a + 1) = hx.1 (a + 1) ∧ (∀ u, u < 8 → hm'.1 9 (24 + u) = hm.1 9 (24 + u)) ∧ (∀ b', b' ≠ 9 → hm'.1 b' = hm.1 b') := by
  have hT := q.t31
  have hL := q.L96
  have hlo := ka.lo
  obtain ⟨hd1, k2, k3, p, hp, hh⟩ := q.place ht hd hd2
  obtain ⟨sx, sm⟩ := q.seek hp (show b < r 2 * r 3 by omega)
  obtain ⟨⟨s1, s2, s3, s4⟩, s5, s6⟩ := q.2.2.2.1
  have e3 : nI b + nI c - 1 = nI (b + c - 1) := by
    rw [nI_add]
    obtain ⟨m, hm'⟩ : ∃ m, b + c = m + 1 := ⟨b + c - 1, by omega⟩
    rw [hm', nI_pred]
    rfl
  let τ := hm.1 9 170 + (sk r p b + nI c)
  let hx' := qrow (qrow (qrow hx a (upd (hx.1 a) 2 τ)) (a + 2) (upd (hx.1 (a + 2)) t (nI (b + c - 1)))) (a + 6) (upd (hx.1 (a + 6)) t τ)
  let N' := upd (upd (upd (hm.1 9) 170 τ) (8 + t) (nI (b + c - 1))) (40 + t) τ
  have f1 : f7_writeRow a (nI t) (nI b) (nI c) hx = some hx' := by
    unfold f7_writeRow
    simp only [q8 (show t < 8 by omega), ix_nI (show t < 2 ^ 31 by omega), qg_t, hh]
    rw [sx, bind_s]
    simp only [qlt_e, qw, qrow_at, qrow_ne (show a + 2 ≠ a by omega), qrow_ne (show a + 6 ≠ a by omega), qrow_ne (show a + 6 ≠ a + 2 by omega), qrow_ne (show a ≠ a + 2 by omega), upd_at, e3, s1]
    rfl
  have f2 : f9_runs (nI t) (nI b) (nI c) hm = some (qrow hm 9 N') := by
    unfold f9_runs
    simp only [la_8, la_40, q353 (show 8 + t < 353 by omega), i353 (show 8 + t < 353 by omega), q353 (show 40 + t < 353 by omega), i353 (show 40 + t < 353 by omega), qg_t, k3, hh]
    rw [sm, bind_s]
    simp only [qlt_e, qw, qrow_at, qrow_qrow, upd_at, upd_ne (show (170 : Nat) ≠ 8 + t by omega), e3]
    rfl
  have g0 : hx'.1 a = upd (hx.1 a) 2 τ := by
    show (qrow (qrow (qrow hx a _) (a + 2) _) (a + 6) _).1 a = _
    rw [qrow_ne (by omega), qrow_ne (by omega), qrow_at]
  have g2 : hx'.1 (a + 2) = upd (hx.1 (a + 2)) t (nI (b + c - 1)) := by
    show (qrow (qrow (qrow hx a _) (a + 2) _) (a + 6) _).1 (a + 2) = _
    rw [qrow_ne (by omega), qrow_at]
  have g6 : hx'.1 (a + 6) = upd (hx.1 (a + 6)) t τ := by
    show (qrow (qrow (qrow hx a _) (a + 2) _) (a + 6) _).1 (a + 6) = _
    rw [qrow_at]
  have go : ∀ b', b' ≠ a → b' ≠ a + 2 → b' ≠ a + 6 → hx'.1 b' = hx.1 b' := by
    intro b' h1 h2 h3
    show (qrow (qrow (qrow hx a _) (a + 2) _) (a + 6) _).1 b' = _
    rw [qrow_ne h3, qrow_ne h2, qrow_ne h1]
  have m0 : N' 170 = τ := by
    show upd (upd (upd (hm.1 9) 170 τ) (8 + t) _) (40 + t) τ 170 = _
    rw [upd_ne (by omega), upd_ne (by omega), upd_at]
  have m8 : N' (8 + t) = nI (b + c - 1) := by
    show upd (upd (upd (hm.1 9) 170 τ) (8 + t) _) (40 + t) τ (8 + t) = _
    rw [upd_ne (by omega), upd_at]
  have m40 : N' (40 + t) = τ := upd_at _ _ _
  have mo : ∀ k, k ≠ 170 → k ≠ 8 + t → k ≠ 40 + t → N' k = hm.1 9 k := by
    intro k h1 h2 h3
    show upd (upd (upd (hm.1 9) 170 τ) (8 + t) _) (40 + t) τ k = _
    rw [upd_ne h3, upd_ne h2, upd_ne h1]
  have e5 := (s5 t ht).2.2.2.1
  obtain ⟨u1, u2, u3⟩ := q.upT (hx' := hx') (hm' := qrow hm 9 N') (N' := N') (μ := hm.1 9 (32 + t)) ka ht hd hd2 (show b + c - 1 < r 2 * r 3 by omega) g0 g2 (fun u => by
    rw [go (a + 5) (by omega) (by omega) (by omega)]
    by_cases e : u = t
    · subst e; rw [if_pos rfl, e5]
    · rw [if_neg e]) g6 (fun b' h1 h2 _ h4 => go b' h1 h2 h4) rfl (qrow_at _ _ _) m0 m8 (mo _ (by omega) (by omega) (by omega)) m40 (fun k h1 h2 _ h4 => mo k h1 h2 h4) (FM.now fun k hk => mo k (by omega) (by omega) (by omega)) (by rw [qrow_ne (by omega)])
  exact ⟨hx', qrow hm 9 N', f1, f2, u1, u2, u3, fun u hu => by rw [qrow_at, mo _ (by omega) (by omega) (by omega)], fun b' h => qrow_ne h⟩
theorem QQ.reads (q : QQ T r B F hx a hm) (ka : kStage a) {t d b c : Nat} (ht : t < T) (hd : hx.1 (a + 1) t = nI d) (hd2 : d < 2 ^ 31) (hc : 1 ≤ c) (hbc : b + c ≤ r 2 * r 3) : ∃ hx' hm', f7_readRow a (nI t) (nI b) (nI c) hx = some hx' ∧ f9_reads (nI t) (nI b) (nI c) hm = some hm' ∧ OP T r B F a hx hm hx' hm' ∧ KP (hm.1 9) (hm'.1 9) ∧ hx'.1 (a + 1) = hx.1 (a + 1) ∧ (∀ b', b' ≠ 9 → hm'.1 b' = hm.1 b') := by
  have hT := q.t31
  have hlo := ka.lo
  obtain ⟨h1, m1, f1, f2, o1, kp1, d1, w1, fr1⟩ := q.runs ka ht hd hd2 hc hbc
  have q1 := o1.1
  have hL := q.L96
  obtain ⟨ep, e3, e4, e5, e6⟩ := q1.tp ht
  have hd' : h1.1 (a + 1) t = nI d := by rw [d1]; exact hd
  obtain ⟨hd1, k2, k3, p, hp, hh⟩ := q1.place ht hd' hd2
  have r6x := q1.rx (show 6 < 8 by omega)
  have r6m := q1.rm (show 6 < 8 by omega)
  obtain ⟨⟨s1, -⟩, -⟩ := q1.2.2.2.1
  unfold f7_readRow f9_reads
  rw [f1, f2]
  simp only [bind_s, q8 (show t < 8 by omega), ix_nI (show t < 2 ^ 31 by omega), la_32, la_24, q353 (show 32 + t < 353 by omega), i353 (show 32 + t < 353 by omega), q353 (show 24 + t < 353 by omega), i353 (show 24 + t < 353 by omega), qg_t, qj_e, qlt_e, r6x, r6m, e4]
  have mk : ∀ (hx2 : qH) (μ : Int32), (∀ u, hx2.1 (a + 5) u = if u = t then μ else h1.1 (a + 5) u) → (∀ b', b' ≠ a + 5 → hx2.1 b' = h1.1 b') → hx2.2 = h1.2 → OP T r B F a h1 m1 hx2 (qw m1 9 (32 + t) μ) ∧ KP (m1.1 9) ((qw m1 9 (32 + t) μ).1 9) ∧ hx2.1 (a + 1) = h1.1 (a + 1) := by
    intro hx2 μ g5 go gl
    refine q1.upT (N' := upd (m1.1 9) (32 + t) μ) (τ := m1.1 9 170) (υ := m1.1 9 (40 + t)) ka ht hd' hd2 hp ?_ ?_ g5 ?_ (fun b' h1 h2 h3 h4 => go b' h3) gl (qrow_at _ _ _) (upd_ne (by omega)) ?_ (upd_at _ _ _) (upd_ne (by omega)) (fun k h1 h2 h3 h4 => upd_ne h3) (FM.now fun k hk => upd_ne (by omega)) (by rw [qrow_ne (by omega)])
    · rw [go a (by omega)]
      funext k
      by_cases e : k = 2
      · subst e; rw [upd_at, s1]
      · rw [upd_ne e]
    · rw [go (a + 2) (by omega)]
      funext k
      by_cases e : k = t
      · subst e; rw [upd_at, hh]
      · rw [upd_ne e]
    · rw [go (a + 6) (by omega)]
      funext k
      by_cases e : k = t
      · subst e; rw [upd_at, e6]
      · rw [upd_ne e]
    · rw [upd_ne (by omega), k3, hh]
  by_cases hw : m1.1 9 (24 + t) ≤ nI (r 6)
  · simp only [hw, if_true]
    obtain ⟨u1, u2, u3⟩ := mk h1 (m1.1 9 (32 + t) + 0) (fun u => by
      by_cases e : u = t
      · subst e; rw [if_pos rfl, e5, Int32.add_zero]
      · rw [if_neg e]) (fun _ _ => rfl) rfl
    exact ⟨h1, _, rfl, rfl, o1.tr u1, kp1.tr u2, u3.trans d1, fun b' h => (qrow_ne h).trans (fr1 b' h)⟩
  · simp only [hw, if_false]
    obtain ⟨u1, u2, u3⟩ := mk (qw h1 (a + 5) t (h1.1 (a + 5) t + nI c)) (m1.1 9 (32 + t) + nI c) (fun u => by
      rw [qrow_at]
      by_cases e : u = t
      · subst e; rw [if_pos rfl, upd_at, e5]
      · rw [if_neg e, upd_ne e]) (fun b' h => qrow_ne h) rfl
    exact ⟨_, _, rfl, rfl, o1.tr u1, kp1.tr u2, u3.trans d1, fun b' h => (qrow_ne h).trans (fr1 b' h)⟩
end PI
