section PD1
variable {T B F LT k nx : Nat} {r : Nat → Nat} {hx hm : qH}
theorem TI.run {h1 m1 : qH} {p1 : Int32} {f u : Nat} : ∀ (d i : Nat) (τ : Nat → Nat) (x y : qH), i + d = T → TI T r B F h1 m1 p1 f u i τ x y → ∃ (n : Nat) (τ' : Nat → Nat) (x' y' : qH), n ≤ T ∧ TI T r B F h1 m1 p1 f u n τ' x' y' ∧ nask (y'.1 9) F = 0 ∧ (∀ kx m, d < m → f8_tryServing_L11 kx m (nI i) x = kx (nI n) x') ∧ ∀ km m, d < m → f9_layAll_L19 p1 km m y = km y' := by
  intro d
  induction d with
  | zero =>
    intro i τ x y hi I
    by_cases hn : nask (y.1 9) F = 0
    · refine ⟨i, τ, x, y, by omega, I, hn, fun kx m hm => ?_, fun km m hm => ?_⟩
      · obtain ⟨j, rfl⟩ : ∃ j, m = j + 1 := ⟨m - 1, by omega⟩
        rw [f8_tryServing_L11]
        by_cases h8 : (8 : Int32) ≤ nI i
        · rw [if_pos h8]
        · rw [if_neg h8, I.1.askedAll.1, bind_s, hn, if_pos (by decide)]
      · obtain ⟨j, rfl⟩ : ∃ j, m = j + 1 := ⟨m - 1, by omega⟩
        obtain ⟨o, n1, n2, n3, n4⟩ := I.1.next
        have ho := n4.mpr hn
        subst ho
        rw [f9_layAll_L19, n2, bind_s, oI_none, if_pos rfl]
    · have := (I.step hn).1
      omega
  | succ d ih =>
    intro i τ x y hi I
    by_cases hn : nask (y.1 9) F = 0
    · refine ⟨i, τ, x, y, by omega, I, hn, fun kx m hm => ?_, fun km m hm => ?_⟩
      · obtain ⟨j, rfl⟩ : ∃ j, m = j + 1 := ⟨m - 1, by omega⟩
        rw [f8_tryServing_L11]
        by_cases h8 : (8 : Int32) ≤ nI i
        · rw [if_pos h8]
        · rw [if_neg h8, I.1.askedAll.1, bind_s, hn, if_pos (by decide)]
      · obtain ⟨j, rfl⟩ : ∃ j, m = j + 1 := ⟨m - 1, by omega⟩
        obtain ⟨o, n1, n2, n3, n4⟩ := I.1.next
        have ho := n4.mpr hn
        subst ho
        rw [f9_layAll_L19, n2, bind_s, oI_none, if_pos rfl]
    · obtain ⟨hiT, τ1, x1, y1, I1, c1, c2⟩ := I.step hn
      obtain ⟨n, τ', x', y', hn', I', k1, k2, k3⟩ := ih (i + 1) τ1 x1 y1 (by omega) I1
      refine ⟨n, τ', x', y', hn', I', k1, fun kx m hm => ?_, fun km m hm => ?_⟩
      · obtain ⟨j, rfl⟩ : ∃ j, m = j + 1 := ⟨m - 1, by omega⟩
        rw [c1]
        exact k2 kx j (by omega)
      · obtain ⟨j, rfl⟩ : ∃ j, m = j + 1 := ⟨m - 1, by omega⟩
        rw [c2]
        exact k3 km j (by omega)
/-- all that is asked for is served, on trial -/
theorem HS.layAll (H : HS T r B F LT k nx hx hm) {p1 : Int32} {f u : Nat} (hp : p1 = -1 ∨ (p1 = nI f ∧ f < F ∧ u < T ∧ hm.1 9 (48 + f) = nI u ∧ ¬ hm.1 9 (144 + f) = 0)) : ∃ (n : Nat) (τ : Nat → Nat) (x y : qH), n ≤ T ∧ f8_tryServing hx = some x ∧ f9_layAll p1 hm = some y ∧ TF hx x hm y ∧ x.1 0 12 = nI n ∧ y.1 0 28 = nI n ∧ x.1 63 6 = y.1 0 30 ∧ x.1 63 2 - x.1 51 2 = y.1 0 29 ∧ (∀ j, j < n → x.1 76 j = nI (τ j) ∧ y.1 16 j = nI (τ j) ∧ τ j < T) ∧ (∀ j j', j < j' → j' < n → τ j ≠ τ j') ∧ (p1 = -1 ∨ (y.1 0 31 = -1 ∧ ∀ j, j < n → τ j ≠ u) ∨ ∃ j, j < n ∧ τ j = u ∧ y.1 0 31 = nI (j + 1)) := by
  have q := H.1
  have hT := q.t31
  obtain ⟨h1, b1, b2, b3, b4, b5⟩ := begin_eq (hx := hx)
  obtain ⟨w, w1, w2⟩ := putAside_eq (hm := hm)
  let h2 : qH := qw h1 0 12 0
  let m2 : qH := qrow (qrow hm 14 w) 0 (upd (upd (upd (hm.1 0) 18 0) 31 (-1)) 28 0)
  have eh : ∀ b, b ≠ 0 → h2.1 b = h1.1 b := fun b hb => qrow_ne hb
  have eh0 : h2.1 0 = upd (hx.1 0) 12 0 := by
    show (qrow h1 0 _).1 0 = _
    rw [qrow_at, b3 0 (by omega)]
  have em : ∀ b, b ≠ 0 → b ≠ 14 → m2.1 b = hm.1 b := fun b hb hb' => by
    show (qrow (qrow hm 14 w) 0 _).1 b = _
    rw [qrow_ne hb, qrow_ne hb']
  have em0 : m2.1 0 = upd (upd (upd (hm.1 0) 18 0) 31 (-1)) 28 0 := qrow_at _ _ _
  have em14 : m2.1 14 = w := by
    show (qrow (qrow hm 14 w) 0 _).1 14 = _
    rw [qrow_ne (by omega), qrow_at]
  have se2 : SE 51 hx 63 h2 := ⟨fun j a1 a2 => by rw [eh _ (by omega)]; exact b2.1 j a1 a2, fun j i a1 a2 a3 => by rw [eh _ (by omega)]; exact b2.2.1 j i a1 a2 a3, fun j i a1 a2 a3 => by rw [eh _ (by omega)]; exact b2.2.2 j i a1 a2 a3⟩
  have q2 : QQ T r B F h2 63 m2 := by
    have := q.begin (h1 := h1) (m1 := m2) b2 b3 (by rw [em0, upd_ne (by omega), upd_ne (by omega), upd_ne (by omega)]) (em 5 (by omega) (by omega)) (em 9 (by omega) (by omega))
    exact this.cg (fun b hb => eh b (by omega)) rfl rfl rfl
  have I0 : TI T r B F h2 m2 p1 f u 0 (fun _ => 0) h2 m2 := by
    refine ⟨q2, fun _ _ _ _ _ => rfl, fun _ _ => rfl, fun _ _ _ _ _ _ => rfl, fun _ _ _ _ _ => rfl, fun _ _ => rfl, ⟨by rw [eh0, upd_at]; rfl, by rw [em0, upd_at]; rfl, ?_⟩, fun j hj => by omega, fun j j' _ hj => by omega, ?_⟩
    · rw [eh 63 (by omega), b5, em0, upd_ne (by omega), upd_ne (by omega), upd_at]
    · rcases hp with hp | ⟨p1, p2, p3, p4, p5⟩
      · exact Or.inl hp
      · refine Or.inr ⟨p1, p2, p3, by rw [em 9 (by omega) (by omega)]; exact p4, Or.inl ⟨by rw [em0, upd_ne (by omega), upd_at], fun j hj => by omega, by rw [em 9 (by omega) (by omega)]; exact p5⟩⟩
  obtain ⟨n, τ, x, y, hn, I, hk, c1, c2⟩ := TI.run T 0 (fun _ => 0) h2 m2 (by omega) I0
  obtain ⟨qe, fx, fx0, fm, fm0, f9, ⟨a1, a2, a3⟩, tl, td, sn⟩ := I
  let m5 : qH := qrow y 0 (upd (upd (y.1 0) 29 (y.1 9 170 - y.1 14 170)) 30 (y.1 0 18))
  obtain ⟨w3, v1, v2, v3⟩ := bringBack_eq (hm := m5)
  have e14 : m5.1 14 = w := by
    show (qrow y 0 _).1 14 = _
    rw [qrow_ne (by omega), fm 14 (by omega) (by omega) (by omega) (by omega) (by omega), em14]
  have e9 : m5.1 9 = y.1 9 := qrow_ne (by omega)
  have ew : w3 = hm.1 9 := by
    funext j
    by_cases hj : j < 172
    · rw [v1 j hj, e14, w1 j hj]
    · rw [v2 j hj, e9, f9 j (by omega), em 9 (by omega) (by omega)]
  rw [ew] at v3
  have g0 : (qrow m5 9 (hm.1 9)).1 0 = upd (upd (y.1 0) 29 (y.1 9 170 - y.1 14 170)) 30 (y.1 0 18) := by
    rw [qrow_ne (by omega)]
    exact qrow_at _ _ _
  have go : ∀ b, b ≠ 0 → b ≠ 9 → (qrow m5 9 (hm.1 9)).1 b = y.1 b := fun b h1 h2 => by
    rw [qrow_ne h2]
    exact qrow_ne h1
  refine ⟨n, τ, x, qrow m5 9 (hm.1 9), hn, ?_, ?_, ⟨fun b p1 p2 p3 => ?_, fun j hj => ?_, fun b p1 p2 p3 p4 p5 p6 => ?_, fun j p1 p2 p3 => ?_⟩, a1, ?_, ?_, ?_, fun j hj => ?_, td, ?_⟩
  · unfold f8_tryServing
    rw [b1, bind_s, qlt_e]
    exact c1 _ qN (qN_lt (by omega))
  · unfold f9_layAll
    rw [w2, bind_s]
    simp only [qlt_e, qw, qrow_at, qrow_qrow, qrow_ne (show (0 : Nat) ≠ 14 by omega)]
    refine (c2 _ qN (qN_lt (by omega))).trans ?_
    simp only [qw, qrow_at, qrow_qrow, upd_ne (show (18 : Nat) ≠ 29 by omega)]
    show (f9_bringBack m5).bind _ = _
    rw [v3, bind_s]
  · rw [fx b p1 (by omega) (by omega) p3, eh b p3, b3 b (by omega)]
  · rw [fx0 j hj, eh0, upd_ne hj]
  · by_cases hb : b = 9
    · subst hb; rw [qrow_at]
    · rw [go b p1 hb, fm b p1 hb p2 p3 p5, em b p1 p4]
  · rw [g0, upd_ne (by omega), upd_ne (by omega), fm0 j p1 p2 (by omega) (by omega), em0, upd_ne (by omega), upd_ne (by omega), upd_ne (by omega)]
  · rw [g0, upd_ne (by omega), upd_ne (by omega)]; exact a2
  · rw [g0, upd_at]; exact a3
  · rw [g0, upd_ne (by omega), upd_at, qe.2.2.2.1.1.1, fx 51 (by omega) (by omega) (by omega) (by omega), eh 51 (by omega), b3 51 (by omega), q.2.2.2.1.1.1, fm 14 (by omega) (by omega) (by omega) (by omega) (by omega), em14, w1 170 (by omega)]
  · obtain ⟨t1, t2, t3, -⟩ := tl j hj
    exact ⟨t2, by rw [go 16 (by omega) (by omega)]; exact t3, t1⟩
  · rw [g0, upd_ne (by omega), upd_ne (by omega)]
    rcases sn with sn | ⟨-, -, -, -, ⟨s1, s2, -⟩ | s1⟩
    · exact Or.inl sn
    · exact Or.inr (Or.inl ⟨s1, s2⟩)
    · exact Or.inr (Or.inr s1)
/-- within bounds from 0 on -/
theorem in0 {n : Nat} (x : Int32) (hn : n < 2 ^ 31) : (∃ i, i < n ∧ x = nI i ∧ ¬ x < 0 ∧ x < nI n ∧ ¬ nI n ≤ x ∧ f9_in x 0 (nI n - 1) hm = some 1) ∨ ((x < 0 ∨ (¬ x < 0 ∧ nI n ≤ x ∧ ¬ x < nI n)) ∧ f9_in x 0 (nI n - 1) hm = some 0) := by
  rw [f9_in_eq]
  by_cases h0 : x < 0
  · exact Or.inr ⟨Or.inl h0, by rw [if_pos h0]⟩
  · rw [if_neg h0]
    obtain ⟨i, hi, rfl⟩ := nI_of h0
    by_cases hin : i < n
    · refine Or.inl ⟨i, hin, rfl, h0, nI_lt hin hn, nI_ge hin hn, ?_⟩
      rw [if_neg]
      rw [pred_lt hn h0]
      exact nI_ge hin hn
    · refine Or.inr ⟨Or.inr ⟨h0, nI_le (by omega) hi, nI_nlt (by omega) hi⟩, ?_⟩
      rw [if_pos]
      rw [pred_lt hn h0]
      exact nI_le (by omega) hi
theorem HS.all (H : HS T r B F LT k nx hx hm) (x : Int32) : ∃ v hx' hm', f8_all x hx = some (v, hx') ∧ f9_all x hm = some (v, hm') ∧ TF hx hx' hm hm' := by
  have q := H.1
  unfold f8_all f9_all
  rw [q.told.1, q.told.2, bind_s, bind_s, if_neg q1f, if_neg q1f]
  rcases in0 (hm := hm) (n := 3) x (by omega) with ⟨i, hi, rfl, h1, h2, h3, h4⟩ | ⟨h1, h4⟩
  · have h4 : f9_in (nI i) 0 2 hm = some 1 := h4
    have h2' : nI i ≤ (2 : Int32) := nI_le (b := 2) (by omega) (by omega)
    obtain ⟨n, τ, x', y', hn, c1, c2, tf, a1, a2, a3, a4, -⟩ := H.layAll (p1 := -1) (f := 0) (u := 0) (Or.inl rfl)
    rw [h4, bind_s, if_neg q1f, if_neg h1, if_pos h2', c1, c2, bind_s, bind_s, qlt_e]
    rcases (show i = 0 ∨ i = 1 ∨ i = 2 by omega) with rfl | rfl | rfl
    · rw [if_pos (by decide), if_pos (by decide)]
      exact ⟨_, x', y', rfl, by rw [a4], tf⟩
    · rw [if_neg (by decide), if_pos (by decide), if_neg (by decide), if_pos (by decide)]
      exact ⟨_, x', y', rfl, by rw [a3], tf⟩
    · rw [if_neg (by decide), if_neg (by decide), if_neg (by decide), if_neg (by decide)]
      exact ⟨_, x', y', rfl, by rw [a1, a2], tf⟩
  · have h4 : f9_in x 0 2 hm = some 0 := h4
    rw [h4, bind_s, if_pos rfl]
    refine ⟨-1, hx, hm, ?_, rfl, TF.rf⟩
    rcases h1 with h1 | ⟨h1, h2, h3⟩
    · rw [if_pos h1]
    · have h3' : ¬ x ≤ 2 := by
        intro h9
        obtain ⟨i, hi, rfl⟩ := nI_of h1
        have h2 : nI 3 ≤ nI i := h2
        have h9 : nI i ≤ nI 2 := h9
        rw [nI_leI (by omega) hi] at h2
        rw [nI_leI hi (by omega)] at h9
        omega
      rw [if_neg h1, if_neg h3']
theorem HS.served (H : HS T r B F LT k nx hx hm) (x : Int32) : ∃ v hx' hm', f8_served x hx = some (v, hx') ∧ f9_served x hm = some (v, hm') ∧ TF hx hx' hm hm' := by
  have q := H.1
  have hT := q.t31
  obtain ⟨n, τ, x', y', hn, c1, c2, tf, a1, a2, a3, a4, a5, -⟩ := H.layAll (p1 := -1) (f := 0) (u := 0) (Or.inl rfl)
  unfold f8_served f9_served
  rw [q.told.2, bind_s, if_neg q1f, c1, c2, bind_s, bind_s, qj_e, a1, a2]
  rcases in0 (hm := y') (n := n) x (by omega) with ⟨i, hi, rfl, h1, h2, h3, h4⟩ | ⟨h1, h4⟩
  · obtain ⟨t1, t2, -⟩ := a5 i hi
    rw [h4, bind_s, qj_e, if_neg q1f, if_neg h1, if_pos h2, q8 (show i < 8 by omega), qg_t, q12 (show i < 12 by omega), qg_t, ix_nI (by omega), t1, t2]
    exact ⟨_, x', y', rfl, rfl, tf⟩
  · rw [h4, bind_s, qj_e, if_pos rfl]
    refine ⟨-1, x', y', ?_, rfl, tf⟩
    rcases h1 with h1 | ⟨h1, h2, h3⟩
    · rw [if_pos h1]
    · rw [if_neg h1, if_neg h3]
theorem HS.soon (H : HS T r B F LT k nx hx hm) (x : Int32) : ∃ v hx' hm', f8_soon x hx = some (v, hx') ∧ f9_soon x hm = some (v, hm') ∧ TF hx hx' hm hm' := by
  have q := H.1
  have hT := q.t31
  unfold f8_soon f9_soon
  rcases q.isThere x with ⟨f, hf, rfl, hne, h1, h2⟩ | ⟨h1, h2⟩
  · rw [h1, h2, bind_s, bind_s, if_neg q1f, if_neg q1f, q24 (show f < 24 by omega), qg_t, ix_nI (by omega), la_144, q353 (show 144 + f < 353 by omega), qg_t, i353 (show 144 + f < 353 by omega)]
    have e11 : hx.1 62 f = hm.1 9 (144 + f) := (q.fl hf).2.2.2.2
    rw [e11]
    by_cases h0 : hm.1 9 (144 + f) = 0
    · rw [if_pos h0, if_pos h0]
      exact ⟨-1, hx, hm, rfl, rfl, TF.rf⟩
    · rw [if_neg h0, if_neg h0]
      obtain ⟨u, hu, eu, -⟩ := q.2.2.2.2.home hf h0
      obtain ⟨n, τ, x', y', hn, c1, c2, tf, a1, a2, a3, a4, a5, a6, a7⟩ := H.layAll (p1 := nI f) (f := f) (u := u) (Or.inr ⟨rfl, hf, hu, eu, h0⟩)
      have e58 : x'.1 58 f = nI u := by
        rw [tf.1 58 (by omega) (by omega) (by omega)]
        exact (q.fl hf).1.trans eu
      rw [c1, c2, bind_s, bind_s]
      refine ⟨y'.1 0 31, x', y', ?_, rfl, tf⟩
      have key := find_loop0 (fun m x5 => f8_soon_L31 (nI f) x' (fun _ => some ((-1 : Int32), x')) m x5) (some (-1, x')) (fun i => some (nI (i + 1), x')) (fun i => τ i = u) n (by omega) (fun m i hi => by
        have g1 := nI_ge hi (show n < 2 ^ 31 by omega)
        obtain ⟨t1, t2, t3⟩ := a5 i hi
        refine ⟨fun hp => ?_, fun hp => ?_⟩
        · show f8_soon_L31 (nI f) x' _ (m + 1) (nI i) = _
          have e : x'.1 76 i = nI u := by rw [t1, hp]
          rw [f8_soon_L31, a1, if_neg g1, q8 (show i < 8 by omega), qg_t, q24 (show f < 24 by omega), qg_t, ix_nI (by omega), ix_nI (by omega), e, e58, if_pos rfl, nI_1]
        · show f8_soon_L31 (nI f) x' _ (m + 1) (nI i) = f8_soon_L31 (nI f) x' _ m (nI (i + 1))
          rw [f8_soon_L31, a1, if_neg g1, q8 (show i < 8 by omega), qg_t, q24 (show f < 24 by omega), qg_t, ix_nI (by omega), ix_nI (by omega), t1, e58, if_neg (fun e => hp ((nI_eq (by omega) (by omega)).mp e)), qlt_e, nI_1]) (fun m => by
        show f8_soon_L31 (nI f) x' _ (m + 1) (nI n) = _
        rw [f8_soon_L31, a1, if_pos (nI_le (Nat.le_refl _) (by omega))])
      rcases a7 with a7 | ⟨a7, a8⟩ | ⟨j, j1, j2, j3⟩
      · exact absurd a7 (nI_m1 (by omega))
      · rcases key with ⟨i, hi, hp, -, -⟩ | ⟨-, e⟩
        · exact absurd hp (a8 i hi)
        · rw [a7]; exact e
      · rcases key with ⟨i, hi, hp, -, e⟩ | ⟨hno, -⟩
        · have : i = j := by
            rcases Nat.lt_trichotomy i j with h9 | h9 | h9
            · exact absurd (hp.trans j2.symm) (a6 i j h9 j1)
            · exact h9
            · exact absurd (j2.trans hp.symm) (a6 j i h9 hi)
          rw [j3, ← this]
          exact e
        · exact absurd j2 (hno j j1)
  · rw [h1, h2, bind_s, bind_s, if_pos rfl, if_pos rfl]
    exact ⟨-1, hx, hm, rfl, rfl, TF.rf⟩
end PD1
