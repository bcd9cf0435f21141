/-! ===== reading: signs, digits, numbers ===== -/
def BY (L : Nat) (hx hm : qH) : Prop := hx.1 1 1 = nI L ∧ hm.1 0 2 = nI L ∧ L ≤ 240 ∧ ∀ i, i < L → hx.1 2 i = hm.1 1 i ∧ ∃ c, 1 ≤ c ∧ c ≤ 255 ∧ hm.1 1 i = nI c
/-- the sign at a place -/
def sg (L : Nat) (b : Nat → Int32) (p : Nat) : Int32 := if p < L then b p else -1
/-- both read on from the place p -/
def RD (L p : Nat) (hx hm : qH) : Prop := BY L hx hm ∧ hx.1 3 4 = nI p ∧ hm.1 0 3 = nI p ∧ p ≤ L ∧ hm.1 0 4 = -1
/-- what reading signs leaves as it is -/
def RX (hx hx' : qH) : Prop := (∀ b, b ≠ 3 → hx'.1 b = hx.1 b) ∧ (∀ j, j ≠ 4 → j ≠ 5 → hx'.1 3 j = hx.1 3 j) ∧ hx'.2 = hx.2
def RM (hm hm' : qH) : Prop := (∀ b, b ≠ 0 → hm'.1 b = hm.1 b) ∧ (∀ j, j ≠ 3 → j ≠ 4 → hm'.1 0 j = hm.1 0 j) ∧ hm'.2 = hm.2
theorem RX.rf {h : qH} : RX h h := ⟨fun _ _ => rfl, fun _ _ _ => rfl, rfl⟩
theorem RM.rf {h : qH} : RM h h := ⟨fun _ _ => rfl, fun _ _ _ => rfl, rfl⟩
theorem RX.tr {h h1 h2 : qH} (x : RX h h1) (y : RX h1 h2) : RX h h2 := ⟨fun b p => (y.1 b p).trans (x.1 b p), fun j p q => (y.2.1 j p q).trans (x.2.1 j p q), y.2.2.trans x.2.2⟩
theorem RM.tr {h h1 h2 : qH} (x : RM h h1) (y : RM h1 h2) : RM h h2 := ⟨fun b p => (y.1 b p).trans (x.1 b p), fun j p q => (y.2.1 j p q).trans (x.2.1 j p q), y.2.2.trans x.2.2⟩
theorem RX.at {h : qH} {x : Int32} {j : Nat} (hj : j = 4 ∨ j = 5) : RX h (qw h 3 j x) := ⟨fun b p => qrow_ne p, fun i p q => by rw [qrow_at, upd_ne (by omega)], rfl⟩
theorem RM.at {h : qH} {x : Int32} {j : Nat} (hj : j = 3 ∨ j = 4) : RM h (qw h 0 j x) := ⟨fun b p => qrow_ne p, fun i p q => by rw [qrow_at, upd_ne (by omega)], rfl⟩
section PK1
variable {L p : Nat} {hx hm : qH}
theorem BY.cg {hx' hm' : qH} (h : BY L hx hm) (h1 : hx'.1 1 1 = hx.1 1 1) (h2 : hx'.1 2 = hx.1 2) (h3 : hm'.1 0 2 = hm.1 0 2) (h4 : hm'.1 1 = hm.1 1) : BY L hx' hm' := by
  unfold BY
  rw [h1, h2, h3, h4]
  exact h
theorem RD.cg {hx' hm' : qH} {p' : Nat} (h : RD L p hx hm) (rx : RX hx hx') (rm : RM hm hm') (e1 : hx'.1 3 4 = nI p') (e2 : hm'.1 0 3 = nI p') (e3 : hm'.1 0 4 = -1) (hp : p' ≤ L) : RD L p' hx' hm' := ⟨h.1.cg (by rw [rx.1 1 (by omega)]) (rx.1 2 (by omega)) (rm.2.1 2 (by omega) (by omega)) (rm.1 1 (by omega)), e1, e2, hp, e3⟩
theorem sg_nI (h : BY L hx hm) (p : Nat) : (p < L ∧ ∃ c, 1 ≤ c ∧ c ≤ 255 ∧ sg L (hm.1 1) p = nI c) ∨ (L ≤ p ∧ sg L (hm.1 1) p = -1) := by
  unfold sg
  by_cases hp : p < L
  · rw [if_pos hp]
    exact Or.inl ⟨hp, (h.2.2.2 p hp).2⟩
  · rw [if_neg hp]
    exact Or.inr ⟨by omega, rfl⟩
theorem signAt_eq (h : BY L hx hm) (hp : p ≤ 240) : f0_signAt (nI p) hx = some (sg L (hm.1 1) p) := by
  obtain ⟨h1, h2, h3, h4⟩ := h
  unfold f0_signAt sg
  rw [qj_e, if_neg (nI_pos (by omega)), h1]
  by_cases hl : p < L
  · rw [if_neg (nI_ge hl (by omega)), if_neg (show ¬ (240 : Int32) ≤ nI p from nI_ge (b := 240) (by omega) (by omega)), qin_nI (show p < 240 by omega) (by omega), qg_t, ix_nI (by omega), if_pos hl, (h4 p hl).1]
  · rw [if_pos (nI_le (by omega) (by omega)), if_neg hl]
theorem RD.sx (h : RD L p hx hm) : f0_signAt (hx.1 3 4) hx = some (sg L (hm.1 1) p) := by
  rw [h.2.1]
  exact signAt_eq h.1 (by have := h.1.2.2.1; have := h.2.2.2.1; omega)
theorem RD.sm (h : RD L p hx hm) : f9_here hm = some (sg L (hm.1 1) p) := by
  obtain ⟨⟨h1, h2, h3, h4⟩, e1, e2, hp, -⟩ := h
  unfold f9_here sg
  rw [qj_e, h2, e2]
  by_cases hl : p < L
  · rw [if_neg (nI_ge hl (by omega)), qin_nI (show p < 240 by omega) (by omega), qg_t, ix_nI (by omega), if_pos hl]
  · rw [if_pos (nI_le (by omega) (by omega)), if_neg hl]
theorem RD.step (h : RD L p hx hm) (hp : p < L) : RD L (p + 1) (qw hx 3 4 (nI (p + 1))) (qw hm 0 3 (nI (p + 1))) := h.cg (RX.at (Or.inl rfl)) (RM.at (Or.inl rfl)) (by rw [qrow_at, upd_at]) (by rw [qrow_at, upd_at]) (by rw [qrow_at, upd_ne (by omega)]; exact h.2.2.2.2) (by omega)
/-- the next sign behind blanks -/
theorem RD.next : ∀ (d p : Nat) (hx hm : qH), RD L p hx hm → p + d = L → ∃ (p' : Nat) (hx' hm' : qH), p ≤ p' ∧ RD L p' hx' hm' ∧ RX hx hx' ∧ RM hm hm' ∧ hx'.1 3 5 = hx.1 3 5 ∧ ¬ sg L (hm.1 1) p' = 32 ∧ (∀ k m, d < m → f5_nextSign_L0 k m hx = k hx') ∧ ∀ k m, d < m → f9_ahead_L0 k m hm = k hm' := by
  intro d
  induction d with
  | zero =>
    intro p hx hm h hp
    have e : sg L (hm.1 1) p = -1 := if_neg (by omega)
    refine ⟨p, hx, hm, Nat.le_refl _, h, RX.rf, RM.rf, rfl, by rw [e]; decide, fun k m hm' => ?_, fun k m hm' => ?_⟩
    · obtain ⟨j, rfl⟩ : ∃ j, m = j + 1 := ⟨m - 1, by omega⟩
      rw [f5_nextSign_L0, h.1.1, h.2.1, if_pos (nI_le (by omega) (by have := h.1.2.2.1; omega))]
    · obtain ⟨j, rfl⟩ : ∃ j, m = j + 1 := ⟨m - 1, by omega⟩
      rw [f9_ahead_L0, h.sm, bind_s, e, if_neg (by decide)]
  | succ d ih =>
    intro p hx hm h hp
    have hL := h.1.2.2.1
    have g1 : ¬ nI L ≤ nI p := nI_ge (by omega) (by omega)
    by_cases e : sg L (hm.1 1) p = 32
    · have h1 := h.step (by omega)
      obtain ⟨p', hx', hm', a1, a2, a3, a4, a5, a6, a7, a8⟩ := ih (p + 1) _ _ h1 (by omega)
      have e1 : (qw hm 0 3 (nI (p + 1))).1 1 = hm.1 1 := qrow_ne (by omega)
      rw [e1] at a6
      refine ⟨p', hx', hm', by omega, a2, (RX.at (Or.inl rfl)).tr a3, (RM.at (Or.inl rfl)).tr a4, by rw [a5, qrow_at, upd_ne (by omega)], a6, fun k m hm2 => ?_, fun k m hm2 => ?_⟩
      · obtain ⟨j, rfl⟩ : ∃ j, m = j + 1 := ⟨m - 1, by omega⟩
        rw [f5_nextSign_L0, h.sx, h.1.1, h.2.1, if_neg g1, bind_s, if_pos e, qlt_e, nI_1]
        exact a7 k j (by omega)
      · obtain ⟨j, rfl⟩ : ∃ j, m = j + 1 := ⟨m - 1, by omega⟩
        rw [f9_ahead_L0, h.sm, bind_s, if_pos e, qlt_e, h.2.2.1, nI_1]
        exact a8 k j (by omega)
    · refine ⟨p, hx, hm, Nat.le_refl _, h, RX.rf, RM.rf, rfl, e, fun k m hm2 => ?_, fun k m hm2 => ?_⟩
      · obtain ⟨j, rfl⟩ : ∃ j, m = j + 1 := ⟨m - 1, by omega⟩
        rw [f5_nextSign_L0, h.sx, h.1.1, h.2.1, if_neg g1, bind_s, if_neg e]
      · obtain ⟨j, rfl⟩ : ∃ j, m = j + 1 := ⟨m - 1, by omega⟩
        rw [f9_ahead_L0, h.sm, bind_s, if_neg e]
theorem RD.nx (h : RD L p hx hm) : ∃ (p' : Nat) (hx' hm' : qH), p ≤ p' ∧ RD L p' hx' hm' ∧ RX hx hx' ∧ RM hm hm' ∧ hx'.1 3 5 = hx.1 3 5 ∧ ¬ sg L (hm.1 1) p' = 32 ∧ f5_nextSign hx = some (sg L (hm.1 1) p', hx') ∧ f9_ahead hm = some (sg L (hm.1 1) p', hm') := by
  obtain ⟨p', hx', hm', a1, a2, a3, a4, a5, a6, a7, a8⟩ := RD.next (L - p) p hx hm h (by have := h.2.2.2.1; omega)
  have e1 : hm'.1 1 = hm.1 1 := a4.1 1 (by omega)
  have hb := h.1.2.2.1
  refine ⟨p', hx', hm', a1, a2, a3, a4, a5, a6, ?_, ?_⟩
  · unfold f5_nextSign
    rw [a7 _ qN (qN_lt (by omega)), a2.sx, bind_s, e1]
  · unfold f9_ahead
    rw [a8 _ qN (qN_lt (by omega)), a2.sm, bind_s, e1]
/-- is it a digit -/
theorem dig (h : BY L hx hm) (p : Nat) : (∃ v, v ≤ 9 ∧ p < L ∧ sg L (hm.1 1) p = nI (48 + v) ∧ (∀ h' : qH, f5_isDigit (nI (48 + v)) h' = some 1 ∧ f9_isDigit (nI (48 + v)) h' = some 1)) ∨ (∀ h' : qH, f5_isDigit (sg L (hm.1 1) p) h' = some 0 ∧ f9_isDigit (sg L (hm.1 1) p) h' = some 0) := by
  unfold f5_isDigit f9_isDigit
  rcases sg_nI h p with ⟨hp, c, c1, c2, e⟩ | ⟨hp, e⟩
  · rw [e]
    by_cases h1 : c < 48
    · refine Or.inr fun h' => ?_
      rw [if_pos (show nI c < (48 : Int32) from nI_lt (b := 48) h1 (by omega))]
      exact ⟨rfl, rfl⟩
    · by_cases h2 : 57 < c
      · refine Or.inr fun h' => ?_
        rw [if_neg (show ¬ nI c < (48 : Int32) from nI_nlt (b := 48) (by omega) (by omega)), if_pos (show (57 : Int32) < nI c from nI_lt (a := 57) h2 (by omega))]
        exact ⟨rfl, rfl⟩
      · refine Or.inl ⟨c - 48, by omega, hp, by rw [show 48 + (c - 48) = c by omega], fun h' => ?_⟩
        rw [show 48 + (c - 48) = c by omega, if_neg (show ¬ nI c < (48 : Int32) from nI_nlt (b := 48) (by omega) (by omega)), if_neg (show ¬ (57 : Int32) < nI c from nI_nlt (a := 57) (by omega) (by omega))]
        exact ⟨rfl, rfl⟩
  · rw [e]
    exact Or.inr fun h' => ⟨rfl, rfl⟩
theorem m48 (v : Nat) : nI (48 + v) - 48 = nI v := by
  have := pk_sub (a := 48 + v) (b := 48) (by omega)
  rw [show 48 + v - 48 = v by omega] at this
  exact this
theorem bad_eq (h : hm.1 0 4 = -1) (h3 : hm.1 0 3 = nI p) : f9_bad hm = some (qw hm 0 4 (nI p)) := by
  unfold f9_bad
  rw [qlt_e, qlt_e, if_pos h, h3]
/-- a fault at q: the class answers it, the reference notes it -/
def BD (hx hm hx' hm' : qH) (q : Nat) : Prop := RX hx hx' ∧ RM hm hm' ∧ hm'.1 0 4 = nI q ∧ q ≤ 240
theorem RD.digit (h : RD L p hx hm) : (∃ (p' v : Nat) (hx' hm' : qH), v ≤ 9 ∧ p < p' ∧ RD L p' hx' hm' ∧ RX hx hx' ∧ RM hm hm' ∧ hx'.1 3 5 = nI v ∧ f5_readDigit hx = some (-1, hx') ∧ f9_digit hm = some (nI v, hm')) ∨ ∃ (q : Nat) (hx' hm' : qH), BD hx hm hx' hm' q ∧ f5_readDigit hx = some (nI q, hx') ∧ f9_digit hm = some (0, hm') := by
  obtain ⟨p', x1, y1, a1, a2, a3, a4, a5, a6, a7, a8⟩ := h.nx
  have hb := h.1.2.2.1
  have e1 : y1.1 1 = hm.1 1 := a4.1 1 (by omega)
  unfold f5_readDigit f9_digit
  rw [a7, a8, h.2.2.2.2, if_pos rfl, qb2_s, qb2_s]
  rcases dig h.1 p' with ⟨v, hv, hp', ev, hd⟩ | hd
  · left
    rw [ev, (hd x1).1, (hd y1).2, bind_s, bind_s, if_neg q1f, if_neg q1f, a2.sm, bind_s, e1, ev]
    simp only [qlt_e, m48]
    have s2 := (a2.cg (p' := p' + 1) (hx' := qw (qw x1 3 5 (nI v)) 3 4 (nI (p' + 1))) (hm' := qw y1 0 3 (nI (p' + 1))) ((RX.at (Or.inr rfl)).tr (RX.at (Or.inl rfl))) (RM.at (Or.inl rfl)) (by rw [qrow_at, upd_at]) (by rw [qrow_at, upd_at]) (by rw [qrow_at, upd_ne (by omega)]; exact a2.2.2.2.2) (by omega))
    refine ⟨p' + 1, v, _, _, hv, by omega, s2, a3.tr ((RX.at (Or.inr rfl)).tr (RX.at (Or.inl rfl))), a4.tr (RM.at (Or.inl rfl)), ?_, ?_, ?_⟩
    · rw [qrow_at, upd_ne (by omega), qrow_at, upd_at]
    · have : (qw x1 3 5 (nI v)).1 3 4 + 1 = nI (p' + 1) := by rw [qrow_at, upd_ne (by omega), a2.2.1, nI_1]
      rw [this]
    · rw [a2.2.2.1, nI_1]
  · right
    rw [(hd x1).1, (hd y1).2, bind_s, bind_s, if_pos rfl, if_pos rfl, bad_eq a2.2.2.2.2 a2.2.2.1, bind_s, a2.2.1]
    exact ⟨p', x1, _, ⟨a3, a4.tr (RM.at (Or.inr rfl)), by rw [qrow_at, upd_at], by have := a2.2.2.2.1; omega⟩, rfl, rfl⟩
theorem RD.comma (h : RD L p hx hm) : (∃ (p' : Nat) (hx' hm' : qH), RD L p' hx' hm' ∧ RX hx hx' ∧ RM hm hm' ∧ hx'.1 3 5 = hx.1 3 5 ∧ f5_readComma hx = some (-1, hx') ∧ f9_comma hm = some hm') ∨ ∃ (q : Nat) (hx' hm' : qH), BD hx hm hx' hm' q ∧ f5_readComma hx = some (nI q, hx') ∧ f9_comma hm = some hm' := by
  obtain ⟨p', x1, y1, a1, a2, a3, a4, a5, a6, a7, a8⟩ := h.nx
  have hb := h.1.2.2.1
  unfold f5_readComma f9_comma
  rw [a7, a8, h.2.2.2.2, qj_e, if_pos rfl, qb2_s, qb2_s]
  by_cases e : sg L (hm.1 1) p' = 44
  · left
    have hp' : p' < L := by
      rcases sg_nI h.1 p' with ⟨hp, -⟩ | ⟨-, e2⟩
      · exact hp
      · rw [e2] at e; exact absurd e (by decide)
    rw [if_pos e, if_pos e, qlt_e, qlt_e, a2.2.1, a2.2.2.1, nI_1]
    exact ⟨p' + 1, _, _, a2.step hp', a3.tr (RX.at (Or.inl rfl)), a4.tr (RM.at (Or.inl rfl)), by rw [qrow_at, upd_ne (by omega)]; exact a5, rfl, rfl⟩
  · right
    rw [if_neg e, if_neg e, bad_eq a2.2.2.2.2 a2.2.2.1, bind_s, a2.2.1]
    exact ⟨p', x1, _, ⟨a3, a4.tr (RM.at (Or.inr rfl)), by rw [qrow_at, upd_at], by have := a2.2.2.2.1; omega⟩, rfl, rfl⟩
theorem RD.number (h : RD L p hx hm) {lo hi : Nat} (hlo : lo < 1000) (hhi : hi < 1000) : (∃ (p' v : Nat) (hx' hm' : qH), lo ≤ v ∧ v ≤ hi ∧ RD L p' hx' hm' ∧ RX hx hx' ∧ RM hm hm' ∧ hx'.1 3 5 = nI v ∧ f5_readNumber (nI lo) (nI hi) hx = some (-1, hx') ∧ f9_number (nI lo) (nI hi) hm = some (nI v, hm')) ∨ ∃ (q : Nat) (v : Int32) (hx' hm' : qH), BD hx hm hx' hm' q ∧ f5_readNumber (nI lo) (nI hi) hx = some (nI q, hx') ∧ f9_number (nI lo) (nI hi) hm = some (v, hm') := by
  obtain ⟨p0, x0, y0, z1, z2, z3, z4, z5, z6, z7, z8⟩ := h.nx
  have hb := h.1.2.2.1
  have ey0 : y0.1 1 = hm.1 1 := z4.1 1 (by omega)
  obtain ⟨n, hn⟩ := qN_4
  unfold f5_readNumber f5_readDigit f9_number
  rw [z7, z8, h.2.2.2.2, if_pos rfl, qb2_s, qb2_s]
  rcases dig h.1 p0 with ⟨v, hv, hp0, ev, hd⟩ | hd
  · -- the first digit
    rw [ev, (hd x0).1, (hd y0).2, bind_s, bind_s, if_neg q1f, if_neg q1f]
    let x1 : qH := qw (qw x0 3 5 (nI v)) 3 4 (nI (p0 + 1))
    let y1 : qH := qw y0 0 3 (nI (p0 + 1))
    have rx1 : RX hx x1 := z3.tr ((RX.at (Or.inr rfl)).tr (RX.at (Or.inl rfl)))
    have rm1 : RM hm y1 := z4.tr (RM.at (Or.inl rfl))
    have r1 : RD L (p0 + 1) x1 y1 := z2.cg ((RX.at (Or.inr rfl)).tr (RX.at (Or.inl rfl))) (RM.at (Or.inl rfl)) (by show (qrow _ 3 _).1 3 4 = _; rw [qrow_at, upd_at]) (by show (qrow _ 0 _).1 0 3 = _; rw [qrow_at, upd_at]) (by show (qrow _ 0 _).1 0 4 = _; rw [qrow_at, upd_ne (by omega)]; exact z2.2.2.2.2) (by omega)
    have ey1 : y1.1 1 = hm.1 1 := rm1.1 1 (by omega)
    have n1 : x1.1 3 5 = nI v := by
      show (qrow _ 3 _).1 3 5 = _
      rw [qrow_at, upd_ne (by omega), qrow_at, upd_at]
    have ex : (qlt (qw x0 3 5 (nI (48 + v) - 48)) fun (h5 : qH) => qlt (qw h5 3 4 ((h5.1 3 4) + (1 : Int32))) fun (h6 : qH) => (some ((-1 : Int32), h6) : Option (Int32 × qH))) = some (-1, x1) := by
      simp only [qlt_e, m48]
      have : (qw x0 3 5 (nI v)).1 3 4 + 1 = nI (p0 + 1) := by rw [qrow_at, upd_ne (by omega), z2.2.1, nI_1]
      rw [this]
    rw [ex, qb2_s, if_pos rfl, r1.sx, bind_s, ey1, hn]
    -- the reference's first round
    rw [f9_number_L29, if_neg (by decide), z2.sm, bind_s, ey0, ev, (hd y0).2, bind_s, if_neg q1f, bind_s]
    have e10 : (10 : Int32) * 0 + nI (48 + v) - 48 = nI v := by
      rw [show (10 : Int32) * 0 = 0 by decide, Int32.zero_add, m48]
    rw [qlt_e, e10, qlt_e, z2.2.2.1, nI_1, qlt_e, show (0 : Int32) + 1 = 1 by decide]
    show _ ∨ _
    -- how it ends
    have fin : ∀ (p2 w : Nat) (x2 y2 : qH), w < 1000 → RD L p2 x2 y2 → RX hx x2 → RM hm y2 → x2.1 3 5 = nI w → 1 ≤ p2 → ∀ (ox om : Option (Int32 × qH)),
        ox = ((f0_signAt (x2.1 3 4) x2).bind fun (z9 : Int32) => (f5_isDigit z9 x2).bind fun (z10 : Int32) => if z10 = 0 then (qlt (if (x2.1 3 5) < nI lo then ((x2.1 3 4) - (1 : Int32)) else (if (x2.1 3 5) ≤ nI hi then (-1 : Int32) else ((x2.1 3 4) - (1 : Int32)))) fun (x14 : Int32) => some (x14, x2)) else (some ((x2.1 3 4), x2))) →
        om = ((f9_here y2).bind fun (z21 : Int32) => (f9_isDigit z21 y2).bind fun (z22 : Int32) => qj (fun (h23 : qH) => some (nI w, h23)) fun j24 => if z22 = 0 then ((f9_in (nI w) (nI lo) (nI hi) y2).bind fun (z27 : Int32) => if z27 = 0 then (qlt (qw y2 0 3 ((y2.1 0 3) - (1 : Int32))) fun (h29 : qH) => (f9_bad h29).bind fun (h30 : qH) => j24 h30) else (j24 y2)) else ((f9_bad y2).bind fun (h31 : qH) => j24 h31)) →
        (∃ (p' v : Nat) (hx' hm' : qH), lo ≤ v ∧ v ≤ hi ∧ RD L p' hx' hm' ∧ RX hx hx' ∧ RM hm hm' ∧ hx'.1 3 5 = nI v ∧ ox = some (-1, hx') ∧ om = some (nI v, hm')) ∨ ∃ (q : Nat) (v : Int32) (hx' hm' : qH), BD hx hm hx' hm' q ∧ ox = some (nI q, hx') ∧ om = some (v, hm') := by
      intro p2 w x2 y2 hw r2 rx2 rm2 n2 hp2 ox om eox eom
      have ey2 : y2.1 1 = hm.1 1 := rm2.1 1 (by omega)
      rw [r2.sx, bind_s, ey2] at eox
      rw [r2.sm, bind_s, ey2] at eom
      have hp2L := r2.2.2.2.1
      rcases dig h.1 p2 with ⟨u, hu, hpu, eu, hdu⟩ | hdu
      · right
        rw [eu, (hdu x2).1, bind_s, if_neg q1f, r2.2.1] at eox
        rw [eu, (hdu y2).2, bind_s, qj_e, if_neg q1f, bad_eq r2.2.2.2.2 r2.2.2.1, bind_s] at eom
        exact ⟨p2, _, x2, _, ⟨rx2, rm2.tr (RM.at (Or.inr rfl)), by rw [qrow_at, upd_at], by omega⟩, eox, eom⟩
      · rw [(hdu x2).1, bind_s, if_pos rfl, qlt_e, n2, r2.2.1] at eox
        rw [(hdu y2).2, bind_s, qj_e, if_pos rfl, f9_in_eq, bind_s] at eom
        have ep : nI p2 - 1 = nI (p2 - 1) := by
          have := pk_sub (a := p2) (b := 1) (by omega)
          exact this
        have badc : (w < lo ∨ hi < w) → (∃ (q : Nat) (v : Int32) (hx' hm' : qH), BD hx hm hx' hm' q ∧ ox = some (nI q, hx') ∧ om = some (v, hm')) := by
          intro hc
          have e0 : (if nI w < nI lo then (0 : Int32) else if nI hi < nI w then 0 else 1) = 0 := by
            rcases hc with hc | hc
            · rw [if_pos (nI_lt hc (by omega))]
            · by_cases h9 : w < lo
              · rw [if_pos (nI_lt h9 (by omega))]
              · rw [if_neg (nI_nlt (by omega) (by omega)), if_pos (nI_lt hc (by omega))]
          have e1 : (if nI w < nI lo then nI p2 - 1 else (if nI w ≤ nI hi then (-1 : Int32) else nI p2 - 1)) = nI (p2 - 1) := by
            rcases hc with hc | hc
            · rw [if_pos (nI_lt hc (by omega)), ep]
            · by_cases h9 : w < lo
              · rw [if_pos (nI_lt h9 (by omega)), ep]
              · rw [if_neg (nI_nlt (by omega) (by omega)), if_neg (nI_ge hc (by omega)), ep]
          rw [e1] at eox
          rw [e0, if_pos rfl, qlt_e, r2.2.2.1, ep, bad_eq (p := p2 - 1) (by rw [qrow_at, upd_ne (by omega)]; exact r2.2.2.2.2) (by rw [qrow_at, upd_at]), bind_s] at eom
          exact ⟨p2 - 1, _, x2, _, ⟨rx2, (rm2.tr (RM.at (Or.inl rfl))).tr (RM.at (Or.inr rfl)), by rw [qrow_at, upd_at], by omega⟩, eox, eom⟩
        by_cases c1 : w < lo
        · exact Or.inr (badc (Or.inl c1))
        · by_cases c2 : hi < w
          · exact Or.inr (badc (Or.inr c2))
          · left
            rw [if_neg (nI_nlt (by omega) (by omega)), if_pos (nI_le (by omega) (by omega))] at eox
            rw [if_neg (nI_nlt (by omega) (by omega)), if_neg (nI_nlt (by omega) (by omega)), if_neg q1f] at eom
            exact ⟨p2, w, x2, y2, by omega, by omega, r2, rx2, rm2, n2, eox, eom⟩
    rw [f9_number_L29, if_neg (by decide)]
    have s1 : f9_here (qw y0 0 3 (nI (p0 + 1))) = some (sg L (hm.1 1) (p0 + 1)) := by
      have := r1.sm
      rw [ey1] at this
      exact this
    rw [s1, bind_s]
    rcases dig h.1 (p0 + 1) with ⟨v2, hv2, hp1, ev2, hd2⟩ | hd2
    · rw [ev2, (hd2 x1).1, (hd2 (qw y0 0 3 (nI (p0 + 1)))).2, bind_s, bind_s, qj_e, if_neg q1f, if_neg q1f, bind_s, bind_s]
      have e11 : (10 : Int32) * nI v + nI (48 + v2) - 48 = nI (10 * v + v2) := by
        have e12 : (10 : Int32) * nI v = nI (10 * v) := nI_mul 10 v
        rw [e12, nI_add, show 10 * v + (48 + v2) = 48 + (10 * v + v2) by omega, m48]
      have e13 : x1.1 3 5 * (10 : Int32) + nI (48 + v2) - 48 = nI (10 * v + v2) := by
        have e14 : nI v * (10 : Int32) = nI (10 * v) := by rw [Nat.mul_comm]; exact nI_mul v 10
        rw [n1, e14, nI_add, show 10 * v + (48 + v2) = 48 + (10 * v + v2) by omega, m48]
      have e15 : (qw x1 3 5 (nI (10 * v + v2))).1 3 4 + 1 = nI (p0 + 1 + 1) := by rw [qrow_at, upd_ne (by omega), r1.2.1, nI_1]
      have e16 : (qw y0 0 3 (nI (p0 + 1))).1 0 3 + 1 = nI (p0 + 1 + 1) := by rw [qrow_at, upd_at, nI_1]
      rw [qlt_e, e13, qlt_e, e15, qlt_e, e11, qlt_e, e16, qlt_e, show (1 : Int32) + 1 = 2 by decide, f9_number_L29, if_pos (by decide)]
      have r2 : RD L (p0 + 1 + 1) (qw (qw x1 3 5 (nI (10 * v + v2))) 3 4 (nI (p0 + 1 + 1))) (qw (qw y0 0 3 (nI (p0 + 1))) 0 3 (nI (p0 + 1 + 1))) := r1.cg ((RX.at (Or.inr rfl)).tr (RX.at (Or.inl rfl))) (RM.at (Or.inl rfl)) (by rw [qrow_at, upd_at]) (by rw [qrow_at, upd_at]) (by rw [qrow_at, upd_ne (by omega)]; exact r1.2.2.2.2) (by omega)
      exact fin (p0 + 1 + 1) (10 * v + v2) _ _ (by omega) r2 (rx1.tr ((RX.at (Or.inr rfl)).tr (RX.at (Or.inl rfl)))) (rm1.tr (RM.at (Or.inl rfl))) (by rw [qrow_at, upd_ne (by omega), qrow_at, upd_at]) (by omega) _ _ rfl rfl
    · rw [(hd2 x1).1, (hd2 (qw y0 0 3 (nI (p0 + 1)))).2, bind_s, bind_s, qj_e, if_pos rfl, if_pos rfl]
      refine fin (p0 + 1) v x1 y1 (by omega) r1 rx1 rm1 n1 (by omega) _ _ ?_ ?_
      · rfl
      · rw [show f9_here y1 = some (sg L (hm.1 1) (p0 + 1)) from s1]
  · right
    rw [(hd x0).1, (hd y0).2, bind_s, bind_s, if_pos rfl, if_pos rfl, qb2_s, bad_eq z2.2.2.2.2 z2.2.2.1, bind_s, z2.2.1, if_neg (nI_m1 (by have := z2.2.2.2.1; omega))]
    exact ⟨p0, _, x0, _, ⟨z3, z4.tr (RM.at (Or.inr rfl)), by rw [qrow_at, upd_at], by have := z2.2.2.2.1; omega⟩, rfl, rfl⟩
end PK1
