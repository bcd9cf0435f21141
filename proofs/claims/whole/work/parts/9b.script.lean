section PM2
variable {L p n : Nat} {hx hm : qH}
theorem RD.still (h : RD L p hx hm) (e : ¬ sg L (hm.1 1) p = 32) : f9_ahead hm = some (sg L (hm.1 1) p, hm) := by
  obtain ⟨k, hk⟩ := qN_4
  unfold f9_ahead
  rw [hk, f9_ahead_L0, h.sm, bind_s, if_neg e, bind_s]
/-- what the reading of a draft may change -/
def DX (hx hx' : qH) : Prop := (∀ c, c ≠ 3 → ¬ (39 ≤ c ∧ c ≤ 42) → hx'.1 c = hx.1 c) ∧ ∀ j, j ≠ 4 → j ≠ 5 → hx'.1 3 j = hx.1 3 j
def DM (n : Nat) (hm hm' : qH) : Prop := (∀ c, c ≠ 0 → c ≠ 7 → c ≠ 8 → hm'.1 c = hm.1 c) ∧ (∀ j, j ≠ 3 → j ≠ 4 → hm'.1 0 j = hm.1 0 j) ∧ (∀ j, j ≠ n → hm'.1 8 j = hm.1 8 j) ∧ ∀ k, ¬ (48 * n ≤ k ∧ k < 48 * n + 48) → hm'.1 7 k = hm.1 7 k
theorem DX.rf {h : qH} : DX h h := ⟨fun _ _ _ => rfl, fun _ _ _ => rfl⟩
theorem DM.rf {h : qH} : DM n h h := ⟨fun _ _ _ _ => rfl, fun _ _ _ => rfl, fun _ _ => rfl, fun _ _ => rfl⟩
theorem DX.tr {h h1 h2 : qH} (x : DX h h1) (y : DX h1 h2) : DX h h2 := ⟨fun b p q => (y.1 b p q).trans (x.1 b p q), fun j p q => (y.2 j p q).trans (x.2 j p q)⟩
theorem DM.tr {h h1 h2 : qH} (x : DM n h h1) (y : DM n h1 h2) : DM n h h2 := ⟨fun b p q r => (y.1 b p q r).trans (x.1 b p q r), fun j p q => (y.2.1 j p q).trans (x.2.1 j p q), fun j p => (y.2.2.1 j p).trans (x.2.2.1 j p), fun j p => (y.2.2.2 j p).trans (x.2.2.2 j p)⟩
theorem RX.dx {h h' : qH} (x : RX h h') : DX h h' := ⟨fun c c1 _ => x.1 c c1, x.2.1⟩
theorem RM.dm {h h' : qH} (x : RM h h') : DM n h h' := ⟨fun c c1 _ _ => x.1 c c1, x.2.1, fun j _ => by rw [x.1 8 (by omega)], fun j _ => by rw [x.1 7 (by omega)]⟩
/-- the draft so far -/
def SD (n i : Nat) (hx hm : qH) : Prop := hx.1 39 3 = nI i ∧ hm.1 8 n = nI i ∧ ∀ k, k < i → ∃ act, act ≤ 10 ∧ hx.1 40 k = nI act ∧ hm.1 7 (3 * (16 * n + k)) = nI act ∧ hx.1 41 k = hm.1 7 (3 * (16 * n + k) + 1) ∧ hx.1 42 k = hm.1 7 (3 * (16 * n + k) + 2) ∧ (act = 7 → hx.1 41 k = -1)
theorem SD.rd {i : Nat} {hx' hm' : qH} (s : SD n i hx hm) (x : RX hx hx') (y : RM hm hm') : SD n i hx' hm' := by
  unfold SD at s ⊢
  rw [x.1 39 (by omega), x.1 40 (by omega), x.1 41 (by omega), x.1 42 (by omega), y.1 7 (by omega), y.1 8 (by omega)]
  exact s
def SR (n : Nat) (hx hm : qH) (ox om : Option (Int32 × qH)) : Prop := (∃ (c : Nat) (hx' hm' : qH), 1 ≤ c ∧ c ≤ 16 ∧ ox = some (-1, hx') ∧ om = some (-1, hm') ∧ SD n c hx' hm' ∧ DX hx hx' ∧ DM n hm hm') ∨ ∃ (q : Nat) (hx' hm' : qH), q ≤ 240 ∧ ox = some (nI q, hx') ∧ om = some (nI q, hm') ∧ DX hx hx' ∧ DM n hm hm'
noncomputable def kM : Int32 → qH → Option (Int32 × qH) := fun (_ : Int32) (h22 : qH) =>
    qj (fun (h23 : qH) =>
      some ((h23.1 0 4), h23)) fun j24 =>
    if (h22.1 0 4) = (-1 : Int32) then (
      qb2 (f9_ahead h22) fun (z27 : Int32) (h28 : qH) =>
      if z27 = (-1 : Int32) then (
        j24 h28)
      else (
        (f9_bad h28).bind fun (h30 : qH) =>
        j24 h30))
    else (
      j24 h22)
theorem kM_ok (h : RD L p hx hm) (e : sg L (hm.1 1) p = -1) (x : Int32) : kM x hm = some (-1, hm) := by
  unfold kM
  rw [qj_e, if_pos h.2.2.2.2, h.still (by rw [e]; decide), qb2_s, if_pos e]
  show some (hm.1 0 4, hm) = _
  rw [h.2.2.2.2]
theorem kM_bad (h : RD L p hx hm) (e : ¬ sg L (hm.1 1) p = 32) (e1 : ¬ sg L (hm.1 1) p = -1) (x : Int32) : kM x hm = some (nI p, qw hm 0 4 (nI p)) := by
  unfold kM
  rw [qj_e, if_pos h.2.2.2.2, h.still e, qb2_s, if_neg e1, bad_eq h.2.2.2.2 h.2.2.1, bind_s]
  show some ((qw hm 0 4 (nI p)).1 0 4, _) = _
  rw [qrow_at, upd_at]
theorem kM_was {q : Nat} (h : hm.1 0 4 = nI q) (hq : q ≤ 240) (x : Int32) : kM x hm = some (nI q, hm) := by
  unfold kM
  rw [qj_e, if_neg (by rw [h]; exact nI_m1 (by omega))]
  show some (hm.1 0 4, hm) = _
  rw [h]
theorem RD.p0 (h : RD L p hx hm) {v : Int32} (hv : v = nI p) : RD L p hx (qw hm 0 3 v) := h.cg RX.rf (RM.at (Or.inl rfl)) h.2.1 (by rw [qrow_at, upd_at]; exact hv) (by rw [qrow_at, upd_ne (by omega)]; exact h.2.2.2.2) h.2.2.2.1
/-- the steps of a script, one after the other -/
theorem RD.rscript (hn : n ≤ 4) : ∀ (d i p : Nat) (hx hm : qH), i + d + 1 = 16 → RD L p hx hm → SD n i hx hm → ∀ kx m m', d + 1 < m → d + 2 < m' → SR n hx hm (f5_readScript_L12 39 kx m (nI i) hx) (f9_readScript_L19 (nI n) kM m' 1 hm) := by
  intro d
  induction d using Nat.strongRecOn with
  | _ d ih =>
    intro i p hx hm hd h s kx m m' h1 h2
    have hL := h.1.2.2.1
    obtain ⟨m, rfl⟩ : ∃ j, m = j + 1 := ⟨m - 1, by omega⟩
    obtain ⟨m', rfl⟩ : ∃ j, m' = j + 1 + 1 := ⟨m' - 2, by omega⟩
    have q5 : qin (nI n) 5 = true := qin_nI (by omega) (by omega)
    have ixn : ix (nI n) = n := ix_nI (by omega)
    have e4 : (3 : Int32) * ((16 : Int32) * nI n + nI i) = nI (3 * (16 * n + i)) := by rw [lm_16, nI_add, lm_3]
    rw [f5_readScript_L12, if_neg (show ¬ (16 : Int32) ≤ nI i from nI_ge (b := 16) (by omega) (by omega)), f9_readScript_L19, if_neg (by decide), q5, qg_t, ixn, s.2.1, e4]
    have j0 : ∀ (hz : qH), (fun (x9 : Int32) (h10 : qH) => qlt (if x9 = 0 then (0 : Int32) else 1) fun x14 => qlt (qw h10 0 3 (h10.1 0 3 + x14)) fun h15 => f9_readScript_L19 (nI n) kM (m' + 1) x9 h15) 0 hz = f9_readScript_L19 (nI n) kM (m' + 1) 0 (qw hz 0 3 (hz.1 0 3)) := fun hz => by
      simp only [qlt_e, if_true, Int32.add_zero]
    have j1 : ∀ (hz : qH), (fun (x9 : Int32) (h10 : qH) => qlt (if x9 = 0 then (0 : Int32) else 1) fun x14 => qlt (qw h10 0 3 (h10.1 0 3 + x14)) fun h15 => f9_readScript_L19 (nI n) kM (m' + 1) x9 h15) 1 hz = f9_readScript_L19 (nI n) kM (m' + 1) 1 (qw hz 0 3 (hz.1 0 3 + 1)) := fun hz => by
      simp only [qlt_e, if_neg (show ¬ (1 : Int32) = 0 by decide)]
    have fin : ∀ (hz : qH), f9_readScript_L19 (nI n) kM (m' + 1) 0 hz = kM 0 hz := fun hz => by rw [f9_readScript_L19, if_pos rfl]
    rcases h.rstep (i := i) (n := n) (by omega) hn s.1 with ⟨p', act, a, b, hx', hm', ha, h7, r, ex, em, x1, x2, x39, x40, x41, x42, m1, m2, mt, mt1, mt2, mo⟩ | ⟨q, hx', hm', hq, ex, em, e04, rx, m1, m2, mo⟩
    · rw [ex, em, qb2_s, bind_s, if_pos rfl, qg_t, qg_t, m1 8 (by omega) (by omega), s.2.1, nI_1, qlt_e, qj_e]
      let y1 : qH := qw hm' 8 n (nI (i + 1))
      have dx1 : DX hx hx' := ⟨x1, x2⟩
      have dm1 : DM n hm y1 := ⟨fun c c1 c2 c3 => (qrow_ne c3).trans (m1 c c1 c2), fun j j1 j2 => by rw [qrow_ne (by omega)]; exact m2 j j1 j2, fun j j1 => by rw [qrow_at, upd_ne j1, m1 8 (by omega) (by omega)], fun k hk => by rw [qrow_ne (by omega)]; exact mo k (by omega) (by omega) (by omega)⟩
      have r1 : RD L p' hx' y1 := ⟨r.1.cg rfl rfl (by rw [qrow_ne (by omega)]) (qrow_ne (by omega)), r.2.1, by rw [qrow_ne (by omega)]; exact r.2.2.1, r.2.2.2.1, by rw [qrow_ne (by omega)]; exact r.2.2.2.2⟩
      have s1 : SD n (i + 1) hx' y1 := by
        have y7 : y1.1 7 = hm'.1 7 := qrow_ne (by omega)
        refine ⟨by rw [x39, upd_at], by rw [qrow_at, upd_at], fun k hk => ?_⟩
        rw [y7, x40, x41, x42]
        by_cases e : k = i
        · subst e
          rw [upd_at, upd_at, upd_at]
          exact ⟨act, ha, rfl, mt, mt1.symm, mt2.symm, h7⟩
        · rw [upd_ne e, upd_ne e, upd_ne e, mo (3 * (16 * n + k)) (by omega) (by omega) (by omega), mo (3 * (16 * n + k) + 1) (by omega) (by omega) (by omega), mo (3 * (16 * n + k) + 2) (by omega) (by omega) (by omega)]
          exact s.2.2 k (by omega)
      show SR n hx hm _ (if y1.1 0 4 = -1 then _ else _)
      rw [if_pos r1.2.2.2.2]
      show SR n hx hm (qb2 (f5_nextSign hx') _) (qb2 (f9_ahead y1) _)
      obtain ⟨p2, x2', y2, a1, a2, a3, a4, a5, a6, a7, a8⟩ := r1.nx
      have s2 := s1.rd a3 a4
      have y21 : y2.1 1 = y1.1 1 := a4.1 1 (by omega)
      rw [a7, a8, qb2_s, qb2_s]
      by_cases c1 : sg L (y1.1 1) p2 = -1
      · left
        rw [if_pos c1, c1, if_neg (show ¬ (-1 : Int32) = 59 by decide), j0, a2.2.2.1, fin, kM_ok (a2.p0 rfl) (by rw [qrow_ne (by omega), y21]; exact c1)]
        exact ⟨i + 1, x2', _, by omega, by omega, rfl, rfl, s2.rd RX.rf (RM.at (Or.inl rfl)), dx1.tr a3.dx, (dm1.tr a4.dm).tr (RM.at (Or.inl rfl)).dm⟩
      · rw [if_neg c1]
        have bad : SR n hx hm (some (x2'.1 3 4, x2')) (f9_readScript_L19 (nI n) kM (m' + 1) 0 (qw y2 0 3 (nI p2))) := by
          right
          rw [fin, kM_bad (a2.p0 rfl) (by rw [qrow_ne (by omega), y21]; exact a6) (by rw [qrow_ne (by omega), y21]; exact c1), a2.2.1]
          exact ⟨p2, x2', _, by have := a2.2.2.2.1; omega, rfl, rfl, dx1.tr a3.dx, ((dm1.tr a4.dm).tr (RM.at (Or.inl rfl)).dm).tr (RM.at (Or.inr rfl)).dm⟩
        by_cases c2 : sg L (y1.1 1) p2 = 59
        · rw [if_pos c2, if_pos c2, qg_t, s2.1, s2.2.1]
          by_cases c3 : i + 1 = 16
          · rw [c3, if_pos (show nI 16 = (16 : Int32) by decide), if_pos (show (16 : Int32) ≤ nI 16 by decide), j0, a2.2.2.1]
            exact bad
          · have hp2 : p2 < L := by
              rcases Nat.lt_or_ge p2 L with g | g
              · exact g
              · exact absurd (show sg L (y1.1 1) p2 = -1 from if_neg (by omega)) c1
            rw [if_neg (show ¬ nI (i + 1) = (16 : Int32) from fun e => c3 (nI_inj (b := 16) (by omega) (by omega) e)), if_neg (show ¬ (16 : Int32) ≤ nI (i + 1) from nI_ge (b := 16) (by omega) (by omega)), j1, qlt_e, qlt_e, a2.2.1, a2.2.2.1, nI_1]
            have r3 := a2.step hp2
            rcases ih (d - 1) (by omega) (i + 1) (p2 + 1) _ _ (by omega) r3 (s2.rd (RX.at (Or.inl rfl)) (RM.at (Or.inl rfl))) kx m (m' + 1) (by omega) (by omega) with ⟨c, xx, yy, b1, b2, b3, b4, b5, b6, b7⟩ | ⟨q, xx, yy, b1, b2, b3, b4, b5⟩
            · exact Or.inl ⟨c, xx, yy, b1, b2, b3, b4, b5, ((dx1.tr a3.dx).tr (RX.at (Or.inl rfl)).dx).tr b6, ((dm1.tr a4.dm).tr (RM.at (Or.inl rfl)).dm).tr b7⟩
            · exact Or.inr ⟨q, xx, yy, b1, b2, b3, ((dx1.tr a3.dx).tr (RX.at (Or.inl rfl)).dx).tr b4, ((dm1.tr a4.dm).tr (RM.at (Or.inl rfl)).dm).tr b5⟩
        · rw [if_neg c2, if_neg c2, j0, a2.2.2.1]
          exact bad
    · right
      rw [ex, em, qb2_s, bind_s, if_neg (nI_m1 (by omega)), qg_t, qg_t, m1 8 (by omega) (by omega), s.2.1, nI_1, qlt_e, qj_e]
      have y04 : (qw hm' 8 n (nI (i + 1))).1 0 4 = nI q := by rw [qrow_ne (by omega)]; exact e04
      rw [y04, if_neg (nI_m1 (by omega)), j0, fin, kM_was (q := q) (by rw [qrow_at, upd_ne (by omega)]; exact y04) hq]
      have dm1 : DM n hm (qw hm' 8 n (nI (i + 1))) := ⟨fun c c1 c2 c3 => (qrow_ne c3).trans (m1 c c1 c2), fun j j1 j2 => by rw [qrow_ne (by omega)]; exact m2 j j1 j2, fun j j1 => by rw [qrow_at, upd_ne j1, m1 8 (by omega) (by omega)], fun k hk => by rw [qrow_ne (by omega)]; exact mo k (by omega) (by omega) (by omega)⟩
      exact ⟨q, hx', _, hq, rfl, rfl, rx.dx, dm1.tr (RM.at (Or.inl rfl)).dm⟩
theorem script_eq (h : BY L hx hm) (hn : n ≤ 4) : SR n hx hm (f5_readScript 39 hx) (f9_readScript (nI n) hm) := by
  have q5 : qin (nI n) 5 = true := qin_nI (by omega) (by omega)
  have ixn : ix (nI n) = n := ix_nI (by omega)
  unfold f5_readScript f9_readScript
  rw [qlt_e, qlt_e, qlt_e, qlt_e, q5, qg_t, qlt_e, ixn]
  let x2 : qH := qw (qw hx 39 3 0) 3 4 0
  let y3 : qH := qw (qw (qw hm 0 3 0) 0 4 (-1)) 8 n 0
  have dx : DX hx x2 := ⟨fun c c1 c2 => by rw [qrow_ne c1, qrow_ne (by omega)], fun j j1 j2 => by rw [qrow_at, upd_ne j1, qrow_ne (by omega)]⟩
  have dm : DM n hm y3 := ⟨fun c c1 c2 c3 => by rw [qrow_ne c3, qrow_ne c1, qrow_ne c1], fun j j1 j2 => by rw [qrow_ne (by omega), qrow_at, upd_ne j2, qrow_at, upd_ne j1], fun j j1 => by rw [qrow_at, upd_ne j1, qrow_ne (by omega), qrow_ne (by omega)], fun k _ => by rw [qrow_ne (by omega), qrow_ne (by omega), qrow_ne (by omega)]⟩
  have r : RD L 0 x2 y3 := by
    refine ⟨h.cg ?_ ?_ ?_ ?_, ?_, ?_, by omega, ?_⟩
    · rw [qrow_ne (by omega), qrow_ne (by omega)]
    · rw [qrow_ne (by omega), qrow_ne (by omega)]
    · rw [qrow_ne (by omega), qrow_at, upd_ne (by omega), qrow_at, upd_ne (by omega)]
    · rw [qrow_ne (by omega), qrow_ne (by omega), qrow_ne (by omega)]
    · rw [qrow_at, upd_at]; rfl
    · rw [qrow_ne (by omega), qrow_at, upd_ne (by omega), qrow_at, upd_at]; rfl
    · rw [qrow_ne (by omega), qrow_at, upd_at]
  have s : SD n 0 x2 y3 := ⟨by rw [qrow_ne (by omega), qrow_at, upd_at]; rfl, by rw [qrow_at, upd_at]; rfl, fun k hk => absurd hk (by omega)⟩
  have z := RD.rscript hn 15 0 0 x2 y3 rfl r s (fun _ h17 => some (h17.1 3 4, h17)) qN qN (qN_lt (by omega)) (qN_lt (by omega))
  rcases z with ⟨c, xx, yy, b1, b2, b3, b4, b5, b6, b7⟩ | ⟨q, xx, yy, b1, b2, b3, b4, b5⟩
  · exact Or.inl ⟨c, xx, yy, b1, b2, b3, b4, b5, dx.tr b6, dm.tr b7⟩
  · exact Or.inr ⟨q, xx, yy, b1, b2, b3, dx.tr b4, dm.tr b5⟩
end PM2
