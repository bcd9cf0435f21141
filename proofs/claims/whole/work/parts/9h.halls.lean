section PM8
variable {L p T FT : Nat} {sf : Bool} {hx hm : qH}
def HO (hx hm : qH) (ox om : Option (Int32 × qH)) : Prop := (∃ (T : Nat) (r : Nat → Nat) (FT : Nat) (hx' hm' : qH), DR T r FT hx' hm' ∧ ox = some (-1, hx') ∧ om = some (-1, hm') ∧ GX hx hx' ∧ GM hm hm') ∨ ∃ (q : Nat) (hx' hm' : qH), q ≤ 240 ∧ ox = some (nI q, hx') ∧ om = some (nI q, hm') ∧ GX hx hx' ∧ GM hm hm'
theorem HO.from {hx0 hm0 : qH} {ox om : Option (Int32 × qH)} (x : GX hx0 hx) (y : GM hm0 hm) (h : HO hx hm ox om) : HO hx0 hm0 ox om := by
  rcases h with ⟨T, r, FT, a, b, h1, h2, h3, h4, h5⟩ | ⟨q, a, b, h1, h2, h3, h4, h5⟩
  · exact Or.inl ⟨T, r, FT, a, b, h1, h2, h3, x.tr h4, y.tr h5⟩
  · exact Or.inr ⟨q, a, b, h1, h2, h3, x.tr h4, y.tr h5⟩
noncomputable def kX : Int32 → qH → Option (Int32 × qH) := fun (_ : Int32) (h15 : qH) =>
    qj (fun (x16 : Int32) =>
      some (x16, h15)) fun j17 =>
    if (h15.1 14 1) ≤ 0 then (
      j17 (h15.1 1 1))
    else (
      if (h15.1 (14 + 1) 0) < (h15.1 14 1) then (
        j17 (h15.1 1 1))
      else (
        j17 (-1 : Int32)))
theorem DQ.dr (d : DQ T FT sf hx hm) (h1 : 1 ≤ T) (h2 : ∀ w, hm.1 2 0 = nI w → w ≤ 10 → T ≤ w) : ∃ r, DR T r FT hx hm := by
  obtain ⟨⟨d1, d2, d3⟩, ⟨d4, d5, d6⟩, -, d7, d8, d9⟩ := d
  obtain ⟨r, hr⟩ : ∃ r : Nat → Nat, ∀ k, k < 8 → lowN k ≤ r k ∧ r k ≤ highN k ∧ hx.1 15 k = nI (r k) ∧ hm.1 2 k = nI (r k) := by
    refine ⟨fun k => if hk : k < 8 then (d7 k hk).choose else 0, fun k hk => ?_⟩
    simp only [dif_pos hk]
    exact (d7 k hk).choose_spec
  have r0 : 4 ≤ r 0 ∧ r 0 ≤ 10 := ⟨(hr 0 (by omega)).1, (hr 0 (by omega)).2.1⟩
  have r1 : 1 ≤ r 1 ∧ r 1 ≤ 3 := ⟨(hr 1 (by omega)).1, (hr 1 (by omega)).2.1⟩
  have r2 : 4 ≤ r 2 ∧ r 2 ≤ 16 := ⟨(hr 2 (by omega)).1, (hr 2 (by omega)).2.1⟩
  have r3 : 1 ≤ r 3 ∧ r 3 ≤ 6 := ⟨(hr 3 (by omega)).1, (hr 3 (by omega)).2.1⟩
  have r4 : 1 ≤ r 4 ∧ r 4 ≤ 9 := ⟨(hr 4 (by omega)).1, (hr 4 (by omega)).2.1⟩
  have r5 : 1 ≤ r 5 ∧ r 5 ≤ 5 := ⟨(hr 5 (by omega)).1, (hr 5 (by omega)).2.1⟩
  have r6 : r 6 ≤ 99 := (hr 6 (by omega)).2.1
  have r7 : r 7 ≤ 99 := (hr 7 (by omega)).2.1
  exact ⟨r, ⟨h1, d3, h2 _ (hr 0 (by omega)).2.2.2 r0.2, r0.1, r0.2, r1.1, r1.2, r2.1, r2.2, r3.1, r3.2, r4.1, r4.2, r5.1, r5.2, r6, r7⟩, ⟨d1, d2⟩, ⟨d4, d5, d6⟩, fun k hk => (hr k hk).2.2, d8, d9⟩
theorem RD.atEnd (h : RD L p hx hm) (e : sg L (hm.1 1) p = -1) : p = L := by
  rcases sg_nI h.1 p with ⟨-, c, c1, c2, e'⟩ | ⟨g, -⟩
  · rw [e] at e'
    exact absurd e'.symm (nI_m1 (by omega))
  · have := h.2.2.2.1
    omega
theorem hallLoop : ∀ (d c p T FT : Nat) (sf : Bool) (hx hm : qH), c = T + FT + fn sf → c + d = 34 → RD L p hx hm → DQ T FT sf hx hm → ∀ m m', d + 1 < m → d + 2 < m' → HO hx hm (f5_readHall_L16 14 kX m (nI c) hx) (f9_readHall_L50 kH m' (fl sf) 1 hm) := by
  intro d
  induction d with
  | zero =>
    intro c p T FT sf hx hm hc hd h dq
    exfalso
    have := dq.1.2.2
    have := dq.2.1.2.2
    have f1 : fn sf ≤ 1 := by cases sf <;> decide
    omega
  | succ d ih =>
    intro c p T FT sf hx hm hc hd h dq m m' h1 h2
    have hL := h.1.2.2.1
    obtain ⟨m, rfl⟩ : ∃ j, m = j + 1 := ⟨m - 1, by omega⟩
    obtain ⟨m', rfl⟩ : ∃ j, m' = j + 1 + 1 := ⟨m' - 2, by omega⟩
    rw [f5_readHall_L16, if_neg (show ¬ (240 : Int32) < nI c from nI_nlt (a := 240) (by omega) (by omega))]
    rcases h.clause dq with ⟨p', T', FT', sf', x', y', e1, e2, r, dq', s, hs, gx, gm⟩ | ⟨q, x, x', y', hq, e1, e2, e4, gx, gm⟩ | ⟨p', x, x', y', e1, e2, r, s1, s2, s3, gx, gm⟩
    · rw [e1, qb2_s, if_pos rfl, r.sx, bind_s, e2 (m' + 1)]
      rcases s with s | s
      · have hp := r.atEnd s
        subst hp
        rw [if_pos s, jH_stop r (by rw [s]; decide) (by rw [s]; decide), kH_end (r.p0 rfl) (by rw [qrow_ne (by omega)]; exact s)]
        have r3 : RD p' p' x' (qw y' 0 3 (nI p')) := r.p0 rfl
        have gm2 : GM y' (qw y' 0 3 (nI p')) := (RM.at (Or.inl rfl)).gm
        have dq2 : DQ T' FT' sf' x' (qw y' 0 3 (nI p')) := dq'.rd RX.rf (RM.at (Or.inl rfl))
        obtain ⟨w, w1, w2, w3, w4⟩ := dq2.2.2.2.1 0 (by omega)
        have w2 : w ≤ 10 := w2
        have t8 := dq2.1.2.2
        rw [dq2.1.2.1, w4]
        unfold kX
        have xb : x'.1 1 1 = nI p' := r.1.1
        rw [qj_e, dq2.1.1, show (14 : Nat) + 1 = 15 from rfl, w3]
        by_cases t0 : T' = 0
        · subst t0
          rw [if_pos (show nI 0 ≤ 0 by decide), if_pos (show nI 0 = 0 from rfl)]
          right
          exact ⟨p', x', _, hL, by show some (x'.1 1 1, x') = _
                                   rw [xb], rfl, gx, (gm.tr gm2).tr (RM.at (Or.inr rfl)).gm⟩
        · rw [if_neg (show ¬ nI T' ≤ 0 from nI_ge (b := T') (a := 0) (by omega) (by omega)), if_neg (show ¬ nI T' = 0 from fun z => t0 (nI_inj (b := 0) (by omega) (by omega) z))]
          by_cases tw : T' ≤ w
          · rw [if_neg (nI_nlt tw (by omega)), if_pos (nI_le tw (by omega))]
            left
            obtain ⟨rr, hdr⟩ := dq2.dr (by omega) (fun w' e' l' => by
              have := nI_inj (by omega) (by omega) (w4.symm.trans e')
              omega)
            exact ⟨T', rr, FT', x', _, hdr, rfl, rfl, gx, gm.tr gm2⟩
          · rw [if_pos (nI_lt (by omega) (by omega)), if_neg (nI_ge (by omega) (by omega))]
            right
            exact ⟨p', x', _, hL, by show some (x'.1 1 1, x') = _
                                     rw [xb], rfl, gx, (gm.tr gm2).tr (RM.at (Or.inr rfl)).gm⟩
      · have hp : p' < L := by
          rcases Nat.lt_or_ge p' L with g | g
          · exact g
          · exact absurd ((show sg L (y'.1 1) p' = -1 from if_neg (by omega)).symm.trans s) (by decide)
        rw [if_neg (by rw [s]; decide), jH_more r s, qlt_e, qlt_e, r.2.1, nI_1, nI_1]
        exact (ih (c + 1) (p' + 1) T' FT' sf' _ _ (by omega) (by omega) (r.step hp) (dq'.rd (RX.at (Or.inl rfl)) (RM.at (Or.inl rfl))) m (m' + 1) (by omega) (by omega)).from (gx.tr (RX.at (Or.inl rfl)).gx) (gm.tr (RM.at (Or.inl rfl)).gm)
    · right
      rw [e1, qb2_s, if_neg (nI_m1 (by omega)), e2 (m' + 1), jH_was e4 hq]
      exact ⟨q, x', _, hq, rfl, rfl, gx, gm.tr (RM.at (Or.inl rfl)).gm⟩
    · right
      have hp := r.2.2.2.1
      rw [e1, qb2_s, if_neg (nI_m1 (by omega)), e2 (m' + 1), jH_stop r s3 s2, kH_bad (r.p0 rfl) (by rw [qrow_ne (by omega)]; exact s3) (by rw [qrow_ne (by omega)]; exact s1)]
      exact ⟨p', x', _, by omega, rfl, rfl, gx, (gm.tr (RM.at (Or.inl rfl)).gm).tr (RM.at (Or.inr rfl)).gm⟩
theorem usualLoop : ∀ (d i : Nat) (hm : qH), i + d = 8 → ∃ hm', (∀ c, c ≠ 2 → hm'.1 c = hm.1 c) ∧ (∀ j, i ≤ j → j < 8 → hm'.1 2 j = nI (defN j)) ∧ (∀ j, j < i → hm'.1 2 j = hm.1 2 j) ∧ ∀ kx m, d < m → f9_readHall_L24 kx m (nI i) hm = kx (nI 8) hm' := by
  intro d
  induction d with
  | zero =>
    intro i hm hi
    refine ⟨hm, fun _ _ => rfl, fun j j1 j2 => by omega, fun j _ => rfl, fun kx m h => ?_⟩
    obtain ⟨m, rfl⟩ : ∃ j, m = j + 1 := ⟨m - 1, by omega⟩
    rw [f9_readHall_L24, if_pos (show (8 : Int32) ≤ nI i from nI_le (a := 8) (by omega) (by omega)), show i = 8 by omega]
  | succ d ih =>
    intro i hm hi
    obtain ⟨hm', a1, a2, a3, a4⟩ := ih (i + 1) (qw hm 2 i (nI (defN i))) (by omega)
    refine ⟨hm', fun c c2 => by rw [a1 c c2, qrow_ne c2], fun j j1 j2 => ?_, fun j hj => ?_, fun kx m h => ?_⟩
    · by_cases e : j = i
      · subst e
        rw [a3 j (by omega), qrow_at, upd_at]
      · exact a2 j (by omega) j2
    · rw [a3 j (by omega), qrow_at, upd_ne (by omega)]
    · obtain ⟨m, rfl⟩ : ∃ j, m = j + 1 := ⟨m - 1, by omega⟩
      have u : f9_usual 115 (nI i) hm = some (nI (defN i)) := by
        have z := usual_eq (k := 0) (v := i) (h := hm) (by omega) (show i < 8 by omega)
        have z : f9_usual 115 (nI i) hm = some (nI (defN (0 + i))) := z
        rwa [Nat.zero_add] at z
      rw [f9_readHall_L24, if_neg (show ¬ (8 : Int32) ≤ nI i from nI_ge (b := 8) (by omega) (by omega)), u, bind_s, qin_nI (show i < 8 by omega) (by omega), qg_t, qlt_e, qlt_e, ix_nI (by omega), nI_1]
      exact a4 kx m (by omega)
theorem hall_eq (h : BY L hx hm) : HO hx hm (f5_readHall 14 hx) (f9_readHall hm) := by
  let y4 : qH := qw (qw (qw (qw hm 0 3 0) 0 4 (-1)) 0 8 0) 0 9 0
  obtain ⟨y5, b1, b2, -, b4⟩ := usualLoop 8 0 y4 rfl
  let x3 : qH := qrow (qw (qw hx 14 1 0) 14 4 0) 15 (va_cpy stDefaults ((qw (qw hx 14 1 0) 14 4 0).1 15) 0 0 8)
  let x5 : qH := qw (qw x3 3 3 0) 3 4 0
  have gx : GX hx x5 := fun c c1 _ _ c4 => by rw [qrow_ne c1, qrow_ne c1, qrow_ne (by omega), qrow_ne (by omega), qrow_ne (by omega)]
  have y40 : ∀ j, j ≠ 3 → j ≠ 4 → j ≠ 8 → j ≠ 9 → y4.1 0 j = hm.1 0 j := fun j j1 j2 j3 j4 => by rw [qrow_at, upd_ne j4, qrow_at, upd_ne j3, qrow_at, upd_ne j2, qrow_at, upd_ne j1]
  have y4o : ∀ c, c ≠ 0 → y4.1 c = hm.1 c := fun c c1 => by rw [qrow_ne c1, qrow_ne c1, qrow_ne c1, qrow_ne c1]
  have gm : GM hm y5 := ⟨fun c c1 c2 _ _ => by rw [b1 c c2, y4o c c1], fun j j1 j2 j3 j4 => by rw [b1 0 (by omega), y40 j j1 j2 j3 j4]⟩
  have r : RD L 0 x5 y5 := by
    refine ⟨h.cg ?_ (gx 2 (by omega) (by omega) (by omega) (by omega)) (gm.2 2 (by omega) (by omega) (by omega) (by omega)) (gm.1 1 (by omega) (by omega) (by omega) (by omega)), ?_, ?_, by omega, ?_⟩
    · rw [gx 1 (by omega) (by omega) (by omega) (by omega)]
    · rw [qrow_at, upd_at]; rfl
    · rw [b1 0 (by omega), qrow_at, upd_ne (by omega), qrow_at, upd_ne (by omega), qrow_at, upd_ne (by omega), qrow_at, upd_at]; rfl
    · rw [b1 0 (by omega), qrow_at, upd_ne (by omega), qrow_at, upd_ne (by omega), qrow_at, upd_at]
  have x514 : x5.1 14 = upd (upd (hx.1 14) 1 0) 4 0 := by rw [qrow_ne (by omega), qrow_ne (by omega), qrow_ne (by omega), qrow_at, qrow_at]
  have x515 : x5.1 15 = va_cpy stDefaults ((qw (qw hx 14 1 0) 14 4 0).1 15) 0 0 8 := by rw [qrow_ne (by omega), qrow_ne (by omega), qrow_at]
  have dq : DQ 0 0 false x5 y5 := by
    refine ⟨⟨?_, ?_, by omega⟩, ⟨?_, ?_, by omega⟩, ?_, fun k hk => ⟨defN k, (st_low k (by omega)).2.2.2.2.2.1, (st_low k (by omega)).2.2.2.2.2.2, ?_, b2 k (by omega) hk⟩, fun t ht => absurd ht (by omega), fun t ht => absurd ht (by omega)⟩
    · rw [x514, upd_ne (by omega), upd_at]; rfl
    · rw [b1 0 (by omega), qrow_at, upd_ne (by omega), qrow_at, upd_at]; rfl
    · rw [x514, upd_at]; rfl
    · rw [b1 0 (by omega), qrow_at, upd_at]; rfl
    · rw [qrow_at, upd_ne (by omega), qrow_at, upd_at]; rfl
    · rw [x515]
      show (if 0 ≤ k ∧ k < 0 + 8 then stDefaults (0 + (k - 0)) else _) = _
      rw [if_pos ⟨by omega, by omega⟩, show 0 + (k - 0) = k by omega]
      exact (st_low k (by omega)).2.2.1
  have cl : f4_clear 14 hx = some x3 := by
    unfold f4_clear f4_setRules_st
    rw [qlt_e, qlt_e, show qcp (0 : Int32) 0 8 12 8 = true from by decide, qg_t, qlt_e, bind_s]
    rfl
  have z := (hallLoop 34 0 0 0 0 false x5 y5 rfl rfl r dq qN qN (qN_lt (by omega)) (qN_lt (by omega))).from gx gm
  unfold f5_readHall f9_readHall
  rw [cl, bind_s, qlt_e, qlt_e, qlt_e, qlt_e, qlt_e, qlt_e]
  have b4' := b4 (fun (_ : Int32) (h12 : qH) => f9_readHall_L50 kH qN (0 : Int32) (1 : Int32) h12) qN (qN_lt (by omega))
  refine Eq.subst (motive := fun o => HO hx hm (f5_readHall_L16 14 kX qN (nI 0) x5) o) (Eq.symm b4') z
end PM8
