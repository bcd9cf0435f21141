section PM6
variable {L p T FT : Nat} {sf : Bool} {hx hm : qH}
def fl (b : Bool) : Int32 := if b = true then 1 else 0
def fn (b : Bool) : Nat := if b = true then 1 else 0
/-- the draft of a hall so far -/
def DQ (T FT : Nat) (sf : Bool) (hx hm : qH) : Prop := (hx.1 14 1 = nI T ∧ hm.1 0 8 = nI T ∧ T ≤ 8) ∧ (hx.1 14 4 = nI FT ∧ hm.1 0 9 = nI FT ∧ FT ≤ 24) ∧ hx.1 3 3 = fl sf ∧ (∀ k, k < 8 → ∃ w, lowN k ≤ w ∧ w ≤ highN k ∧ hx.1 15 k = nI w ∧ hm.1 2 k = nI w) ∧ (∀ t, t < T → hx.1 16 t = hm.1 3 (2 * t) ∧ hx.1 17 t = hm.1 3 (2 * t + 1)) ∧ ∀ i, i < FT → ∃ u c, u ≤ 7 ∧ 1 ≤ c ∧ c ≤ 9 ∧ hx.1 18 i = nI u ∧ hm.1 4 (2 * i) = nI u ∧ hx.1 19 i = nI c ∧ hm.1 4 (2 * i + 1) = nI c
theorem DQ.rd {hx' hm' : qH} (d : DQ T FT sf hx hm) (x : RX hx hx') (y : RM hm hm') : DQ T FT sf hx' hm' := by
  unfold DQ at d ⊢
  rw [x.1 14 (by omega), x.1 15 (by omega), x.1 16 (by omega), x.1 17 (by omega), x.1 18 (by omega), x.1 19 (by omega), x.2.1 3 (by omega) (by omega), y.2.1 8 (by omega) (by omega), y.2.1 9 (by omega) (by omega), y.1 2 (by omega), y.1 3 (by omega), y.1 4 (by omega)]
  exact d
def GX (hx hx' : qH) : Prop := ∀ c, c ≠ 3 → c ≠ 4 → c ≠ 5 → ¬ (14 ≤ c ∧ c ≤ 19) → hx'.1 c = hx.1 c
def GM (hm hm' : qH) : Prop := (∀ c, c ≠ 0 → c ≠ 2 → c ≠ 3 → c ≠ 4 → hm'.1 c = hm.1 c) ∧ ∀ j, j ≠ 3 → j ≠ 4 → j ≠ 8 → j ≠ 9 → hm'.1 0 j = hm.1 0 j
theorem GX.tr {h h1 h2 : qH} (x : GX h h1) (y : GX h1 h2) : GX h h2 := fun c c1 c2 c3 c4 => (y c c1 c2 c3 c4).trans (x c c1 c2 c3 c4)
theorem GM.tr {h h1 h2 : qH} (x : GM h h1) (y : GM h1 h2) : GM h h2 := ⟨fun c c1 c2 c3 c4 => (y.1 c c1 c2 c3 c4).trans (x.1 c c1 c2 c3 c4), fun c c1 c2 c3 c4 => (y.2 c c1 c2 c3 c4).trans (x.2 c c1 c2 c3 c4)⟩
theorem RX.gx {h h' : qH} (x : RX h h') : GX h h' := fun c c1 _ _ _ => x.1 c c1
theorem RM.gm {h h' : qH} (x : RM h h') : GM h h' := ⟨fun c c1 _ _ _ => x.1 c c1, fun j j1 j2 _ _ => x.2.1 j j1 j2⟩
theorem JX.gx {h h' : qH} (x : JX h h') : GX h h' := fun c c1 c2 c3 _ => x.1 c c1 c2 c3
theorem JM.gm {row base n : Nat} {h h' : qH} (hr : row = 2 ∨ row = 3 ∨ row = 4) (x : JM row base n h h') : GM h h' := ⟨fun c c1 c2 c3 c4 => x.1 c c1 (by omega), fun j j1 j2 _ _ => x.2.1 j j1 j2⟩
theorem GX.w {h : qH} {c j : Nat} {v : Int32} (hc : 14 ≤ c ∧ c ≤ 19) : GX h (qw h c j v) := fun b _ _ _ b4 => qrow_ne (by omega)
theorem GM.w {h : qH} {j : Nat} {v : Int32} (hj : j = 8 ∨ j = 9) : GM h (qw h 0 j v) := ⟨fun b b1 _ _ _ => qrow_ne b1, fun i _ _ _ _ => by rw [qrow_at, upd_ne (by omega)]⟩
theorem RD.up {hx' hm' : qH} (h : RD L p hx hm) (x : GX hx hx') (y : GM hm hm') (x4 : hx'.1 3 4 = hx.1 3 4) (y3 : hm'.1 0 3 = hm.1 0 3) (y4 : hm'.1 0 4 = hm.1 0 4) : RD L p hx' hm' := ⟨h.1.cg (by rw [x 1 (by omega) (by omega) (by omega) (by omega)]) (x 2 (by omega) (by omega) (by omega) (by omega)) (y.2 2 (by omega) (by omega) (by omega) (by omega)) (y.1 1 (by omega) (by omega) (by omega) (by omega)), x4.trans h.2.1, y3.trans h.2.2.1, h.2.2.2.1, y4.trans h.2.2.2.2⟩
/-- how a clause's reading ends -/
def CO (L T FT : Nat) (sf : Bool) (hx hm : qH) (ox : Option (Int32 × qH)) : Prop :=
  (∃ (p' T' FT' : Nat) (sf' : Bool) (hx' hm' : qH), ox = some (-1, hx') ∧ (∀ n, f9_readHall_L50 kH (n + 1) (fl sf) 1 hm = jH n (fl sf') hm') ∧ RD L p' hx' hm' ∧ DQ T' FT' sf' hx' hm' ∧ (sg L (hm'.1 1) p' = -1 ∨ sg L (hm'.1 1) p' = 59) ∧ T' + FT' + fn sf' = T + FT + fn sf + 1 ∧ GX hx hx' ∧ GM hm hm') ∨
  (∃ (q : Nat) (x : Int32) (hx' hm' : qH), q ≤ 240 ∧ ox = some (nI q, hx') ∧ (∀ n, f9_readHall_L50 kH (n + 1) (fl sf) 1 hm = jH n x hm') ∧ hm'.1 0 4 = nI q ∧ GX hx hx' ∧ GM hm hm') ∨
  ∃ (p' : Nat) (x : Int32) (hx' hm' : qH), ox = some (nI p', hx') ∧ (∀ n, f9_readHall_L50 kH (n + 1) (fl sf) 1 hm = jH n x hm') ∧ RD L p' hx' hm' ∧ ¬ sg L (hm'.1 1) p' = -1 ∧ ¬ sg L (hm'.1 1) p' = 59 ∧ ¬ sg L (hm'.1 1) p' = 32 ∧ GX hx hx' ∧ GM hm hm'
theorem fl_m {b : Bool} : qbo (fl b) = true := by cases b <;> rfl
theorem clause_s (h : RD L p hx hm) (d : DQ T FT false hx hm) {p1 : Nat} {x1 y1 : qH} (a2 : RD L p1 x1 y1) (a3 : RX hx x1) (a4 : RM hm y1) (a7 : f5_nextSign hx = some (115, x1)) (a8 : f9_ahead hm = some (115, y1)) (hp : p1 < L) : CO L T FT false hx hm (f5_readClause 14 hx) := by
  have d1 := d.rd a3 a4
  have hL := h.1.2.2.1
  have st := a2.step hp
  have i0 : f5_indexIn 210 115 x1 = some 0 := idx0 (c := 115) (by omega) (by omega)
  have tm : f5_isOneTooMany 0 14 x1 = some 0 := by
    unfold f5_isOneTooMany
    rw [if_pos rfl, d1.2.2.1, fl_m, qg_t]
    rfl
  have ref : ∀ n, f9_readHall_L50 kH (n + 1) (fl false) 1 hm = (f9_items 115 2 8 0 8 (qw y1 0 3 (nI (p1 + 1)))).bind fun h57 => jH n 1 h57 := fun n => by
    have z := L50_s (n := n) h.2.2.2.2 a8
    rw [a2.2.2.1, nI_1] at z
    exact z
  unfold f5_readClause
  rw [a7, qb2_s, i0, bind_s, if_neg (by decide), tm, bind_s, if_pos rfl, qlt_e, a2.2.1, nI_1, show qin (0 : Int32) 4 = true from rfl, show qin ((0 : Int32) + 1) 4 = true from rfl, qg_t, qg_t]
  show CO L T FT false hx hm (qb2 (f5_readItems 0 8 (qw x1 3 4 (nI (p1 + 1)))) _)
  rcases items_eq (k := 0) (row := 2) (np := 8) (base := 0) (by omega) (by omega) (by decide) (by omega) st with ⟨p', x', y', e1, e2, r, s, ⟨f, it⟩, jx, jm⟩ | ⟨q, x', y', hq, e1, e2, e4, jx, jm⟩ | ⟨p', x', y', e1, e2, r, s1, s2, s3, jx, jm⟩
  · left
    have e1 : f5_readItems 0 8 (qw x1 3 4 (nI (p1 + 1))) = some (-1, x') := e1
    have e2 : f9_items 115 2 8 0 8 (qw y1 0 3 (nI (p1 + 1))) = some y' := e2
    let x3 : qH := qw x' 3 3 1
    let x4 : qH := qrow x3 15 (va_cpy (x3.1 4) (x3.1 15) 0 0 8)
    have gx : GX x' x4 := fun c c1 c2 c3 c4 => by rw [qrow_ne (by omega), qrow_ne c1]
    have x43 : x4.1 3 = upd (x'.1 3) 3 1 := by rw [qrow_ne (by omega), qrow_at]
    have ux : ∀ c, c ≠ 3 → c ≠ 15 → x4.1 c = x'.1 c := fun c c1 c2 => by rw [qrow_ne c2, qrow_ne c1]
    have GXa : GX hx x' := (a3.gx.tr (RX.at (Or.inl rfl)).gx).tr jx.gx
    have GMa : GM hm y' := (a4.gm.tr (RM.at (Or.inl rfl)).gm).tr (jm.gm (Or.inl rfl))
    rw [e1, qb2_s, if_pos rfl, qj_e, if_pos rfl, qlt_e]
    have sr : f4_setRules 14 4 12 x3 = some x4 := by
      unfold f4_setRules
      rw [show qcp (0 : Int32) 0 8 12 8 = true from by decide, qg_t, qlt_e]
      rfl
    refine ⟨p', T, FT, true, x4, y', by rw [sr, bind_s], fun n => by rw [ref, e2, bind_s]; rfl, r.up gx ⟨fun _ _ _ _ _ => rfl, fun _ _ _ _ _ => rfl⟩ (by rw [x43, upd_ne (by omega)]) rfl rfl, ?_, s, rfl, GXa.tr gx, GMa⟩
    have o : ∀ c, 14 ≤ c → x'.1 c = x1.1 c := fun c c1 => by rw [jx.1 c (by omega) (by omega) (by omega), qrow_ne (by omega)]
    have om : ∀ c, c ≠ 0 → c ≠ 2 → y'.1 c = y1.1 c := fun c c1 c2 => by rw [jm.1 c c1 c2, qrow_ne c1]
    have o0 : ∀ j, j ≠ 3 → j ≠ 4 → y'.1 0 j = y1.1 0 j := fun j c1 c2 => by rw [jm.2.1 j c1 c2, qrow_at, upd_ne c1]
    refine ⟨?_, ?_, by rw [x43, upd_at]; rfl, fun k hk => ?_, ?_, ?_⟩
    · rw [ux 14 (by omega) (by omega), o 14 (by omega), o0 8 (by omega) (by omega)]; exact d1.1
    · rw [ux 14 (by omega) (by omega), o 14 (by omega), o0 9 (by omega) (by omega)]; exact d1.2.1
    · obtain ⟨w, w1, w2, w3, w4, -⟩ := it k hk
      have w3 : x'.1 4 (0 + k) = nI w := w3
      rw [Nat.zero_add] at w4 w3
      refine ⟨w, by have w1 : lowN (0 + k) ≤ w := w1
                    rwa [Nat.zero_add] at w1, by have w2 : w ≤ highN (0 + k) := w2
                                                 rwa [Nat.zero_add] at w2, ?_, w4⟩
      rw [qrow_at]
      show (if 0 ≤ k ∧ k < 0 + 8 then x3.1 4 (0 + (k - 0)) else _) = _
      rw [if_pos ⟨by omega, by omega⟩, qrow_ne (by omega), show 0 + (k - 0) = k by omega]
      exact w3
    · rw [ux 16 (by omega) (by omega), ux 17 (by omega) (by omega), o 16 (by omega), o 17 (by omega), om 3 (by omega) (by omega)]; exact d1.2.2.2.2.1
    · rw [ux 18 (by omega) (by omega), ux 19 (by omega) (by omega), o 18 (by omega), o 19 (by omega), om 4 (by omega) (by omega)]; exact d1.2.2.2.2.2
  · right; left
    have e1 : f5_readItems 0 8 (qw x1 3 4 (nI (p1 + 1))) = some (nI q, x') := e1
    have e2 : f9_items 115 2 8 0 8 (qw y1 0 3 (nI (p1 + 1))) = some y' := e2
    rw [e1, qb2_s, if_neg (nI_m1 (by omega))]
    exact ⟨q, 1, x', y', hq, rfl, fun n => by rw [ref, e2, bind_s], e4, (a3.gx.tr (RX.at (Or.inl rfl)).gx).tr jx.gx, (a4.gm.tr (RM.at (Or.inl rfl)).gm).tr (jm.gm (Or.inl rfl))⟩
  · right; right
    have e1 : f5_readItems 0 8 (qw x1 3 4 (nI (p1 + 1))) = some (nI p', x') := e1
    have e2 : f9_items 115 2 8 0 8 (qw y1 0 3 (nI (p1 + 1))) = some y' := e2
    rw [e1, qb2_s, if_neg (nI_m1 (by have := r.2.2.2.1; omega))]
    exact ⟨p', 1, x', y', rfl, fun n => by rw [ref, e2, bind_s], r, s1, s2, s3, (a3.gx.tr (RX.at (Or.inl rfl)).gx).tr jx.gx, (a4.gm.tr (RM.at (Or.inl rfl)).gm).tr (jm.gm (Or.inl rfl))⟩
theorem clause_t (h : RD L p hx hm) (d : DQ T FT sf hx hm) (hT : T < 8) {p1 : Nat} {x1 y1 : qH} (a2 : RD L p1 x1 y1) (a3 : RX hx x1) (a4 : RM hm y1) (a7 : f5_nextSign hx = some (116, x1)) (a8 : f9_ahead hm = some (116, y1)) (hp : p1 < L) : CO L T FT sf hx hm (f5_readClause 14 hx) := by
  have d1 := d.rd a3 a4
  have hL := h.1.2.2.1
  have st := a2.step hp
  have i0 : f5_indexIn 210 116 x1 = some 1 := idx0 (c := 116) (by omega) (by omega)
  have tm : f5_isOneTooMany 1 14 x1 = some 0 := by
    unfold f5_isOneTooMany
    rw [if_neg (by decide), if_pos rfl, d1.1.1, if_pos (show nI T < (8 : Int32) from nI_lt (b := 8) hT (by omega)), qlt_e]
    rfl
  have e2T : (2 : Int32) * nI T = nI (2 * T) := nI_mul 2 T
  have ref : ∀ n, f9_readHall_L50 kH (n + 1) (fl sf) 1 hm = (f9_items 116 3 16 (nI (2 * T)) 2 (qw y1 0 3 (nI (p1 + 1)))).bind fun h52 => jH n (fl sf) (qw h52 0 8 (h52.1 0 8 + 1)) := fun n => by
    have z := L50_t (n := n) (x := fl sf) h.2.2.2.2 a8 (by rw [d1.1.2.1]; exact nI_ge (b := 8) hT (by omega))
    rw [a2.2.2.1, nI_1, qrow_at, upd_ne (by omega), d1.1.2.1, e2T] at z
    exact z
  unfold f5_readClause
  rw [a7, qb2_s, i0, bind_s, if_neg (by decide), tm, bind_s, if_pos rfl, qlt_e, a2.2.1, nI_1, show qin (1 : Int32) 4 = true from rfl, show qin ((1 : Int32) + 1) 4 = true from rfl, qg_t, qg_t]
  show CO L T FT sf hx hm (qb2 (f5_readItems 8 10 (qw x1 3 4 (nI (p1 + 1)))) _)
  have gr : ∀ {y' : qH} {v : Int32}, JM 3 (2 * T) (kn 1) (qw y1 0 3 (nI (p1 + 1))) y' → GM hm (qw y' 0 8 v) := fun jm => ((a4.gm.tr (RM.at (Or.inl rfl)).gm).tr (jm.gm (Or.inr (Or.inl rfl)))).tr (GM.w (Or.inl rfl))
  rcases items_eq (k := 1) (row := 3) (np := 16) (base := 2 * T) (by omega) (by omega) (show 2 * T + 2 ≤ 16 by omega) (by omega) st with ⟨p', x', y', e1, e2, r, s, ⟨f, it⟩, jx, jm⟩ | ⟨q, x', y', hq, e1, e2, e4, jx, jm⟩ | ⟨p', x', y', e1, e2, r, s1, s2, s3, jx, jm⟩
  · left
    have e1 : f5_readItems 8 10 (qw x1 3 4 (nI (p1 + 1))) = some (-1, x') := e1
    have e2 : f9_items 116 3 16 (nI (2 * T)) 2 (qw y1 0 3 (nI (p1 + 1))) = some y' := e2
    have o : ∀ c, 14 ≤ c → x'.1 c = x1.1 c := fun c c1 => by rw [jx.1 c (by omega) (by omega) (by omega), qrow_ne (by omega)]
    have om : ∀ c, c ≠ 0 → c ≠ 3 → y'.1 c = y1.1 c := fun c c1 c2 => by rw [jm.1 c c1 c2, qrow_ne c1]
    have o0 : ∀ j, j ≠ 3 → j ≠ 4 → y'.1 0 j = y1.1 0 j := fun j c1 c2 => by rw [jm.2.1 j c1 c2, qrow_at, upd_ne c1]
    have o3 : ∀ j, ¬ (2 * T ≤ j ∧ j < 2 * T + 2) → y'.1 3 j = y1.1 3 j := fun j hj => by
      have := jm.2.2 j hj
      rw [this, qrow_ne (by omega)]
    have xT : x'.1 14 1 = nI T := by rw [o 14 (by omega)]; exact d1.1.1
    have yT : y'.1 0 8 = nI T := by rw [o0 8 (by omega) (by omega)]; exact d1.1.2.1
    let x4 : qH := qw (qw (qw x' 16 T (x'.1 4 8)) 17 T (x'.1 4 9)) 14 1 (nI (T + 1))
    let y4 : qH := qw y' 0 8 (nI (T + 1))
    have gx : GX x' x4 := ((GX.w ⟨by omega, by omega⟩).tr (GX.w ⟨by omega, by omega⟩)).tr (GX.w ⟨by omega, by omega⟩)
    have gm : GM y' y4 := GM.w (Or.inl rfl)
    have ux : ∀ c, c ≠ 14 → c ≠ 16 → c ≠ 17 → x4.1 c = x'.1 c := fun c c1 c2 c3 => by rw [qrow_ne c1, qrow_ne c3, qrow_ne c2]
    have x14 : x4.1 14 = upd (x'.1 14) 1 (nI (T + 1)) := by rw [qrow_at, qrow_ne (by omega), qrow_ne (by omega)]
    have x16 : x4.1 16 = upd (x'.1 16) T (x'.1 4 8) := by rw [qrow_ne (by omega), qrow_ne (by omega), qrow_at]
    have x17 : x4.1 17 = upd (x'.1 17) T (x'.1 4 9) := by rw [qrow_ne (by omega), qrow_at, qrow_ne (by omega)]
    have uy : ∀ c, c ≠ 0 → y4.1 c = y'.1 c := fun c c1 => qrow_ne c1
    have at_ : f4_addTape 14 (x'.1 4 8) (x'.1 4 9) x' = some x4 := by
      unfold f4_addTape
      simp only [qj_e, qlt_e, qw, xT, show (14 : Nat) + 2 = 16 from rfl, show (14 : Nat) + 3 = 17 from rfl, qrow_ne (show (14 : Nat) ≠ 16 by omega), qrow_ne (show (14 : Nat) ≠ 17 by omega), qin_nI hT (show 8 < 2 ^ 31 by omega), qg_t, ix_nI (show T < 2 ^ 31 by omega), nI_1]
      rw [if_neg (show ¬ (8 : Int32) ≤ nI T from nI_ge (b := 8) hT (by omega))]
      show _ = some (qrow (qrow (qrow x' 16 _) 17 (upd ((qrow x' 16 _).1 17) T _)) 14 (upd ((qrow (qrow x' 16 _) 17 _).1 14) 1 _))
      rw [qrow_ne (show (17 : Nat) ≠ 16 by omega), qrow_ne (show (14 : Nat) ≠ 17 by omega), qrow_ne (show (14 : Nat) ≠ 16 by omega)]
    rw [e1, qb2_s, if_pos rfl, qj_e, if_neg (by decide), if_pos rfl, at_, bind_s]
    refine ⟨p', T + 1, FT, sf, x4, y4, rfl, fun n => by rw [ref, e2, bind_s, yT, nI_1], r.up gx gm (by rw [ux 3 (by omega) (by omega) (by omega)]) (by rw [qrow_at, upd_ne (by omega)]) (by rw [qrow_at, upd_ne (by omega)]), ?_, by rw [uy 1 (by omega)]; exact s, by omega, ((a3.gx.tr (RX.at (Or.inl rfl)).gx).tr jx.gx).tr gx, gr jm⟩
    obtain ⟨w0, -, -, w3, w4, -⟩ := it 0 (by decide)
    obtain ⟨v0, -, -, v3, v4, -⟩ := it 1 (by decide)
    have w3 : x'.1 4 8 = nI w0 := w3
    have v3 : x'.1 4 9 = nI v0 := v3
    refine ⟨⟨by rw [x14, upd_at], by rw [qrow_at, upd_at], by omega⟩, ?_, ?_, ?_, fun t ht => ?_, ?_⟩
    · rw [x14, upd_ne (by omega), qrow_at, upd_ne (by omega), o 14 (by omega), o0 9 (by omega) (by omega)]; exact d1.2.1
    · rw [ux 3 (by omega) (by omega) (by omega), jx.2 3 (by omega) (by omega), qrow_at, upd_ne (by omega)]; exact d1.2.2.1
    · rw [ux 15 (by omega) (by omega) (by omega), uy 2 (by omega), o 15 (by omega), om 2 (by omega) (by omega)]; exact d1.2.2.2.1
    · rw [x16, x17, uy 3 (by omega)]
      by_cases e : t = T
      · subst e
        rw [upd_at, upd_at, w3, v3, ← w4, ← v4]
        exact ⟨rfl, rfl⟩
      · rw [upd_ne e, upd_ne e, o 16 (by omega), o 17 (by omega), o3 (2 * t) (by omega), o3 (2 * t + 1) (by omega)]
        exact d1.2.2.2.2.1 t (by omega)
    · rw [ux 18 (by omega) (by omega) (by omega), ux 19 (by omega) (by omega) (by omega), o 18 (by omega), o 19 (by omega), uy 4 (by omega), om 4 (by omega) (by omega)]; exact d1.2.2.2.2.2
  · right; left
    have e1 : f5_readItems 8 10 (qw x1 3 4 (nI (p1 + 1))) = some (nI q, x') := e1
    have e2 : f9_items 116 3 16 (nI (2 * T)) 2 (qw y1 0 3 (nI (p1 + 1))) = some y' := e2
    rw [e1, qb2_s, if_neg (nI_m1 (by omega))]
    exact ⟨q, fl sf, x', qw y' 0 8 (y'.1 0 8 + 1), hq, rfl, fun n => by rw [ref, e2, bind_s], by rw [qrow_at, upd_ne (by omega)]; exact e4, (a3.gx.tr (RX.at (Or.inl rfl)).gx).tr jx.gx, gr jm⟩
  · right; right
    have e1 : f5_readItems 8 10 (qw x1 3 4 (nI (p1 + 1))) = some (nI p', x') := e1
    have e2 : f9_items 116 3 16 (nI (2 * T)) 2 (qw y1 0 3 (nI (p1 + 1))) = some y' := e2
    have y1e : (qw y' 0 8 (y'.1 0 8 + 1)).1 1 = y'.1 1 := qrow_ne (by omega)
    rw [e1, qb2_s, if_neg (nI_m1 (by have := r.2.2.2.1; omega))]
    exact ⟨p', fl sf, x', qw y' 0 8 (y'.1 0 8 + 1), rfl, fun n => by rw [ref, e2, bind_s], r.up (fun _ _ _ _ _ => rfl) (GM.w (Or.inl rfl)) rfl (by rw [qrow_at, upd_ne (by omega)]) (by rw [qrow_at, upd_ne (by omega)]), by rw [y1e]; exact s1, by rw [y1e]; exact s2, by rw [y1e]; exact s3, (a3.gx.tr (RX.at (Or.inl rfl)).gx).tr jx.gx, gr jm⟩
end PM6
