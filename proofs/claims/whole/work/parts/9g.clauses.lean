section PM7
variable {L p T FT : Nat} {sf : Bool} {hx hm : qH}
theorem clause_f (h : RD L p hx hm) (d : DQ T FT sf hx hm) (hT : FT < 24) {p1 : Nat} {x1 y1 : qH} (a2 : RD L p1 x1 y1) (a3 : RX hx x1) (a4 : RM hm y1) (a7 : f5_nextSign hx = some (102, x1)) (a8 : f9_ahead hm = some (102, y1)) (hp : p1 < L) : CO L T FT sf hx hm (f5_readClause 14 hx) := by
  have d1 := d.rd a3 a4
  have hL := h.1.2.2.1
  have st := a2.step hp
  have i0 : f5_indexIn 210 102 x1 = some 2 := idx0 (c := 102) (by omega) (by omega)
  have tm : f5_isOneTooMany 2 14 x1 = some 0 := by
    unfold f5_isOneTooMany
    rw [if_neg (by decide), if_neg (by decide), d1.2.1.1, if_pos (show nI FT < (24 : Int32) from nI_lt (b := 24) hT (by omega)), qlt_e]
    rfl
  have e2T : (2 : Int32) * nI FT = nI (2 * FT) := nI_mul 2 FT
  have ref : ∀ n, f9_readHall_L50 kH (n + 1) (fl sf) 1 hm = (f9_items 102 4 48 (nI (2 * FT)) 2 (qw y1 0 3 (nI (p1 + 1)))).bind fun h52 => jH n (fl sf) (qw h52 0 9 (h52.1 0 9 + 1)) := fun n => by
    have z := L50_f (n := n) (x := fl sf) h.2.2.2.2 a8 (by rw [d1.2.1.2.1]; exact nI_ge (b := 24) hT (by omega))
    rw [a2.2.2.1, nI_1, qrow_at, upd_ne (by omega), d1.2.1.2.1, e2T] at z
    exact z
  unfold f5_readClause
  rw [a7, qb2_s, i0, bind_s, if_neg (by decide), tm, bind_s, if_pos rfl, qlt_e, a2.2.1, nI_1, show qin (2 : Int32) 4 = true from rfl, show qin ((2 : Int32) + 1) 4 = true from rfl, qg_t, qg_t]
  show CO L T FT sf hx hm (qb2 (f5_readItems 10 12 (qw x1 3 4 (nI (p1 + 1)))) _)
  have gr : ∀ {y' : qH} {v : Int32}, JM 4 (2 * FT) (kn 2) (qw y1 0 3 (nI (p1 + 1))) y' → GM hm (qw y' 0 9 v) := fun jm => ((a4.gm.tr (RM.at (Or.inl rfl)).gm).tr (jm.gm (Or.inr (Or.inr rfl)))).tr (GM.w (Or.inr rfl))
  rcases items_eq (k := 2) (row := 4) (np := 48) (base := 2 * FT) (by omega) (by omega) (show 2 * FT + 2 ≤ 48 by omega) (by omega) st with ⟨p', x', y', e1, e2, r, s, ⟨f, it⟩, jx, jm⟩ | ⟨q, x', y', hq, e1, e2, e4, jx, jm⟩ | ⟨p', x', y', e1, e2, r, s1, s2, s3, jx, jm⟩
  · left
    have e1 : f5_readItems 10 12 (qw x1 3 4 (nI (p1 + 1))) = some (-1, x') := e1
    have e2 : f9_items 102 4 48 (nI (2 * FT)) 2 (qw y1 0 3 (nI (p1 + 1))) = some y' := e2
    have o : ∀ c, 14 ≤ c → x'.1 c = x1.1 c := fun c c1 => by rw [jx.1 c (by omega) (by omega) (by omega), qrow_ne (by omega)]
    have om : ∀ c, c ≠ 0 → c ≠ 4 → y'.1 c = y1.1 c := fun c c1 c2 => by rw [jm.1 c c1 c2, qrow_ne c1]
    have o0 : ∀ j, j ≠ 3 → j ≠ 4 → y'.1 0 j = y1.1 0 j := fun j c1 c2 => by rw [jm.2.1 j c1 c2, qrow_at, upd_ne c1]
    have o3 : ∀ j, ¬ (2 * FT ≤ j ∧ j < 2 * FT + 2) → y'.1 4 j = y1.1 4 j := fun j hj => by
      have := jm.2.2 j hj
      rw [this, qrow_ne (by omega)]
    have xT : x'.1 14 4 = nI FT := by rw [o 14 (by omega)]; exact d1.2.1.1
    have yT : y'.1 0 9 = nI FT := by rw [o0 9 (by omega) (by omega)]; exact d1.2.1.2.1
    let x4 : qH := qw (qw (qw x' 18 FT (x'.1 4 10)) 19 FT (x'.1 4 11)) 14 4 (nI (FT + 1))
    let y4 : qH := qw y' 0 9 (nI (FT + 1))
    have gx : GX x' x4 := ((GX.w ⟨by omega, by omega⟩).tr (GX.w ⟨by omega, by omega⟩)).tr (GX.w ⟨by omega, by omega⟩)
    have gm : GM y' y4 := GM.w (Or.inr rfl)
    have ux : ∀ c, c ≠ 14 → c ≠ 18 → c ≠ 19 → x4.1 c = x'.1 c := fun c c1 c2 c3 => by rw [qrow_ne c1, qrow_ne c3, qrow_ne c2]
    have x14 : x4.1 14 = upd (x'.1 14) 4 (nI (FT + 1)) := by rw [qrow_at, qrow_ne (by omega), qrow_ne (by omega)]
    have x16 : x4.1 18 = upd (x'.1 18) FT (x'.1 4 10) := by rw [qrow_ne (by omega), qrow_ne (by omega), qrow_at]
    have x17 : x4.1 19 = upd (x'.1 19) FT (x'.1 4 11) := by rw [qrow_ne (by omega), qrow_at, qrow_ne (by omega)]
    have uy : ∀ c, c ≠ 0 → y4.1 c = y'.1 c := fun c c1 => qrow_ne c1
    have at_ : f4_addFile 14 (x'.1 4 10) (x'.1 4 11) x' = some x4 := by
      unfold f4_addFile
      simp only [qj_e, qlt_e, qw, xT, show (14 : Nat) + 4 = 18 from rfl, show (14 : Nat) + 5 = 19 from rfl, qrow_ne (show (14 : Nat) ≠ 18 by omega), qrow_ne (show (14 : Nat) ≠ 19 by omega), qin_nI hT (show 24 < 2 ^ 31 by omega), qg_t, ix_nI (show FT < 2 ^ 31 by omega), nI_1]
      rw [if_neg (show ¬ (24 : Int32) ≤ nI FT from nI_ge (b := 24) hT (by omega))]
      show _ = some (qrow (qrow (qrow x' 18 _) 19 (upd ((qrow x' 18 _).1 19) FT _)) 14 (upd ((qrow (qrow x' 18 _) 19 _).1 14) 4 _))
      rw [qrow_ne (show (19 : Nat) ≠ 18 by omega), qrow_ne (show (14 : Nat) ≠ 19 by omega), qrow_ne (show (14 : Nat) ≠ 18 by omega)]
    rw [e1, qb2_s, if_pos rfl, qj_e, if_neg (by decide), if_neg (by decide), at_, bind_s]
    refine ⟨p', T, FT + 1, sf, x4, y4, rfl, fun n => by rw [ref, e2, bind_s, yT, nI_1], r.up gx gm (by rw [ux 3 (by omega) (by omega) (by omega)]) (by rw [qrow_at, upd_ne (by omega)]) (by rw [qrow_at, upd_ne (by omega)]), ?_, by rw [uy 1 (by omega)]; exact s, by omega, ((a3.gx.tr (RX.at (Or.inl rfl)).gx).tr jx.gx).tr gx, gr jm⟩
    obtain ⟨w0, w1, w2, w3, w4, -⟩ := it 0 (by decide)
    obtain ⟨v0, v1, v2, v3, v4, -⟩ := it 1 (by decide)
    have w3 : x'.1 4 10 = nI w0 := w3
    have v3 : x'.1 4 11 = nI v0 := v3
    have w2 : w0 ≤ 7 := w2
    have v1 : 1 ≤ v0 := v1
    have v2 : v0 ≤ 9 := v2
    refine ⟨?_, ⟨by rw [x14, upd_at], by rw [qrow_at, upd_at], by omega⟩, ?_, ?_, ?_, fun t ht => ?_⟩
    · rw [x14, upd_ne (by omega), qrow_at, upd_ne (by omega), o 14 (by omega), o0 8 (by omega) (by omega)]; exact d1.1
    · rw [ux 3 (by omega) (by omega) (by omega), jx.2 3 (by omega) (by omega), qrow_at, upd_ne (by omega)]; exact d1.2.2.1
    · rw [ux 15 (by omega) (by omega) (by omega), uy 2 (by omega), o 15 (by omega), om 2 (by omega) (by omega)]; exact d1.2.2.2.1
    · rw [ux 16 (by omega) (by omega) (by omega), ux 17 (by omega) (by omega) (by omega), o 16 (by omega), o 17 (by omega), uy 3 (by omega), om 3 (by omega) (by omega)]; exact d1.2.2.2.2.1
    · rw [x16, x17, uy 4 (by omega)]
      by_cases e : t = FT
      · subst e
        rw [upd_at, upd_at]
        exact ⟨w0, v0, w2, v1, v2, w3, w4, v3, v4⟩
      · rw [upd_ne e, upd_ne e, o 18 (by omega), o 19 (by omega), o3 (2 * t) (by omega), o3 (2 * t + 1) (by omega)]
        exact d1.2.2.2.2.2 t (by omega)
  · right; left
    have e1 : f5_readItems 10 12 (qw x1 3 4 (nI (p1 + 1))) = some (nI q, x') := e1
    have e2 : f9_items 102 4 48 (nI (2 * FT)) 2 (qw y1 0 3 (nI (p1 + 1))) = some y' := e2
    rw [e1, qb2_s, if_neg (nI_m1 (by omega))]
    exact ⟨q, fl sf, x', qw y' 0 9 (y'.1 0 9 + 1), hq, rfl, fun n => by rw [ref, e2, bind_s], by rw [qrow_at, upd_ne (by omega)]; exact e4, (a3.gx.tr (RX.at (Or.inl rfl)).gx).tr jx.gx, gr jm⟩
  · right; right
    have e1 : f5_readItems 10 12 (qw x1 3 4 (nI (p1 + 1))) = some (nI p', x') := e1
    have e2 : f9_items 102 4 48 (nI (2 * FT)) 2 (qw y1 0 3 (nI (p1 + 1))) = some y' := e2
    have y1e : (qw y' 0 9 (y'.1 0 9 + 1)).1 1 = y'.1 1 := qrow_ne (by omega)
    rw [e1, qb2_s, if_neg (nI_m1 (by have := r.2.2.2.1; omega))]
    exact ⟨p', fl sf, x', qw y' 0 9 (y'.1 0 9 + 1), rfl, fun n => by rw [ref, e2, bind_s], r.up (fun _ _ _ _ _ => rfl) (GM.w (Or.inr rfl)) rfl (by rw [qrow_at, upd_ne (by omega)]) (by rw [qrow_at, upd_ne (by omega)]), by rw [y1e]; exact s1, by rw [y1e]; exact s2, by rw [y1e]; exact s3, (a3.gx.tr (RX.at (Or.inl rfl)).gx).tr jx.gx, gr jm⟩
theorem RD.clause (h : RD L p hx hm) (d : DQ T FT sf hx hm) : CO L T FT sf hx hm (f5_readClause 14 hx) := by
  obtain ⟨p1, x1, y1, a1, a2, a3, a4, a5, a6, a7, a8⟩ := h.nx
  have d1 := d.rd a3 a4
  have hL := h.1.2.2.1
  have bad : (∀ n, f9_readHall_L50 kH (n + 1) (fl sf) 1 hm = (f9_bad y1).bind fun h52 => jH n (fl sf) h52) → CO L T FT sf hx hm (some (x1.1 3 4, x1)) := fun z => by
    right; left
    rw [a2.2.1]
    exact ⟨p1, fl sf, x1, qw y1 0 4 (nI p1), by have := a2.2.2.2.1; omega, rfl, fun n => by rw [z n, bad_eq a2.2.2.2.2 a2.2.2.1, bind_s], by rw [qrow_at, upd_at], a3.gx, a4.gm.tr (RM.at (Or.inr rfl)).gm⟩
  rcases sg_nI h.1 p1 with ⟨hp, c, c1, c2, e⟩ | ⟨hp, e⟩
  · rw [e] at a7 a8
    by_cases e1 : c = 115
    · subst e1
      cases sf with
      | false => exact clause_s h d a2 a3 a4 a7 a8 hp
      | true =>
        have i0 : f5_indexIn 210 (nI 115) x1 = some 0 := idx0 (c := 115) (by omega) (by omega)
        have tm : f5_isOneTooMany 0 14 x1 = some 1 := by
          unfold f5_isOneTooMany
          rw [if_pos rfl, d1.2.2.1, fl_m, qg_t]
          rfl
        unfold f5_readClause
        rw [a7, qb2_s, i0, bind_s, if_neg (by decide), tm, bind_s, if_neg (by decide)]
        exact bad (fun n => L50_b h.2.2.2.2 a8 (fun _ => by decide) (fun z => absurd z (by decide)) (fun z => absurd z (by decide)))
    · by_cases e2 : c = 116
      · subst e2
        by_cases hT : T < 8
        · exact clause_t h d hT a2 a3 a4 a7 a8 hp
        · have i0 : f5_indexIn 210 (nI 116) x1 = some 1 := idx0 (c := 116) (by omega) (by omega)
          have t8 : T = 8 := by have := d.1.2.2; omega
          subst t8
          have tm : f5_isOneTooMany 1 14 x1 = some 1 := by
            unfold f5_isOneTooMany
            rw [if_neg (by decide), if_pos rfl, d1.1.1, if_neg (show ¬ nI 8 < (8 : Int32) by decide), qlt_e]
            rfl
          unfold f5_readClause
          rw [a7, qb2_s, i0, bind_s, if_neg (by decide), tm, bind_s, if_neg (by decide)]
          exact bad (fun n => L50_b h.2.2.2.2 a8 (fun z => absurd z (by decide)) (fun _ => by rw [d1.1.2.1]; decide) (fun z => absurd z (by decide)))
      · by_cases e3 : c = 102
        · subst e3
          by_cases hT : FT < 24
          · exact clause_f h d hT a2 a3 a4 a7 a8 hp
          · have i0 : f5_indexIn 210 (nI 102) x1 = some 2 := idx0 (c := 102) (by omega) (by omega)
            have t8 : FT = 24 := by have := d.2.1.2.2; omega
            subst t8
            have tm : f5_isOneTooMany 2 14 x1 = some 1 := by
              unfold f5_isOneTooMany
              rw [if_neg (by decide), if_neg (by decide), d1.2.1.1, if_neg (show ¬ nI 24 < (24 : Int32) by decide), qlt_e]
              rfl
            unfold f5_readClause
            rw [a7, qb2_s, i0, bind_s, if_neg (by decide), tm, bind_s, if_neg (by decide)]
            exact bad (fun n => L50_b h.2.2.2.2 a8 (fun z => absurd z (by decide)) (fun z => absurd z (by decide)) (fun _ => by rw [d1.2.1.2.1]; decide))
        · have i0 : f5_indexIn 210 (nI c) x1 = some (-1) := by
            rw [idx0 c1 c2]
            show some (if c = 115 then nI 0 else if c = 116 then nI (0 + 1) else if c = 102 then nI (0 + 1 + 1) else -1) = _
            rw [if_neg e1, if_neg e2, if_neg e3]
          have nc : ∀ k, k < 1000 → c ≠ k → ¬ nI c = nI k := fun k hk hn z => hn (nI_inj (by omega) (by omega) z)
          unfold f5_readClause
          rw [a7, qb2_s, i0, bind_s, if_pos (by decide)]
          exact bad (fun n => L50_b h.2.2.2.2 a8 (fun z => absurd z (nc 115 (by omega) e1)) (fun z => absurd z (nc 116 (by omega) e2)) (fun z => absurd z (nc 102 (by omega) e3)))
  · rw [e] at a7 a8
    unfold f5_readClause
    rw [a7, qb2_s, idxN, bind_s, if_pos (by decide)]
    exact bad (fun n => L50_b h.2.2.2.2 a8 (fun z => absurd z (by decide)) (fun z => absurd z (by decide)) (fun z => absurd z (by decide)))
end PM7
