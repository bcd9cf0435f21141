section PM4
variable {L p k row np base : Nat} {hx hm : qH}
/-- how the reading of items ends -/
def IR (L k row base : Nat) (hx hm : qH) (ox : Option (Int32 × qH)) (om : Option qH) : Prop :=
  (∃ (p' : Nat) (hx' hm' : qH), ox = some (-1, hx') ∧ om = some hm' ∧ RD L p' hx' hm' ∧ (sg L (hm'.1 1) p' = -1 ∨ sg L (hm'.1 1) p' = 59) ∧ (∃ f, IT k row base f hx' hm') ∧ JX hx hx' ∧ JM row base (kn k) hm hm') ∨
  (∃ (q : Nat) (hx' hm' : qH), q ≤ 240 ∧ ox = some (nI q, hx') ∧ om = some hm' ∧ hm'.1 0 4 = nI q ∧ JX hx hx' ∧ JM row base (kn k) hm hm') ∨
  ∃ (p' : Nat) (hx' hm' : qH), ox = some (nI p', hx') ∧ om = some hm' ∧ RD L p' hx' hm' ∧ ¬ sg L (hm'.1 1) p' = -1 ∧ ¬ sg L (hm'.1 1) p' = 59 ∧ ¬ sg L (hm'.1 1) p' = 32 ∧ JX hx hx' ∧ JM row base (kn k) hm hm'
theorem IR.from {hx0 hm0 : qH} {ox : Option (Int32 × qH)} {om : Option qH} (x : JX hx0 hx) (y : JM row base (kn k) hm0 hm) (h : IR L k row base hx hm ox om) : IR L k row base hx0 hm0 ox om := by
  rcases h with ⟨p', a, b, h1, h2, h3, h4, h5, h6, h7⟩ | ⟨q, a, b, h1, h2, h3, h4, h6, h7⟩ | ⟨p', a, b, h1, h2, h3, h4, h5, h8, h6, h7⟩
  · exact Or.inl ⟨p', a, b, h1, h2, h3, h4, h5, x.tr h6, y.tr h7⟩
  · exact Or.inr (Or.inl ⟨q, a, b, h1, h2, h3, h4, x.tr h6, y.tr h7⟩)
  · exact Or.inr (Or.inr ⟨p', a, b, h1, h2, h3, h4, h5, h8, x.tr h6, y.tr h7⟩)
theorem itemLoop (hk : k < 3) (hr : 2 ≤ row) (hb : base + kn k ≤ np) (hnp : np ≤ 48) : ∀ (d : Nat) (mask : Int32) (p : Nat) (hx0 hx hm : qH), uns (bt mask) (kn k) = d → f5_nextSign hx0 = some (sg L (hm.1 1) p, hx) → RD L p hx hm → ¬ sg L (hm.1 1) p = 32 → IT k row base (bt mask) hx hm → ∀ kx m m', d + 1 < m → d + 1 < m' → IR L k row base hx hm (f5_readItems_L33 (nI (klo k)) (nI (klo k + kn k)) kx m (nI (klo k + kn k - d)) hx0) (f9_items_L41 (nI (kc k)) row np (nI base) (fun _ _ h => some h) m' mask (itl k (sg L (hm.1 1) p)) hm) := by
  have kb' := kb hk
  intro d
  induction d using Nat.strongRecOn with
  | _ d ih =>
    intro mask p hx0 hx hm hd hns h e32 it kx m m' h1 h2
    have hL := h.1.2.2.1
    have hd8 := uns_le (bt mask) (kn k)
    obtain ⟨m, rfl⟩ : ∃ j, m = j + 1 := ⟨m - 1, by omega⟩
    obtain ⟨m', rfl⟩ : ∃ j, m' = j + 1 + 1 := ⟨m' - 2, by omega⟩
    rw [f5_readItems_L33, if_neg (nI_nlt (by omega) (by omega)), hns, qb2_s, f9_items_L41, if_pos h.2.2.2.2]
    have n0 := it_none ⟨k, hk⟩
    have n1 : itl k (-1) = -1 := n0.1
    have n2 : itl k 59 = -1 := n0.2
    rcases sg_nI h.1 p with ⟨hp, c, c1, c2, e⟩ | ⟨hp, e⟩
    · rw [e, if_neg (nI_m1 (by omega))]
      by_cases e9 : nI c = 59
      · left
        rw [if_pos e9, e9, n2, if_pos rfl]
        exact ⟨p, hx, hm, rfl, rfl, h, Or.inr (by rw [e, e9]), ⟨_, it⟩, JX.rf, JM.rf⟩
      · have cC : IR L k row base hx hm (some (hx.1 3 4, hx)) (some hm) := by
          rw [h.2.1]
          exact Or.inr (Or.inr ⟨p, hx, hm, rfl, rfl, h, by rw [e]; exact nI_m1 (by omega), by rw [e]; exact e9, e32, JX.rf, JM.rf⟩)
        rw [if_neg e9, idx1 c1 c2, bind_s]
        rcases it_rel ⟨k, hk⟩ ⟨c, by omega⟩ with ⟨w1, w2⟩ | ⟨⟨v, hv8⟩, w0, w1, w2⟩
        · have w1 : itl k (nI c) = -1 := w1
          rw [w1, if_pos rfl]
          by_cases w3 : ixl [110, 100, 108, 119, 109, 97, 103, 105, 107, 117, 116, 98] c 0 < nI (klo k)
          · rw [if_pos w3]
            exact cC
          · rw [if_neg w3, if_pos (by rcases w2 with w2 | w2; · exact absurd w2 w3
                                      · exact w2)]
            exact cC
        · have w0 : v < kn k := w0
          have w1 : itl k (nI c) = nI v := w1
          have w2 : ixl [110, 100, 108, 119, 109, 97, 103, 105, 107, 117, 116, 98] c 0 = nI (klo k + v) := w2
          obtain ⟨w, lw, hw, i1, i2, i3⟩ := it v w0
          rw [w1, w2, if_neg (nI_m1 (by omega)), if_neg (nI_nlt (by omega) (by omega)), if_neg (nI_ge (by omega) (by omega)), qin_nI (show klo k + v < 12 by omega) (by omega), qg_t, ix_nI (show klo k + v < 2 ^ 31 by omega), f9_has_bt (by omega), bind_s, i3]
          by_cases fv : bt mask v = true
          · rw [if_pos fv, if_neg (by decide), if_neg (by decide)]
            exact cC
          · rw [if_neg fv, if_pos rfl, if_pos rfl]
            simp only [qlt_e, qg_t]
            rw [low_eq hk w0, bind_s, high_eq hk w0, bind_s, h.2.1, h.2.2.1, nI_1, (st_low _ (show klo k + v < 12 by omega)).1, (st_low _ (show klo k + v < 12 by omega)).2.1]
            have hs := h.step hp
            rcases hs.number (lo := lowN (klo k + v)) (hi := highN (klo k + v)) (st_low _ (by omega)).2.2.2.1 (st_low _ (by omega)).2.2.2.2.1 with ⟨p', z, xx, yy, z1, z2, r, rx, rm, nv, e1, e2⟩ | ⟨q, z, xx, yy, ⟨rx, rm, e4, hq⟩, e1, e2⟩
            · rw [e1, e2, qb2_s, qb2_s, if_pos rfl]
              let mask' : Int32 := mask ||| (1 : Int32) <<< (nI v &&& 31)
              let x3 : qH := qw (qw xx 5 (klo k + v) 1) 4 (klo k + v) (nI z)
              let y3 : qH := qw yy row (base + v) (nI z)
              have r3 : RD L p' x3 y3 := ((r.wx (Or.inr rfl)).wx (Or.inl rfl)).wm hr
              obtain ⟨p2, x4, y4, a1, a2, a3, a4, a5, a6, a7, a8⟩ := r3.nx
              have bm : ∀ i, i < 32 → bt mask' i = (bt mask i || decide (i = v)) := fun i hi => by
                show bt (mask ||| (1 : Int32) <<< (nI v &&& 31)) i = _
                rw [b_or, b_sh1 (by omega) hi]
              have it1 : IT k row base (bt mask) xx yy := it.rd (by omega) ((RX.at (Or.inl rfl)).tr rx) ((RM.at (Or.inl rfl)).tr rm)
              have it3 : IT k row base (bt mask') x3 y3 := by
                intro i hi
                obtain ⟨w', g1, g2, g3, g4, g5⟩ := it1 i hi
                have x34 : x3.1 4 = upd (xx.1 4) (klo k + v) (nI z) := by rw [qrow_at, qrow_ne (by omega)]
                have x35 : x3.1 5 = upd (xx.1 5) (klo k + v) 1 := by rw [qrow_ne (by omega), qrow_at]
                have y3r : y3.1 row = upd (yy.1 row) (base + v) (nI z) := qrow_at _ _ _
                rw [x34, x35, y3r, bm i (by omega)]
                by_cases ev : i = v
                · subst ev
                  refine ⟨z, z1, z2, by rw [upd_at], by rw [upd_at], ?_⟩
                  rw [upd_at, decide_eq_true rfl, Bool.or_true, if_pos rfl]
                · refine ⟨w', g1, g2, by rw [upd_ne (by omega)]; exact g3, by rw [upd_ne (by omega)]; exact g4, ?_⟩
                  rw [upd_ne (by omega), decide_eq_false ev, Bool.or_false]
                  exact g5
              have it4 := it3.rd (by omega) a3 a4
              have fv0 : bt mask v = false := by
                cases hc : bt mask v with
                | true => exact absurd hc fv
                | false => rfl
              have hu := uns_set (f := bt mask) (g := bt mask') (v := v) fv0 (by rw [bm v (by omega), decide_eq_true rfl, Bool.or_true]) (kn k) w0 (fun i hi hn => by rw [bm i (by omega), decide_eq_false hn, Bool.or_false])
              have jx : JX hx x4 := ((((RX.at (Or.inl rfl)).tr rx).jx.tr (JX.w (Or.inr rfl))).tr (JX.w (Or.inl rfl))).tr a3.jx
              have jm : JM row base (kn k) hm y4 := (((RM.at (Or.inl rfl)).tr rm).jm (by omega)).tr ((JM.w (by omega) ⟨by omega, by omega⟩).tr (a4.jm (by omega)))
              have y41 : y4.1 1 = y3.1 1 := a4.1 1 (by omega)
              have ihh := ih (d - 1) (by omega) mask' p2 x3 x4 y4 (by omega) (by rw [y41]; exact a7) a2 (by rw [y41]; exact a6) it4 kx m (m' + 1) (by omega) (by omega)
              have xe : xx.1 3 5 = nI z := nv
              have x3e : qw (qw xx 5 (klo k + v) 1) 4 (klo k + v) ((qw xx 5 (klo k + v) 1).1 3 5) = x3 := by
                show qw _ 4 (klo k + v) ((qrow xx 5 _).1 3 5) = qw _ 4 (klo k + v) (nI z)
                rw [qrow_ne (by omega), xe]
              rw [x3e, nI_add, qin_nI (show base + v < np by omega) (by omega), qg_t, ix_nI (show base + v < 2 ^ 31 by omega), qj_e]
              show IR L k row base hx hm (f5_readItems_L33 (nI (klo k)) (nI (klo k + kn k)) kx m (nI (klo k + kn k - d) + 1) x3) (if y3.1 0 4 = -1 then _ else _)
              rw [if_pos r3.2.2.2.2]
              show IR L k row base hx hm _ (qb2 (f9_ahead y3) _)
              rw [a8, qb2_s, itemOf_eq hk, bind_s, nI_1, show klo k + kn k - d + 1 = klo k + kn k - (d - 1) by omega]
              rw [y41] at ihh
              exact ihh.from jx jm
            · rw [e1, e2, qb2_s, qb2_s, if_neg (nI_m1 (by omega)), nI_add, qin_nI (show base + v < np by omega) (by omega), qg_t, ix_nI (show base + v < 2 ^ 31 by omega), qj_e]
              have y04 : (qw yy row (base + v) z).1 0 4 = nI q := by rw [qrow_ne (by omega)]; exact e4
              rw [y04, if_neg (nI_m1 (by omega))]
              show IR L k row base hx hm _ (f9_items_L41 (nI (kc k)) row np (nI base) (fun _ _ h => some h) (m' + 1) _ (-1) (qw yy row (base + v) z))
              rw [f9_items_L41, y04, if_neg (nI_m1 (by omega))]
              exact Or.inr (Or.inl ⟨q, xx, _, hq, rfl, rfl, y04, ((RX.at (Or.inl rfl)).tr rx).jx, (((RM.at (Or.inl rfl)).tr rm).jm (by omega)).tr (JM.w (by omega) ⟨by omega, by omega⟩)⟩)
    · left
      rw [e, if_pos rfl, n1, if_pos rfl]
      exact ⟨p, hx, hm, rfl, rfl, h, Or.inl e, ⟨_, it⟩, JX.rf, JM.rf⟩
/-- the items of a clause -/
theorem items_eq (hk : k < 3) (hr : 2 ≤ row) (hb : base + kn k ≤ np) (hnp : np ≤ 48) (h : RD L p hx hm) : IR L k row base hx hm (f5_readItems (nI (klo k)) (nI (klo k + kn k)) hx) (f9_items (nI (kc k)) row np (nI base) (nI (kn k)) hm) := by
  have kb' := kb hk
  unfold f5_readItems f9_items
  obtain ⟨x1, a1, a0, a2, a3, a4⟩ := defX (k := k) hk (p1 := nI (klo k)) (kn k) (klo k) hx rfl (Nat.le_refl _)
  obtain ⟨y1, b1, b0, b2, b3, b4⟩ := defM (k := k) (row := row) (np := np) (base := base) hk (by omega) hb hnp (kn k) 0 hm (by omega)
  rw [a4 _ qN (qN_lt (by omega))]
  have b4' := b4 (fun (x7 : Int32) (h8 : qH) =>
    qb2 (f9_ahead h8) fun (z9 : Int32) (h10 : qH) =>
    (f9_itemOf (nI (kc k)) z9 h10).bind fun (z11 : Int32) =>
    f9_items_L41 (nI (kc k)) row np (nI base) (fun (x34 : Int32) (x35 : Int32) (h36 : qH) =>
      some h36) qN (0 : Int32) z11 h10) qN (qN_lt (by omega))
  have b4' := (show nI 0 = (0 : Int32) from rfl) ▸ b4'
  rw [b4']
  have r1 : RD L p x1 y1 := by
    refine ⟨h.1.cg ?_ (a1.1 2 (by omega) (by omega) (by omega)) (by rw [b0]) (b1.1 1 (by omega) (by omega)), by rw [a0]; exact h.2.1, by rw [b0]; exact h.2.2.1, h.2.2.2.1, by rw [b0]; exact h.2.2.2.2⟩
    rw [a1.1 1 (by omega) (by omega) (by omega)]
  obtain ⟨p2, x4, y4, c1, c2, c3, c4, c5, c6, c7, c8⟩ := r1.nx
  have y41 : y4.1 1 = y1.1 1 := c4.1 1 (by omega)
  have it1 : IT k row base (bt 0) x1 y1 := by
    intro v hv
    refine ⟨defN (klo k + v), (st_low _ (by omega)).2.2.2.2.2.1, (st_low _ (by omega)).2.2.2.2.2.2, (a2 _ (by omega) (by omega)).1, b2 v (by omega) hv, ?_⟩
    rw [b_0, if_neg (by decide)]
    exact (a2 _ (by omega) (by omega)).2
  have u0 : uns (bt 0) (kn k) = kn k := uns_all b_0 _
  have z := itemLoop hk hr hb hnp (kn k) 0 p2 x1 x4 y4 u0 (by rw [y41]; exact c7) c2 (by rw [y41]; exact c6) (it1.rd (by omega) c3 c4) (fun (x27 : Int32) (h28 : qH) => some ((h28.1 3 4), h28)) qN qN (qN_lt (by omega)) (qN_lt (by omega))
  rw [y41, show klo k + kn k - kn k = klo k by omega] at z
  have fin := z.from (a1.tr c3.jx) (b1.tr (c4.jm (by omega)))
  simp only [c8, qb2_s, itemOf_eq hk, bind_s]
  exact fin
end PM4
