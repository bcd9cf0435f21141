section PH
variable {T B F a : Nat} {r : Nat → Nat} {hx hm : qH}
/-- ends, files and turns stay -/
def KP (N N' : Nat → Int32) : Prop := ∀ k, (16 ≤ k ∧ k < 24) ∨ (48 ≤ k ∧ k < 169) ∨ k = 171 → N' k = N k
theorem KP.rf {N : Nat → Int32} : KP N N := fun _ _ => rfl
theorem KP.tr {N N1 N2 : Nat → Int32} (x : KP N N1) (y : KP N1 N2) : KP N N2 := fun k hk => (y k hk).trans (x k hk)
theorem rowU_kp {N : Nat → Int32} {t d p : Nat} (ht : t < 8) : KP N (rowU r N t d p) := fun k hk => rowU_ne (by omega) (by omega) (by omega) (by omega)
theorem rowM_ne {N : Nat → Int32} {t k j : Nat} (h1 : j ≠ 170) (h2 : j ≠ 169) (h3 : j ≠ t) (h4 : j ≠ 8 + t) (h5 : j ≠ 24 + t) (h6 : j ≠ 40 + t) : rowM r N t k j = N j := by
  unfold rowM
  rw [upd_ne h6, upd_ne h5, upd_ne h4, upd_ne h3, upd_ne h2, upd_ne h1]
theorem rowM_kp {N : Nat → Int32} {t k : Nat} (ht : t < 8) : KP N (rowM r N t k) := fun j hj => rowM_ne (by omega) (by omega) (by omega) (by omega) (by omega) (by omega)
theorem rowM_170 {N : Nat → Int32} {t k : Nat} (ht : t < 8) : rowM r N t k 170 = tmM r N t k := by
  unfold rowM
  rw [upd_ne (by omega), upd_ne (by omega), upd_ne (by omega), upd_ne (by omega), upd_ne (by omega), upd_at]
theorem rowM_169 {N : Nat → Int32} {t k : Nat} (ht : t < 8) : rowM r N t k 169 = nI (r 0 + k) := by
  unfold rowM
  rw [upd_ne (by omega), upd_ne (by omega), upd_ne (by omega), upd_ne (by omega), upd_at]
theorem rowM_t {N : Nat → Int32} {t k : Nat} (ht : t < 8) : rowM r N t k t = nI (r 0 + k) := by
  unfold rowM
  rw [upd_ne (by omega), upd_ne (by omega), upd_ne (by omega), upd_at]
theorem rowM_8 {N : Nat → Int32} {t k : Nat} (ht : t < 8) : rowM r N t k (8 + t) = 0 := by
  unfold rowM
  rw [upd_ne (by omega), upd_ne (by omega), upd_at]
theorem rowM_24 {N : Nat → Int32} {t k : Nat} (ht : t < 8) : rowM r N t k (24 + t) = wm (N (24 + t)) := by
  unfold rowM
  rw [upd_ne (by omega), upd_at]
theorem rowM_40 {N : Nat → Int32} {t k : Nat} : rowM r N t k (40 + t) = tmM r N t k := by
  unfold rowM
  rw [upd_at]
theorem hxM_0 {h : qH} {t k : Nat} {τ : Int32} : (hxM r a h t k τ).1 a = upd (upd (upd (h.1 a) 2 τ) 3 (nI (r 0 + k))) 6 (h.1 a 6 + 1) := by
  unfold hxM
  rw [qrow_ne (by omega), qrow_ne (by omega), qrow_ne (by omega), qrow_ne (by omega), qrow_at]
theorem hxM_1 {h : qH} {t k : Nat} {τ : Int32} : (hxM r a h t k τ).1 (a + 1) = upd (h.1 (a + 1)) t (nI k) := by
  unfold hxM
  rw [qrow_ne (by omega), qrow_ne (by omega), qrow_ne (by omega), qrow_at]
theorem hxM_2 {h : qH} {t k : Nat} {τ : Int32} : (hxM r a h t k τ).1 (a + 2) = upd (h.1 (a + 2)) t 0 := by
  unfold hxM
  rw [qrow_ne (by omega), qrow_ne (by omega), qrow_at]
theorem hxM_4 {h : qH} {t k : Nat} {τ : Int32} : (hxM r a h t k τ).1 (a + 4) = upd (h.1 (a + 4)) t (wm (h.1 (a + 4) t)) := by
  unfold hxM
  rw [qrow_ne (by omega), qrow_at]
theorem hxM_6 {h : qH} {t k : Nat} {τ : Int32} : (hxM r a h t k τ).1 (a + 6) = upd (h.1 (a + 6)) t τ := by
  unfold hxM
  rw [qrow_at]
theorem hxM_ne {h : qH} {t k b : Nat} {τ : Int32} (h0 : b ≠ a) (h1 : b ≠ a + 1) (h2 : b ≠ a + 2) (h4 : b ≠ a + 4) (h6 : b ≠ a + 6) : (hxM r a h t k τ).1 b = h.1 b := by
  unfold hxM
  rw [qrow_ne h6, qrow_ne h4, qrow_ne h2, qrow_ne h1, qrow_ne h0]
theorem hxM_fx {h : qH} {t k : Nat} {τ : Int32} : FX a h (hxM r a h t k τ) := ⟨fun b h1 _ => hxM_ne (by omega) (by omega) (by omega) (by omega) (by omega), rfl⟩
theorem QQ.mountStep (q : QQ T r B F hx a hm) (ka : kStage a) {t k : Nat} (ht : t < T) (hnd : hx.1 (a + 1) t = -1) (hk : k < r 1) (hfree : ∀ b, b < T → ¬ hx.1 (a + 1) b = nI k) : ∃ hx' hm', cMt a (nI t) (nI k) hx = some (nI k, hx') ∧ mMt (nI t) (nI k) hm = some hm' ∧ OP T r B F a hx hm hx' hm' ∧ KP (hm.1 9) (hm'.1 9) ∧ hx'.1 (a + 1) = upd (hx.1 (a + 1)) t (nI k) := by
  have hT := q.t31
  have hL := q.L96
  have hb := q.1
  have b3 := hb.2.2.1
  have b5 := hb.2.2.2.2.1
  have b7 := hb.2.2.2.2.2.2.1
  have hlo := ka.lo
  obtain ⟨⟨s1, s2, s3, s4⟩, s5, s6⟩ := q.2.2.2.1
  have hI := q.2.2.2.2
  have hN9 : (qw (qrow hm 9 (rowM r (hm.1 9) t k)) 0 18 (hm.1 0 18 + 1)).1 9 = rowM r (hm.1 9) t k := by rw [qrow_ne (by omega), qrow_at]
  have hτ : hx.1 a 2 + ((wy r (hx.1 a 3) (nI t) + wy r (nI t) (nI (r 0 + k))) + nI (r 4)) = tmM r (hm.1 9) t k := by
    unfold tmM
    rw [s1, s2, wy_comm (hm.1 9 169), wy_comm (nI t) (nI (r 0 + k)), Int32.add_assoc, Int32.add_assoc, Int32.add_assoc]
  refine ⟨hxM r a hx t k (tmM r (hm.1 9) t k), _, cMt_eq (arm := 0) (q.rx (by omega)) (q.rx (by omega)) (q.rx (by omega)) (by omega) ka hτ, mMt_eq (q.rm (by omega)) (q.rm (by omega)) (q.rm (by omega)) (by omega), ⟨?_, hxM_fx, (FM.now fun k hk => rowM_ne (by omega) (by omega) (by omega) (by omega) (by omega) (by omega)).tr (FM.cnt (Or.inl rfl)), ?_⟩, ?_, hxM_1⟩
  · refine q.mk ka hxM_fx ((FM.now fun k hk => rowM_ne (by omega) (by omega) (by omega) (by omega) (by omega) (by omega)).tr (FM.cnt (Or.inl rfl))) ?_ ?_
    · rw [hN9]
      refine ⟨⟨?_, ?_, ?_, ?_⟩, fun u hu => ?_, fun f hf => ?_⟩
      · rw [hxM_0, upd_ne (by omega), upd_ne (by omega), upd_at, rowM_170 (by omega)]
      · rw [hxM_0, upd_ne (by omega), upd_at, rowM_169 (by omega)]
      · rw [hxM_0, upd_ne (by omega), upd_ne (by omega), upd_ne (by omega), s3, rowM_ne (by omega) (by omega) (by omega) (by omega) (by omega) (by omega)]
      · rw [hxM_0, upd_ne (by omega), upd_ne (by omega), upd_ne (by omega), s4, rowM_ne (by omega) (by omega) (by omega) (by omega) (by omega) (by omega)]
      · obtain ⟨p1, p3, p4, p5, p6⟩ := s5 u hu
        rw [hxM_4, hxM_6, hxM_ne (by omega) (by omega) (by omega) (by omega) (by omega), hxM_ne (by omega) (by omega) (by omega) (by omega) (by omega)]
        unfold RP
        rw [hxM_1, hxM_2, rowM_ne (j := 16 + u) (by omega) (by omega) (by omega) (by omega) (by omega) (by omega), rowM_ne (j := 32 + u) (by omega) (by omega) (by omega) (by omega) (by omega) (by omega)]
        by_cases e : u = t
        · subst e
          rw [upd_at, upd_at, upd_at, upd_at, rowM_t (by omega), rowM_8 (by omega), rowM_24 (by omega), rowM_40, p4]
          exact ⟨Or.inr ⟨k, hk, rfl, rfl, rfl⟩, p3, rfl, p5, rfl⟩
        · rw [upd_ne e, upd_ne e, upd_ne e, upd_ne e, rowM_ne (by omega) (by omega) e (by omega) (by omega) (by omega), rowM_ne (j := 8 + u) (by omega) (by omega) (by omega) (by omega) (by omega) (by omega), rowM_ne (j := 24 + u) (by omega) (by omega) (by omega) (by omega) (by omega) (by omega), rowM_ne (j := 40 + u) (by omega) (by omega) (by omega) (by omega) (by omega) (by omega)]
          exact ⟨p1, p3, p4, p5, p6⟩
      · have hk2 := rowM_kp (r := r) (N := hm.1 9) (t := t) (k := k) (by omega)
        rw [hxM_ne (by omega) (by omega) (by omega) (by omega) (by omega), hxM_ne (by omega) (by omega) (by omega) (by omega) (by omega), hxM_ne (by omega) (by omega) (by omega) (by omega) (by omega), hxM_ne (by omega) (by omega) (by omega) (by omega) (by omega), hxM_ne (by omega) (by omega) (by omega) (by omega) (by omega)]
        rw [hk2 (48 + f) (by omega), hk2 (72 + f) (by omega), hk2 (96 + f) (by omega), hk2 (120 + f) (by omega), hk2 (144 + f) (by omega)]
        exact s6 f hf
    · rw [hN9]
      refine hI.tp (fun j hj => rowM_kp (by omega) j hj) hT.1 (fun u hu => ?_) (fun u v hu hv huv => ?_)
      · by_cases e : u = t
        · subst e
          rw [rowM_t (by omega), rowM_8 (by omega)]
          exact Or.inr ⟨k, hk, rfl, rfl, by show (0 : Nat) < _; omega⟩
        · rw [rowM_ne (by omega) (by omega) e (by omega) (by omega) (by omega), rowM_ne (j := 8 + u) (by omega) (by omega) (by omega) (by omega) (by omega) (by omega)]
          exact (hI.2.1 u hu).2.2
      · have key : ∀ u, u < T → u ≠ t → ¬ hm.1 9 u = nI (r 0 + k) := by
          intro u hu hne e
          rw [← nI_add] at e
          exact hfree u hu ((q.pd hu (by omega)).mp e)
        by_cases e : u = t <;> by_cases e' : v = t
        · omega
        · subst e
          rw [rowM_t (by omega), rowM_ne (by omega) (by omega) e' (by omega) (by omega) (by omega)] at huv
          exact absurd huv.symm (key v hv e')
        · subst e'
          rw [rowM_t (by omega), rowM_ne (by omega) (by omega) e (by omega) (by omega) (by omega)] at huv
          exact absurd huv (key u hu e)
        · rw [rowM_ne (by omega) (by omega) e (by omega) (by omega) (by omega), rowM_ne (by omega) (by omega) e' (by omega) (by omega) (by omega)] at huv
          exact hI.2.2.1 u v hu hv huv
  · rw [hxM_0, upd_at, qrow_at, upd_at]
    simp only [Int32.sub_eq_add_neg, Int32.neg_add]
    rw [Int32.add_assoc, Int32.add_comm (-hm.1 0 18) (-1), ← Int32.add_assoc 1, show (1 : Int32) + -1 = 0 from by decide, Int32.zero_add]
  · rw [hN9]
    exact rowM_kp (by omega)
theorem QQ.mounts (q : QQ T r B F hx a hm) (ka : kStage a) {t : Nat} (ht : t < T) (hnd : hx.1 (a + 1) t = -1) : ∃ (d : Nat) (hx' hm' : qH), d < r 1 ∧ f7_bringIn a (nI t) hx = some (nI d, hx') ∧ f9_mounts (nI t) hm = some hm' ∧ OP T r B F a hx hm hx' hm' ∧ KP (hm.1 9) (hm'.1 9) ∧ hx'.1 (a + 1) t = nI d := by
  have hT := q.t31
  have hb := q.1
  have b3 := hb.2.2.1
  have b6 := hb.2.2.2.2.2.1
  have b7 := hb.2.2.2.2.2.2.1
  rw [f7_bringIn_eq, f9_mounts_eq, q8 (show t < 8 by omega), qg_t, ix_nI (by omega), if_pos hnd]
  rcases q.emptyDrive with ⟨k, hk, hf, -, c1, c2⟩ | ⟨hall, c1, c2⟩
  · obtain ⟨hx', hm', e1, e2, e3, e4, e5⟩ := q.mountStep ka ht hnd hk hf
    rw [c1, c2, bind_s, bind_s, if_neg (nI_m1 (by omega)), if_neg (nI_m1 (by omega)), bind_s, e1, e2]
    exact ⟨k, hx', hm', hk, rfl, rfl, e3, e4, by rw [e5, upd_at]⟩
  · obtain ⟨s, hs, o1, o2⟩ := q.oldest
    have hsome : ∃ b d, b < T ∧ s = nI b ∧ d < r 1 ∧ hx.1 (a + 1) b = nI d := by
      rcases hs with hs | ⟨b, hb1, hb2, hb3⟩
      · exfalso
        obtain ⟨b, hb1, hb2⟩ := hall 0 (by omega)
        subst hs
        exact q.oldest_ne hb1 (by rw [hb2]; exact nI_m1 (by omega)) o1
      · rcases (q.tp hb1).1 with ⟨h1, -⟩ | ⟨d, hd, h1, -⟩
        · exact absurd h1 hb3
        · exact ⟨b, d, hb1, hb2, hd, h1⟩
    obtain ⟨b, d, hb1, rfl, hd, hbd⟩ := hsome
    obtain ⟨h1, m1, u1, u2, u3, u4⟩ := q.putAwayO ka hb1 hbd (by omega)
    have hbt : t ≠ b := fun e => by subst e; rw [hnd] at hbd; exact nI_m1 (by omega) hbd.symm
    have hfree : ∀ c, c < T → ¬ h1.1 (a + 1) c = nI d := by
      intro c hc e
      rw [u4] at e
      by_cases hcb : c = b
      · subst hcb
        rw [upd_at] at e
        exact nI_m1 (by omega) e.symm
      · rw [upd_ne hcb] at e
        have p1 := (q.pd hc (k := d) (by omega)).mpr e
        have p2 := (q.pd hb1 (k := d) (by omega)).mpr hbd
        exact hcb (q.2.2.2.2.2.2.1 c b hc hb1 (p1.trans p2.symm))
    have hnd1 : h1.1 (a + 1) t = -1 := by rw [u4, upd_ne hbt]; exact hnd
    obtain ⟨hx', hm', e1, e2, e3, e4, e5⟩ := u3.1.mountStep ka ht hnd1 hd hfree
    have c3 : f9_emptyDrive m1 = some (nI d) := by
      rcases u3.1.emptyDrive with ⟨k, hk, hf, hlow, -, g2⟩ | ⟨hall2, -, -⟩
      · have : k = d := by
          rcases Nat.lt_trichotomy k d with h | h | h
          · exfalso
            obtain ⟨c, hc, hce⟩ := hall k hk
            refine hf c hc ?_
            rw [u4, upd_ne]
            · exact hce
            · intro e
              subst e
              rw [hbd] at hce
              have := (nI_eq (by omega) (by omega)).mp hce
              omega
          · exact h
          · exfalso
            obtain ⟨c, hc, hce⟩ := hlow d h
            exact hfree c hc hce
        rw [this] at g2
        exact g2
      · exfalso
        obtain ⟨c, hc, hce⟩ := hall2 d hd
        exact hfree c hc hce
    rw [c1, c2, bind_s, bind_s, if_pos rfl, if_pos rfl, o1, o2, bind_s, bind_s, u1, u2, bind_s, qb2_s, e1, c3, bind_s, e2]
    obtain ⟨p, hp, v1, v2, v3⟩ := q.putAway ka hb1 hbd (by omega)
    have ek : KP (hm.1 9) (m1.1 9) := by
      have := Option.some.inj (u2.symm.trans v2)
      rw [this, qrow_at]
      exact rowU_kp (by omega)
    exact ⟨d, hx', hm', hd, rfl, rfl, u3.tr e3, ek.tr e4, by rw [e5, upd_at]⟩
theorem QQ.brings (q : QQ T r B F hx a hm) (ka : kStage a) {t : Nat} (ht : t < T) : ∃ (d : Nat) (hx' hm' : qH), d < r 1 ∧ f7_bringIn a (nI t) hx = some (nI d, hx') ∧ f9_brings (nI t) hm = some hm' ∧ OP T r B F a hx hm hx' hm' ∧ KP (hm.1 9) (hm'.1 9) ∧ hx'.1 (a + 1) t = nI d := by
  have hT := q.t31
  by_cases hnd : hx.1 (a + 1) t = -1
  · obtain ⟨d, hx', hm', h1, h2, h3, h4, h5, h6⟩ := q.mounts ka ht hnd
    refine ⟨d, hx', hm', h1, h2, ?_, h4, h5, h6⟩
    unfold f9_brings
    rw [q.dr ht, if_pos hnd, bind_s, qj_e, if_pos rfl, h3, bind_s]
  · rcases (q.tp ht).1 with ⟨h1, -⟩ | ⟨d, hd, h1, -⟩
    · exact absurd h1 hnd
    · refine ⟨d, hx, hm, hd, ?_, ?_, OP.rf q, KP.rf, h1⟩
      · rw [f7_bringIn_eq, q8 (show t < 8 by omega), qg_t, ix_nI (by omega), if_neg hnd, qg_t, h1]
      · unfold f9_brings
        rw [q.dr ht, if_neg hnd, bind_s, qj_e, if_neg (by decide)]
end PH
