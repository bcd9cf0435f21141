section PF
variable {T B F a : Nat} {r : Nat → Nat} {hx hm : qH}
theorem kStage.lo (ka : kStage a) : 51 ≤ a ∧ a ≤ 63 := by rcases ka with rfl | rfl <;> omega
theorem arm_eq {h : qH} (h5 : h.1 7 5 = nI (r 5)) (x y : Int32) : f4_armTime 6 x y h = some (wy r x y) := by
  rw [f4_armTime_eq, show (6 + 1 : Nat) = 7 from rfl, h5, wy_comm]
  rfl
theorem QQ.isT (q : QQ T r B F hx a hm) {t : Nat} (ht : t < T) : f4_isTape 6 (nI t) hx = some 1 ∧ f9_isTape (nI t) hm = some 1 := by
  have hT := q.t31
  unfold f4_isTape f9_isTape
  rw [f9_in_eq, q.Tx, q.Tm]
  have h0 : ¬ nI t < 0 := nI_pos (by omega)
  have h3 : ¬ nI T ≤ nI t := nI_ge ht (by omega)
  have h2 : ¬ nI T - 1 < nI t := fun h => h3 ((pred_lt (by omega) h0).mp h)
  simp only [bind_s, qlt_e, h0, h2, h3, if_false, qbo_1, qg_t]
  exact ⟨trivial, trivial⟩
theorem rowU_170 {N : Nat → Int32} {t d p : Nat} (ht : t < 8) : rowU r N t d p 170 = tmU r N t d p := by
  unfold rowU
  rw [upd_ne (by omega), upd_ne (by omega), upd_ne (by omega), upd_at]
theorem rowU_169 {N : Nat → Int32} {t d p : Nat} (ht : t < 8) : rowU r N t d p 169 = nI t := by
  unfold rowU
  rw [upd_ne (by omega), upd_ne (by omega), upd_at]
theorem rowU_t {N : Nat → Int32} {t d p : Nat} : rowU r N t d p t = nI t := by
  unfold rowU
  rw [upd_ne (by omega), upd_at]
theorem rowU_8t {N : Nat → Int32} {t d p : Nat} : rowU r N t d p (8 + t) = -1 := by
  unfold rowU
  rw [upd_at]
theorem rowU_ne {N : Nat → Int32} {t d p k : Nat} (h1 : k ≠ 170) (h2 : k ≠ 169) (h3 : k ≠ t) (h4 : k ≠ 8 + t) : rowU r N t d p k = N k := by
  unfold rowU
  rw [upd_ne h4, upd_ne h3, upd_ne h2, upd_ne h1]
/-- the class's store behind an unmounting -/
def hxU (a : Nat) (h : qH) (t : Nat) (τ : Int32) : qH := qrow (qrow (qrow h a (upd (upd (h.1 a) 2 τ) 3 (nI t))) (a + 1) (upd (h.1 (a + 1)) t (-1))) (a + 2) (upd (h.1 (a + 2)) t 0)
theorem hxU_0 {h : qH} {t : Nat} {τ : Int32} : (hxU a h t τ).1 a = upd (upd (h.1 a) 2 τ) 3 (nI t) := by
  unfold hxU
  rw [qrow_ne (by omega), qrow_ne (by omega), qrow_at]
theorem hxU_1 {h : qH} {t : Nat} {τ : Int32} : (hxU a h t τ).1 (a + 1) = upd (h.1 (a + 1)) t (-1) := by
  unfold hxU
  rw [qrow_ne (by omega), qrow_at]
theorem hxU_2 {h : qH} {t : Nat} {τ : Int32} : (hxU a h t τ).1 (a + 2) = upd (h.1 (a + 2)) t 0 := by
  unfold hxU
  rw [qrow_at]
theorem hxU_ne {h : qH} {t b : Nat} {τ : Int32} (h0 : b ≠ a) (h1 : b ≠ a + 1) (h2 : b ≠ a + 2) : (hxU a h t τ).1 b = h.1 b := by
  unfold hxU
  rw [qrow_ne h2, qrow_ne h1, qrow_ne h0]
theorem hxU_fx {h : qH} {t : Nat} {τ : Int32} : FX a h (hxU a h t τ) := ⟨fun b h1 _ => hxU_ne (by omega) (by omega) (by omega), rfl⟩
theorem QQ.putAway (q : QQ T r B F hx a hm) (ka : kStage a) {t d : Nat} (ht : t < T) (hd : hx.1 (a + 1) t = nI d) (hd2 : d < 2 ^ 31) : ∃ p, p < r 2 * r 3 ∧ f7_putAway a (nI t) hx = some (nI d, hxU a hx t (tmU r (hm.1 9) t d p)) ∧ f9_unmounts (nI t) hm = some (qrow hm 9 (rowU r (hm.1 9) t d p)) ∧ QQ T r B F (hxU a hx t (tmU r (hm.1 9) t d p)) a (qrow hm 9 (rowU r (hm.1 9) t d p)) := by
  have hT := q.t31
  have hL := q.L96
  have hb := q.1
  have b3 := hb.2.2.1
  have b5 := hb.2.2.2.2.1
  have b7 := hb.2.2.2.2.2.2.1
  have hlo := ka.lo
  obtain ⟨hd1, h2, h3, p, hp, hh⟩ := q.place ht hd hd2
  refine ⟨p, hp, ?_, q.unmounts ht h2 (h3.trans hh) hp, ?_⟩
  · have hs := (q.seek hp (show 0 < r 2 * r 3 by omega)).1
    unfold f7_putAway
    simp only [(q.isT ht).1, bind_s, q1f, if_false, q8 (show t < 8 by omega), ix_nI (show t < 2 ^ 31 by omega), qg_t, qlt_e, hd, hh, q.rx (show 0 < 8 by omega), q.rx (show 4 < 8 by omega), nI_add]
    rw [show f4_seekTime 6 (nI p) (0 : Int32) hx = some (sk r p 0) from hs, bind_s]
    rw [arm_eq (r := r) (by rw [qrow_ne (by omega)]; exact q.rx (by omega)), bind_s]
    rw [arm_eq (r := r) (by rw [qrow_ne (by omega)]; exact q.rx (by omega)), bind_s]
    obtain ⟨⟨s1, s2, -⟩, -⟩ := q.2.2.2.1
    congr 1
    congr 1
    have e1 : (qrow hx a (upd (hx.1 a) 2 (hx.1 a 2 + (sk r p 0 + nI (r 4))))).1 a 3 = hm.1 9 169 := by rw [qrow_at, upd_ne (by omega), s2]
    simp only [qw, qrow_at, qrow_qrow, upd_at, upd_ne (show (3 : Nat) ≠ 2 by omega), s1, s2]
    have e2 : upd (upd (upd (hx.1 a) 2 (hm.1 9 170 + (sk r p 0 + nI (r 4)))) 2 ((hm.1 9 170 + (sk r p 0 + nI (r 4))) + (wy r (hm.1 9 169) (nI (r 0 + d)) + wy r (nI (r 0 + d)) (nI t)))) 3 (nI t) = upd (upd (hx.1 a) 2 (tmU r (hm.1 9) t d p)) 3 (nI t) := by
      funext k
      by_cases k3 : k = 3
      · subst k3; rw [upd_at, upd_at]
      · rw [upd_ne k3, upd_ne k3]
        by_cases k2 : k = 2
        · subst k2
          rw [upd_at, upd_at]
          unfold tmU
          rw [wy_comm (hm.1 9 169), wy_comm (nI (r 0 + d)) (nI t), Int32.add_assoc (hm.1 9 170 + (sk r p 0 + nI (r 4)))]
        · rw [upd_ne k2, upd_ne k2, upd_ne k2]
    rw [e2]
    unfold hxU
    congr 1
    · rw [qrow_ne (show a + 1 ≠ a by omega)]
    · rw [qrow_ne (show a + 2 ≠ a + 1 by omega), qrow_ne (show a + 2 ≠ a by omega)]
  · refine q.mk ka hxU_fx (FM.now fun k hk => rowU_ne (by omega) (by omega) (by omega) (by omega)) ?_ ?_
    · rw [qrow_at]
      obtain ⟨⟨s1, s2, s3, s4⟩, s5, s6⟩ := q.2.2.2.1
      refine ⟨⟨?_, ?_, ?_, ?_⟩, fun u hu => ?_, fun f hf => ?_⟩
      · rw [hxU_0, upd_ne (by omega), upd_at, rowU_170 (by omega)]
      · rw [hxU_0, upd_at, rowU_169 (by omega)]
      · rw [hxU_0, upd_ne (by omega), upd_ne (by omega), s3, rowU_ne (by omega) (by omega) (by omega) (by omega)]
      · rw [hxU_0, upd_ne (by omega), upd_ne (by omega), s4, rowU_ne (by omega) (by omega) (by omega) (by omega)]
      · obtain ⟨p1, p3, p4, p5, p6⟩ := s5 u hu
        rw [hxU_ne (by omega) (by omega) (by omega), hxU_ne (by omega) (by omega) (by omega), hxU_ne (by omega) (by omega) (by omega), hxU_ne (by omega) (by omega) (by omega)]
        rw [rowU_ne (by omega) (by omega) (by omega) (by omega), rowU_ne (by omega) (by omega) (by omega) (by omega), rowU_ne (by omega) (by omega) (by omega) (by omega), rowU_ne (by omega) (by omega) (by omega) (by omega)]
        refine ⟨?_, p3, p4, p5, p6⟩
        unfold RP
        rw [hxU_1, hxU_2]
        by_cases e : u = t
        · subst e
          rw [upd_at, upd_at, rowU_t, rowU_8t]
          exact Or.inl ⟨rfl, rfl, rfl, rfl⟩
        · rw [upd_ne e, upd_ne e, rowU_ne (by omega) (by omega) e (by omega), rowU_ne (by omega) (by omega) (by omega) (by omega)]
          exact p1
      · obtain ⟨p7, p8, p9, p10, p11⟩ := s6 f hf
        rw [hxU_ne (by omega) (by omega) (by omega), hxU_ne (by omega) (by omega) (by omega), hxU_ne (by omega) (by omega) (by omega), hxU_ne (by omega) (by omega) (by omega), hxU_ne (by omega) (by omega) (by omega)]
        rw [rowU_ne (by omega) (by omega) (by omega) (by omega), rowU_ne (by omega) (by omega) (by omega) (by omega), rowU_ne (by omega) (by omega) (by omega) (by omega), rowU_ne (by omega) (by omega) (by omega) (by omega), rowU_ne (by omega) (by omega) (by omega) (by omega)]
        exact ⟨p7, p8, p9, p10, p11⟩
    · rw [qrow_at]
      have hI := q.2.2.2.2
      refine hI.tp (fun k hk => rowU_ne (by omega) (by omega) (by omega) (by omega)) hT.1 (fun u hu => ?_) (fun u v hu hv huv => ?_)
      · by_cases e : u = t
        · subst e
          exact Or.inl ⟨rowU_t, rowU_8t⟩
        · rw [rowU_ne (by omega) (by omega) e (by omega), rowU_ne (by omega) (by omega) (by omega) (by omega)]
          exact (hI.2.1 u hu).2.2
      · have key : ∀ u, u < T → u ≠ t → ¬ hm.1 9 u = nI t := by
          intro u hu hne e
          rcases (hI.2.1 u hu).2.2 with ⟨k1, -⟩ | ⟨d', hd', k1, -⟩
          · exact hne ((nI_eq (by omega) (by omega)).mp (k1.symm.trans e))
          · have := (nI_eq (by omega) (by omega)).mp (k1.symm.trans e)
            omega
        by_cases e : u = t <;> by_cases e' : v = t
        · omega
        · subst e
          rw [rowU_t, rowU_ne (by omega) (by omega) e' (by omega)] at huv
          exact absurd huv.symm (key v hv e')
        · subst e'
          rw [rowU_t, rowU_ne (by omega) (by omega) e (by omega)] at huv
          exact absurd huv (key u hu e)
        · rw [rowU_ne (by omega) (by omega) e (by omega), rowU_ne (by omega) (by omega) e' (by omega)] at huv
          exact hI.2.2.1 u v hu hv huv
end PF
