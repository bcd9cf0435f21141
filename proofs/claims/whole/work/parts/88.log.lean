/-! ===== the log, what is kept ===== -/
def ln (n : Nat) : Nat := if n < 60 then n else 60
theorem ln_lt {n : Nat} (h : n < 60) : ln n = n := if_pos h
theorem ln_ge {n : Nat} (h : 60 ≤ n) : ln n = 60 := if_neg (by omega)
theorem ln_le (n : Nat) : ln n ≤ 60 ∧ ln n ≤ n := by
  unfold ln
  split <;> omega
/-- the log of LT acts: the class's ring, the reference's row -/
def LG (LT : Nat) (ring N : Nat → Int32) : Prop := N 172 = nI (ln LT) ∧ ∀ i w, i < ln LT → w < 3 → N (173 + 3 * i + w) = ring ((LT - ln LT + i) % 100 * 3 + w)
theorem LG.cg {LT : Nat} {ring N N' : Nat → Int32} (h : LG LT ring N) (hN : ∀ k, 172 ≤ k → k < 353 → N' k = N k) : LG LT ring N' := by
  have := (ln_le LT).1
  exact ⟨by rw [hN 172 (by omega) (by omega)]; exact h.1, fun i w hi hw => by rw [hN _ (by omega) (by omega)]; exact h.2 i w hi hw⟩
def rg (ring : Nat → Int32) (LT : Nat) (x y z : Int32) : Nat → Int32 := upd (upd (upd ring (LT % 100 * 3) x) (LT % 100 * 3 + 1) y) (LT % 100 * 3 + 2) z
theorem rg_ne {ring : Nat → Int32} {LT e w : Nat} {x y z : Int32} (h : e % 100 ≠ LT % 100) (hw : w < 3) : rg ring LT x y z (e % 100 * 3 + w) = ring (e % 100 * 3 + w) := by
  unfold rg
  rw [upd_ne (by omega), upd_ne (by omega), upd_ne (by omega)]
theorem LG.old {LT L' : Nat} {ring N : Nat → Int32} {x y z : Int32} (h : LG L' ring N) (h1 : L' ≤ LT) (h2 : LT ≤ L' + 39) : LG L' (rg ring LT x y z) N := by
  refine ⟨h.1, fun i w hi hw => ?_⟩
  have := ln_le L'
  rw [rg_ne (by omega) hw]
  exact h.2 i w hi hw
theorem note_eq {hm : qH} {LT : Nat} {ring : Nat → Int32} {x y z : Int32} (hl : LG LT ring (hm.1 9)) : ∃ N', f9_note x y z hm = some (qrow hm 9 N') ∧ (∀ k, k < 172 → N' k = hm.1 9 k) ∧ LG (LT + 1) (rg ring LT x y z) N' := by
  unfold f9_note
  rw [qj_e]
  by_cases hc : LT < 60
  · have e1 := hl.1
    rw [ln_lt hc] at e1
    have n60 : ¬ nI LT = 60 := fun e => by
      have := (nI_eq (a := LT) (b := 60) (by omega) (by omega)).mp e
      omega
    rw [if_neg (by rw [e1]; exact n60)]
    have e3 : (173 : Int32) + 3 * nI LT = nI (173 + 3 * LT) := by rw [lm_3, la_173]
    simp only [e1, e3, qlt_e, qin_nI (show 173 + 3 * LT < 353 by omega) (by omega), nI_1, ra_2, qin_nI (show 173 + 3 * LT + 1 < 353 by omega) (by omega), qin_nI (show 173 + 3 * LT + 2 < 353 by omega) (by omega), qg_t, ix_nI (show 173 + 3 * LT < 2 ^ 31 by omega), ix_nI (show 173 + 3 * LT + 1 < 2 ^ 31 by omega), ix_nI (show 173 + 3 * LT + 2 < 2 ^ 31 by omega), qw, qrow_at, qrow_qrow, upd_ne (show (172 : Nat) ≠ 173 + 3 * LT by omega), upd_ne (show (172 : Nat) ≠ 173 + 3 * LT + 1 by omega), upd_ne (show (172 : Nat) ≠ 173 + 3 * LT + 2 by omega)]
    refine ⟨_, rfl, fun k hk => ?_, ?_, fun i w hi hw => ?_⟩
    · rw [upd_ne (by omega), upd_ne (by omega), upd_ne (by omega), upd_ne (by omega)]
    · rw [upd_at]
      by_cases h9 : LT + 1 < 60
      · rw [ln_lt h9]
      · rw [ln_ge (by omega), show LT + 1 = 60 by omega]
    · have hl1 : ln (LT + 1) = LT + 1 := by
        by_cases h9 : LT + 1 < 60
        · exact ln_lt h9
        · rw [ln_ge (by omega)]; omega
      rw [hl1] at hi ⊢
      rw [show LT + 1 - (LT + 1) + i = i by omega, upd_ne (by omega)]
      by_cases e : i = LT
      · subst e
        unfold rg
        rcases (show w = 0 ∨ w = 1 ∨ w = 2 by omega) with rfl | rfl | rfl
        · rw [upd_ne (by omega), upd_ne (by omega), Nat.add_zero, upd_at, upd_ne (by omega), upd_ne (by omega)]
          exact (upd_at _ _ _).symm
        · rw [upd_ne (by omega), upd_at, upd_ne (by omega), upd_at]
        · rw [upd_at, upd_at]
      · rw [upd_ne (by omega), upd_ne (by omega), upd_ne (by omega), rg_ne (by omega) hw]
        have := hl.2 i w (by rw [ln_lt hc]; omega) hw
        rw [ln_lt hc, show LT - LT + i = i by omega] at this
        exact this
  · have e1 := hl.1
    rw [ln_ge (by omega)] at e1
    rw [if_pos (by rw [e1]; rfl)]
    obtain ⟨w0, s1, s2, s3⟩ := noteL (hm := hm) (p1 := x) (p2 := y) (p3 := z) (fun (x15 : Int32) (h16 : qH) => qlt (qw h16 9 172 ((h16.1 9 172) - (1 : Int32))) fun (h17 : qH) => (fun (h1 : qH) => qlt ((173 : Int32) + ((3 : Int32) * (h1.1 9 172))) fun (x4 : Int32) => qg (qin x4 353) <| qlt (qw h1 9 (ix x4) x) fun (h5 : qH) => qg (qin (x4 + (1 : Int32)) 353) <| qlt (qw h5 9 (ix (x4 + (1 : Int32))) y) fun (h6 : qH) => qg (qin (x4 + (2 : Int32)) 353) <| qlt (qw h6 9 (ix (x4 + (2 : Int32))) z) fun (h7 : qH) => qlt (qw h7 9 172 ((h7.1 9 172) + (1 : Int32))) fun (h8 : qH) => some h8) h17)
    rw [s3]
    have w172 : w0 172 = nI 60 := by rw [s2 172 (by omega)]; exact e1
    simp only [qlt_e, qw, qrow_at, qrow_qrow, w172, upd_at, show nI 60 - 1 = nI 59 by decide, show (173 : Int32) + 3 * nI 59 = nI 350 by decide, show nI 350 + 1 = nI 351 by decide, show nI 350 + 2 = nI 352 by decide, show qin (nI 350) 353 = true by decide, show qin (nI 351) 353 = true by decide, show qin (nI 352) 353 = true by decide, show ix (nI 350) = 350 by decide, show ix (nI 351) = 351 by decide, show ix (nI 352) = 352 by decide, qg_t, upd_ne (show (172 : Nat) ≠ 350 by omega), upd_ne (show (172 : Nat) ≠ 351 by omega), upd_ne (show (172 : Nat) ≠ 352 by omega), show nI 59 + 1 = nI 60 by decide]
    refine ⟨_, rfl, fun k hk => ?_, ?_, fun i w hi hw => ?_⟩
    · rw [upd_ne (by omega), upd_ne (by omega), upd_ne (by omega), upd_ne (by omega), upd_ne (by omega), s2 k (by omega)]
    · rw [upd_at, ln_ge (by omega)]
    · rw [ln_ge (show 60 ≤ LT + 1 by omega)] at hi ⊢
      rw [upd_ne (by omega)]
      by_cases e : i = 59
      · subst e
        rw [show LT + 1 - 60 + 59 = LT by omega]
        unfold rg
        rcases (show w = 0 ∨ w = 1 ∨ w = 2 by omega) with rfl | rfl | rfl
        · rw [upd_ne (by omega), upd_ne (by omega), show 173 + 3 * 59 + 0 = 350 by omega, upd_at, upd_ne (by omega), upd_ne (by omega)]
          exact (upd_at _ _ _).symm
        · rw [upd_ne (by omega), show 173 + 3 * 59 + 1 = 351 by omega, upd_at, upd_ne (by omega), upd_at]
        · rw [show 173 + 3 * 59 + 2 = 352 by omega, upd_at, upd_at]
      · rw [upd_ne (by omega), upd_ne (by omega), upd_ne (by omega), upd_ne (by omega), rg_ne (by omega) hw]
        have h9 := s1 (3 * i + w) (by omega)
        rw [show 173 + (3 * i + w) = 173 + 3 * i + w by omega] at h9
        rw [h9]
        have := hl.2 (i + 1) w (by rw [ln_ge (by omega)]; omega) hw
        rw [ln_ge (by omega), show 173 + 3 * (i + 1) + w = 173 + 3 * i + w + 3 by omega, show LT - 60 + (i + 1) = LT + 1 - 60 + i by omega] at this
        exact this
theorem add_eq {h : qH} {c LT : Nat} {x y z : Int32} (hL : h.1 c 1 = nI LT) (hb : LT < 2 ^ 30) : f1_add c x y z h = some (qrow (qrow h (c + 1) (rg (h.1 (c + 1)) LT x y z)) c (upd (h.1 c) 1 (nI (LT + 1)))) := by
  unfold f1_add
  have e1 : nI LT - nI LT / (100 : Int32) * (100 : Int32) = nI (LT % 100) := pk_rem (a := LT) (d := 100) (by omega) (by omega) (by omega)
  have e2 : nI (LT % 100) * (3 : Int32) = nI (LT % 100 * 3) := nI_mul (LT % 100) 3
  rw [show decide (¬ (100 : Int32) = 0) = true from by decide, qg_t, hL, e1, e2]
  simp only [qlt_e, qin_nI (show LT % 100 * 3 < 300 by omega) (by omega), nI_1, ra_2, qin_nI (show LT % 100 * 3 + 1 < 300 by omega) (by omega), qin_nI (show LT % 100 * 3 + 2 < 300 by omega) (by omega), qg_t, ix_nI (show LT % 100 * 3 < 2 ^ 31 by omega), ix_nI (show LT % 100 * 3 + 1 < 2 ^ 31 by omega), ix_nI (show LT % 100 * 3 + 2 < 2 ^ 31 by omega), qw, qrow_at, qrow_qrow, qrow_ne (show c ≠ c + 1 by omega), hL, rg]
section PA1
variable {T B F : Nat} {r : Nat → Nat}
theorem IN.cg {N N' : Nat → Int32} (h : IN T r B F N) (hT : T ≤ 8) (hN : ∀ k, k < 172 → N' k = N k) : IN T r B F N' := by
  obtain ⟨⟨i1, i2, i3, i4⟩, i5, i6, i7, i8, i9, i10⟩ := h
  refine ⟨⟨by rw [hN _ (by omega)]; exact i1, i2, by rw [hN _ (by omega)]; exact i3, by rw [hN _ (by omega)]; exact i4⟩, fun t ht => ?_, fun t u ht hu => ?_, fun f hf => ?_, fun f g hf hg hne => ?_, fun f g hf hg => ?_, ?_⟩
  · rw [hN (16 + t) (by omega), hN t (by omega), hN (8 + t) (by omega)]
    exact i5 t ht
  · rw [hN t (by omega), hN u (by omega)]
    exact i6 t u ht hu
  · rw [hN (72 + f) (by omega), hN (96 + f) (by omega), hN (48 + f) (by omega), hN (120 + f) (by omega), hN (144 + f) (by omega), hN 171 (by omega)]
    obtain ⟨j1, j2, j3⟩ := i7 f hf
    refine ⟨j1, ?_, j3⟩
    rcases j2 with j2 | ⟨⟨t, ht, k1, k2⟩, j2⟩
    · exact Or.inl j2
    · exact Or.inr ⟨⟨t, ht, k1, by rw [hN (16 + t) (by omega)]; exact k2⟩, j2⟩
  · rw [hN (72 + f) (by omega), hN (96 + f) (by omega), hN (48 + f) (by omega), hN (72 + g) (by omega), hN (96 + g) (by omega), hN (48 + g) (by omega)]
    exact i8 f g hf hg hne
  · rw [hN (144 + f) (by omega), hN (144 + g) (by omega)]
    exact i9 f g hf hg
  · rw [nask_congr F (fun f hf => hN (144 + f) (by omega))]
    exact i10
theorem IN.mono {B' : Nat} {N : Nat → Int32} (h : IN T r B F N) (hB : B ≤ B') : IN T r B' F N := by
  obtain ⟨⟨i1, i2, i3, i4⟩, i5⟩ := h
  exact ⟨⟨i1, i2, i3, by omega⟩, i5⟩
theorem RS.cg {a : Nat} {h : qH} {N N' : Nat → Int32} (s : RS T r F h a N) (hT : T ≤ 8) (hF : F ≤ 24) (hN : ∀ k, k < 172 → N' k = N k) : RS T r F h a N' := by
  obtain ⟨⟨s1, s2, s3, s4⟩, s5, s6⟩ := s
  refine ⟨⟨by rw [hN _ (by omega)]; exact s1, by rw [hN _ (by omega)]; exact s2, by rw [hN _ (by omega)]; exact s3, by rw [hN _ (by omega)]; exact s4⟩, fun t ht => ?_, fun f hf => ?_⟩
  · unfold RP
    rw [hN t (by omega), hN (8 + t) (by omega), hN (16 + t) (by omega), hN (24 + t) (by omega), hN (32 + t) (by omega), hN (40 + t) (by omega)]
    exact s5 t ht
  · rw [hN (48 + f) (by omega), hN (72 + f) (by omega), hN (96 + f) (by omega), hN (120 + f) (by omega), hN (144 + f) (by omega)]
    exact s6 f hf
/-- one that is kept -/
def KR (T : Nat) (r : Nat → Nat) (B L : Nat) (w : Nat → Int32) (p : Nat) (ring N : Nat → Int32) : Prop := ∃ F', IN T r B F' N ∧ RS T r F' (vh w p) 0 N ∧ LG L ring N
theorem KR.cg {L p p' : Nat} {w w' ring N N' : Nat → Int32} (h : KR T r B L w p ring N) (hT : T ≤ 8) (hN : ∀ k, k < 353 → N' k = N k) (hw : ∀ k, k < 172 → w' (p' + k) = w (p + k)) : KR T r B L w' p' ring N' := by
  obtain ⟨F', i, s, l⟩ := h
  exact ⟨F', i.cg hT (fun k hk => hN k (by omega)), (s.cg hT i.1.2.1 (fun k hk => hN k (by omega))).se (vh_sh hw) hT i.1.2.1, l.cg (fun k _ hk => hN k hk)⟩
theorem KR.mono {B' L p : Nat} {w ring N : Nat → Int32} (h : KR T r B L w p ring N) (hB : B ≤ B') : KR T r B' L w p ring N := by
  obtain ⟨F', i, s, l⟩ := h
  exact ⟨F', i.mono hB, s, l⟩
def PA (T : Nat) (r : Nat → Nat) (B k nx LT : Nat) (rows ring kept : Nat → Int32) : Prop := ∀ j, j < k → KR T r B (LT - 1 - j) rows (172 * ((nx + 39 - j) % 40)) ring (fun i => kept (353 * (k - 1 - j) + i))
theorem PA.old {k nx LT : Nat} {rows ring kept : Nat → Int32} {x y z : Int32} (h : PA T r B k nx (LT + 1) rows ring kept) (hk : k ≤ 40) (hl : k ≤ LT + 1) : PA T r B k nx (LT + 1) rows (rg ring LT x y z) kept := by
  intro j hj
  obtain ⟨F', i, s, l⟩ := h j hj
  exact ⟨F', i, s, l.old (by omega) (by omega)⟩
end PA1
