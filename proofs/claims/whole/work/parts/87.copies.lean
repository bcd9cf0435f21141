/-! ===== the reference's copies of rows ===== -/
theorem lm_353 (k : Nat) : (353 : Int32) * nI k = nI (353 * k) := nI_mul 353 k
theorem lm_3 (k : Nat) : (3 : Int32) * nI k = nI (3 * k) := nI_mul 3 k
section PZ
variable {hm : qH}
theorem asideL (k : Int32 → qH → Option qH) : ∃ w, (∀ j, j < 172 → w (j) = hm.1 9 (j)) ∧ (∀ j, ¬ j < 172 → w j = hm.1 14 j) ∧ f9_putAside_L2 k qN 0 hm = k (nI 172) (qrow hm 14 w) := by
  obtain ⟨w, ⟨h1, h2⟩, h3⟩ := lq10 (σ := Nat → Int32) (fun m w x => f9_putAside_L2 k m x (qrow hm 14 w)) (fun w x => k x (qrow hm 14 w)) (fun i w => (∀ j, j < i → w (j) = hm.1 9 (j)) ∧ ∀ j, ¬ j < i → w j = hm.1 14 j) 172 (by omega) (hm.1 14) ⟨fun j hj => by omega, fun _ _ => rfl⟩ (fun i w hi hw => by
    have g1 : ¬ (172 : Int32) ≤ nI i := nI_ge (b := 172) hi (by omega)
    have es : (qrow hm 14 w).1 9 = hm.1 9 := qrow_ne (by omega)
    refine ⟨upd w (i) (hm.1 9 (i)), ⟨fun j hj => ?_, fun j hj => ?_⟩, fun m => ?_⟩
    · by_cases e : j = i
      · subst e; rw [upd_at]
      · rw [upd_ne (by omega)]; exact hw.1 j (by omega)
    · rw [upd_ne (by omega)]; exact hw.2 j (by omega)
    · show f9_putAside_L2 k (m + 1) (nI i) (qrow hm 14 w) = f9_putAside_L2 k m (nI (i + 1)) (qrow hm 14 (upd w (i) (hm.1 9 (i))))
      simp only [f9_putAside_L2, g1, if_false, qin_nI (show i < 353 by omega) (by omega), qin_nI (show i < 172 by omega) (by omega), qg_t, qlt_e, ix_nI (show i < 2 ^ 31 by omega), es, qw, qrow_at, qrow_qrow, nI_1]) (fun m w _ => by
    show f9_putAside_L2 k (m + 1) (nI 172) (qrow hm 14 w) = _
    rw [f9_putAside_L2, if_pos (by decide)])
  have h3' : f9_putAside_L2 k qN 0 (qrow hm 14 (hm.1 14)) = k (nI 172) (qrow hm 14 w) := h3
  rw [qrow_self] at h3'
  exact ⟨w, h1, h2, h3'⟩
theorem bringL (k : Int32 → qH → Option qH) : ∃ w, (∀ j, j < 172 → w (j) = hm.1 14 (j)) ∧ (∀ j, ¬ j < 172 → w j = hm.1 9 j) ∧ f9_bringBack_L2 k qN 0 hm = k (nI 172) (qrow hm 9 w) := by
  obtain ⟨w, ⟨h1, h2⟩, h3⟩ := lq10 (σ := Nat → Int32) (fun m w x => f9_bringBack_L2 k m x (qrow hm 9 w)) (fun w x => k x (qrow hm 9 w)) (fun i w => (∀ j, j < i → w (j) = hm.1 14 (j)) ∧ ∀ j, ¬ j < i → w j = hm.1 9 j) 172 (by omega) (hm.1 9) ⟨fun j hj => by omega, fun _ _ => rfl⟩ (fun i w hi hw => by
    have g1 : ¬ (172 : Int32) ≤ nI i := nI_ge (b := 172) hi (by omega)
    have es : (qrow hm 9 w).1 14 = hm.1 14 := qrow_ne (by omega)
    refine ⟨upd w (i) (hm.1 14 (i)), ⟨fun j hj => ?_, fun j hj => ?_⟩, fun m => ?_⟩
    · by_cases e : j = i
      · subst e; rw [upd_at]
      · rw [upd_ne (by omega)]; exact hw.1 j (by omega)
    · rw [upd_ne (by omega)]; exact hw.2 j (by omega)
    · show f9_bringBack_L2 k (m + 1) (nI i) (qrow hm 9 w) = f9_bringBack_L2 k m (nI (i + 1)) (qrow hm 9 (upd w (i) (hm.1 14 (i))))
      simp only [f9_bringBack_L2, g1, if_false, qin_nI (show i < 353 by omega) (by omega), qin_nI (show i < 172 by omega) (by omega), qg_t, qlt_e, ix_nI (show i < 2 ^ 31 by omega), es, qw, qrow_at, qrow_qrow, nI_1]) (fun m w _ => by
    show f9_bringBack_L2 k (m + 1) (nI 172) (qrow hm 9 w) = _
    rw [f9_bringBack_L2, if_pos (by decide)])
  have h3' : f9_bringBack_L2 k qN 0 (qrow hm 9 (hm.1 9)) = k (nI 172) (qrow hm 9 w) := h3
  rw [qrow_self] at h3'
  exact ⟨w, h1, h2, h3'⟩
theorem keepL {A : Nat} (hA : hm.1 0 23 = nI A) (hA4 : A < 40) (k : Int32 → qH → Option qH) : ∃ w, (∀ j, j < 353 → w (353 * A + j) = hm.1 9 (j)) ∧ (∀ j, ¬ (353 * A ≤ j ∧ j < 353 * A + 353) → w j = hm.1 13 j) ∧ f9_keep_L54 k qN 0 hm = k (nI 353) (qrow hm 13 w) := by
  obtain ⟨w, ⟨h1, h2⟩, h3⟩ := lq10 (σ := Nat → Int32) (fun m w x => f9_keep_L54 k m x (qrow hm 13 w)) (fun w x => k x (qrow hm 13 w)) (fun i w => (∀ j, j < i → w (353 * A + j) = hm.1 9 (j)) ∧ ∀ j, ¬ (353 * A ≤ j ∧ j < 353 * A + i) → w j = hm.1 13 j) 353 (by omega) (hm.1 13) ⟨fun j hj => by omega, fun _ _ => rfl⟩ (fun i w hi hw => by
    have g1 : ¬ (353 : Int32) ≤ nI i := nI_ge (b := 353) hi (by omega)
    have es : (qrow hm 13 w).1 9 = hm.1 9 := qrow_ne (by omega)
    have e0 : (qrow hm 13 w).1 0 = hm.1 0 := qrow_ne (by omega)
    refine ⟨upd w (353 * A + i) (hm.1 9 (i)), ⟨fun j hj => ?_, fun j hj => ?_⟩, fun m => ?_⟩
    · by_cases e : j = i
      · subst e; rw [upd_at]
      · rw [upd_ne (by omega)]; exact hw.1 j (by omega)
    · rw [upd_ne (by omega)]; exact hw.2 j (by omega)
    · show f9_keep_L54 k (m + 1) (nI i) (qrow hm 13 w) = f9_keep_L54 k m (nI (i + 1)) (qrow hm 13 (upd w (353 * A + i) (hm.1 9 (i))))
      simp only [f9_keep_L54, g1, if_false, e0, hA, lm_353, nI_add, qin_nI (show i < 353 by omega) (by omega), qin_nI (show 353 * A + i < 14120 by omega) (by omega), qg_t, qlt_e, ix_nI (show 353 * A + i < 2 ^ 31 by omega), ix_nI (show i < 2 ^ 31 by omega), es, qw, qrow_at, qrow_qrow, nI_1]) (fun m w _ => by
    show f9_keep_L54 k (m + 1) (nI 353) (qrow hm 13 w) = _
    rw [f9_keep_L54, if_pos (by decide)])
  have h3' : f9_keep_L54 k qN 0 (qrow hm 13 (hm.1 13)) = k (nI 353) (qrow hm 13 w) := h3
  rw [qrow_self] at h3'
  exact ⟨w, h1, h2, h3'⟩
theorem undoL {A : Nat} (hA : hm.1 0 23 = nI A) (hA4 : A < 40) (k : Int32 → qH → Option (Int32 × qH)) : ∃ w, (∀ j, j < 353 → w (j) = hm.1 13 (353 * A + j)) ∧ (∀ j, ¬ j < 353 → w j = hm.1 9 j) ∧ f9_undo_L21 k qN 0 hm = k (nI 353) (qrow hm 9 w) := by
  obtain ⟨w, ⟨h1, h2⟩, h3⟩ := lq10 (σ := Nat → Int32) (fun m w x => f9_undo_L21 k m x (qrow hm 9 w)) (fun w x => k x (qrow hm 9 w)) (fun i w => (∀ j, j < i → w (j) = hm.1 13 (353 * A + j)) ∧ ∀ j, ¬ j < i → w j = hm.1 9 j) 353 (by omega) (hm.1 9) ⟨fun j hj => by omega, fun _ _ => rfl⟩ (fun i w hi hw => by
    have g1 : ¬ (353 : Int32) ≤ nI i := nI_ge (b := 353) hi (by omega)
    have es : (qrow hm 9 w).1 13 = hm.1 13 := qrow_ne (by omega)
    have e0 : (qrow hm 9 w).1 0 = hm.1 0 := qrow_ne (by omega)
    refine ⟨upd w (i) (hm.1 13 (353 * A + i)), ⟨fun j hj => ?_, fun j hj => ?_⟩, fun m => ?_⟩
    · by_cases e : j = i
      · subst e; rw [upd_at]
      · rw [upd_ne (by omega)]; exact hw.1 j (by omega)
    · rw [upd_ne (by omega)]; exact hw.2 j (by omega)
    · show f9_undo_L21 k (m + 1) (nI i) (qrow hm 9 w) = f9_undo_L21 k m (nI (i + 1)) (qrow hm 9 (upd w (i) (hm.1 13 (353 * A + i))))
      simp only [f9_undo_L21, g1, if_false, e0, hA, lm_353, nI_add, qin_nI (show i < 353 by omega) (by omega), qin_nI (show 353 * A + i < 14120 by omega) (by omega), qg_t, qlt_e, ix_nI (show 353 * A + i < 2 ^ 31 by omega), ix_nI (show i < 2 ^ 31 by omega), es, qw, qrow_at, qrow_qrow, nI_1]) (fun m w _ => by
    show f9_undo_L21 k (m + 1) (nI 353) (qrow hm 9 w) = _
    rw [f9_undo_L21, if_pos (by decide)])
  have h3' : f9_undo_L21 k qN 0 (qrow hm 9 (hm.1 9)) = k (nI 353) (qrow hm 9 w) := h3
  rw [qrow_self] at h3'
  exact ⟨w, h1, h2, h3'⟩
theorem imageL (k : Int32 → qH → Option (Int32 × qH)) : ∃ w, (∀ j, j < 353 → w (j) = hm.1 9 (j)) ∧ (∀ j, ¬ j < 353 → w j = hm.1 18 j) ∧ f9_image_L11 k qN 0 hm = k (nI 353) (qrow hm 18 w) := by
  obtain ⟨w, ⟨h1, h2⟩, h3⟩ := lq10 (σ := Nat → Int32) (fun m w x => f9_image_L11 k m x (qrow hm 18 w)) (fun w x => k x (qrow hm 18 w)) (fun i w => (∀ j, j < i → w (j) = hm.1 9 (j)) ∧ ∀ j, ¬ j < i → w j = hm.1 18 j) 353 (by omega) (hm.1 18) ⟨fun j hj => by omega, fun _ _ => rfl⟩ (fun i w hi hw => by
    have g1 : ¬ (353 : Int32) ≤ nI i := nI_ge (b := 353) hi (by omega)
    have es : (qrow hm 18 w).1 9 = hm.1 9 := qrow_ne (by omega)
    refine ⟨upd w (i) (hm.1 9 (i)), ⟨fun j hj => ?_, fun j hj => ?_⟩, fun m => ?_⟩
    · by_cases e : j = i
      · subst e; rw [upd_at]
      · rw [upd_ne (by omega)]; exact hw.1 j (by omega)
    · rw [upd_ne (by omega)]; exact hw.2 j (by omega)
    · show f9_image_L11 k (m + 1) (nI i) (qrow hm 18 w) = f9_image_L11 k m (nI (i + 1)) (qrow hm 18 (upd w (i) (hm.1 9 (i))))
      simp only [f9_image_L11, g1, if_false, qin_nI (show i < 353 by omega) (by omega), qg_t, qlt_e, ix_nI (show i < 2 ^ 31 by omega), es, qw, qrow_at, qrow_qrow, nI_1]) (fun m w _ => by
    show f9_image_L11 k (m + 1) (nI 353) (qrow hm 18 w) = _
    rw [f9_image_L11, if_pos (by decide)])
  have h3' : f9_image_L11 k qN 0 (qrow hm 18 (hm.1 18)) = k (nI 353) (qrow hm 18 w) := h3
  rw [qrow_self] at h3'
  exact ⟨w, h1, h2, h3'⟩
theorem backL (k : Int32 → qH → Option (Int32 × qH)) : ∃ w, (∀ j, j < 353 → w (j) = hm.1 18 (j)) ∧ (∀ j, ¬ j < 353 → w j = hm.1 9 j) ∧ f9_back_L11 k qN 0 hm = k (nI 353) (qrow hm 9 w) := by
  obtain ⟨w, ⟨h1, h2⟩, h3⟩ := lq10 (σ := Nat → Int32) (fun m w x => f9_back_L11 k m x (qrow hm 9 w)) (fun w x => k x (qrow hm 9 w)) (fun i w => (∀ j, j < i → w (j) = hm.1 18 (j)) ∧ ∀ j, ¬ j < i → w j = hm.1 9 j) 353 (by omega) (hm.1 9) ⟨fun j hj => by omega, fun _ _ => rfl⟩ (fun i w hi hw => by
    have g1 : ¬ (353 : Int32) ≤ nI i := nI_ge (b := 353) hi (by omega)
    have es : (qrow hm 9 w).1 18 = hm.1 18 := qrow_ne (by omega)
    refine ⟨upd w (i) (hm.1 18 (i)), ⟨fun j hj => ?_, fun j hj => ?_⟩, fun m => ?_⟩
    · by_cases e : j = i
      · subst e; rw [upd_at]
      · rw [upd_ne (by omega)]; exact hw.1 j (by omega)
    · rw [upd_ne (by omega)]; exact hw.2 j (by omega)
    · show f9_back_L11 k (m + 1) (nI i) (qrow hm 9 w) = f9_back_L11 k m (nI (i + 1)) (qrow hm 9 (upd w (i) (hm.1 18 (i))))
      simp only [f9_back_L11, g1, if_false, qin_nI (show i < 353 by omega) (by omega), qg_t, qlt_e, ix_nI (show i < 2 ^ 31 by omega), es, qw, qrow_at, qrow_qrow, nI_1]) (fun m w _ => by
    show f9_back_L11 k (m + 1) (nI 353) (qrow hm 9 w) = _
    rw [f9_back_L11, if_pos (by decide)])
  have h3' : f9_back_L11 k qN 0 (qrow hm 9 (hm.1 9)) = k (nI 353) (qrow hm 9 w) := h3
  rw [qrow_self] at h3'
  exact ⟨w, h1, h2, h3'⟩
theorem ranL (k : Int32 → qH → Option qH) : ∃ w, (∀ j, j < 172 → w (j) = hm.1 9 (j)) ∧ (∀ j, ¬ j < 172 → w j = hm.1 17 j) ∧ f9_putRunAside_L2 k qN 0 hm = k (nI 172) (qrow hm 17 w) := by
  obtain ⟨w, ⟨h1, h2⟩, h3⟩ := lq10 (σ := Nat → Int32) (fun m w x => f9_putRunAside_L2 k m x (qrow hm 17 w)) (fun w x => k x (qrow hm 17 w)) (fun i w => (∀ j, j < i → w (j) = hm.1 9 (j)) ∧ ∀ j, ¬ j < i → w j = hm.1 17 j) 172 (by omega) (hm.1 17) ⟨fun j hj => by omega, fun _ _ => rfl⟩ (fun i w hi hw => by
    have g1 : ¬ (172 : Int32) ≤ nI i := nI_ge (b := 172) hi (by omega)
    have es : (qrow hm 17 w).1 9 = hm.1 9 := qrow_ne (by omega)
    refine ⟨upd w (i) (hm.1 9 (i)), ⟨fun j hj => ?_, fun j hj => ?_⟩, fun m => ?_⟩
    · by_cases e : j = i
      · subst e; rw [upd_at]
      · rw [upd_ne (by omega)]; exact hw.1 j (by omega)
    · rw [upd_ne (by omega)]; exact hw.2 j (by omega)
    · show f9_putRunAside_L2 k (m + 1) (nI i) (qrow hm 17 w) = f9_putRunAside_L2 k m (nI (i + 1)) (qrow hm 17 (upd w (i) (hm.1 9 (i))))
      simp only [f9_putRunAside_L2, g1, if_false, qin_nI (show i < 353 by omega) (by omega), qin_nI (show i < 172 by omega) (by omega), qg_t, qlt_e, ix_nI (show i < 2 ^ 31 by omega), es, qw, qrow_at, qrow_qrow, nI_1]) (fun m w _ => by
    show f9_putRunAside_L2 k (m + 1) (nI 172) (qrow hm 17 w) = _
    rw [f9_putRunAside_L2, if_pos (by decide)])
  have h3' : f9_putRunAside_L2 k qN 0 (qrow hm 17 (hm.1 17)) = k (nI 172) (qrow hm 17 w) := h3
  rw [qrow_self] at h3'
  exact ⟨w, h1, h2, h3'⟩
theorem shiftL (k : Int32 → qH → Option qH) : ∃ w, (∀ j, j < 13767 → w j = hm.1 13 (j + 353)) ∧ f9_keep_L13 k qN 353 hm = k (nI 14120) (qrow hm 13 w) := by
  obtain ⟨w, ⟨h1, -⟩, h3⟩ := lq1 (σ := Nat → Int32) (fun m w x => f9_keep_L13 k m x (qrow hm 13 w)) (fun w x => k x (qrow hm 13 w)) (fun i w => (∀ j, j + 353 < i → w j = hm.1 13 (j + 353)) ∧ (∀ j, i ≤ j + 353 → w j = hm.1 13 j) ∧ 353 ≤ i) 14120 (fun i w hi hw => by
    obtain ⟨w1, w2, hi3⟩ := hw
    have g1 : ¬ (14120 : Int32) ≤ nI i := nI_ge (b := 14120) hi (by omega)
    have es : nI i - 353 = nI (i - 353) := pk_sub (b := 353) hi3
    refine ⟨upd w (i - 353) (hm.1 13 i), ⟨fun j hj => ?_, fun j hj => ?_, by omega⟩, fun m => ?_⟩
    · by_cases e : j = i - 353
      · have e2 : j + 353 = i := by omega
        rw [e2, e, upd_at]
      · rw [upd_ne e]; exact w1 j (by omega)
    · rw [upd_ne (by omega)]; exact w2 j (by omega)
    · show f9_keep_L13 k (m + 1) (nI i) (qrow hm 13 w) = f9_keep_L13 k m (nI (i + 1)) (qrow hm 13 (upd w (i - 353) (hm.1 13 i)))
      simp only [f9_keep_L13, g1, if_false, es, qin_nI (show i < 14120 by omega) (by omega), qin_nI (show i - 353 < 14120 by omega) (by omega), qg_t, qlt_e, ix_nI (show i < 2 ^ 31 by omega), ix_nI (show i - 353 < 2 ^ 31 by omega), qw, qrow_at, qrow_qrow, w2 i (by omega), nI_1]) (fun m w _ => by
    show f9_keep_L13 k (m + 1) (nI 14120) (qrow hm 13 w) = _
    rw [f9_keep_L13, if_pos (by decide)]) 13767 353 (hm.1 13) (by omega) ⟨fun j hj => by omega, fun _ _ => rfl, by omega⟩
  have h3' : f9_keep_L13 k qN (nI 353) (qrow hm 13 (hm.1 13)) = k (nI 14120) (qrow hm 13 w) := h3 qN (qN_lt (by omega))
  rw [qrow_self] at h3'
  exact ⟨w, fun j hj => h1 j (by omega), h3'⟩
theorem noteL {p1 p2 p3 : Int32} (k : Int32 → qH → Option qH) : ∃ w, (∀ j, j < 177 → w (173 + j) = hm.1 9 (173 + j + 3)) ∧ (∀ j, j < 173 → w j = hm.1 9 j) ∧ f9_note_L16 p1 p2 p3 k qN 3 hm = k (nI 180) (qrow hm 9 w) := by
  obtain ⟨w, ⟨h1, h2, -⟩, h3⟩ := lq1 (σ := Nat → Int32) (fun m w x => f9_note_L16 p1 p2 p3 k m x (qrow hm 9 w)) (fun w x => k x (qrow hm 9 w)) (fun i w => (∀ j, j + 3 < i → w (173 + j) = hm.1 9 (173 + j + 3)) ∧ (∀ j, j < 173 ∨ 170 + i ≤ j → w j = hm.1 9 j) ∧ 3 ≤ i) 180 (fun i w hi hw => by
    obtain ⟨w1, w2, hi3⟩ := hw
    have g1 : ¬ (180 : Int32) ≤ nI i := nI_ge (b := 180) hi (by omega)
    have es : nI (173 + i) - 3 = nI (170 + i) := by
      have := pk_sub (a := 173 + i) (b := 3) (by omega)
      rw [show 173 + i - 3 = 170 + i by omega] at this
      exact this
    refine ⟨upd w (170 + i) (hm.1 9 (173 + i)), ⟨fun j hj => ?_, fun j hj => ?_, by omega⟩, fun m => ?_⟩
    · by_cases e : j + 3 = i
      · rw [show 173 + j = 170 + i by omega, upd_at, show 170 + i + 3 = 173 + i by omega]
      · rw [upd_ne (by omega)]; exact w1 j (by omega)
    · rw [upd_ne (by omega)]; exact w2 j (by omega)
    · show f9_note_L16 p1 p2 p3 k (m + 1) (nI i) (qrow hm 9 w) = f9_note_L16 p1 p2 p3 k m (nI (i + 1)) (qrow hm 9 (upd w (170 + i) (hm.1 9 (173 + i))))
      simp only [f9_note_L16, g1, if_false, la_173, es, qin_nI (show 173 + i < 353 by omega) (by omega), qin_nI (show 170 + i < 353 by omega) (by omega), qg_t, qlt_e, ix_nI (show 173 + i < 2 ^ 31 by omega), ix_nI (show 170 + i < 2 ^ 31 by omega), qw, qrow_at, qrow_qrow, w2 (173 + i) (by omega), nI_1]) (fun m w _ => by
    show f9_note_L16 p1 p2 p3 k (m + 1) (nI 180) (qrow hm 9 w) = _
    rw [f9_note_L16, if_pos (by decide)]) 177 3 (hm.1 9) (by omega) ⟨fun j hj => by omega, fun _ _ => rfl, by omega⟩
  have h3' : f9_note_L16 p1 p2 p3 k qN (nI 3) (qrow hm 9 (hm.1 9)) = k (nI 180) (qrow hm 9 w) := h3 qN (qN_lt (by omega))
  rw [qrow_self] at h3'
  exact ⟨w, fun j hj => h1 j (by omega), fun j hj => h2 j (Or.inl hj), h3'⟩
theorem putAside_eq : ∃ w, (∀ j, j < 172 → w j = hm.1 9 j) ∧ f9_putAside hm = some (qrow hm 14 w) := by
  obtain ⟨w, h1, -, h3⟩ := asideL (hm := hm) (fun (x6 : Int32) (h7 : qH) => some h7)
  exact ⟨w, h1, h3⟩
theorem bringBack_eq : ∃ w, (∀ j, j < 172 → w j = hm.1 14 j) ∧ (∀ j, ¬ j < 172 → w j = hm.1 9 j) ∧ f9_bringBack hm = some (qrow hm 9 w) := by
  obtain ⟨w, h1, h2, h3⟩ := bringL (hm := hm) (fun (x6 : Int32) (h7 : qH) => some h7)
  exact ⟨w, h1, h2, h3⟩
end PZ
